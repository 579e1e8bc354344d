theorem dX7_slope_6 : decode cX7_slope 6 = .ok (.dload_n 1, 1) := by decide +kernel
theorem dX7_slope_7 : decode cX7_slope 7 = .ok (.invokevirtual 147, 3) := by decide +kernel
theorem dX7_slope_10 : decode cX7_slope 10 = .ok (.ifCond .ne 10, 3) := by decide +kernel
theorem dX7_slope_13 : decode cX7_slope 13 = .ok (.aload_n 0, 1) := by decide +kernel
theorem dX7_slope_14 : decode cX7_slope 14 = .ok (.iconst 1, 1) := by decide +kernel
theorem dX7_slope_15 : decode cX7_slope 15 = .ok (.invokevirtual 75, 3) := by decide +kernel
theorem dX7_slope_18 : decode cX7_slope 18 = .ok (.i2d, 1) := by decide +kernel
theorem dX7_slope_19 : decode cX7_slope 19 = .ok (.dreturn, 1) := by decide +kernel
theorem dX7_slope_20 : decode cX7_slope 20 = .ok (.aload_n 0, 1) := by decide +kernel
theorem dX7_slope_21 : decode cX7_slope 21 = .ok (.dload_n 1, 1) := by decide +kernel
theorem dX7_slope_22 : decode cX7_slope 22 = .ok (.invokevirtual 120, 3) := by decide +kernel
theorem dX7_slope_25 : decode cX7_slope 25 = .ok (.istore_n 3, 1) := by decide +kernel
theorem dX7_slope_26 : decode cX7_slope 26 = .ok (.aload_n 0, 1) := by decide +kernel
theorem dX7_slope_27 : decode cX7_slope 27 = .ok (.iload_n 3, 1) := by decide +kernel
theorem dX7_slope_28 : decode cX7_slope 28 = .ok (.dload_n 1, 1) := by decide +kernel
theorem dX7_slope_29 : decode cX7_slope 29 = .ok (.aload_n 0, 1) := by decide +kernel
theorem dX7_slope_30 : decode cX7_slope 30 = .ok (.getfield 19, 3) := by decide +kernel
theorem dX7_slope_33 : decode cX7_slope 33 = .ok (.iload_n 3, 1) := by decide +kernel
theorem dX7_slope_34 : decode cX7_slope 34 = .ok (.daload, 1) := by decide +kernel
theorem dX7_slope_35 : decode cX7_slope 35 = .ok (.dsub, 1) := by decide +kernel
theorem dX7_slope_36 : decode cX7_slope 36 = .ok (.invokevirtual 130, 3) := by decide +kernel
theorem dX7_slope_39 : decode cX7_slope 39 = .ok (.dreturn, 1) := by decide +kernel
set_option maxRecDepth 20000 in
theorem ggX7_area_X7_isInside : GoodIn wsX7_area wsX7_isInside := goodIn_r _ [6, 7, 8, 9, 10, 5, 11, 67, 68, 69, 70, 71, 72, 73, 74, 75, 76, 77, 78, 79, 80, 81] (by decide +kernel) (by decide +kernel)
set_option maxRecDepth 20000 in
theorem gX7_area_X7_isInside : GoodIn wsX7_area (wsV RX7 147 RX7 yX7_isInside wsX7_isInside) := goodIn_app (goodIn_of _ (by decide +kernel)) ggX7_area_X7_isInside
set_option maxRecDepth 20000 in
theorem ggX7_area_X7_areaTo : GoodIn wsX7_area wsX7_areaTo := goodIn_r _ [15, 8, 16, 17, 18, 5, 19, 7, 20, 21, 22, 23, 24, 25, 26, 27, 28, 29, 30, 31, 32, 33, 34, 35, 36, 37, 38, 39, 40, 41, 42, 43, 44, 45, 46, 47, 48, 49, 50, 51, 52, 53, 54, 55, 56, 57, 58, 59, 60, 61, 62, 67, 68, 69, 70, 71, 72, 73, 74, 75, 76, 77, 78, 79, 80, 81] (by decide +kernel) (by decide +kernel)
set_option maxRecDepth 20000 in
theorem gX7_area_X7_areaTo : GoodIn wsX7_area (wsV RX7 151 RX7 yX7_areaTo wsX7_areaTo) := goodIn_app (goodIn_of _ (by decide +kernel)) ggX7_area_X7_areaTo
set_option maxRecDepth 20000 in
theorem ggX7_area_X7_fail : GoodIn wsX7_area wsX7_fail := goodIn_r _ [66, 1, 67, 68, 69, 70, 71, 72, 73, 74, 75, 76, 77, 78, 79, 80, 81] (by decide +kernel) (by decide +kernel)
set_option maxRecDepth 20000 in
theorem gX7_area_X7_fail : GoodIn wsX7_area (wsV RX7 75 RX7 yX7_fail wsX7_fail) := goodIn_app (goodIn_of _ (by decide +kernel)) ggX7_area_X7_fail
theorem dX7_area_0 : decode cX7_area 0 = .ok (.aload_n 0, 1) := by decide +kernel
theorem dX7_area_1 : decode cX7_area 1 = .ok (.iconst 0, 1) := by decide +kernel
theorem dX7_area_2 : decode cX7_area 2 = .ok (.putfield 48, 3) := by decide +kernel
theorem dX7_area_5 : decode cX7_area 5 = .ok (.aload_n 0, 1) := by decide +kernel
theorem dX7_area_6 : decode cX7_area 6 = .ok (.dload_n 1, 1) := by decide +kernel
theorem dX7_area_7 : decode cX7_area 7 = .ok (.invokevirtual 147, 3) := by decide +kernel
theorem dX7_area_10 : decode cX7_area 10 = .ok (.ifCond .eq 25, 3) := by decide +kernel
theorem dX7_area_13 : decode cX7_area 13 = .ok (.aload_n 0, 1) := by decide +kernel
theorem dX7_area_14 : decode cX7_area 14 = .ok (.dload_n 3, 1) := by decide +kernel
theorem dX7_area_15 : decode cX7_area 15 = .ok (.invokevirtual 147, 3) := by decide +kernel
theorem dX7_area_18 : decode cX7_area 18 = .ok (.ifCond .eq 17, 3) := by decide +kernel
theorem dX7_area_21 : decode cX7_area 21 = .ok (.aload_n 0, 1) := by decide +kernel
theorem dX7_area_22 : decode cX7_area 22 = .ok (.dload_n 3, 1) := by decide +kernel
theorem dX7_area_23 : decode cX7_area 23 = .ok (.invokevirtual 151, 3) := by decide +kernel
theorem dX7_area_26 : decode cX7_area 26 = .ok (.aload_n 0, 1) := by decide +kernel
theorem dX7_area_27 : decode cX7_area 27 = .ok (.dload_n 1, 1) := by decide +kernel
theorem dX7_area_28 : decode cX7_area 28 = .ok (.invokevirtual 151, 3) := by decide +kernel
theorem dX7_area_31 : decode cX7_area 31 = .ok (.dsub, 1) := by decide +kernel
theorem dX7_area_32 : decode cX7_area 32 = .ok (.goto 9, 3) := by decide +kernel
theorem dX7_area_35 : decode cX7_area 35 = .ok (.aload_n 0, 1) := by decide +kernel
theorem dX7_area_36 : decode cX7_area 36 = .ok (.iconst 1, 1) := by decide +kernel
theorem dX7_area_37 : decode cX7_area 37 = .ok (.invokevirtual 75, 3) := by decide +kernel
theorem dX7_area_40 : decode cX7_area 40 = .ok (.i2d, 1) := by decide +kernel
theorem dX7_area_41 : decode cX7_area 41 = .ok (.dreturn, 1) := by decide +kernel
set_option maxRecDepth 20000 in
theorem ggX7_reach_X7_isIn : GoodIn wsX7_reach wsX7_isIn := goodIn_r _ [9] (by decide +kernel) (by decide +kernel)
set_option maxRecDepth 20000 in
theorem gX7_reach_X7_isIn : GoodIn wsX7_reach (va_wsS RX7 67 yX7_isIn wsX7_isIn) := goodIn_app (goodIn_of _ (by decide +kernel)) ggX7_reach_X7_isIn
set_option maxRecDepth 20000 in
theorem ggX7_reach_X7_fail : GoodIn wsX7_reach wsX7_fail := goodIn_r _ [13, 1, 54, 55, 56, 57, 58, 59, 60, 61, 62, 63, 64, 65, 66, 67, 68] (by decide +kernel) (by decide +kernel)
set_option maxRecDepth 20000 in
theorem gX7_reach_X7_fail : GoodIn wsX7_reach (wsV RX7 75 RX7 yX7_fail wsX7_fail) := goodIn_app (goodIn_of _ (by decide +kernel)) ggX7_reach_X7_fail
set_option maxRecDepth 20000 in
theorem ggX7_reach_X7_valueIn : GoodIn wsX7_reach wsX7_valueIn := goodIn_r _ [17, 3, 18, 19, 20, 8, 21, 2, 22, 23, 24, 25, 26, 27, 28, 5, 29, 30, 31, 32, 33, 34, 35, 36, 4, 37, 38, 39, 40, 41, 42, 43, 44, 45, 46, 47, 48, 49, 50, 51, 52, 53, 54, 55, 56, 57, 58, 59, 60, 61, 62, 63, 64, 65, 66, 67, 68] (by decide +kernel) (by decide +kernel)
set_option maxRecDepth 20000 in
theorem gX7_reach_X7_valueIn : GoodIn wsX7_reach (wsV RX7 126 RX7 yX7_valueIn wsX7_valueIn) := goodIn_app (goodIn_of _ (by decide +kernel)) ggX7_reach_X7_valueIn
theorem dX7_reach_0 : decode cX7_reach 0 = .ok (.aload_n 0, 1) := by decide +kernel
theorem dX7_reach_1 : decode cX7_reach 1 = .ok (.iconst 0, 1) := by decide +kernel
theorem dX7_reach_2 : decode cX7_reach 2 = .ok (.putfield 48, 3) := by decide +kernel
theorem dX7_reach_5 : decode cX7_reach 5 = .ok (.aload_n 0, 1) := by decide +kernel
theorem dX7_reach_6 : decode cX7_reach 6 = .ok (.getfield 56, 3) := by decide +kernel
theorem dX7_reach_9 : decode cX7_reach 9 = .ok (.ifCond .eq 27, 3) := by decide +kernel
theorem dX7_reach_12 : decode cX7_reach 12 = .ok (.dload_n 1, 1) := by decide +kernel
theorem dX7_reach_13 : decode cX7_reach 13 = .ok (.aload_n 0, 1) := by decide +kernel
theorem dX7_reach_14 : decode cX7_reach 14 = .ok (.getfield 22, 3) := by decide +kernel
theorem dX7_reach_17 : decode cX7_reach 17 = .ok (.iconst 0, 1) := by decide +kernel
theorem dX7_reach_18 : decode cX7_reach 18 = .ok (.daload, 1) := by decide +kernel
theorem dX7_reach_19 : decode cX7_reach 19 = .ok (.aload_n 0, 1) := by decide +kernel
theorem dX7_reach_20 : decode cX7_reach 20 = .ok (.getfield 22, 3) := by decide +kernel
theorem dX7_reach_23 : decode cX7_reach 23 = .ok (.aload_n 0, 1) := by decide +kernel
theorem dX7_reach_24 : decode cX7_reach 24 = .ok (.getfield 56, 3) := by decide +kernel
theorem dX7_reach_27 : decode cX7_reach 27 = .ok (.iconst 1, 1) := by decide +kernel
theorem dX7_reach_28 : decode cX7_reach 28 = .ok (.isub, 1) := by decide +kernel
theorem dX7_reach_29 : decode cX7_reach 29 = .ok (.daload, 1) := by decide +kernel
theorem dX7_reach_30 : decode cX7_reach 30 = .ok (.invokestatic 67, 3) := by decide +kernel
theorem dX7_reach_33 : decode cX7_reach 33 = .ok (.ifCond .ne 10, 3) := by decide +kernel
theorem dX7_reach_36 : decode cX7_reach 36 = .ok (.aload_n 0, 1) := by decide +kernel
theorem dX7_reach_37 : decode cX7_reach 37 = .ok (.iconst 1, 1) := by decide +kernel
theorem dX7_reach_38 : decode cX7_reach 38 = .ok (.invokevirtual 75, 3) := by decide +kernel
theorem dX7_reach_41 : decode cX7_reach 41 = .ok (.i2d, 1) := by decide +kernel
theorem dX7_reach_42 : decode cX7_reach 42 = .ok (.dreturn, 1) := by decide +kernel
theorem dX7_reach_43 : decode cX7_reach 43 = .ok (.iconst 0, 1) := by decide +kernel
theorem dX7_reach_44 : decode cX7_reach 44 = .ok (.istore_n 3, 1) := by decide +kernel
theorem dX7_reach_45 : decode cX7_reach 45 = .ok (.aload_n 0, 1) := by decide +kernel
theorem dX7_reach_46 : decode cX7_reach 46 = .ok (.getfield 22, 3) := by decide +kernel
theorem dX7_reach_49 : decode cX7_reach 49 = .ok (.iload_n 3, 1) := by decide +kernel
theorem dX7_reach_50 : decode cX7_reach 50 = .ok (.iconst 1, 1) := by decide +kernel
theorem dX7_reach_51 : decode cX7_reach 51 = .ok (.iadd, 1) := by decide +kernel
theorem dX7_reach_52 : decode cX7_reach 52 = .ok (.daload, 1) := by decide +kernel
theorem dX7_reach_53 : decode cX7_reach 53 = .ok (.dload_n 1, 1) := by decide +kernel
theorem dX7_reach_54 : decode cX7_reach 54 = .ok (.dcmp .g, 1) := by decide +kernel
theorem dX7_reach_55 : decode cX7_reach 55 = .ok (.ifCond .ge 9, 3) := by decide +kernel
theorem dX7_reach_58 : decode cX7_reach 58 = .ok (.iinc 3 1, 3) := by decide +kernel
theorem dX7_reach_61 : decode cX7_reach 61 = .ok (.goto (-16), 3) := by decide +kernel
theorem dX7_reach_64 : decode cX7_reach 64 = .ok (.aload_n 0, 1) := by decide +kernel
theorem dX7_reach_65 : decode cX7_reach 65 = .ok (.getfield 19, 3) := by decide +kernel
theorem dX7_reach_68 : decode cX7_reach 68 = .ok (.iload_n 3, 1) := by decide +kernel
theorem dX7_reach_69 : decode cX7_reach 69 = .ok (.daload, 1) := by decide +kernel
theorem dX7_reach_70 : decode cX7_reach 70 = .ok (.dstore 4, 2) := by decide +kernel
theorem dX7_reach_72 : decode cX7_reach 72 = .ok (.aload_n 0, 1) := by decide +kernel
theorem dX7_reach_73 : decode cX7_reach 73 = .ok (.getfield 19, 3) := by decide +kernel
theorem dX7_reach_76 : decode cX7_reach 76 = .ok (.iload_n 3, 1) := by decide +kernel
theorem dX7_reach_77 : decode cX7_reach 77 = .ok (.iconst 1, 1) := by decide +kernel
theorem dX7_reach_78 : decode cX7_reach 78 = .ok (.iadd, 1) := by decide +kernel
theorem dX7_reach_79 : decode cX7_reach 79 = .ok (.daload, 1) := by decide +kernel
theorem dX7_reach_80 : decode cX7_reach 80 = .ok (.dstore 6, 2) := by decide +kernel
theorem dX7_reach_82 : decode cX7_reach 82 = .ok (.iconst 0, 1) := by decide +kernel
theorem dX7_reach_83 : decode cX7_reach 83 = .ok (.istore 8, 2) := by decide +kernel
theorem dX7_reach_85 : decode cX7_reach 85 = .ok (.iload 8, 2) := by decide +kernel
theorem dX7_reach_87 : decode cX7_reach 87 = .ok (.bipush 60, 2) := by decide +kernel
theorem dX7_reach_89 : decode cX7_reach 89 = .ok (.if_icmp .ge 50, 3) := by decide +kernel
theorem dX7_reach_92 : decode cX7_reach 92 = .ok (.dload 4, 2) := by decide +kernel
theorem dX7_reach_94 : decode cX7_reach 94 = .ok (.dload 6, 2) := by decide +kernel
theorem dX7_reach_96 : decode cX7_reach 96 = .ok (.dadd, 1) := by decide +kernel
theorem dX7_reach_97 : decode cX7_reach 97 = .ok (.ldc2_w 101, 3) := by decide +kernel
theorem dX7_reach_100 : decode cX7_reach 100 = .ok (.ddiv, 1) := by decide +kernel
theorem dX7_reach_101 : decode cX7_reach 101 = .ok (.dstore 9, 2) := by decide +kernel
theorem dX7_reach_103 : decode cX7_reach 103 = .ok (.aload_n 0, 1) := by decide +kernel
theorem dX7_reach_104 : decode cX7_reach 104 = .ok (.iload_n 3, 1) := by decide +kernel
theorem dX7_reach_105 : decode cX7_reach 105 = .ok (.dload 9, 2) := by decide +kernel
theorem dX7_reach_107 : decode cX7_reach 107 = .ok (.aload_n 0, 1) := by decide +kernel
theorem dX7_reach_108 : decode cX7_reach 108 = .ok (.getfield 19, 3) := by decide +kernel
theorem dX7_reach_111 : decode cX7_reach 111 = .ok (.iload_n 3, 1) := by decide +kernel
theorem dX7_reach_112 : decode cX7_reach 112 = .ok (.daload, 1) := by decide +kernel
theorem dX7_reach_113 : decode cX7_reach 113 = .ok (.dsub, 1) := by decide +kernel
theorem dX7_reach_114 : decode cX7_reach 114 = .ok (.invokevirtual 126, 3) := by decide +kernel
theorem dX7_reach_117 : decode cX7_reach 117 = .ok (.dload_n 1, 1) := by decide +kernel
theorem dX7_reach_118 : decode cX7_reach 118 = .ok (.dcmp .g, 1) := by decide +kernel
theorem dX7_reach_119 : decode cX7_reach 119 = .ok (.ifCond .ge 10, 3) := by decide +kernel
theorem dX7_reach_122 : decode cX7_reach 122 = .ok (.dload 9, 2) := by decide +kernel
theorem dX7_reach_124 : decode cX7_reach 124 = .ok (.dstore 4, 2) := by decide +kernel
theorem dX7_reach_126 : decode cX7_reach 126 = .ok (.goto 7, 3) := by decide +kernel
theorem dX7_reach_129 : decode cX7_reach 129 = .ok (.dload 9, 2) := by decide +kernel
theorem dX7_reach_131 : decode cX7_reach 131 = .ok (.dstore 6, 2) := by decide +kernel
theorem dX7_reach_133 : decode cX7_reach 133 = .ok (.iinc 8 1, 3) := by decide +kernel
theorem dX7_reach_136 : decode cX7_reach 136 = .ok (.goto (-51), 3) := by decide +kernel
theorem dX7_reach_139 : decode cX7_reach 139 = .ok (.dload 6, 2) := by decide +kernel
theorem dX7_reach_141 : decode cX7_reach 141 = .ok (.dreturn, 1) := by decide +kernel
set_option maxRecDepth 20000 in
theorem ggX7_steepest_X7_rise : GoodIn wsX7_steepest wsX7_rise := goodIn_r _ [7, 8, 9, 10, 11, 6, 12, 13, 14, 15, 16, 17, 18, 19, 20, 21, 22, 23, 24, 25, 26, 27, 28] (by decide +kernel) (by decide +kernel)
set_option maxRecDepth 20000 in
theorem gX7_steepest_X7_rise : GoodIn wsX7_steepest (wsV RX7 98 RX7 yX7_rise wsX7_rise) := goodIn_app (goodIn_of _ (by decide +kernel)) ggX7_steepest_X7_rise
theorem dX7_steepest_0 : decode cX7_steepest 0 = .ok (.aload_n 0, 1) := by decide +kernel
theorem dX7_steepest_1 : decode cX7_steepest 1 = .ok (.iconst 0, 1) := by decide +kernel
theorem dX7_steepest_2 : decode cX7_steepest 2 = .ok (.putfield 48, 3) := by decide +kernel
theorem dX7_steepest_5 : decode cX7_steepest 5 = .ok (.iconst (-1), 1) := by decide +kernel
theorem dX7_steepest_6 : decode cX7_steepest 6 = .ok (.istore_n 1, 1) := by decide +kernel
theorem dX7_steepest_7 : decode cX7_steepest 7 = .ok (.iconst 0, 1) := by decide +kernel
theorem dX7_steepest_8 : decode cX7_steepest 8 = .ok (.istore_n 2, 1) := by decide +kernel
theorem dX7_steepest_9 : decode cX7_steepest 9 = .ok (.iload_n 2, 1) := by decide +kernel
theorem dX7_steepest_10 : decode cX7_steepest 10 = .ok (.iconst 1, 1) := by decide +kernel
theorem dX7_steepest_11 : decode cX7_steepest 11 = .ok (.iadd, 1) := by decide +kernel
theorem dX7_steepest_12 : decode cX7_steepest 12 = .ok (.aload_n 0, 1) := by decide +kernel
theorem dX7_steepest_13 : decode cX7_steepest 13 = .ok (.getfield 56, 3) := by decide +kernel
theorem dX7_steepest_16 : decode cX7_steepest 16 = .ok (.if_icmp .ge 29, 3) := by decide +kernel
theorem dX7_steepest_19 : decode cX7_steepest 19 = .ok (.iload_n 1, 1) := by decide +kernel
theorem dX7_steepest_20 : decode cX7_steepest 20 = .ok (.ifCond .lt 17, 3) := by decide +kernel
theorem dX7_steepest_23 : decode cX7_steepest 23 = .ok (.aload_n 0, 1) := by decide +kernel
theorem dX7_steepest_24 : decode cX7_steepest 24 = .ok (.iload_n 2, 1) := by decide +kernel
theorem dX7_steepest_25 : decode cX7_steepest 25 = .ok (.invokevirtual 98, 3) := by decide +kernel
theorem dX7_steepest_28 : decode cX7_steepest 28 = .ok (.aload_n 0, 1) := by decide +kernel
theorem dX7_steepest_29 : decode cX7_steepest 29 = .ok (.iload_n 1, 1) := by decide +kernel
theorem dX7_steepest_30 : decode cX7_steepest 30 = .ok (.invokevirtual 98, 3) := by decide +kernel
theorem dX7_steepest_33 : decode cX7_steepest 33 = .ok (.dcmp .l, 1) := by decide +kernel
theorem dX7_steepest_34 : decode cX7_steepest 34 = .ok (.ifCond .le 5, 3) := by decide +kernel
theorem dX7_steepest_37 : decode cX7_steepest 37 = .ok (.iload_n 2, 1) := by decide +kernel
theorem dX7_steepest_38 : decode cX7_steepest 38 = .ok (.istore_n 1, 1) := by decide +kernel
theorem dX7_steepest_39 : decode cX7_steepest 39 = .ok (.iinc 2 1, 3) := by decide +kernel
theorem dX7_steepest_42 : decode cX7_steepest 42 = .ok (.goto (-33), 3) := by decide +kernel
theorem dX7_steepest_45 : decode cX7_steepest 45 = .ok (.iload_n 1, 1) := by decide +kernel
theorem dX7_steepest_46 : decode cX7_steepest 46 = .ok (.ireturn, 1) := by decide +kernel
set_option maxRecDepth 20000 in
theorem ggX7_flatCount_X7_rise : GoodIn wsX7_flatCount wsX7_rise := goodIn_r _ [7, 8, 9, 10, 11, 6, 12, 13, 14, 15, 16, 17, 18, 19, 20, 21, 22, 23, 24, 25, 26, 27, 28] (by decide +kernel) (by decide +kernel)
set_option maxRecDepth 20000 in
theorem gX7_flatCount_X7_rise : GoodIn wsX7_flatCount (wsV RX7 98 RX7 yX7_rise wsX7_rise) := goodIn_app (goodIn_of _ (by decide +kernel)) ggX7_flatCount_X7_rise
theorem dX7_flatCount_0 : decode cX7_flatCount 0 = .ok (.aload_n 0, 1) := by decide +kernel
theorem dX7_flatCount_1 : decode cX7_flatCount 1 = .ok (.iconst 0, 1) := by decide +kernel
theorem dX7_flatCount_2 : decode cX7_flatCount 2 = .ok (.putfield 48, 3) := by decide +kernel
theorem dX7_flatCount_5 : decode cX7_flatCount 5 = .ok (.iconst 0, 1) := by decide +kernel
theorem dX7_flatCount_6 : decode cX7_flatCount 6 = .ok (.istore_n 1, 1) := by decide +kernel
theorem dX7_flatCount_7 : decode cX7_flatCount 7 = .ok (.iconst 0, 1) := by decide +kernel
theorem dX7_flatCount_8 : decode cX7_flatCount 8 = .ok (.istore_n 2, 1) := by decide +kernel
theorem dX7_flatCount_9 : decode cX7_flatCount 9 = .ok (.iload_n 2, 1) := by decide +kernel
theorem dX7_flatCount_10 : decode cX7_flatCount 10 = .ok (.iconst 1, 1) := by decide +kernel
theorem dX7_flatCount_11 : decode cX7_flatCount 11 = .ok (.iadd, 1) := by decide +kernel
theorem dX7_flatCount_12 : decode cX7_flatCount 12 = .ok (.aload_n 0, 1) := by decide +kernel
theorem dX7_flatCount_13 : decode cX7_flatCount 13 = .ok (.getfield 56, 3) := by decide +kernel
theorem dX7_flatCount_16 : decode cX7_flatCount 16 = .ok (.if_icmp .ge 27, 3) := by decide +kernel
theorem dX7_flatCount_19 : decode cX7_flatCount 19 = .ok (.iload_n 1, 1) := by decide +kernel
theorem dX7_flatCount_20 : decode cX7_flatCount 20 = .ok (.aload_n 0, 1) := by decide +kernel
theorem dX7_flatCount_21 : decode cX7_flatCount 21 = .ok (.iload_n 2, 1) := by decide +kernel
theorem dX7_flatCount_22 : decode cX7_flatCount 22 = .ok (.invokevirtual 98, 3) := by decide +kernel
theorem dX7_flatCount_25 : decode cX7_flatCount 25 = .ok (.dconst 0, 1) := by decide +kernel
theorem dX7_flatCount_26 : decode cX7_flatCount 26 = .ok (.dcmp .l, 1) := by decide +kernel
theorem dX7_flatCount_27 : decode cX7_flatCount 27 = .ok (.ifCond .ne 7, 3) := by decide +kernel
theorem dX7_flatCount_30 : decode cX7_flatCount 30 = .ok (.iconst 1, 1) := by decide +kernel
theorem dX7_flatCount_31 : decode cX7_flatCount 31 = .ok (.goto 4, 3) := by decide +kernel
theorem dX7_flatCount_34 : decode cX7_flatCount 34 = .ok (.iconst 0, 1) := by decide +kernel
theorem dX7_flatCount_35 : decode cX7_flatCount 35 = .ok (.iadd, 1) := by decide +kernel
theorem dX7_flatCount_36 : decode cX7_flatCount 36 = .ok (.istore_n 1, 1) := by decide +kernel
theorem dX7_flatCount_37 : decode cX7_flatCount 37 = .ok (.iinc 2 1, 3) := by decide +kernel
theorem dX7_flatCount_40 : decode cX7_flatCount 40 = .ok (.goto (-31), 3) := by decide +kernel
theorem dX7_flatCount_43 : decode cX7_flatCount 43 = .ok (.iload_n 1, 1) := by decide +kernel
theorem dX7_flatCount_44 : decode cX7_flatCount 44 = .ok (.ireturn, 1) := by decide +kernel
set_option maxRecDepth 20000 in
theorem ggX7_setTail_X7_plain : GoodIn wsX7_setTail wsX7_plain := goodIn_r _ [9, 10, 11] (by decide +kernel) (by decide +kernel)
set_option maxRecDepth 20000 in
theorem gX7_setTail_X7_plain : GoodIn wsX7_setTail (va_wsS RX7 59 yX7_plain wsX7_plain) := goodIn_app (goodIn_of _ (by decide +kernel)) ggX7_setTail_X7_plain
set_option maxRecDepth 20000 in
theorem ggX7_setTail_X7_fail : GoodIn wsX7_setTail wsX7_fail := goodIn_r _ [15, 1, 19, 20, 21, 22, 23, 24, 25, 26, 27, 28, 29, 30, 31, 32, 33] (by decide +kernel) (by decide +kernel)
set_option maxRecDepth 20000 in
theorem gX7_setTail_X7_fail : GoodIn wsX7_setTail (wsV RX7 75 RX7 yX7_fail wsX7_fail) := goodIn_app (goodIn_of _ (by decide +kernel)) ggX7_setTail_X7_fail
set_option maxRecDepth 20000 in
theorem ggX7_setTail_X7_isIn : GoodIn wsX7_setTail wsX7_isIn := goodIn_r _ [18] (by decide +kernel) (by decide +kernel)
set_option maxRecDepth 20000 in
theorem gX7_setTail_X7_isIn : GoodIn wsX7_setTail (va_wsS RX7 67 yX7_isIn wsX7_isIn) := goodIn_app (goodIn_of _ (by decide +kernel)) ggX7_setTail_X7_isIn
theorem dX7_setTail_0 : decode cX7_setTail 0 = .ok (.aload_n 0, 1) := by decide +kernel
theorem dX7_setTail_1 : decode cX7_setTail 1 = .ok (.iconst 0, 1) := by decide +kernel
theorem dX7_setTail_2 : decode cX7_setTail 2 = .ok (.putfield 48, 3) := by decide +kernel
theorem dX7_setTail_5 : decode cX7_setTail 5 = .ok (.dload_n 3, 1) := by decide +kernel
theorem dX7_setTail_6 : decode cX7_setTail 6 = .ok (.invokestatic 59, 3) := by decide +kernel
theorem dX7_setTail_9 : decode cX7_setTail 9 = .ok (.dstore 5, 2) := by decide +kernel
theorem dX7_setTail_11 : decode cX7_setTail 11 = .ok (.iload_n 1, 1) := by decide +kernel
theorem dX7_setTail_12 : decode cX7_setTail 12 = .ok (.ifCond .lt 8, 3) := by decide +kernel
theorem dX7_setTail_15 : decode cX7_setTail 15 = .ok (.iload_n 1, 1) := by decide +kernel
theorem dX7_setTail_16 : decode cX7_setTail 16 = .ok (.iconst 1, 1) := by decide +kernel
theorem dX7_setTail_17 : decode cX7_setTail 17 = .ok (.if_icmp .le 9, 3) := by decide +kernel
theorem dX7_setTail_20 : decode cX7_setTail 20 = .ok (.aload_n 0, 1) := by decide +kernel
theorem dX7_setTail_21 : decode cX7_setTail 21 = .ok (.iconst 1, 1) := by decide +kernel
theorem dX7_setTail_22 : decode cX7_setTail 22 = .ok (.invokevirtual 75, 3) := by decide +kernel
theorem dX7_setTail_25 : decode cX7_setTail 25 = .ok (.ireturn, 1) := by decide +kernel
theorem dX7_setTail_26 : decode cX7_setTail 26 = .ok (.iload_n 2, 1) := by decide +kernel
theorem dX7_setTail_27 : decode cX7_setTail 27 = .ok (.ifCond .lt 35, 3) := by decide +kernel
theorem dX7_setTail_30 : decode cX7_setTail 30 = .ok (.iload_n 2, 1) := by decide +kernel
theorem dX7_setTail_31 : decode cX7_setTail 31 = .ok (.bipush 7, 2) := by decide +kernel
theorem dX7_setTail_33 : decode cX7_setTail 33 = .ok (.if_icmp .ge 29, 3) := by decide +kernel
theorem dX7_setTail_36 : decode cX7_setTail 36 = .ok (.dload 5, 2) := by decide +kernel
theorem dX7_setTail_38 : decode cX7_setTail 38 = .ok (.ldc2_w 63, 3) := by decide +kernel
theorem dX7_setTail_41 : decode cX7_setTail 41 = .ok (.ldc2_w 65, 3) := by decide +kernel
theorem dX7_setTail_44 : decode cX7_setTail 44 = .ok (.invokestatic 67, 3) := by decide +kernel
theorem dX7_setTail_47 : decode cX7_setTail 47 = .ok (.ifCond .eq 15, 3) := by decide +kernel
theorem dX7_setTail_50 : decode cX7_setTail 50 = .ok (.iload_n 2, 1) := by decide +kernel
theorem dX7_setTail_51 : decode cX7_setTail 51 = .ok (.iconst 4, 1) := by decide +kernel
theorem dX7_setTail_52 : decode cX7_setTail 52 = .ok (.if_icmp .lt 16, 3) := by decide +kernel
theorem dX7_setTail_55 : decode cX7_setTail 55 = .ok (.dload 5, 2) := by decide +kernel
theorem dX7_setTail_57 : decode cX7_setTail 57 = .ok (.dconst 0, 1) := by decide +kernel
theorem dX7_setTail_58 : decode cX7_setTail 58 = .ok (.dcmp .l, 1) := by decide +kernel
theorem dX7_setTail_59 : decode cX7_setTail 59 = .ok (.ifCond .ne 9, 3) := by decide +kernel
theorem dX7_setTail_62 : decode cX7_setTail 62 = .ok (.aload_n 0, 1) := by decide +kernel
theorem dX7_setTail_63 : decode cX7_setTail 63 = .ok (.iconst 2, 1) := by decide +kernel
theorem dX7_setTail_64 : decode cX7_setTail 64 = .ok (.invokevirtual 75, 3) := by decide +kernel
theorem dX7_setTail_67 : decode cX7_setTail 67 = .ok (.ireturn, 1) := by decide +kernel
theorem dX7_setTail_68 : decode cX7_setTail 68 = .ok (.aload_n 0, 1) := by decide +kernel
theorem dX7_setTail_69 : decode cX7_setTail 69 = .ok (.getfield 32, 3) := by decide +kernel
theorem dX7_setTail_72 : decode cX7_setTail 72 = .ok (.iload_n 1, 1) := by decide +kernel
theorem dX7_setTail_73 : decode cX7_setTail 73 = .ok (.iaload, 1) := by decide +kernel
theorem dX7_setTail_74 : decode cX7_setTail 74 = .ok (.istore 7, 2) := by decide +kernel
theorem dX7_setTail_76 : decode cX7_setTail 76 = .ok (.aload_n 0, 1) := by decide +kernel
theorem dX7_setTail_77 : decode cX7_setTail 77 = .ok (.getfield 32, 3) := by decide +kernel
theorem dX7_setTail_80 : decode cX7_setTail 80 = .ok (.iload_n 1, 1) := by decide +kernel
theorem dX7_setTail_81 : decode cX7_setTail 81 = .ok (.iload_n 2, 1) := by decide +kernel
theorem dX7_setTail_82 : decode cX7_setTail 82 = .ok (.iastore, 1) := by decide +kernel
theorem dX7_setTail_83 : decode cX7_setTail 83 = .ok (.aload_n 0, 1) := by decide +kernel
theorem dX7_setTail_84 : decode cX7_setTail 84 = .ok (.getfield 36, 3) := by decide +kernel
theorem dX7_setTail_87 : decode cX7_setTail 87 = .ok (.iload_n 1, 1) := by decide +kernel
theorem dX7_setTail_88 : decode cX7_setTail 88 = .ok (.dload 5, 2) := by decide +kernel
theorem dX7_setTail_90 : decode cX7_setTail 90 = .ok (.dastore, 1) := by decide +kernel
theorem dX7_setTail_91 : decode cX7_setTail 91 = .ok (.iload 7, 2) := by decide +kernel
theorem dX7_setTail_93 : decode cX7_setTail 93 = .ok (.ireturn, 1) := by decide +kernel
set_option maxRecDepth 20000 in
theorem ggX7_limit_X7_fail : GoodIn wsX7_limit wsX7_fail := goodIn_r _ [14, 1, 15, 16, 17, 18, 19, 20, 21, 22, 23, 24, 25, 26, 27, 28, 29] (by decide +kernel) (by decide +kernel)
set_option maxRecDepth 20000 in
theorem gX7_limit_X7_fail : GoodIn wsX7_limit (wsV RX7 75 RX7 yX7_fail wsX7_fail) := goodIn_app (goodIn_of _ (by decide +kernel)) ggX7_limit_X7_fail
theorem dX7_limit_0 : decode cX7_limit 0 = .ok (.aload_n 0, 1) := by decide +kernel
theorem dX7_limit_1 : decode cX7_limit 1 = .ok (.iconst 0, 1) := by decide +kernel
theorem dX7_limit_2 : decode cX7_limit 2 = .ok (.putfield 48, 3) := by decide +kernel
theorem dX7_limit_5 : decode cX7_limit 5 = .ok (.iload_n 1, 1) := by decide +kernel
theorem dX7_limit_6 : decode cX7_limit 6 = .ok (.ifCond .lt 8, 3) := by decide +kernel
theorem dX7_limit_9 : decode cX7_limit 9 = .ok (.iload_n 1, 1) := by decide +kernel
theorem dX7_limit_10 : decode cX7_limit 10 = .ok (.iconst 1, 1) := by decide +kernel
theorem dX7_limit_11 : decode cX7_limit 11 = .ok (.if_icmp .le 10, 3) := by decide +kernel
theorem dX7_limit_14 : decode cX7_limit 14 = .ok (.aload_n 0, 1) := by decide +kernel
theorem dX7_limit_15 : decode cX7_limit 15 = .ok (.iconst 1, 1) := by decide +kernel
theorem dX7_limit_16 : decode cX7_limit 16 = .ok (.invokevirtual 75, 3) := by decide +kernel
theorem dX7_limit_19 : decode cX7_limit 19 = .ok (.i2d, 1) := by decide +kernel
theorem dX7_limit_20 : decode cX7_limit 20 = .ok (.dreturn, 1) := by decide +kernel
theorem dX7_limit_21 : decode cX7_limit 21 = .ok (.aload_n 0, 1) := by decide +kernel
theorem dX7_limit_22 : decode cX7_limit 22 = .ok (.getfield 56, 3) := by decide +kernel
theorem dX7_limit_25 : decode cX7_limit 25 = .ok (.ifCond .ne 10, 3) := by decide +kernel
theorem dX7_limit_28 : decode cX7_limit 28 = .ok (.aload_n 0, 1) := by decide +kernel
theorem dX7_limit_29 : decode cX7_limit 29 = .ok (.iconst 2, 1) := by decide +kernel
theorem dX7_limit_30 : decode cX7_limit 30 = .ok (.invokevirtual 75, 3) := by decide +kernel
theorem dX7_limit_33 : decode cX7_limit 33 = .ok (.i2d, 1) := by decide +kernel
theorem dX7_limit_34 : decode cX7_limit 34 = .ok (.dreturn, 1) := by decide +kernel
theorem dX7_limit_35 : decode cX7_limit 35 = .ok (.iload_n 1, 1) := by decide +kernel
theorem dX7_limit_36 : decode cX7_limit 36 = .ok (.ifCond .ne 12, 3) := by decide +kernel
theorem dX7_limit_39 : decode cX7_limit 39 = .ok (.aload_n 0, 1) := by decide +kernel
theorem dX7_limit_40 : decode cX7_limit 40 = .ok (.getfield 22, 3) := by decide +kernel
theorem dX7_limit_43 : decode cX7_limit 43 = .ok (.iconst 0, 1) := by decide +kernel
theorem dX7_limit_44 : decode cX7_limit 44 = .ok (.daload, 1) := by decide +kernel
theorem dX7_limit_45 : decode cX7_limit 45 = .ok (.goto 14, 3) := by decide +kernel
theorem dX7_limit_48 : decode cX7_limit 48 = .ok (.aload_n 0, 1) := by decide +kernel
theorem dX7_limit_49 : decode cX7_limit 49 = .ok (.getfield 22, 3) := by decide +kernel
theorem dX7_limit_52 : decode cX7_limit 52 = .ok (.aload_n 0, 1) := by decide +kernel
theorem dX7_limit_53 : decode cX7_limit 53 = .ok (.getfield 56, 3) := by decide +kernel
theorem dX7_limit_56 : decode cX7_limit 56 = .ok (.iconst 1, 1) := by decide +kernel
theorem dX7_limit_57 : decode cX7_limit 57 = .ok (.isub, 1) := by decide +kernel
theorem dX7_limit_58 : decode cX7_limit 58 = .ok (.daload, 1) := by decide +kernel
theorem dX7_limit_59 : decode cX7_limit 59 = .ok (.dstore_n 2, 1) := by decide +kernel
theorem dX7_limit_60 : decode cX7_limit 60 = .ok (.iload_n 1, 1) := by decide +kernel
theorem dX7_limit_61 : decode cX7_limit 61 = .ok (.ifCond .ne 9, 3) := by decide +kernel
theorem dX7_limit_64 : decode cX7_limit 64 = .ok (.ldc2_w 154, 3) := by decide +kernel
theorem dX7_limit_67 : decode cX7_limit 67 = .ok (.goto 4, 3) := by decide +kernel
theorem dX7_limit_70 : decode cX7_limit 70 = .ok (.dconst 1, 1) := by decide +kernel
theorem dX7_limit_71 : decode cX7_limit 71 = .ok (.dstore 4, 2) := by decide +kernel
theorem dX7_limit_73 : decode cX7_limit 73 = .ok (.aload_n 0, 1) := by decide +kernel
theorem dX7_limit_74 : decode cX7_limit 74 = .ok (.getfield 36, 3) := by decide +kernel
theorem dX7_limit_77 : decode cX7_limit 77 = .ok (.iload_n 1, 1) := by decide +kernel
theorem dX7_limit_78 : decode cX7_limit 78 = .ok (.daload, 1) := by decide +kernel
theorem dX7_limit_79 : decode cX7_limit 79 = .ok (.dstore 6, 2) := by decide +kernel
theorem dX7_limit_81 : decode cX7_limit 81 = .ok (.aload_n 0, 1) := by decide +kernel
theorem dX7_limit_82 : decode cX7_limit 82 = .ok (.getfield 32, 3) := by decide +kernel
theorem dX7_limit_85 : decode cX7_limit 85 = .ok (.iload_n 1, 1) := by decide +kernel
theorem dX7_limit_86 : decode cX7_limit 86 = .ok (.iaload, 1) := by decide +kernel
theorem dX7_limit_87 : decode cX7_limit 87 = .ok (.tableswitch 89 0 6 #[41, 43, 55, 63, 89, 89, 72], 41) := by decide +kernel
theorem dX7_limit_128 : decode cX7_limit 128 = .ok (.dload_n 2, 1) := by decide +kernel
theorem dX7_limit_129 : decode cX7_limit 129 = .ok (.dreturn, 1) := by decide +kernel
theorem dX7_limit_130 : decode cX7_limit 130 = .ok (.dload_n 2, 1) := by decide +kernel
theorem dX7_limit_131 : decode cX7_limit 131 = .ok (.dload 6, 2) := by decide +kernel
theorem dX7_limit_133 : decode cX7_limit 133 = .ok (.dload 4, 2) := by decide +kernel
theorem dX7_limit_135 : decode cX7_limit 135 = .ok (.ldc2_w 156, 3) := by decide +kernel
theorem dX7_limit_138 : decode cX7_limit 138 = .ok (.dmul, 1) := by decide +kernel
theorem dX7_limit_139 : decode cX7_limit 139 = .ok (.dmul, 1) := by decide +kernel
theorem dX7_limit_140 : decode cX7_limit 140 = .ok (.dadd, 1) := by decide +kernel
theorem dX7_limit_141 : decode cX7_limit 141 = .ok (.dreturn, 1) := by decide +kernel
theorem dX7_limit_142 : decode cX7_limit 142 = .ok (.dload_n 2, 1) := by decide +kernel
theorem dX7_limit_143 : decode cX7_limit 143 = .ok (.dload 6, 2) := by decide +kernel
theorem dX7_limit_145 : decode cX7_limit 145 = .ok (.dload 4, 2) := by decide +kernel
theorem dX7_limit_147 : decode cX7_limit 147 = .ok (.dmul, 1) := by decide +kernel
theorem dX7_limit_148 : decode cX7_limit 148 = .ok (.dadd, 1) := by decide +kernel
theorem dX7_limit_149 : decode cX7_limit 149 = .ok (.dreturn, 1) := by decide +kernel
theorem dX7_limit_150 : decode cX7_limit 150 = .ok (.dload_n 2, 1) := by decide +kernel
theorem dX7_limit_151 : decode cX7_limit 151 = .ok (.dload 6, 2) := by decide +kernel
theorem dX7_limit_153 : decode cX7_limit 153 = .ok (.ldc2_w 154, 3) := by decide +kernel
theorem dX7_limit_156 : decode cX7_limit 156 = .ok (.dmul, 1) := by decide +kernel
theorem dX7_limit_157 : decode cX7_limit 157 = .ok (.dadd, 1) := by decide +kernel
theorem dX7_limit_158 : decode cX7_limit 158 = .ok (.dreturn, 1) := by decide +kernel
theorem dX7_limit_159 : decode cX7_limit 159 = .ok (.dload 6, 2) := by decide +kernel
theorem dX7_limit_161 : decode cX7_limit 161 = .ok (.dconst 0, 1) := by decide +kernel
theorem dX7_limit_162 : decode cX7_limit 162 = .ok (.dcmp .l, 1) := by decide +kernel
theorem dX7_limit_163 : decode cX7_limit 163 = .ok (.ifCond .le 9, 3) := by decide +kernel
theorem dX7_limit_166 : decode cX7_limit 166 = .ok (.ldc2_w 160, 3) := by decide +kernel
theorem dX7_limit_169 : decode cX7_limit 169 = .ok (.goto 6, 3) := by decide +kernel
theorem dX7_limit_172 : decode cX7_limit 172 = .ok (.ldc2_w 162, 3) := by decide +kernel
theorem dX7_limit_175 : decode cX7_limit 175 = .ok (.dreturn, 1) := by decide +kernel
theorem dX7_limit_176 : decode cX7_limit 176 = .ok (.dload 6, 2) := by decide +kernel
theorem dX7_limit_178 : decode cX7_limit 178 = .ok (.dload 4, 2) := by decide +kernel
theorem dX7_limit_180 : decode cX7_limit 180 = .ok (.dmul, 1) := by decide +kernel
theorem dX7_limit_181 : decode cX7_limit 181 = .ok (.dconst 0, 1) := by decide +kernel
theorem dX7_limit_182 : decode cX7_limit 182 = .ok (.dcmp .l, 1) := by decide +kernel
theorem dX7_limit_183 : decode cX7_limit 183 = .ok (.ifCond .le 9, 3) := by decide +kernel
theorem dX7_limit_186 : decode cX7_limit 186 = .ok (.ldc2_w 160, 3) := by decide +kernel
theorem dX7_limit_189 : decode cX7_limit 189 = .ok (.goto 6, 3) := by decide +kernel
theorem dX7_limit_192 : decode cX7_limit 192 = .ok (.ldc2_w 162, 3) := by decide +kernel
theorem dX7_limit_195 : decode cX7_limit 195 = .ok (.dreturn, 1) := by decide +kernel
set_option maxRecDepth 20000 in
theorem ggX7_digest_Jxe99ae_doubleToLongBits_ccdee : GoodIn wsX7_digest wsJxe99ae_doubleToLongBits_ccdee := goodIn_r _ [13, 14, 15, 16, 17, 18, 19, 20, 12, 21] (by decide +kernel) (by decide +kernel)
set_option maxRecDepth 20000 in
theorem gX7_digest_Jxe99ae_doubleToLongBits_ccdee : GoodIn wsX7_digest (va_wsS RX7 168 yJxe99ae_doubleToLongBits_ccdee wsJxe99ae_doubleToLongBits_ccdee) := goodIn_app (goodIn_of _ (by decide +kernel)) ggX7_digest_Jxe99ae_doubleToLongBits_ccdee
set_option maxRecDepth 20000 in
theorem ggX7_digest_X7_slopeOf : GoodIn wsX7_digest wsX7_slopeOf := goodIn_r _ [26, 5, 8, 27, 28, 29, 30, 31, 25, 32, 33, 34, 35, 36, 37, 7, 38, 39, 40, 41, 6, 42, 43, 44, 45, 46, 15, 16, 17, 47, 48, 49, 50, 51, 52, 53, 54, 55, 56, 57, 58, 59, 60, 61, 62] (by decide +kernel) (by decide +kernel)
set_option maxRecDepth 20000 in
theorem gX7_digest_X7_slopeOf : GoodIn wsX7_digest (wsV RX7 117 RX7 yX7_slopeOf wsX7_slopeOf) := goodIn_app (goodIn_of _ (by decide +kernel)) ggX7_digest_X7_slopeOf
theorem dX7_digest_0 : decode cX7_digest 0 = .ok (.aload_n 0, 1) := by decide +kernel
theorem dX7_digest_1 : decode cX7_digest 1 = .ok (.iconst 0, 1) := by decide +kernel
theorem dX7_digest_2 : decode cX7_digest 2 = .ok (.putfield 48, 3) := by decide +kernel
theorem dX7_digest_5 : decode cX7_digest 5 = .ok (.ldc2_w 164, 3) := by decide +kernel
theorem dX7_digest_8 : decode cX7_digest 8 = .ok (.aload_n 0, 1) := by decide +kernel
theorem dX7_digest_9 : decode cX7_digest 9 = .ok (.getfield 79, 3) := by decide +kernel
theorem dX7_digest_12 : decode cX7_digest 12 = .ok (.i2l, 1) := by decide +kernel
theorem dX7_digest_13 : decode cX7_digest 13 = .ok (.ladd, 1) := by decide +kernel
theorem dX7_digest_14 : decode cX7_digest 14 = .ok (.ldc2_w 166, 3) := by decide +kernel
theorem dX7_digest_17 : decode cX7_digest 17 = .ok (.lmul, 1) := by decide +kernel
theorem dX7_digest_18 : decode cX7_digest 18 = .ok (.aload_n 0, 1) := by decide +kernel
theorem dX7_digest_19 : decode cX7_digest 19 = .ok (.getfield 56, 3) := by decide +kernel
theorem dX7_digest_22 : decode cX7_digest 22 = .ok (.i2l, 1) := by decide +kernel
theorem dX7_digest_23 : decode cX7_digest 23 = .ok (.ladd, 1) := by decide +kernel
theorem dX7_digest_24 : decode cX7_digest 24 = .ok (.lstore_n 1, 1) := by decide +kernel
theorem dX7_digest_25 : decode cX7_digest 25 = .ok (.iconst 0, 1) := by decide +kernel
theorem dX7_digest_26 : decode cX7_digest 26 = .ok (.istore_n 3, 1) := by decide +kernel
theorem dX7_digest_27 : decode cX7_digest 27 = .ok (.iload_n 3, 1) := by decide +kernel
theorem dX7_digest_28 : decode cX7_digest 28 = .ok (.aload_n 0, 1) := by decide +kernel
theorem dX7_digest_29 : decode cX7_digest 29 = .ok (.getfield 56, 3) := by decide +kernel
theorem dX7_digest_32 : decode cX7_digest 32 = .ok (.if_icmp .ge 73, 3) := by decide +kernel
theorem dX7_digest_35 : decode cX7_digest 35 = .ok (.lload_n 1, 1) := by decide +kernel
theorem dX7_digest_36 : decode cX7_digest 36 = .ok (.ldc2_w 166, 3) := by decide +kernel
theorem dX7_digest_39 : decode cX7_digest 39 = .ok (.lmul, 1) := by decide +kernel
theorem dX7_digest_40 : decode cX7_digest 40 = .ok (.aload_n 0, 1) := by decide +kernel
theorem dX7_digest_41 : decode cX7_digest 41 = .ok (.getfield 19, 3) := by decide +kernel
theorem dX7_digest_44 : decode cX7_digest 44 = .ok (.iload_n 3, 1) := by decide +kernel
theorem dX7_digest_45 : decode cX7_digest 45 = .ok (.daload, 1) := by decide +kernel
theorem dX7_digest_46 : decode cX7_digest 46 = .ok (.invokestatic 168, 3) := by decide +kernel
theorem dX7_digest_49 : decode cX7_digest 49 = .ok (.ladd, 1) := by decide +kernel
theorem dX7_digest_50 : decode cX7_digest 50 = .ok (.ldc2_w 166, 3) := by decide +kernel
theorem dX7_digest_53 : decode cX7_digest 53 = .ok (.lmul, 1) := by decide +kernel
theorem dX7_digest_54 : decode cX7_digest 54 = .ok (.aload_n 0, 1) := by decide +kernel
theorem dX7_digest_55 : decode cX7_digest 55 = .ok (.getfield 22, 3) := by decide +kernel
theorem dX7_digest_58 : decode cX7_digest 58 = .ok (.iload_n 3, 1) := by decide +kernel
theorem dX7_digest_59 : decode cX7_digest 59 = .ok (.daload, 1) := by decide +kernel
theorem dX7_digest_60 : decode cX7_digest 60 = .ok (.invokestatic 168, 3) := by decide +kernel
theorem dX7_digest_63 : decode cX7_digest 63 = .ok (.ladd, 1) := by decide +kernel
theorem dX7_digest_64 : decode cX7_digest 64 = .ok (.lstore_n 1, 1) := by decide +kernel
theorem dX7_digest_65 : decode cX7_digest 65 = .ok (.lload_n 1, 1) := by decide +kernel
theorem dX7_digest_66 : decode cX7_digest 66 = .ok (.ldc2_w 166, 3) := by decide +kernel
theorem dX7_digest_69 : decode cX7_digest 69 = .ok (.lmul, 1) := by decide +kernel
theorem dX7_digest_70 : decode cX7_digest 70 = .ok (.aload_n 0, 1) := by decide +kernel
theorem dX7_digest_71 : decode cX7_digest 71 = .ok (.iload_n 3, 1) := by decide +kernel
theorem dX7_digest_72 : decode cX7_digest 72 = .ok (.invokevirtual 117, 3) := by decide +kernel
theorem dX7_digest_75 : decode cX7_digest 75 = .ok (.invokestatic 168, 3) := by decide +kernel
theorem dX7_digest_78 : decode cX7_digest 78 = .ok (.ladd, 1) := by decide +kernel
theorem dX7_digest_79 : decode cX7_digest 79 = .ok (.ldc2_w 166, 3) := by decide +kernel
theorem dX7_digest_82 : decode cX7_digest 82 = .ok (.lmul, 1) := by decide +kernel
theorem dX7_digest_83 : decode cX7_digest 83 = .ok (.aload_n 0, 1) := by decide +kernel
theorem dX7_digest_84 : decode cX7_digest 84 = .ok (.getfield 25, 3) := by decide +kernel
theorem dX7_digest_87 : decode cX7_digest 87 = .ok (.iload_n 3, 1) := by decide +kernel
theorem dX7_digest_88 : decode cX7_digest 88 = .ok (.baload, 1) := by decide +kernel
theorem dX7_digest_89 : decode cX7_digest 89 = .ok (.ifCond .eq 7, 3) := by decide +kernel
theorem dX7_digest_92 : decode cX7_digest 92 = .ok (.lconst 1, 1) := by decide +kernel
theorem dX7_digest_93 : decode cX7_digest 93 = .ok (.goto 4, 3) := by decide +kernel
theorem dX7_digest_96 : decode cX7_digest 96 = .ok (.lconst 0, 1) := by decide +kernel
theorem dX7_digest_97 : decode cX7_digest 97 = .ok (.ladd, 1) := by decide +kernel
theorem dX7_digest_98 : decode cX7_digest 98 = .ok (.lstore_n 1, 1) := by decide +kernel
theorem dX7_digest_99 : decode cX7_digest 99 = .ok (.iinc 3 1, 3) := by decide +kernel
theorem dX7_digest_102 : decode cX7_digest 102 = .ok (.goto (-75), 3) := by decide +kernel
theorem dX7_digest_105 : decode cX7_digest 105 = .ok (.lload_n 1, 1) := by decide +kernel
theorem dX7_digest_106 : decode cX7_digest 106 = .ok (.ldc2_w 166, 3) := by decide +kernel
theorem dX7_digest_109 : decode cX7_digest 109 = .ok (.lmul, 1) := by decide +kernel
theorem dX7_digest_110 : decode cX7_digest 110 = .ok (.aload_n 0, 1) := by decide +kernel
theorem dX7_digest_111 : decode cX7_digest 111 = .ok (.getfield 32, 3) := by decide +kernel
theorem dX7_digest_114 : decode cX7_digest 114 = .ok (.iconst 0, 1) := by decide +kernel
theorem dX7_digest_115 : decode cX7_digest 115 = .ok (.iaload, 1) := by decide +kernel
theorem dX7_digest_116 : decode cX7_digest 116 = .ok (.i2l, 1) := by decide +kernel
theorem dX7_digest_117 : decode cX7_digest 117 = .ok (.ladd, 1) := by decide +kernel
theorem dX7_digest_118 : decode cX7_digest 118 = .ok (.ldc2_w 166, 3) := by decide +kernel
theorem dX7_digest_121 : decode cX7_digest 121 = .ok (.lmul, 1) := by decide +kernel
theorem dX7_digest_122 : decode cX7_digest 122 = .ok (.aload_n 0, 1) := by decide +kernel
theorem dX7_digest_123 : decode cX7_digest 123 = .ok (.getfield 32, 3) := by decide +kernel
theorem dX7_digest_126 : decode cX7_digest 126 = .ok (.iconst 1, 1) := by decide +kernel
theorem dX7_digest_127 : decode cX7_digest 127 = .ok (.iaload, 1) := by decide +kernel
theorem dX7_digest_128 : decode cX7_digest 128 = .ok (.i2l, 1) := by decide +kernel
theorem dX7_digest_129 : decode cX7_digest 129 = .ok (.ladd, 1) := by decide +kernel
theorem dX7_digest_130 : decode cX7_digest 130 = .ok (.lreturn, 1) := by decide +kernel
theorem dJxe99ae_isNaN_b9ae7_0 : decode cJxe99ae_isNaN_b9ae7 0 = .ok (.dload_n 0, 1) := by decide +kernel
theorem dJxe99ae_isNaN_b9ae7_1 : decode cJxe99ae_isNaN_b9ae7 1 = .ok (.dload_n 0, 1) := by decide +kernel
theorem dJxe99ae_isNaN_b9ae7_2 : decode cJxe99ae_isNaN_b9ae7 2 = .ok (.dcmp .l, 1) := by decide +kernel
theorem dJxe99ae_isNaN_b9ae7_3 : decode cJxe99ae_isNaN_b9ae7 3 = .ok (.ifCond .eq 7, 3) := by decide +kernel
theorem dJxe99ae_isNaN_b9ae7_6 : decode cJxe99ae_isNaN_b9ae7 6 = .ok (.iconst 1, 1) := by decide +kernel
theorem dJxe99ae_isNaN_b9ae7_7 : decode cJxe99ae_isNaN_b9ae7 7 = .ok (.goto 4, 3) := by decide +kernel
theorem dJxe99ae_isNaN_b9ae7_10 : decode cJxe99ae_isNaN_b9ae7 10 = .ok (.iconst 0, 1) := by decide +kernel
theorem dJxe99ae_isNaN_b9ae7_11 : decode cJxe99ae_isNaN_b9ae7 11 = .ok (.ireturn, 1) := by decide +kernel
set_option maxRecDepth 20000 in
theorem ggJxe99ae_doubleToLongBits_ccdee_Jxe99ae_isNaN_b9ae7 : GoodIn wsJxe99ae_doubleToLongBits_ccdee wsJxe99ae_isNaN_b9ae7 := goodIn_r _ [9] (by decide +kernel) (by decide +kernel)
set_option maxRecDepth 20000 in
theorem gJxe99ae_doubleToLongBits_ccdee_Jxe99ae_isNaN_b9ae7 : GoodIn wsJxe99ae_doubleToLongBits_ccdee (va_wsS RJxe99ae 122 yJxe99ae_isNaN_b9ae7 wsJxe99ae_isNaN_b9ae7) := goodIn_app (goodIn_of _ (by decide +kernel)) ggJxe99ae_doubleToLongBits_ccdee_Jxe99ae_isNaN_b9ae7
theorem dJxe99ae_doubleToLongBits_ccdee_0 : decode cJxe99ae_doubleToLongBits_ccdee 0 = .ok (.dload_n 0, 1) := by decide +kernel
theorem dJxe99ae_doubleToLongBits_ccdee_1 : decode cJxe99ae_doubleToLongBits_ccdee 1 = .ok (.invokestatic 122, 3) := by decide +kernel
theorem dJxe99ae_doubleToLongBits_ccdee_4 : decode cJxe99ae_doubleToLongBits_ccdee 4 = .ok (.ifCond .ne 8, 3) := by decide +kernel
theorem dJxe99ae_doubleToLongBits_ccdee_7 : decode cJxe99ae_doubleToLongBits_ccdee 7 = .ok (.dload_n 0, 1) := by decide +kernel
theorem dJxe99ae_doubleToLongBits_ccdee_8 : decode cJxe99ae_doubleToLongBits_ccdee 8 = .ok (.invokestatic 134, 3) := by decide +kernel
theorem dJxe99ae_doubleToLongBits_ccdee_11 : decode cJxe99ae_doubleToLongBits_ccdee 11 = .ok (.lreturn, 1) := by decide +kernel
theorem dJxe99ae_doubleToLongBits_ccdee_12 : decode cJxe99ae_doubleToLongBits_ccdee 12 = .ok (.ldc2_w 137, 3) := by decide +kernel
theorem dJxe99ae_doubleToLongBits_ccdee_15 : decode cJxe99ae_doubleToLongBits_ccdee 15 = .ok (.lreturn, 1) := by decide +kernel
theorem dJ9_abs_294c1_0 : decode cJ9_abs_294c1 0 = .ok (.dload_n 0, 1) := by decide +kernel
theorem dJ9_abs_294c1_1 : decode cJ9_abs_294c1 1 = .ok (.invokestatic 79, 3) := by decide +kernel
theorem dJ9_abs_294c1_4 : decode cJ9_abs_294c1 4 = .ok (.ldc2_w 135, 3) := by decide +kernel
theorem dJ9_abs_294c1_7 : decode cJ9_abs_294c1 7 = .ok (.land, 1) := by decide +kernel
theorem dJ9_abs_294c1_8 : decode cJ9_abs_294c1 8 = .ok (.invokestatic 166, 3) := by decide +kernel
theorem dJ9_abs_294c1_11 : decode cJ9_abs_294c1 11 = .ok (.dreturn, 1) := by decide +kernel
theorem dJ9_min_eb370_0 : decode cJ9_min_eb370 0 = .ok (.dload_n 0, 1) := by decide +kernel
theorem dJ9_min_eb370_1 : decode cJ9_min_eb370 1 = .ok (.dload_n 0, 1) := by decide +kernel
theorem dJ9_min_eb370_2 : decode cJ9_min_eb370 2 = .ok (.dcmp .l, 1) := by decide +kernel
theorem dJ9_min_eb370_3 : decode cJ9_min_eb370 3 = .ok (.ifCond .eq 5, 3) := by decide +kernel
theorem dJ9_min_eb370_6 : decode cJ9_min_eb370 6 = .ok (.dload_n 0, 1) := by decide +kernel
theorem dJ9_min_eb370_7 : decode cJ9_min_eb370 7 = .ok (.dreturn, 1) := by decide +kernel
theorem dJ9_min_eb370_8 : decode cJ9_min_eb370 8 = .ok (.dload_n 0, 1) := by decide +kernel
theorem dJ9_min_eb370_9 : decode cJ9_min_eb370 9 = .ok (.dconst 0, 1) := by decide +kernel
theorem dJ9_min_eb370_10 : decode cJ9_min_eb370 10 = .ok (.dcmp .l, 1) := by decide +kernel
theorem dJ9_min_eb370_11 : decode cJ9_min_eb370 11 = .ok (.ifCond .ne 22, 3) := by decide +kernel
theorem dJ9_min_eb370_14 : decode cJ9_min_eb370 14 = .ok (.dload_n 2, 1) := by decide +kernel
theorem dJ9_min_eb370_15 : decode cJ9_min_eb370 15 = .ok (.dconst 0, 1) := by decide +kernel
theorem dJ9_min_eb370_16 : decode cJ9_min_eb370 16 = .ok (.dcmp .l, 1) := by decide +kernel
theorem dJ9_min_eb370_17 : decode cJ9_min_eb370 17 = .ok (.ifCond .ne 16, 3) := by decide +kernel
theorem dJ9_min_eb370_20 : decode cJ9_min_eb370 20 = .ok (.dload_n 2, 1) := by decide +kernel
theorem dJ9_min_eb370_21 : decode cJ9_min_eb370 21 = .ok (.invokestatic 79, 3) := by decide +kernel
theorem dJ9_min_eb370_24 : decode cJ9_min_eb370 24 = .ok (.getstatic 174, 3) := by decide +kernel
theorem dJ9_min_eb370_27 : decode cJ9_min_eb370 27 = .ok (.lcmp, 1) := by decide +kernel
theorem dJ9_min_eb370_28 : decode cJ9_min_eb370 28 = .ok (.ifCond .ne 5, 3) := by decide +kernel
theorem dJ9_min_eb370_31 : decode cJ9_min_eb370 31 = .ok (.dload_n 2, 1) := by decide +kernel
theorem dJ9_min_eb370_32 : decode cJ9_min_eb370 32 = .ok (.dreturn, 1) := by decide +kernel
theorem dJ9_min_eb370_33 : decode cJ9_min_eb370 33 = .ok (.dload_n 0, 1) := by decide +kernel
theorem dJ9_min_eb370_34 : decode cJ9_min_eb370 34 = .ok (.dload_n 2, 1) := by decide +kernel
theorem dJ9_min_eb370_35 : decode cJ9_min_eb370 35 = .ok (.dcmp .g, 1) := by decide +kernel
theorem dJ9_min_eb370_36 : decode cJ9_min_eb370 36 = .ok (.ifCond .gt 7, 3) := by decide +kernel
theorem dJ9_min_eb370_39 : decode cJ9_min_eb370 39 = .ok (.dload_n 0, 1) := by decide +kernel
theorem dJ9_min_eb370_40 : decode cJ9_min_eb370 40 = .ok (.goto 4, 3) := by decide +kernel
theorem dJ9_min_eb370_43 : decode cJ9_min_eb370 43 = .ok (.dload_n 2, 1) := by decide +kernel
theorem dJ9_min_eb370_44 : decode cJ9_min_eb370 44 = .ok (.dreturn, 1) := by decide +kernel
set_option maxRecDepth 20000 in
theorem ggL_addPoint_X6_addPoint : GoodIn wsL_addPoint wsX6_addPoint := goodIn_ca (goodIn_ca (goodIn_r _ [7, 8, 9, 10, 11, 12, 13, 14, 15, 16, 17, 18, 6, 19, 20, 21, 22, 23, 24, 25, 26, 27, 28, 29, 30, 31, 32, 33, 34, 35, 36, 37, 38, 39, 40, 41, 42, 43, 44, 45, 46, 47, 48, 49, 50, 51, 52, 53, 54, 55, 56, 57, 58, 59, 60, 61, 62, 63, 64, 65] (by decide +kernel) (by decide +kernel)) (goodIn_sub (fun _ h => List.mem_cons_of_mem _ (List.mem_append_left _ (List.mem_append_right _ h))) (by decide +kernel))) (goodIn_sub (fun _ h => List.mem_cons_of_mem _ (List.mem_append_right _ h)) (by decide +kernel))
set_option maxRecDepth 20000 in
theorem gL_addPoint_X6_addPoint : GoodIn wsL_addPoint (wsV RL 7 RX6 yX6_addPoint wsX6_addPoint) := goodIn_app (goodIn_of _ (by decide +kernel)) ggL_addPoint_X6_addPoint
theorem dL_addPoint_0 : decode cL_addPoint 0 = .ok (.aload 7, 2) := by decide +kernel
theorem dL_addPoint_2 : decode cL_addPoint 2 = .ok (.iconst 0, 1) := by decide +kernel
theorem dL_addPoint_3 : decode cL_addPoint 3 = .ok (.aload_n 0, 1) := by decide +kernel
theorem dL_addPoint_4 : decode cL_addPoint 4 = .ok (.dload_n 1, 1) := by decide +kernel
theorem dL_addPoint_5 : decode cL_addPoint 5 = .ok (.dload_n 3, 1) := by decide +kernel
theorem dL_addPoint_6 : decode cL_addPoint 6 = .ok (.dload 5, 2) := by decide +kernel
theorem dL_addPoint_8 : decode cL_addPoint 8 = .ok (.invokevirtual 7, 3) := by decide +kernel
theorem dL_addPoint_11 : decode cL_addPoint 11 = .ok (.i2l, 1) := by decide +kernel
theorem dL_addPoint_12 : decode cL_addPoint 12 = .ok (.lastore, 1) := by decide +kernel
theorem dL_addPoint_13 : decode cL_addPoint 13 = .ok (.goto 11, 3) := by decide +kernel
theorem dL_addPoint_16 : decode cL_addPoint 16 = .ok (.astore 8, 2) := by decide +kernel
theorem dL_addPoint_18 : decode cL_addPoint 18 = .ok (.iconst 1, 1) := by decide +kernel
theorem dL_addPoint_19 : decode cL_addPoint 19 = .ok (.ireturn, 1) := by decide +kernel
theorem dL_addPoint_20 : decode cL_addPoint 20 = .ok (.astore 8, 2) := by decide +kernel
theorem dL_addPoint_22 : decode cL_addPoint 22 = .ok (.iconst 2, 1) := by decide +kernel
theorem dL_addPoint_23 : decode cL_addPoint 23 = .ok (.ireturn, 1) := by decide +kernel
theorem dL_addPoint_24 : decode cL_addPoint 24 = .ok (.iconst 0, 1) := by decide +kernel
theorem dL_addPoint_25 : decode cL_addPoint 25 = .ok (.ireturn, 1) := by decide +kernel
set_option maxRecDepth 20000 in
theorem ggL_removePoint_X6_removePoint : GoodIn wsL_removePoint wsX6_removePoint := goodIn_ca (goodIn_r _ [6, 7, 8, 9, 10, 5, 11, 12, 13, 14, 15, 16, 17, 18, 19, 20, 21, 22, 23, 24, 25, 26, 27, 28, 29, 30, 31, 32, 33, 34, 35, 36, 37, 38, 39] (by decide +kernel) (by decide +kernel)) (goodIn_sub (fun _ h => List.mem_cons_of_mem _ (List.mem_append_right _ h)) (by decide +kernel))
set_option maxRecDepth 20000 in
theorem gL_removePoint_X6_removePoint : GoodIn wsL_removePoint (wsV RL 17 RX6 yX6_removePoint wsX6_removePoint) := goodIn_app (goodIn_of _ (by decide +kernel)) ggL_removePoint_X6_removePoint
theorem dL_removePoint_0 : decode cL_removePoint 0 = .ok (.aload_n 2, 1) := by decide +kernel
theorem dL_removePoint_1 : decode cL_removePoint 1 = .ok (.iconst 0, 1) := by decide +kernel
theorem dL_removePoint_2 : decode cL_removePoint 2 = .ok (.aload_n 0, 1) := by decide +kernel
theorem dL_removePoint_3 : decode cL_removePoint 3 = .ok (.iload_n 1, 1) := by decide +kernel
theorem dL_removePoint_4 : decode cL_removePoint 4 = .ok (.invokevirtual 17, 3) := by decide +kernel
theorem dL_removePoint_7 : decode cL_removePoint 7 = .ok (.i2l, 1) := by decide +kernel
theorem dL_removePoint_8 : decode cL_removePoint 8 = .ok (.lastore, 1) := by decide +kernel
theorem dL_removePoint_9 : decode cL_removePoint 9 = .ok (.goto 6, 3) := by decide +kernel
theorem dL_removePoint_12 : decode cL_removePoint 12 = .ok (.astore_n 3, 1) := by decide +kernel
theorem dL_removePoint_13 : decode cL_removePoint 13 = .ok (.iconst 1, 1) := by decide +kernel
theorem dL_removePoint_14 : decode cL_removePoint 14 = .ok (.ireturn, 1) := by decide +kernel
theorem dL_removePoint_15 : decode cL_removePoint 15 = .ok (.iconst 0, 1) := by decide +kernel
theorem dL_removePoint_16 : decode cL_removePoint 16 = .ok (.ireturn, 1) := by decide +kernel
set_option maxRecDepth 20000 in
theorem ggL_pointPlace_X6_pointPlace : GoodIn wsL_pointPlace wsX6_pointPlace := goodIn_ca (goodIn_r _ [6, 7, 8, 9, 10, 5, 11, 12, 13, 14, 15, 16, 17, 18, 19, 20, 21, 22, 23, 24, 25, 26, 27, 28, 29, 30] (by decide +kernel) (by decide +kernel)) (goodIn_sub (fun _ h => List.mem_cons_of_mem _ (List.mem_append_right _ h)) (by decide +kernel))
set_option maxRecDepth 20000 in
theorem gL_pointPlace_X6_pointPlace : GoodIn wsL_pointPlace (wsV RL 23 RX6 yX6_pointPlace wsX6_pointPlace) := goodIn_app (goodIn_of _ (by decide +kernel)) ggL_pointPlace_X6_pointPlace
theorem dL_pointPlace_0 : decode cL_pointPlace 0 = .ok (.aload_n 2, 1) := by decide +kernel
theorem dL_pointPlace_1 : decode cL_pointPlace 1 = .ok (.iconst 0, 1) := by decide +kernel
theorem dL_pointPlace_2 : decode cL_pointPlace 2 = .ok (.aload_n 0, 1) := by decide +kernel
theorem dL_pointPlace_3 : decode cL_pointPlace 3 = .ok (.iload_n 1, 1) := by decide +kernel
theorem dL_pointPlace_4 : decode cL_pointPlace 4 = .ok (.invokevirtual 23, 3) := by decide +kernel
theorem dL_pointPlace_7 : decode cL_pointPlace 7 = .ok (.dastore, 1) := by decide +kernel
theorem dL_pointPlace_8 : decode cL_pointPlace 8 = .ok (.goto 6, 3) := by decide +kernel
theorem dL_pointPlace_11 : decode cL_pointPlace 11 = .ok (.astore_n 3, 1) := by decide +kernel
theorem dL_pointPlace_12 : decode cL_pointPlace 12 = .ok (.iconst 1, 1) := by decide +kernel
theorem dL_pointPlace_13 : decode cL_pointPlace 13 = .ok (.ireturn, 1) := by decide +kernel
theorem dL_pointPlace_14 : decode cL_pointPlace 14 = .ok (.iconst 0, 1) := by decide +kernel
theorem dL_pointPlace_15 : decode cL_pointPlace 15 = .ok (.ireturn, 1) := by decide +kernel
set_option maxRecDepth 20000 in
theorem ggL_fit_X6_fit : GoodIn wsL_fit wsX6_fit := goodIn_ca (goodIn_r _ [6, 7, 8, 9, 10, 11, 12, 13, 14, 15, 16, 17, 18, 19, 20, 21, 22, 23, 24, 25, 26, 27, 28, 29, 30, 31, 32, 33, 34, 35, 36, 37, 38, 39, 40, 5, 41, 42, 43, 44, 45, 46, 47, 48, 49, 50, 51, 52, 53, 54, 55, 56, 57, 58, 59, 60, 61, 62, 63, 64, 65, 66, 67, 68, 69, 70, 71, 72, 73, 74, 75, 76, 77, 78, 79, 80, 81, 82, 83, 84, 85, 86, 87, 88, 89, 90, 91, 92] (by decide +kernel) (by decide +kernel)) (goodIn_sub (fun _ h => List.mem_cons_of_mem _ (List.mem_append_right _ h)) (by decide +kernel))
set_option maxRecDepth 20000 in
theorem gL_fit_X6_fit : GoodIn wsL_fit (wsV RL 27 RX6 yX6_fit wsX6_fit) := goodIn_app (goodIn_of _ (by decide +kernel)) ggL_fit_X6_fit
theorem dL_fit_0 : decode cL_fit 0 = .ok (.aload_n 1, 1) := by decide +kernel
theorem dL_fit_1 : decode cL_fit 1 = .ok (.iconst 0, 1) := by decide +kernel
theorem dL_fit_2 : decode cL_fit 2 = .ok (.aload_n 0, 1) := by decide +kernel
theorem dL_fit_3 : decode cL_fit 3 = .ok (.invokevirtual 27, 3) := by decide +kernel
theorem dL_fit_6 : decode cL_fit 6 = .ok (.i2l, 1) := by decide +kernel
theorem dL_fit_7 : decode cL_fit 7 = .ok (.lastore, 1) := by decide +kernel
theorem dL_fit_8 : decode cL_fit 8 = .ok (.goto 6, 3) := by decide +kernel
theorem dL_fit_11 : decode cL_fit 11 = .ok (.astore_n 2, 1) := by decide +kernel
theorem dL_fit_12 : decode cL_fit 12 = .ok (.iconst 1, 1) := by decide +kernel
theorem dL_fit_13 : decode cL_fit 13 = .ok (.ireturn, 1) := by decide +kernel
theorem dL_fit_14 : decode cL_fit 14 = .ok (.iconst 0, 1) := by decide +kernel
theorem dL_fit_15 : decode cL_fit 15 = .ok (.ireturn, 1) := by decide +kernel
set_option maxRecDepth 20000 in
theorem ggL_knotPlace_X6_knotPlace : GoodIn wsL_knotPlace wsX6_knotPlace := goodIn_ca (goodIn_r _ [6, 7, 8, 9, 10, 5, 11, 12, 13, 14, 15, 16, 17, 18, 19, 20, 21, 22, 23, 24, 25, 26, 27, 28, 29, 30] (by decide +kernel) (by decide +kernel)) (goodIn_sub (fun _ h => List.mem_cons_of_mem _ (List.mem_append_right _ h)) (by decide +kernel))
set_option maxRecDepth 20000 in
theorem gL_knotPlace_X6_knotPlace : GoodIn wsL_knotPlace (wsV RL 31 RX6 yX6_knotPlace wsX6_knotPlace) := goodIn_app (goodIn_of _ (by decide +kernel)) ggL_knotPlace_X6_knotPlace
theorem dL_knotPlace_0 : decode cL_knotPlace 0 = .ok (.aload_n 2, 1) := by decide +kernel
theorem dL_knotPlace_1 : decode cL_knotPlace 1 = .ok (.iconst 0, 1) := by decide +kernel
theorem dL_knotPlace_2 : decode cL_knotPlace 2 = .ok (.aload_n 0, 1) := by decide +kernel
theorem dL_knotPlace_3 : decode cL_knotPlace 3 = .ok (.iload_n 1, 1) := by decide +kernel
theorem dL_knotPlace_4 : decode cL_knotPlace 4 = .ok (.invokevirtual 31, 3) := by decide +kernel
theorem dL_knotPlace_7 : decode cL_knotPlace 7 = .ok (.dastore, 1) := by decide +kernel
theorem dL_knotPlace_8 : decode cL_knotPlace 8 = .ok (.goto 6, 3) := by decide +kernel
theorem dL_knotPlace_11 : decode cL_knotPlace 11 = .ok (.astore_n 3, 1) := by decide +kernel
theorem dL_knotPlace_12 : decode cL_knotPlace 12 = .ok (.iconst 1, 1) := by decide +kernel
theorem dL_knotPlace_13 : decode cL_knotPlace 13 = .ok (.ireturn, 1) := by decide +kernel
theorem dL_knotPlace_14 : decode cL_knotPlace 14 = .ok (.iconst 0, 1) := by decide +kernel
theorem dL_knotPlace_15 : decode cL_knotPlace 15 = .ok (.ireturn, 1) := by decide +kernel
set_option maxRecDepth 20000 in
theorem ggL_knotValue_X6_knotValue : GoodIn wsL_knotValue wsX6_knotValue := goodIn_ca (goodIn_r _ [6, 7, 8, 9, 10, 5, 11, 12, 13, 14, 15, 16, 17, 18, 19, 20, 21, 22, 23, 24, 25, 26, 27, 28, 29, 30] (by decide +kernel) (by decide +kernel)) (goodIn_sub (fun _ h => List.mem_cons_of_mem _ (List.mem_append_right _ h)) (by decide +kernel))
set_option maxRecDepth 20000 in
theorem gL_knotValue_X6_knotValue : GoodIn wsL_knotValue (wsV RL 34 RX6 yX6_knotValue wsX6_knotValue) := goodIn_app (goodIn_of _ (by decide +kernel)) ggL_knotValue_X6_knotValue
theorem dL_knotValue_0 : decode cL_knotValue 0 = .ok (.aload_n 2, 1) := by decide +kernel
theorem dL_knotValue_1 : decode cL_knotValue 1 = .ok (.iconst 0, 1) := by decide +kernel
theorem dL_knotValue_2 : decode cL_knotValue 2 = .ok (.aload_n 0, 1) := by decide +kernel
theorem dL_knotValue_3 : decode cL_knotValue 3 = .ok (.iload_n 1, 1) := by decide +kernel
theorem dL_knotValue_4 : decode cL_knotValue 4 = .ok (.invokevirtual 34, 3) := by decide +kernel
theorem dL_knotValue_7 : decode cL_knotValue 7 = .ok (.dastore, 1) := by decide +kernel
theorem dL_knotValue_8 : decode cL_knotValue 8 = .ok (.goto 6, 3) := by decide +kernel
theorem dL_knotValue_11 : decode cL_knotValue 11 = .ok (.astore_n 3, 1) := by decide +kernel
theorem dL_knotValue_12 : decode cL_knotValue 12 = .ok (.iconst 1, 1) := by decide +kernel
theorem dL_knotValue_13 : decode cL_knotValue 13 = .ok (.ireturn, 1) := by decide +kernel
theorem dL_knotValue_14 : decode cL_knotValue 14 = .ok (.iconst 0, 1) := by decide +kernel
theorem dL_knotValue_15 : decode cL_knotValue 15 = .ok (.ireturn, 1) := by decide +kernel
set_option maxRecDepth 20000 in
theorem ggL_knotSlope_X6_knotSlope : GoodIn wsL_knotSlope wsX6_knotSlope := goodIn_ca (goodIn_r _ [6, 7, 8, 9, 10, 5, 11, 12, 13, 14, 15, 16, 17, 18, 19, 20, 21, 22, 23, 24, 25, 26, 27, 28, 29, 30, 31, 32, 33, 34, 35, 36, 37, 38, 39, 40, 41, 42, 43, 44, 45, 46, 47, 48, 49, 50, 51, 52, 53, 54, 55, 56, 57, 58, 59] (by decide +kernel) (by decide +kernel)) (goodIn_sub (fun _ h => List.mem_cons_of_mem _ (List.mem_append_right _ h)) (by decide +kernel))
set_option maxRecDepth 20000 in
theorem gL_knotSlope_X6_knotSlope : GoodIn wsL_knotSlope (wsV RL 37 RX6 yX6_knotSlope wsX6_knotSlope) := goodIn_app (goodIn_of _ (by decide +kernel)) ggL_knotSlope_X6_knotSlope
theorem dL_knotSlope_0 : decode cL_knotSlope 0 = .ok (.aload_n 2, 1) := by decide +kernel
theorem dL_knotSlope_1 : decode cL_knotSlope 1 = .ok (.iconst 0, 1) := by decide +kernel
theorem dL_knotSlope_2 : decode cL_knotSlope 2 = .ok (.aload_n 0, 1) := by decide +kernel
theorem dL_knotSlope_3 : decode cL_knotSlope 3 = .ok (.iload_n 1, 1) := by decide +kernel
theorem dL_knotSlope_4 : decode cL_knotSlope 4 = .ok (.invokevirtual 37, 3) := by decide +kernel
theorem dL_knotSlope_7 : decode cL_knotSlope 7 = .ok (.dastore, 1) := by decide +kernel
theorem dL_knotSlope_8 : decode cL_knotSlope 8 = .ok (.goto 6, 3) := by decide +kernel
theorem dL_knotSlope_11 : decode cL_knotSlope 11 = .ok (.astore_n 3, 1) := by decide +kernel
theorem dL_knotSlope_12 : decode cL_knotSlope 12 = .ok (.iconst 1, 1) := by decide +kernel
theorem dL_knotSlope_13 : decode cL_knotSlope 13 = .ok (.ireturn, 1) := by decide +kernel
theorem dL_knotSlope_14 : decode cL_knotSlope 14 = .ok (.iconst 0, 1) := by decide +kernel
theorem dL_knotSlope_15 : decode cL_knotSlope 15 = .ok (.ireturn, 1) := by decide +kernel
set_option maxRecDepth 20000 in
theorem ggL_isFixed_X6_isFixed : GoodIn wsL_isFixed wsX6_isFixed := goodIn_ca (goodIn_r _ [6, 7, 8, 9, 10, 5, 11, 12, 13, 14, 15, 16, 17, 18, 19, 20, 21, 22, 23, 24, 25, 26, 27, 28, 29, 30, 31, 32, 33, 34, 35, 36] (by decide +kernel) (by decide +kernel)) (goodIn_sub (fun _ h => List.mem_cons_of_mem _ (List.mem_append_right _ h)) (by decide +kernel))
set_option maxRecDepth 20000 in
theorem gL_isFixed_X6_isFixed : GoodIn wsL_isFixed (wsV RL 40 RX6 yX6_isFixed wsX6_isFixed) := goodIn_app (goodIn_of _ (by decide +kernel)) ggL_isFixed_X6_isFixed
theorem dL_isFixed_0 : decode cL_isFixed 0 = .ok (.aload_n 2, 1) := by decide +kernel
theorem dL_isFixed_1 : decode cL_isFixed 1 = .ok (.iconst 0, 1) := by decide +kernel
theorem dL_isFixed_2 : decode cL_isFixed 2 = .ok (.aload_n 0, 1) := by decide +kernel
theorem dL_isFixed_3 : decode cL_isFixed 3 = .ok (.iload_n 1, 1) := by decide +kernel
theorem dL_isFixed_4 : decode cL_isFixed 4 = .ok (.invokevirtual 40, 3) := by decide +kernel
theorem dL_isFixed_7 : decode cL_isFixed 7 = .ok (.ifCond .eq 7, 3) := by decide +kernel
theorem dL_isFixed_10 : decode cL_isFixed 10 = .ok (.lconst 1, 1) := by decide +kernel
theorem dL_isFixed_11 : decode cL_isFixed 11 = .ok (.goto 4, 3) := by decide +kernel
theorem dL_isFixed_14 : decode cL_isFixed 14 = .ok (.lconst 0, 1) := by decide +kernel
theorem dL_isFixed_15 : decode cL_isFixed 15 = .ok (.lastore, 1) := by decide +kernel
theorem dL_isFixed_16 : decode cL_isFixed 16 = .ok (.goto 6, 3) := by decide +kernel
theorem dL_isFixed_19 : decode cL_isFixed 19 = .ok (.astore_n 3, 1) := by decide +kernel
theorem dL_isFixed_20 : decode cL_isFixed 20 = .ok (.iconst 1, 1) := by decide +kernel
theorem dL_isFixed_21 : decode cL_isFixed 21 = .ok (.ireturn, 1) := by decide +kernel
theorem dL_isFixed_22 : decode cL_isFixed 22 = .ok (.iconst 0, 1) := by decide +kernel
theorem dL_isFixed_23 : decode cL_isFixed 23 = .ok (.ireturn, 1) := by decide +kernel
set_option maxRecDepth 20000 in
theorem ggL_insertKnot_X6_insertKnot : GoodIn wsL_insertKnot wsX6_insertKnot := goodIn_ca (goodIn_ca (goodIn_r _ [7, 8, 9, 10, 11, 12, 13, 14, 15, 16, 6, 17, 18, 19, 20, 21, 22, 23, 24, 25, 26, 27, 28, 29, 30, 31, 32, 33, 34, 35, 36, 37, 38, 39, 40, 41, 42, 43, 44, 45, 46, 47, 48, 49, 50, 51, 52, 53, 54, 55, 56, 57, 58, 59, 60, 61, 62, 63, 64, 65, 66, 67, 68, 69, 70, 71, 72, 73, 74, 75, 76, 77, 78, 79, 80, 81, 82, 83, 84, 85, 86, 87, 88, 89, 90, 91, 92, 93, 94, 95, 96, 97, 98, 99, 100, 101, 102, 103, 104, 105, 106, 107, 108, 109, 110, 111, 112, 113, 114, 115, 116, 117, 118, 119, 120, 121, 122, 123, 124, 125, 126] (by decide +kernel) (by decide +kernel)) (goodIn_sub (fun _ h => List.mem_cons_of_mem _ (List.mem_append_left _ (List.mem_append_right _ h))) (by decide +kernel))) (goodIn_sub (fun _ h => List.mem_cons_of_mem _ (List.mem_append_right _ h)) (by decide +kernel))
set_option maxRecDepth 20000 in
theorem gL_insertKnot_X6_insertKnot : GoodIn wsL_insertKnot (wsV RL 44 RX6 yX6_insertKnot wsX6_insertKnot) := goodIn_app (goodIn_of _ (by decide +kernel)) ggL_insertKnot_X6_insertKnot
theorem dL_insertKnot_0 : decode cL_insertKnot 0 = .ok (.aload_n 3, 1) := by decide +kernel
theorem dL_insertKnot_1 : decode cL_insertKnot 1 = .ok (.iconst 0, 1) := by decide +kernel
theorem dL_insertKnot_2 : decode cL_insertKnot 2 = .ok (.aload_n 0, 1) := by decide +kernel
theorem dL_insertKnot_3 : decode cL_insertKnot 3 = .ok (.dload_n 1, 1) := by decide +kernel
theorem dL_insertKnot_4 : decode cL_insertKnot 4 = .ok (.invokevirtual 44, 3) := by decide +kernel
theorem dL_insertKnot_7 : decode cL_insertKnot 7 = .ok (.i2l, 1) := by decide +kernel
theorem dL_insertKnot_8 : decode cL_insertKnot 8 = .ok (.lastore, 1) := by decide +kernel
theorem dL_insertKnot_9 : decode cL_insertKnot 9 = .ok (.goto 11, 3) := by decide +kernel
theorem dL_insertKnot_12 : decode cL_insertKnot 12 = .ok (.astore 4, 2) := by decide +kernel
theorem dL_insertKnot_14 : decode cL_insertKnot 14 = .ok (.iconst 1, 1) := by decide +kernel
theorem dL_insertKnot_15 : decode cL_insertKnot 15 = .ok (.ireturn, 1) := by decide +kernel
theorem dL_insertKnot_16 : decode cL_insertKnot 16 = .ok (.astore 4, 2) := by decide +kernel
theorem dL_insertKnot_18 : decode cL_insertKnot 18 = .ok (.iconst 2, 1) := by decide +kernel
theorem dL_insertKnot_19 : decode cL_insertKnot 19 = .ok (.ireturn, 1) := by decide +kernel
theorem dL_insertKnot_20 : decode cL_insertKnot 20 = .ok (.iconst 0, 1) := by decide +kernel
theorem dL_insertKnot_21 : decode cL_insertKnot 21 = .ok (.ireturn, 1) := by decide +kernel
set_option maxRecDepth 20000 in
theorem ggL_removeKnot_X6_removeKnot : GoodIn wsL_removeKnot wsX6_removeKnot := goodIn_ca (goodIn_ca (goodIn_r _ [7, 8, 9, 10, 11, 12, 13, 6, 14, 15, 16, 17, 18, 19, 20, 21, 22, 23, 24, 25, 26, 27, 28, 29, 30, 31, 32, 33, 34, 35, 36, 37, 38, 39, 40, 41, 42] (by decide +kernel) (by decide +kernel)) (goodIn_sub (fun _ h => List.mem_cons_of_mem _ (List.mem_append_left _ (List.mem_append_right _ h))) (by decide +kernel))) (goodIn_sub (fun _ h => List.mem_cons_of_mem _ (List.mem_append_right _ h)) (by decide +kernel))
set_option maxRecDepth 20000 in
theorem gL_removeKnot_X6_removeKnot : GoodIn wsL_removeKnot (wsV RL 48 RX6 yX6_removeKnot wsX6_removeKnot) := goodIn_app (goodIn_of _ (by decide +kernel)) ggL_removeKnot_X6_removeKnot
theorem dL_removeKnot_0 : decode cL_removeKnot 0 = .ok (.aload_n 2, 1) := by decide +kernel
theorem dL_removeKnot_1 : decode cL_removeKnot 1 = .ok (.iconst 0, 1) := by decide +kernel
theorem dL_removeKnot_2 : decode cL_removeKnot 2 = .ok (.aload_n 0, 1) := by decide +kernel
theorem dL_removeKnot_3 : decode cL_removeKnot 3 = .ok (.iload_n 1, 1) := by decide +kernel
theorem dL_removeKnot_4 : decode cL_removeKnot 4 = .ok (.invokevirtual 48, 3) := by decide +kernel
theorem dL_removeKnot_7 : decode cL_removeKnot 7 = .ok (.i2l, 1) := by decide +kernel
theorem dL_removeKnot_8 : decode cL_removeKnot 8 = .ok (.lastore, 1) := by decide +kernel
theorem dL_removeKnot_9 : decode cL_removeKnot 9 = .ok (.goto 9, 3) := by decide +kernel
theorem dL_removeKnot_12 : decode cL_removeKnot 12 = .ok (.astore_n 3, 1) := by decide +kernel
theorem dL_removeKnot_13 : decode cL_removeKnot 13 = .ok (.iconst 1, 1) := by decide +kernel
theorem dL_removeKnot_14 : decode cL_removeKnot 14 = .ok (.ireturn, 1) := by decide +kernel
theorem dL_removeKnot_15 : decode cL_removeKnot 15 = .ok (.astore_n 3, 1) := by decide +kernel
theorem dL_removeKnot_16 : decode cL_removeKnot 16 = .ok (.iconst 2, 1) := by decide +kernel
theorem dL_removeKnot_17 : decode cL_removeKnot 17 = .ok (.ireturn, 1) := by decide +kernel
theorem dL_removeKnot_18 : decode cL_removeKnot 18 = .ok (.iconst 0, 1) := by decide +kernel
theorem dL_removeKnot_19 : decode cL_removeKnot 19 = .ok (.ireturn, 1) := by decide +kernel
set_option maxRecDepth 20000 in
theorem ggL_setKnotValue_X6_setKnotValue : GoodIn wsL_setKnotValue wsX6_setKnotValue := goodIn_ca (goodIn_ca (goodIn_r _ [7, 8, 9, 10, 11, 12, 13, 14, 15, 6, 16, 17, 18, 19, 20, 21, 22, 23, 24, 25, 26, 27, 28, 29, 30, 31, 32, 33, 34, 35, 36, 37, 38, 39, 40, 41, 42, 43, 44, 45, 46, 47, 48, 49] (by decide +kernel) (by decide +kernel)) (goodIn_sub (fun _ h => List.mem_cons_of_mem _ (List.mem_append_left _ (List.mem_append_right _ h))) (by decide +kernel))) (goodIn_sub (fun _ h => List.mem_cons_of_mem _ (List.mem_append_right _ h)) (by decide +kernel))
set_option maxRecDepth 20000 in
theorem gL_setKnotValue_X6_setKnotValue : GoodIn wsL_setKnotValue (wsV RL 51 RX6 yX6_setKnotValue wsX6_setKnotValue) := goodIn_app (goodIn_of _ (by decide +kernel)) ggL_setKnotValue_X6_setKnotValue
theorem dL_setKnotValue_0 : decode cL_setKnotValue 0 = .ok (.aload 4, 2) := by decide +kernel
theorem dL_setKnotValue_2 : decode cL_setKnotValue 2 = .ok (.iconst 0, 1) := by decide +kernel
theorem dL_setKnotValue_3 : decode cL_setKnotValue 3 = .ok (.aload_n 0, 1) := by decide +kernel
theorem dL_setKnotValue_4 : decode cL_setKnotValue 4 = .ok (.iload_n 1, 1) := by decide +kernel
theorem dL_setKnotValue_5 : decode cL_setKnotValue 5 = .ok (.dload_n 2, 1) := by decide +kernel
theorem dL_setKnotValue_6 : decode cL_setKnotValue 6 = .ok (.invokevirtual 51, 3) := by decide +kernel
theorem dL_setKnotValue_9 : decode cL_setKnotValue 9 = .ok (.dastore, 1) := by decide +kernel
theorem dL_setKnotValue_10 : decode cL_setKnotValue 10 = .ok (.goto 11, 3) := by decide +kernel
theorem dL_setKnotValue_13 : decode cL_setKnotValue 13 = .ok (.astore 5, 2) := by decide +kernel
theorem dL_setKnotValue_15 : decode cL_setKnotValue 15 = .ok (.iconst 1, 1) := by decide +kernel
theorem dL_setKnotValue_16 : decode cL_setKnotValue 16 = .ok (.ireturn, 1) := by decide +kernel
theorem dL_setKnotValue_17 : decode cL_setKnotValue 17 = .ok (.astore 5, 2) := by decide +kernel
theorem dL_setKnotValue_19 : decode cL_setKnotValue 19 = .ok (.iconst 2, 1) := by decide +kernel
theorem dL_setKnotValue_20 : decode cL_setKnotValue 20 = .ok (.ireturn, 1) := by decide +kernel
theorem dL_setKnotValue_21 : decode cL_setKnotValue 21 = .ok (.iconst 0, 1) := by decide +kernel
theorem dL_setKnotValue_22 : decode cL_setKnotValue 22 = .ok (.ireturn, 1) := by decide +kernel
set_option maxRecDepth 20000 in
theorem ggL_fixSlope_X6_fixSlope : GoodIn wsL_fixSlope wsX6_fixSlope := goodIn_ca (goodIn_ca (goodIn_r _ [7, 8, 9, 10, 11, 12, 13, 14, 6, 15, 16, 17, 18, 19, 20, 21, 22, 23, 24, 25, 26, 27, 28, 29, 30, 31, 32, 33, 34, 35, 36, 37, 38, 39, 40, 41, 42, 43, 44, 45, 46, 47, 48, 49, 50, 51, 52, 53, 54, 55, 56, 57, 58, 59, 60, 61, 62, 63, 64, 65, 66, 67, 68, 69, 70, 71, 72, 73, 74, 75, 76, 77] (by decide +kernel) (by decide +kernel)) (goodIn_sub (fun _ h => List.mem_cons_of_mem _ (List.mem_append_left _ (List.mem_append_right _ h))) (by decide +kernel))) (goodIn_sub (fun _ h => List.mem_cons_of_mem _ (List.mem_append_right _ h)) (by decide +kernel))
set_option maxRecDepth 20000 in
theorem gL_fixSlope_X6_fixSlope : GoodIn wsL_fixSlope (wsV RL 55 RX6 yX6_fixSlope wsX6_fixSlope) := goodIn_app (goodIn_of _ (by decide +kernel)) ggL_fixSlope_X6_fixSlope
theorem dL_fixSlope_0 : decode cL_fixSlope 0 = .ok (.aload 4, 2) := by decide +kernel
theorem dL_fixSlope_2 : decode cL_fixSlope 2 = .ok (.iconst 0, 1) := by decide +kernel
theorem dL_fixSlope_3 : decode cL_fixSlope 3 = .ok (.aload_n 0, 1) := by decide +kernel
theorem dL_fixSlope_4 : decode cL_fixSlope 4 = .ok (.iload_n 1, 1) := by decide +kernel
theorem dL_fixSlope_5 : decode cL_fixSlope 5 = .ok (.dload_n 2, 1) := by decide +kernel
theorem dL_fixSlope_6 : decode cL_fixSlope 6 = .ok (.invokevirtual 55, 3) := by decide +kernel
theorem dL_fixSlope_9 : decode cL_fixSlope 9 = .ok (.dastore, 1) := by decide +kernel
theorem dL_fixSlope_10 : decode cL_fixSlope 10 = .ok (.goto 11, 3) := by decide +kernel
theorem dL_fixSlope_13 : decode cL_fixSlope 13 = .ok (.astore 5, 2) := by decide +kernel
theorem dL_fixSlope_15 : decode cL_fixSlope 15 = .ok (.iconst 1, 1) := by decide +kernel
theorem dL_fixSlope_16 : decode cL_fixSlope 16 = .ok (.ireturn, 1) := by decide +kernel
theorem dL_fixSlope_17 : decode cL_fixSlope 17 = .ok (.astore 5, 2) := by decide +kernel
theorem dL_fixSlope_19 : decode cL_fixSlope 19 = .ok (.iconst 2, 1) := by decide +kernel
theorem dL_fixSlope_20 : decode cL_fixSlope 20 = .ok (.ireturn, 1) := by decide +kernel
theorem dL_fixSlope_21 : decode cL_fixSlope 21 = .ok (.iconst 0, 1) := by decide +kernel
theorem dL_fixSlope_22 : decode cL_fixSlope 22 = .ok (.ireturn, 1) := by decide +kernel
set_option maxRecDepth 20000 in
theorem ggL_freeSlope_X6_freeSlope : GoodIn wsL_freeSlope wsX6_freeSlope := goodIn_ca (goodIn_r _ [6, 7, 8, 9, 10, 11, 5, 12, 13, 14, 15, 16, 17, 18, 19, 20, 21, 22, 23, 24, 25, 26, 27, 28, 29, 30, 31, 32, 33, 34, 35, 36, 37, 38, 39, 40, 41] (by decide +kernel) (by decide +kernel)) (goodIn_sub (fun _ h => List.mem_cons_of_mem _ (List.mem_append_right _ h)) (by decide +kernel))
set_option maxRecDepth 20000 in
theorem gL_freeSlope_X6_freeSlope : GoodIn wsL_freeSlope (wsV RL 58 RX6 yX6_freeSlope wsX6_freeSlope) := goodIn_app (goodIn_of _ (by decide +kernel)) ggL_freeSlope_X6_freeSlope
theorem dL_freeSlope_0 : decode cL_freeSlope 0 = .ok (.aload_n 2, 1) := by decide +kernel
theorem dL_freeSlope_1 : decode cL_freeSlope 1 = .ok (.iconst 0, 1) := by decide +kernel
theorem dL_freeSlope_2 : decode cL_freeSlope 2 = .ok (.aload_n 0, 1) := by decide +kernel
theorem dL_freeSlope_3 : decode cL_freeSlope 3 = .ok (.iload_n 1, 1) := by decide +kernel
theorem dL_freeSlope_4 : decode cL_freeSlope 4 = .ok (.invokevirtual 58, 3) := by decide +kernel
theorem dL_freeSlope_7 : decode cL_freeSlope 7 = .ok (.ifCond .eq 7, 3) := by decide +kernel
theorem dL_freeSlope_10 : decode cL_freeSlope 10 = .ok (.lconst 1, 1) := by decide +kernel
theorem dL_freeSlope_11 : decode cL_freeSlope 11 = .ok (.goto 4, 3) := by decide +kernel
theorem dL_freeSlope_14 : decode cL_freeSlope 14 = .ok (.lconst 0, 1) := by decide +kernel
theorem dL_freeSlope_15 : decode cL_freeSlope 15 = .ok (.lastore, 1) := by decide +kernel
theorem dL_freeSlope_16 : decode cL_freeSlope 16 = .ok (.goto 6, 3) := by decide +kernel
theorem dL_freeSlope_19 : decode cL_freeSlope 19 = .ok (.astore_n 3, 1) := by decide +kernel
theorem dL_freeSlope_20 : decode cL_freeSlope 20 = .ok (.iconst 1, 1) := by decide +kernel
theorem dL_freeSlope_21 : decode cL_freeSlope 21 = .ok (.ireturn, 1) := by decide +kernel
theorem dL_freeSlope_22 : decode cL_freeSlope 22 = .ok (.iconst 0, 1) := by decide +kernel
theorem dL_freeSlope_23 : decode cL_freeSlope 23 = .ok (.ireturn, 1) := by decide +kernel
set_option maxRecDepth 20000 in
theorem ggL_value_X6_value : GoodIn wsL_value wsX6_value := goodIn_ca (goodIn_r _ [6, 7, 8, 9, 10, 11, 5, 12, 13, 14, 15, 16, 17, 18, 19, 20, 21, 22, 23, 24, 25, 26, 27, 28, 29, 30, 31, 32, 33, 34, 35, 36, 37, 38, 39, 40, 41, 42, 43, 44, 45, 46, 47, 48, 49, 50, 51, 52, 53, 54, 55, 56, 57, 58, 59, 60, 61, 62, 63, 64, 65, 66, 67, 68, 69, 70, 71, 72, 73, 74, 75, 76, 77, 78, 79, 80, 81, 82, 83, 84, 85, 86, 87, 88, 89, 90, 91, 92, 93, 94, 95, 96, 97, 98, 99, 100, 101, 102] (by decide +kernel) (by decide +kernel)) (goodIn_sub (fun _ h => List.mem_cons_of_mem _ (List.mem_append_right _ h)) (by decide +kernel))
set_option maxRecDepth 20000 in
theorem gL_value_X6_value : GoodIn wsL_value (wsV RL 61 RX6 yX6_value wsX6_value) := goodIn_app (goodIn_of _ (by decide +kernel)) ggL_value_X6_value
theorem dL_value_0 : decode cL_value 0 = .ok (.aload_n 3, 1) := by decide +kernel
theorem dL_value_1 : decode cL_value 1 = .ok (.iconst 0, 1) := by decide +kernel
theorem dL_value_2 : decode cL_value 2 = .ok (.aload_n 0, 1) := by decide +kernel
theorem dL_value_3 : decode cL_value 3 = .ok (.dload_n 1, 1) := by decide +kernel
theorem dL_value_4 : decode cL_value 4 = .ok (.invokevirtual 61, 3) := by decide +kernel
theorem dL_value_7 : decode cL_value 7 = .ok (.dastore, 1) := by decide +kernel
theorem dL_value_8 : decode cL_value 8 = .ok (.goto 7, 3) := by decide +kernel
theorem dL_value_11 : decode cL_value 11 = .ok (.astore 4, 2) := by decide +kernel
theorem dL_value_13 : decode cL_value 13 = .ok (.iconst 1, 1) := by decide +kernel
theorem dL_value_14 : decode cL_value 14 = .ok (.ireturn, 1) := by decide +kernel
theorem dL_value_15 : decode cL_value 15 = .ok (.iconst 0, 1) := by decide +kernel
theorem dL_value_16 : decode cL_value 16 = .ok (.ireturn, 1) := by decide +kernel
set_option maxRecDepth 20000 in
theorem ggL_slope_X6_slope : GoodIn wsL_slope wsX6_slope := goodIn_ca (goodIn_r _ [6, 7, 8, 9, 10, 11, 5, 12, 13, 14, 15, 16, 17, 18, 19, 20, 21, 22, 23, 24, 25, 26, 27, 28, 29, 30, 31, 32, 33, 34, 35, 36, 37, 38, 39, 40, 41, 42, 43, 44, 45, 46, 47, 48, 49, 50, 51, 52, 53, 54, 55, 56, 57, 58, 59, 60, 61, 62, 63, 64, 65, 66, 67, 68, 69, 70, 71, 72, 73, 74, 75, 76, 77, 78, 79, 80, 81, 82, 83, 84, 85, 86, 87, 88, 89, 90, 91, 92, 93, 94, 95, 96, 97, 98, 99, 100, 101, 102] (by decide +kernel) (by decide +kernel)) (goodIn_sub (fun _ h => List.mem_cons_of_mem _ (List.mem_append_right _ h)) (by decide +kernel))
set_option maxRecDepth 20000 in
theorem gL_slope_X6_slope : GoodIn wsL_slope (wsV RL 65 RX6 yX6_slope wsX6_slope) := goodIn_app (goodIn_of _ (by decide +kernel)) ggL_slope_X6_slope
theorem dL_slope_0 : decode cL_slope 0 = .ok (.aload_n 3, 1) := by decide +kernel
theorem dL_slope_1 : decode cL_slope 1 = .ok (.iconst 0, 1) := by decide +kernel
theorem dL_slope_2 : decode cL_slope 2 = .ok (.aload_n 0, 1) := by decide +kernel
theorem dL_slope_3 : decode cL_slope 3 = .ok (.dload_n 1, 1) := by decide +kernel
theorem dL_slope_4 : decode cL_slope 4 = .ok (.invokevirtual 65, 3) := by decide +kernel
theorem dL_slope_7 : decode cL_slope 7 = .ok (.dastore, 1) := by decide +kernel
theorem dL_slope_8 : decode cL_slope 8 = .ok (.goto 7, 3) := by decide +kernel
theorem dL_slope_11 : decode cL_slope 11 = .ok (.astore 4, 2) := by decide +kernel
theorem dL_slope_13 : decode cL_slope 13 = .ok (.iconst 1, 1) := by decide +kernel
theorem dL_slope_14 : decode cL_slope 14 = .ok (.ireturn, 1) := by decide +kernel
theorem dL_slope_15 : decode cL_slope 15 = .ok (.iconst 0, 1) := by decide +kernel
theorem dL_slope_16 : decode cL_slope 16 = .ok (.ireturn, 1) := by decide +kernel
set_option maxRecDepth 20000 in
theorem ggL_area_X6_area : GoodIn wsL_area wsX6_area := goodIn_ca (goodIn_r _ [6, 7, 8, 9, 5, 10, 11, 12, 13, 14, 15, 16, 17, 18, 19, 20, 21, 22, 23, 24, 25, 26, 27, 28, 29, 30, 31, 32, 33, 34, 35, 36, 37, 38, 39, 40, 41, 42, 43, 44, 45, 46, 47, 48, 49, 50, 51, 52, 53, 54, 55, 56, 57, 58, 59, 60, 61, 62, 63, 64, 65, 66, 67, 68, 69, 70, 71, 72, 73, 74, 75, 76, 77, 78, 79, 80, 81, 82, 83, 84, 85, 86, 87, 88, 89, 90, 91, 92, 93, 94, 95, 96, 97, 98, 99, 100, 101, 102, 103, 104, 105, 106, 107] (by decide +kernel) (by decide +kernel)) (goodIn_sub (fun _ h => List.mem_cons_of_mem _ (List.mem_append_right _ h)) (by decide +kernel))
set_option maxRecDepth 20000 in
theorem gL_area_X6_area : GoodIn wsL_area (wsV RL 68 RX6 yX6_area wsX6_area) := goodIn_app (goodIn_of _ (by decide +kernel)) ggL_area_X6_area
theorem dL_area_0 : decode cL_area 0 = .ok (.aload 5, 2) := by decide +kernel
theorem dL_area_2 : decode cL_area 2 = .ok (.iconst 0, 1) := by decide +kernel
theorem dL_area_3 : decode cL_area 3 = .ok (.aload_n 0, 1) := by decide +kernel
theorem dL_area_4 : decode cL_area 4 = .ok (.dload_n 1, 1) := by decide +kernel
theorem dL_area_5 : decode cL_area 5 = .ok (.dload_n 3, 1) := by decide +kernel
theorem dL_area_6 : decode cL_area 6 = .ok (.invokevirtual 68, 3) := by decide +kernel
theorem dL_area_9 : decode cL_area 9 = .ok (.dastore, 1) := by decide +kernel
theorem dL_area_10 : decode cL_area 10 = .ok (.goto 7, 3) := by decide +kernel
theorem dL_area_13 : decode cL_area 13 = .ok (.astore 6, 2) := by decide +kernel
theorem dL_area_15 : decode cL_area 15 = .ok (.iconst 1, 1) := by decide +kernel
theorem dL_area_16 : decode cL_area 16 = .ok (.ireturn, 1) := by decide +kernel
theorem dL_area_17 : decode cL_area 17 = .ok (.iconst 0, 1) := by decide +kernel
theorem dL_area_18 : decode cL_area 18 = .ok (.ireturn, 1) := by decide +kernel
set_option maxRecDepth 20000 in
theorem ggL_reach_X6_reach : GoodIn wsL_reach wsX6_reach := goodIn_ca (goodIn_r _ [6, 7, 8, 9, 10, 11, 12, 13, 14, 15, 16, 17, 18, 19, 20, 21, 22, 23, 24, 25, 5, 26, 27, 28, 29, 30, 31, 32, 33, 34, 35, 36, 37, 38, 39, 40, 41, 42, 43, 44, 45, 46, 47, 48, 49, 50, 51, 52, 53, 54, 55, 56, 57, 58, 59, 60, 61, 62, 63, 64, 65, 66, 67, 68, 69, 70, 71, 72, 73, 74, 75, 76, 77, 78, 79, 80, 81, 82, 83, 84, 85, 86, 87, 88, 89, 90, 91, 92, 93, 94, 95, 96, 97, 98, 99] (by decide +kernel) (by decide +kernel)) (goodIn_sub (fun _ h => List.mem_cons_of_mem _ (List.mem_append_right _ h)) (by decide +kernel))
set_option maxRecDepth 20000 in
theorem gL_reach_X6_reach : GoodIn wsL_reach (wsV RL 72 RX6 yX6_reach wsX6_reach) := goodIn_app (goodIn_of _ (by decide +kernel)) ggL_reach_X6_reach
theorem dL_reach_0 : decode cL_reach 0 = .ok (.aload_n 3, 1) := by decide +kernel
theorem dL_reach_1 : decode cL_reach 1 = .ok (.iconst 0, 1) := by decide +kernel
theorem dL_reach_2 : decode cL_reach 2 = .ok (.aload_n 0, 1) := by decide +kernel
theorem dL_reach_3 : decode cL_reach 3 = .ok (.dload_n 1, 1) := by decide +kernel
theorem dL_reach_4 : decode cL_reach 4 = .ok (.invokevirtual 72, 3) := by decide +kernel
theorem dL_reach_7 : decode cL_reach 7 = .ok (.dastore, 1) := by decide +kernel
theorem dL_reach_8 : decode cL_reach 8 = .ok (.goto 7, 3) := by decide +kernel
theorem dL_reach_11 : decode cL_reach 11 = .ok (.astore 4, 2) := by decide +kernel
theorem dL_reach_13 : decode cL_reach 13 = .ok (.iconst 1, 1) := by decide +kernel
theorem dL_reach_14 : decode cL_reach 14 = .ok (.ireturn, 1) := by decide +kernel
theorem dL_reach_15 : decode cL_reach 15 = .ok (.iconst 0, 1) := by decide +kernel
theorem dL_reach_16 : decode cL_reach 16 = .ok (.ireturn, 1) := by decide +kernel
set_option maxRecDepth 20000 in
theorem ggL_setTail_X6_setTail : GoodIn wsL_setTail wsX6_setTail := goodIn_ca (goodIn_ca (goodIn_r _ [7, 8, 9, 10, 11, 12, 13, 6, 14, 15, 16, 17, 18, 19, 20, 21, 22, 23, 24, 25, 26, 27, 28, 29, 30, 31, 32, 33, 34, 35, 36, 37, 38, 39, 40, 41] (by decide +kernel) (by decide +kernel)) (goodIn_sub (fun _ h => List.mem_cons_of_mem _ (List.mem_append_left _ (List.mem_append_right _ h))) (by decide +kernel))) (goodIn_sub (fun _ h => List.mem_cons_of_mem _ (List.mem_append_right _ h)) (by decide +kernel))
set_option maxRecDepth 20000 in
theorem gL_setTail_X6_setTail : GoodIn wsL_setTail (wsV RL 75 RX6 yX6_setTail wsX6_setTail) := goodIn_app (goodIn_of _ (by decide +kernel)) ggL_setTail_X6_setTail
theorem dL_setTail_0 : decode cL_setTail 0 = .ok (.aload 5, 2) := by decide +kernel
theorem dL_setTail_2 : decode cL_setTail 2 = .ok (.iconst 0, 1) := by decide +kernel
theorem dL_setTail_3 : decode cL_setTail 3 = .ok (.aload_n 0, 1) := by decide +kernel
theorem dL_setTail_4 : decode cL_setTail 4 = .ok (.iload_n 1, 1) := by decide +kernel
theorem dL_setTail_5 : decode cL_setTail 5 = .ok (.iload_n 2, 1) := by decide +kernel
theorem dL_setTail_6 : decode cL_setTail 6 = .ok (.dload_n 3, 1) := by decide +kernel
theorem dL_setTail_7 : decode cL_setTail 7 = .ok (.invokevirtual 75, 3) := by decide +kernel
theorem dL_setTail_10 : decode cL_setTail 10 = .ok (.i2l, 1) := by decide +kernel
theorem dL_setTail_11 : decode cL_setTail 11 = .ok (.lastore, 1) := by decide +kernel
theorem dL_setTail_12 : decode cL_setTail 12 = .ok (.goto 11, 3) := by decide +kernel
theorem dL_setTail_15 : decode cL_setTail 15 = .ok (.astore 6, 2) := by decide +kernel
theorem dL_setTail_17 : decode cL_setTail 17 = .ok (.iconst 1, 1) := by decide +kernel
theorem dL_setTail_18 : decode cL_setTail 18 = .ok (.ireturn, 1) := by decide +kernel
theorem dL_setTail_19 : decode cL_setTail 19 = .ok (.astore 6, 2) := by decide +kernel
theorem dL_setTail_21 : decode cL_setTail 21 = .ok (.iconst 2, 1) := by decide +kernel
theorem dL_setTail_22 : decode cL_setTail 22 = .ok (.ireturn, 1) := by decide +kernel
theorem dL_setTail_23 : decode cL_setTail 23 = .ok (.iconst 0, 1) := by decide +kernel
theorem dL_setTail_24 : decode cL_setTail 24 = .ok (.ireturn, 1) := by decide +kernel
set_option maxRecDepth 20000 in
theorem ggL_limit_X6_limit : GoodIn wsL_limit wsX6_limit := goodIn_ca (goodIn_ca (goodIn_r _ [7, 8, 9, 10, 11, 12, 6, 13, 14, 15, 16, 17, 18, 19, 20, 21, 22, 23, 24, 25, 26, 27, 28, 29, 30, 31, 32, 33, 34, 35, 36, 37, 38, 39, 40, 41, 42, 43, 44, 45, 46, 47, 48, 49, 50, 51, 52, 53, 54, 55, 56, 57, 58, 59] (by decide +kernel) (by decide +kernel)) (goodIn_sub (fun _ h => List.mem_cons_of_mem _ (List.mem_append_left _ (List.mem_append_right _ h))) (by decide +kernel))) (goodIn_sub (fun _ h => List.mem_cons_of_mem _ (List.mem_append_right _ h)) (by decide +kernel))
set_option maxRecDepth 20000 in
theorem gL_limit_X6_limit : GoodIn wsL_limit (wsV RL 79 RX6 yX6_limit wsX6_limit) := goodIn_app (goodIn_of _ (by decide +kernel)) ggL_limit_X6_limit
theorem dL_limit_0 : decode cL_limit 0 = .ok (.aload_n 2, 1) := by decide +kernel
theorem dL_limit_1 : decode cL_limit 1 = .ok (.iconst 0, 1) := by decide +kernel
theorem dL_limit_2 : decode cL_limit 2 = .ok (.aload_n 0, 1) := by decide +kernel
theorem dL_limit_3 : decode cL_limit 3 = .ok (.iload_n 1, 1) := by decide +kernel
theorem dL_limit_4 : decode cL_limit 4 = .ok (.invokevirtual 79, 3) := by decide +kernel
theorem dL_limit_7 : decode cL_limit 7 = .ok (.dastore, 1) := by decide +kernel
theorem dL_limit_8 : decode cL_limit 8 = .ok (.goto 9, 3) := by decide +kernel
theorem dL_limit_11 : decode cL_limit 11 = .ok (.astore_n 3, 1) := by decide +kernel
theorem dL_limit_12 : decode cL_limit 12 = .ok (.iconst 1, 1) := by decide +kernel
theorem dL_limit_13 : decode cL_limit 13 = .ok (.ireturn, 1) := by decide +kernel
theorem dL_limit_14 : decode cL_limit 14 = .ok (.astore_n 3, 1) := by decide +kernel
theorem dL_limit_15 : decode cL_limit 15 = .ok (.iconst 2, 1) := by decide +kernel
theorem dL_limit_16 : decode cL_limit 16 = .ok (.ireturn, 1) := by decide +kernel
theorem dL_limit_17 : decode cL_limit 17 = .ok (.iconst 0, 1) := by decide +kernel
theorem dL_limit_18 : decode cL_limit 18 = .ok (.ireturn, 1) := by decide +kernel
set_option maxRecDepth 20000 in
theorem ggL_law_X6_init : GoodIn wsL_law wsX6_init := goodIn_r _ [11, 12, 13, 14, 15, 16, 17, 18, 19, 20, 21, 22, 23, 24, 25, 26, 27, 28, 29, 30, 31, 32, 33, 34, 35, 36, 37, 38, 39, 40, 41, 42, 43, 44, 45, 46, 47, 48, 7, 49, 50, 51, 52, 53, 54, 55, 56, 57, 58, 59, 60, 61, 62, 63, 64, 65, 66, 67, 68, 69, 70, 71, 72, 73, 74, 718, 719, 720, 721, 697, 698, 699, 700, 701, 702, 722, 723, 724, 725, 726, 727, 728, 729, 730, 731, 732, 733, 734, 735, 736, 737, 738] (by decide +kernel) (by decide +kernel)
set_option maxRecDepth 20000 in
theorem gL_law_X6_init : GoodIn wsL_law (wsX6_init) := ggL_law_X6_init
set_option maxRecDepth 20000 in
theorem ggL_law_X7_init : GoodIn wsL_law wsX7_init := goodIn_r _ [77, 78, 13, 14, 7, 79, 80, 81, 82, 83, 84, 85, 86, 56, 87, 88, 89, 90, 91, 703, 704, 705, 706, 707, 708, 709, 710, 711, 712, 713, 714, 715, 716, 717] (by decide +kernel) (by decide +kernel)
set_option maxRecDepth 20000 in
theorem gL_law_X7_init : GoodIn wsL_law (wsX7_init) := ggL_law_X7_init
set_option maxRecDepth 20000 in
theorem ggL_law_L_addPoint : GoodIn wsL_law wsL_addPoint := goodIn_ca (goodIn_ca (goodIn_r _ [95, 96, 97, 98, 99, 100, 2, 101, 102, 103, 104, 105, 106, 107, 108, 109, 18, 110, 111, 112, 113, 114, 115, 116, 117, 118, 119, 120, 121, 122, 17, 123, 124, 42, 125, 126, 127, 128, 41, 129, 49, 130, 131, 132, 133, 43, 44, 134, 135, 136, 137, 138, 139, 140, 141, 697, 698, 699, 700, 701, 702, 718, 719, 720, 721, 738] (by decide +kernel) (by decide +kernel)) (goodIn_sub (fun _ h => List.mem_append_left _ (List.mem_append_left _ (List.mem_append_right _ h))) (by decide +kernel))) (goodIn_sub (fun _ h => List.mem_append_left _ (List.mem_append_right _ h)) (by decide +kernel))
set_option maxRecDepth 20000 in
theorem gL_law_L_addPoint : GoodIn wsL_law (va_wsS RL 88 yL_addPoint wsL_addPoint) := goodIn_app (goodIn_of _ (by decide +kernel)) ggL_law_L_addPoint
set_option maxRecDepth 20000 in
theorem ggL_law_X7_addPoint : GoodIn wsL_law wsX7_addPoint := goodIn_r _ [145, 146, 147, 148, 149, 150, 151, 79, 80, 81, 152, 153, 5, 154, 155, 156, 157, 158, 159, 160, 161, 162, 163, 164, 165, 166, 167, 168, 169, 170, 171, 172, 173, 174, 175, 176, 177, 178, 179, 703, 704, 705, 706, 707, 708, 709, 710, 711, 712, 713, 714, 715, 716, 717] (by decide +kernel) (by decide +kernel)
set_option maxRecDepth 20000 in
theorem gL_law_X7_addPoint : GoodIn wsL_law (wsV RL 93 RX7 yX7_addPoint wsX7_addPoint) := goodIn_app (goodIn_of _ (by decide +kernel)) ggL_law_X7_addPoint
set_option maxRecDepth 20000 in
theorem ggL_law_X7_thrown : GoodIn wsL_law wsX7_thrown := goodIn_r _ [183, 146, 703, 704, 705, 706, 707, 708, 709, 710, 711, 712, 713, 714, 715, 716, 717] (by decide +kernel) (by decide +kernel)
set_option maxRecDepth 20000 in
theorem gL_law_X7_thrown : GoodIn wsL_law (wsV RL 94 RX7 yX7_thrown wsX7_thrown) := goodIn_app (goodIn_of _ (by decide +kernel)) ggL_law_X7_thrown
set_option maxRecDepth 20000 in
theorem ggL_law_L_removePoint : GoodIn wsL_law wsL_removePoint := goodIn_ca (goodIn_r _ [186, 187, 188, 189, 190, 2, 191, 18, 192, 193, 194, 195, 196, 197, 198, 199, 200, 17, 201, 42, 124, 43, 44, 202, 203, 204, 41, 205, 49, 697, 698, 699, 700, 701, 702, 718, 719, 720, 721, 738] (by decide +kernel) (by decide +kernel)) (goodIn_sub (fun _ h => List.mem_append_right _ h) (by decide +kernel))
set_option maxRecDepth 20000 in
theorem gL_law_L_removePoint : GoodIn wsL_law (va_wsS RL 97 yL_removePoint wsL_removePoint) := goodIn_app (goodIn_of _ (by decide +kernel)) ggL_law_L_removePoint
set_option maxRecDepth 20000 in
theorem ggL_law_X7_removePoint : GoodIn wsL_law wsX7_removePoint := goodIn_r _ [209, 146, 151, 160, 161, 162, 5, 163, 176, 177, 178, 179, 79, 80, 81, 703, 704, 705, 706, 707, 708, 709, 710, 711, 712, 713, 714, 715, 716, 717] (by decide +kernel) (by decide +kernel)
set_option maxRecDepth 20000 in
theorem gL_law_X7_removePoint : GoodIn wsL_law (wsV RL 100 RX7 yX7_removePoint wsX7_removePoint) := goodIn_app (goodIn_of _ (by decide +kernel)) ggL_law_X7_removePoint
set_option maxRecDepth 20000 in
theorem ggL_law_X6_pointCount : GoodIn wsL_law wsX6_pointCount := goodIn_r _ [213, 18, 697, 698, 699, 700, 701, 702, 718, 719, 720, 721] (by decide +kernel) (by decide +kernel)
set_option maxRecDepth 20000 in
theorem gL_law_X6_pointCount : GoodIn wsL_law (wsV RL 101 RX6 yX6_pointCount wsX6_pointCount) := goodIn_app (goodIn_of _ (by decide +kernel)) ggL_law_X6_pointCount
set_option maxRecDepth 20000 in
theorem ggL_law_X7_pointCount : GoodIn wsL_law wsX7_pointCount := goodIn_r _ [217, 146, 151, 703, 704, 705, 706, 707, 708, 709, 710, 711, 712, 713, 714, 715, 716, 717] (by decide +kernel) (by decide +kernel)
set_option maxRecDepth 20000 in
theorem gL_law_X7_pointCount : GoodIn wsL_law (wsV RL 104 RX7 yX7_pointCount wsX7_pointCount) := goodIn_app (goodIn_of _ (by decide +kernel)) ggL_law_X7_pointCount
set_option maxRecDepth 20000 in
theorem ggL_law_L_pointPlace : GoodIn wsL_law wsL_pointPlace := goodIn_ca (goodIn_r _ [220, 187, 221, 222, 223, 2, 224, 18, 192, 193, 194, 195, 196, 197, 225, 127, 128, 41, 129, 49, 697, 698, 699, 700, 701, 702, 718, 719, 720, 721, 738] (by decide +kernel) (by decide +kernel)) (goodIn_sub (fun _ h => List.mem_append_right _ h) (by decide +kernel))
set_option maxRecDepth 20000 in
theorem gL_law_L_pointPlace : GoodIn wsL_law (va_wsS RL 105 yL_pointPlace wsL_pointPlace) := goodIn_app (goodIn_of _ (by decide +kernel)) ggL_law_L_pointPlace
set_option maxRecDepth 20000 in
theorem ggL_law_X7_pointPlace : GoodIn wsL_law wsX7_pointPlace := goodIn_r _ [229, 146, 151, 79, 160, 161, 162, 5, 163, 703, 704, 705, 706, 707, 708, 709, 710, 711, 712, 713, 714, 715, 716, 717] (by decide +kernel) (by decide +kernel)
set_option maxRecDepth 20000 in
theorem gL_law_X7_pointPlace : GoodIn wsL_law (wsV RL 108 RX7 yX7_pointPlace wsX7_pointPlace) := goodIn_app (goodIn_of _ (by decide +kernel)) ggL_law_X7_pointPlace
set_option maxRecDepth 20000 in
theorem ggL_law_L_fit : GoodIn wsL_law wsL_fit := goodIn_ca (goodIn_r _ [232, 97, 233, 234, 235, 2, 236, 104, 105, 18, 22, 26, 237, 238, 239, 21, 240, 241, 225, 127, 128, 41, 129, 49, 242, 243, 244, 245, 57, 54, 55, 246, 139, 140, 141, 247, 248, 249, 250, 251, 252, 253, 254, 255, 256, 257, 258, 259, 260, 25, 261, 262, 263, 264, 265, 266, 267, 268, 269, 270, 271, 272, 273, 274, 275, 276, 63, 64, 65, 277, 135, 136, 137, 138, 697, 698, 699, 700, 701, 702, 718, 719, 720, 721, 722, 723, 724, 725, 738, 726, 727, 728, 729] (by decide +kernel) (by decide +kernel)) (goodIn_sub (fun _ h => List.mem_append_left _ (List.mem_append_right _ h)) (by decide +kernel))
set_option maxRecDepth 20000 in
theorem gL_law_L_fit : GoodIn wsL_law (va_wsS RL 109 yL_fit wsL_fit) := goodIn_app (goodIn_of _ (by decide +kernel)) ggL_law_L_fit
set_option maxRecDepth 20000 in
theorem ggL_law_X7_fit : GoodIn wsL_law wsX7_fit := goodIn_r _ [281, 146, 151, 89, 81, 90, 80, 91, 282, 82, 79, 83, 85, 86, 160, 161, 162, 5, 163, 283, 284, 285, 286, 703, 704, 705, 706, 707, 708, 709, 710, 711, 712, 713, 714, 715, 716, 717] (by decide +kernel) (by decide +kernel)
set_option maxRecDepth 20000 in
theorem gL_law_X7_fit : GoodIn wsL_law (wsV RL 112 RX7 yX7_fit wsX7_fit) := goodIn_app (goodIn_of _ (by decide +kernel)) ggL_law_X7_fit
set_option maxRecDepth 20000 in
theorem ggL_law_X6_knotCount : GoodIn wsL_law wsX6_knotCount := goodIn_r _ [290, 26, 697, 698, 699, 700, 701, 702, 726, 727, 728, 729] (by decide +kernel) (by decide +kernel)
set_option maxRecDepth 20000 in
theorem gL_law_X6_knotCount : GoodIn wsL_law (wsV RL 113 RX6 yX6_knotCount wsX6_knotCount) := goodIn_app (goodIn_of _ (by decide +kernel)) ggL_law_X6_knotCount
set_option maxRecDepth 20000 in
theorem ggL_law_X7_knotCount : GoodIn wsL_law wsX7_knotCount := goodIn_r _ [294, 146, 282, 703, 704, 705, 706, 707, 708, 709, 710, 711, 712, 713, 714, 715, 716, 717] (by decide +kernel) (by decide +kernel)
set_option maxRecDepth 20000 in
theorem gL_law_X7_knotCount : GoodIn wsL_law (wsV RL 116 RX7 yX7_knotCount wsX7_knotCount) := goodIn_app (goodIn_of _ (by decide +kernel)) ggL_law_X7_knotCount
set_option maxRecDepth 20000 in
theorem ggL_law_L_knotPlace : GoodIn wsL_law wsL_knotPlace := goodIn_ca (goodIn_r _ [297, 187, 298, 299, 300, 2, 301, 26, 302, 303, 304, 305, 196, 197, 225, 127, 128, 41, 129, 49, 697, 698, 699, 700, 701, 702, 726, 727, 728, 729, 738] (by decide +kernel) (by decide +kernel)) (goodIn_sub (fun _ h => List.mem_append_right _ h) (by decide +kernel))
set_option maxRecDepth 20000 in
theorem gL_law_L_knotPlace : GoodIn wsL_law (va_wsS RL 117 yL_knotPlace wsL_knotPlace) := goodIn_app (goodIn_of _ (by decide +kernel)) ggL_law_L_knotPlace
set_option maxRecDepth 20000 in
theorem ggL_law_X7_knotPlace : GoodIn wsL_law wsX7_knotPlace := goodIn_r _ [309, 146, 82, 310, 311, 312, 5, 313, 282, 160, 161, 162, 163, 703, 704, 705, 706, 707, 708, 709, 710, 711, 712, 713, 714, 715, 716, 717] (by decide +kernel) (by decide +kernel)
set_option maxRecDepth 20000 in
theorem gL_law_X7_knotPlace : GoodIn wsL_law (wsV RL 119 RX7 yX7_knotPlace wsX7_knotPlace) := goodIn_app (goodIn_of _ (by decide +kernel)) ggL_law_X7_knotPlace
set_option maxRecDepth 20000 in
theorem ggL_law_L_knotValue : GoodIn wsL_law wsL_knotValue := goodIn_ca (goodIn_r _ [316, 187, 317, 318, 319, 2, 320, 26, 302, 303, 304, 305, 196, 197, 225, 127, 128, 41, 129, 49, 697, 698, 699, 700, 701, 702, 726, 727, 728, 729, 738] (by decide +kernel) (by decide +kernel)) (goodIn_sub (fun _ h => List.mem_append_right _ h) (by decide +kernel))
set_option maxRecDepth 20000 in
theorem gL_law_L_knotValue : GoodIn wsL_law (va_wsS RL 120 yL_knotValue wsL_knotValue) := goodIn_app (goodIn_of _ (by decide +kernel)) ggL_law_L_knotValue
set_option maxRecDepth 20000 in
theorem ggL_law_X7_knotValue : GoodIn wsL_law wsX7_knotValue := goodIn_r _ [324, 146, 83, 310, 311, 312, 5, 313, 282, 160, 161, 162, 163, 703, 704, 705, 706, 707, 708, 709, 710, 711, 712, 713, 714, 715, 716, 717] (by decide +kernel) (by decide +kernel)
set_option maxRecDepth 20000 in
theorem gL_law_X7_knotValue : GoodIn wsL_law (wsV RL 122 RX7 yX7_knotValue wsX7_knotValue) := goodIn_app (goodIn_of _ (by decide +kernel)) ggL_law_X7_knotValue
set_option maxRecDepth 20000 in
theorem ggL_law_L_knotSlope : GoodIn wsL_law wsL_knotSlope := goodIn_ca (goodIn_r _ [327, 187, 328, 329, 330, 2, 331, 26, 302, 303, 304, 305, 196, 197, 332, 333, 334, 25, 335, 262, 336, 65, 337, 338, 339, 340, 64, 341, 127, 128, 41, 129, 49, 342, 343, 344, 345, 63, 252, 253, 346, 347, 348, 349, 350, 351, 352, 353, 354, 697, 698, 699, 700, 701, 702, 726, 727, 728, 729, 738] (by decide +kernel) (by decide +kernel)) (goodIn_sub (fun _ h => List.mem_append_right _ h) (by decide +kernel))
set_option maxRecDepth 20000 in
theorem gL_law_L_knotSlope : GoodIn wsL_law (va_wsS RL 123 yL_knotSlope wsL_knotSlope) := goodIn_app (goodIn_of _ (by decide +kernel)) ggL_law_L_knotSlope
set_option maxRecDepth 20000 in
theorem ggL_law_X7_knotSlope : GoodIn wsL_law wsX7_knotSlope := goodIn_r _ [358, 146, 310, 311, 312, 5, 313, 282, 359, 360, 361, 362, 85, 86, 363, 364, 365, 366, 367, 368, 369, 370, 371, 372, 83, 373, 374, 375, 376, 82, 377, 378, 166, 379, 168, 169, 170, 171, 380, 160, 161, 162, 163, 703, 704, 705, 706, 707, 708, 709, 710, 711, 712, 713, 714, 715, 716, 717] (by decide +kernel) (by decide +kernel)
set_option maxRecDepth 20000 in
theorem gL_law_X7_knotSlope : GoodIn wsL_law (wsV RL 125 RX7 yX7_knotSlope wsX7_knotSlope) := goodIn_app (goodIn_of _ (by decide +kernel)) ggL_law_X7_knotSlope
set_option maxRecDepth 20000 in
theorem ggL_law_L_isFixed : GoodIn wsL_law wsL_isFixed := goodIn_ca (goodIn_r _ [383, 187, 384, 385, 386, 2, 387, 26, 302, 303, 304, 305, 196, 197, 388, 347, 348, 25, 349, 65, 341, 127, 128, 41, 129, 49, 697, 698, 699, 700, 701, 702, 726, 727, 728, 729, 738] (by decide +kernel) (by decide +kernel)) (goodIn_sub (fun _ h => List.mem_append_right _ h) (by decide +kernel))
set_option maxRecDepth 20000 in
theorem gL_law_L_isFixed : GoodIn wsL_law (va_wsS RL 126 yL_isFixed wsL_isFixed) := goodIn_app (goodIn_of _ (by decide +kernel)) ggL_law_L_isFixed
set_option maxRecDepth 20000 in
theorem ggL_law_X7_isFixed : GoodIn wsL_law wsX7_isFixed := goodIn_r _ [392, 146, 85, 310, 311, 312, 5, 313, 282, 160, 161, 162, 163, 703, 704, 705, 706, 707, 708, 709, 710, 711, 712, 713, 714, 715, 716, 717] (by decide +kernel) (by decide +kernel)
set_option maxRecDepth 20000 in
theorem gL_law_X7_isFixed : GoodIn wsL_law (wsV RL 128 RX7 yX7_isFixed wsX7_isFixed) := goodIn_app (goodIn_of _ (by decide +kernel)) ggL_law_X7_isFixed
set_option maxRecDepth 20000 in
theorem ggL_law_L_insertKnot : GoodIn wsL_law wsL_insertKnot := goodIn_ca (goodIn_ca (goodIn_r _ [395, 96, 97, 396, 397, 398, 2, 399, 102, 103, 104, 105, 26, 400, 30, 110, 111, 112, 113, 114, 115, 116, 401, 402, 403, 25, 404, 262, 63, 341, 127, 128, 41, 129, 49, 405, 406, 407, 408, 225, 409, 410, 411, 412, 413, 414, 415, 29, 416, 417, 418, 419, 343, 344, 345, 420, 338, 339, 340, 64, 342, 252, 253, 332, 333, 334, 335, 336, 65, 337, 346, 347, 348, 349, 350, 351, 352, 353, 354, 421, 422, 423, 424, 425, 426, 427, 428, 429, 430, 431, 432, 433, 434, 435, 436, 437, 438, 439, 440, 273, 274, 275, 276, 277, 135, 136, 137, 138, 139, 140, 141, 697, 698, 699, 700, 701, 702, 726, 727, 728, 729, 738, 730, 731, 732, 733, 734] (by decide +kernel) (by decide +kernel)) (goodIn_sub (fun _ h => List.mem_append_left _ (List.mem_append_left _ (List.mem_append_right _ h))) (by decide +kernel))) (goodIn_sub (fun _ h => List.mem_append_left _ (List.mem_append_right _ h)) (by decide +kernel))
set_option maxRecDepth 20000 in
theorem gL_law_L_insertKnot : GoodIn wsL_law (va_wsS RL 129 yL_insertKnot wsL_insertKnot) := goodIn_app (goodIn_of _ (by decide +kernel)) ggL_law_L_insertKnot
set_option maxRecDepth 20000 in
theorem ggL_law_X7_insertKnot : GoodIn wsL_law wsX7_insertKnot := goodIn_r _ [444, 146, 282, 82, 445, 83, 85, 86, 152, 153, 5, 154, 155, 156, 160, 161, 162, 163, 446, 447, 448, 449, 450, 451, 452, 453, 359, 360, 361, 362, 363, 364, 365, 366, 367, 368, 369, 370, 371, 372, 373, 374, 375, 376, 377, 378, 166, 379, 168, 169, 170, 171, 380, 454, 455, 456, 457, 458, 459, 460, 461, 462, 463, 464, 465, 466, 467, 468, 469, 703, 704, 705, 706, 707, 708, 709, 710, 711, 712, 713, 714, 715, 716, 717] (by decide +kernel) (by decide +kernel)
set_option maxRecDepth 20000 in
theorem gL_law_X7_insertKnot : GoodIn wsL_law (wsV RL 132 RX7 yX7_insertKnot wsX7_insertKnot) := goodIn_app (goodIn_of _ (by decide +kernel)) ggL_law_X7_insertKnot
set_option maxRecDepth 20000 in
theorem ggL_law_L_removeKnot : GoodIn wsL_law wsL_removeKnot := goodIn_ca (goodIn_ca (goodIn_r _ [472, 187, 96, 473, 474, 475, 2, 476, 102, 103, 26, 302, 303, 304, 305, 196, 197, 477, 478, 479, 25, 480, 63, 262, 64, 65, 481, 203, 204, 41, 205, 49, 697, 698, 699, 700, 701, 702, 726, 727, 728, 729, 738] (by decide +kernel) (by decide +kernel)) (goodIn_sub (fun _ h => List.mem_append_left _ (List.mem_append_left _ (List.mem_append_right _ h))) (by decide +kernel))) (goodIn_sub (fun _ h => List.mem_append_right _ h) (by decide +kernel))
set_option maxRecDepth 20000 in
theorem gL_law_L_removeKnot : GoodIn wsL_law (va_wsS RL 133 yL_removeKnot wsL_removeKnot) := goodIn_app (goodIn_of _ (by decide +kernel)) ggL_law_L_removeKnot
set_option maxRecDepth 20000 in
theorem ggL_law_X7_removeKnot : GoodIn wsL_law wsX7_removeKnot := goodIn_r _ [485, 146, 282, 310, 311, 312, 5, 313, 160, 161, 162, 163, 466, 467, 468, 469, 82, 83, 85, 86, 703, 704, 705, 706, 707, 708, 709, 710, 711, 712, 713, 714, 715, 716, 717] (by decide +kernel) (by decide +kernel)
set_option maxRecDepth 20000 in
theorem gL_law_X7_removeKnot : GoodIn wsL_law (wsV RL 135 RX7 yX7_removeKnot wsX7_removeKnot) := goodIn_app (goodIn_of _ (by decide +kernel)) ggL_law_X7_removeKnot
set_option maxRecDepth 20000 in
theorem ggL_law_L_setKnotValue : GoodIn wsL_law wsL_setKnotValue := goodIn_ca (goodIn_ca (goodIn_r _ [488, 187, 96, 489, 490, 491, 2, 492, 102, 103, 106, 107, 26, 302, 303, 304, 305, 196, 197, 110, 111, 112, 113, 114, 115, 116, 117, 118, 119, 225, 127, 128, 41, 129, 49, 493, 139, 140, 141, 697, 698, 699, 700, 701, 702, 726, 727, 728, 729, 738] (by decide +kernel) (by decide +kernel)) (goodIn_sub (fun _ h => List.mem_append_left _ (List.mem_append_left _ (List.mem_append_right _ h))) (by decide +kernel))) (goodIn_sub (fun _ h => List.mem_append_right _ h) (by decide +kernel))
set_option maxRecDepth 20000 in
theorem gL_law_L_setKnotValue : GoodIn wsL_law (va_wsS RL 136 yL_setKnotValue wsL_setKnotValue) := goodIn_app (goodIn_of _ (by decide +kernel)) ggL_law_L_setKnotValue
set_option maxRecDepth 20000 in
theorem ggL_law_X7_setKnotValue : GoodIn wsL_law wsX7_setKnotValue := goodIn_r _ [497, 146, 147, 148, 83, 282, 152, 153, 5, 154, 155, 156, 310, 311, 312, 313, 160, 161, 162, 163, 157, 158, 159, 703, 704, 705, 706, 707, 708, 709, 710, 711, 712, 713, 714, 715, 716, 717] (by decide +kernel) (by decide +kernel)
set_option maxRecDepth 20000 in
theorem gL_law_X7_setKnotValue : GoodIn wsL_law (wsV RL 139 RX7 yX7_setKnotValue wsX7_setKnotValue) := goodIn_app (goodIn_of _ (by decide +kernel)) ggL_law_X7_setKnotValue
set_option maxRecDepth 20000 in
theorem ggL_law_L_fixSlope : GoodIn wsL_law wsL_fixSlope := goodIn_ca (goodIn_ca (goodIn_r _ [500, 187, 96, 501, 502, 503, 2, 504, 102, 103, 107, 26, 302, 303, 304, 305, 196, 197, 110, 111, 112, 113, 114, 115, 116, 117, 118, 119, 493, 139, 140, 41, 141, 49, 332, 333, 334, 25, 335, 262, 336, 65, 337, 338, 339, 340, 64, 341, 127, 128, 129, 342, 343, 344, 345, 63, 252, 253, 346, 347, 348, 349, 350, 351, 352, 353, 354, 697, 698, 699, 700, 701, 702, 726, 727, 728, 729, 738] (by decide +kernel) (by decide +kernel)) (goodIn_sub (fun _ h => List.mem_append_left _ (List.mem_append_left _ (List.mem_append_right _ h))) (by decide +kernel))) (goodIn_sub (fun _ h => List.mem_append_right _ h) (by decide +kernel))
set_option maxRecDepth 20000 in
theorem gL_law_L_fixSlope : GoodIn wsL_law (va_wsS RL 140 yL_fixSlope wsL_fixSlope) := goodIn_app (goodIn_of _ (by decide +kernel)) ggL_law_L_fixSlope
set_option maxRecDepth 20000 in
theorem ggL_law_X7_fixSlope : GoodIn wsL_law wsX7_fixSlope := goodIn_r _ [508, 146, 148, 85, 86, 152, 153, 5, 154, 155, 156, 310, 311, 312, 313, 282, 160, 161, 162, 163, 157, 158, 159, 359, 360, 361, 362, 363, 364, 365, 366, 367, 368, 369, 370, 371, 372, 83, 373, 374, 375, 376, 82, 377, 378, 166, 379, 168, 169, 170, 171, 380, 703, 704, 705, 706, 707, 708, 709, 710, 711, 712, 713, 714, 715, 716, 717] (by decide +kernel) (by decide +kernel)
set_option maxRecDepth 20000 in
theorem gL_law_X7_fixSlope : GoodIn wsL_law (wsV RL 142 RX7 yX7_fixSlope wsX7_fixSlope) := goodIn_app (goodIn_of _ (by decide +kernel)) ggL_law_X7_fixSlope
set_option maxRecDepth 20000 in
theorem ggL_law_L_freeSlope : GoodIn wsL_law wsL_freeSlope := goodIn_ca (goodIn_r _ [511, 187, 512, 513, 514, 2, 515, 26, 267, 302, 303, 304, 305, 196, 197, 388, 347, 348, 25, 349, 65, 341, 127, 128, 41, 129, 49, 493, 139, 140, 141, 697, 698, 699, 700, 701, 702, 726, 727, 728, 729, 738] (by decide +kernel) (by decide +kernel)) (goodIn_sub (fun _ h => List.mem_append_right _ h) (by decide +kernel))
set_option maxRecDepth 20000 in
theorem gL_law_L_freeSlope : GoodIn wsL_law (va_wsS RL 143 yL_freeSlope wsL_freeSlope) := goodIn_app (goodIn_of _ (by decide +kernel)) ggL_law_L_freeSlope
set_option maxRecDepth 20000 in
theorem ggL_law_X7_freeSlope_ : GoodIn wsL_law wsX7_freeSlope_ := goodIn_r _ [519, 146, 85, 310, 311, 312, 5, 313, 282, 160, 161, 162, 163, 703, 704, 705, 706, 707, 708, 709, 710, 711, 712, 713, 714, 715, 716, 717] (by decide +kernel) (by decide +kernel)
set_option maxRecDepth 20000 in
theorem gL_law_X7_freeSlope_ : GoodIn wsL_law (wsV RL 145 RX7 yX7_freeSlope_ wsX7_freeSlope_) := goodIn_app (goodIn_of _ (by decide +kernel)) ggL_law_X7_freeSlope_
set_option maxRecDepth 20000 in
theorem ggL_law_L_value : GoodIn wsL_law wsL_value := goodIn_ca (goodIn_r _ [522, 96, 523, 524, 525, 2, 526, 26, 30, 527, 528, 529, 530, 102, 103, 531, 532, 533, 25, 534, 262, 63, 341, 127, 128, 41, 129, 49, 118, 119, 405, 406, 407, 408, 409, 410, 411, 412, 225, 413, 414, 415, 29, 416, 417, 418, 419, 343, 344, 345, 420, 338, 339, 340, 64, 342, 252, 253, 332, 333, 334, 335, 336, 65, 337, 346, 347, 348, 349, 350, 351, 352, 353, 354, 421, 422, 423, 424, 425, 426, 427, 428, 429, 430, 431, 432, 433, 697, 698, 699, 700, 701, 702, 726, 727, 728, 729, 738, 730, 731, 732, 733, 734] (by decide +kernel) (by decide +kernel)) (goodIn_sub (fun _ h => List.mem_append_left _ (List.mem_append_left _ (List.mem_append_right _ h))) (by decide +kernel))
set_option maxRecDepth 20000 in
theorem gL_law_L_value : GoodIn wsL_law (va_wsS RL 146 yL_value wsL_value) := goodIn_app (goodIn_of _ (by decide +kernel)) ggL_law_L_value
set_option maxRecDepth 20000 in
theorem ggL_law_X7_value : GoodIn wsL_law wsX7_value := goodIn_r _ [538, 146, 82, 539, 540, 541, 5, 542, 282, 157, 158, 159, 160, 161, 162, 163, 446, 447, 448, 449, 450, 451, 452, 453, 83, 359, 360, 361, 362, 85, 86, 363, 364, 365, 366, 367, 368, 369, 370, 371, 372, 373, 374, 375, 376, 377, 378, 166, 379, 168, 169, 170, 171, 380, 454, 455, 456, 457, 458, 459, 460, 461, 703, 704, 705, 706, 707, 708, 709, 710, 711, 712, 713, 714, 715, 716, 717] (by decide +kernel) (by decide +kernel)
set_option maxRecDepth 20000 in
theorem gL_law_X7_value : GoodIn wsL_law (wsV RL 149 RX7 yX7_value wsX7_value) := goodIn_app (goodIn_of _ (by decide +kernel)) ggL_law_X7_value
set_option maxRecDepth 20000 in
theorem ggL_law_L_slope : GoodIn wsL_law wsL_slope := goodIn_ca (goodIn_r _ [545, 96, 546, 547, 548, 2, 549, 26, 30, 527, 528, 529, 530, 102, 103, 531, 532, 533, 25, 534, 262, 63, 341, 127, 128, 41, 129, 49, 118, 119, 405, 406, 407, 408, 409, 410, 411, 412, 225, 413, 414, 415, 29, 416, 417, 418, 419, 343, 344, 345, 420, 338, 339, 340, 64, 342, 252, 253, 332, 333, 334, 335, 336, 65, 337, 346, 347, 348, 349, 350, 351, 352, 353, 354, 421, 422, 423, 424, 425, 426, 427, 428, 429, 437, 438, 439, 440, 697, 698, 699, 700, 701, 702, 726, 727, 728, 729, 738, 730, 731, 732, 733, 734] (by decide +kernel) (by decide +kernel)) (goodIn_sub (fun _ h => List.mem_append_left _ (List.mem_append_left _ (List.mem_append_right _ h))) (by decide +kernel))
set_option maxRecDepth 20000 in
theorem gL_law_L_slope : GoodIn wsL_law (va_wsS RL 150 yL_slope wsL_slope) := goodIn_app (goodIn_of _ (by decide +kernel)) ggL_law_L_slope
set_option maxRecDepth 20000 in
theorem ggL_law_X7_slope : GoodIn wsL_law wsX7_slope := goodIn_r _ [553, 146, 82, 539, 540, 541, 5, 542, 282, 157, 158, 159, 160, 161, 162, 163, 446, 447, 448, 449, 462, 463, 464, 465, 368, 363, 359, 360, 361, 362, 85, 86, 364, 365, 366, 367, 369, 370, 371, 372, 83, 373, 374, 375, 376, 377, 378, 166, 379, 168, 169, 170, 171, 380, 454, 455, 456, 457, 458, 459, 460, 461, 703, 704, 705, 706, 707, 708, 709, 710, 711, 712, 713, 714, 715, 716, 717] (by decide +kernel) (by decide +kernel)
set_option maxRecDepth 20000 in
theorem gL_law_X7_slope : GoodIn wsL_law (wsV RL 152 RX7 yX7_slope wsX7_slope) := goodIn_app (goodIn_of _ (by decide +kernel)) ggL_law_X7_slope
set_option maxRecDepth 20000 in
theorem ggL_law_L_area : GoodIn wsL_law wsL_area := goodIn_ca (goodIn_r _ [556, 96, 557, 558, 559, 2, 560, 527, 528, 529, 530, 102, 103, 26, 531, 532, 533, 25, 534, 262, 63, 341, 127, 128, 41, 129, 49, 118, 119, 561, 562, 563, 564, 30, 405, 406, 407, 408, 409, 410, 411, 412, 225, 413, 414, 415, 29, 416, 417, 418, 419, 343, 344, 345, 420, 338, 339, 340, 64, 342, 252, 253, 332, 333, 334, 335, 336, 65, 337, 346, 347, 348, 349, 350, 351, 352, 353, 354, 421, 422, 423, 424, 425, 426, 427, 428, 429, 565, 566, 567, 568, 569, 697, 698, 699, 700, 701, 702, 726, 727, 728, 729, 738, 730, 731, 732, 733, 734] (by decide +kernel) (by decide +kernel)) (goodIn_sub (fun _ h => List.mem_append_left _ (List.mem_append_left _ (List.mem_append_right _ h))) (by decide +kernel))
set_option maxRecDepth 20000 in
theorem gL_law_L_area : GoodIn wsL_law (va_wsS RL 153 yL_area wsL_area) := goodIn_app (goodIn_of _ (by decide +kernel)) ggL_law_L_area
set_option maxRecDepth 20000 in
theorem ggL_law_X7_area : GoodIn wsL_law wsX7_area := goodIn_r _ [573, 146, 539, 540, 541, 5, 542, 282, 82, 157, 158, 159, 574, 575, 576, 577, 446, 447, 448, 449, 373, 374, 375, 376, 578, 579, 580, 581, 83, 368, 363, 582, 359, 360, 361, 362, 85, 86, 364, 365, 366, 367, 369, 370, 371, 372, 377, 378, 166, 379, 168, 169, 170, 171, 380, 454, 455, 456, 457, 458, 459, 460, 461, 160, 161, 162, 163, 703, 704, 705, 706, 707, 708, 709, 710, 711, 712, 713, 714, 715, 716, 717] (by decide +kernel) (by decide +kernel)
set_option maxRecDepth 20000 in
theorem gL_law_X7_area : GoodIn wsL_law (wsV RL 156 RX7 yX7_area wsX7_area) := goodIn_app (goodIn_of _ (by decide +kernel)) ggL_law_X7_area
set_option maxRecDepth 20000 in
theorem ggL_law_L_reach : GoodIn wsL_law wsL_reach := goodIn_ca (goodIn_r _ [585, 96, 586, 587, 588, 2, 589, 102, 103, 26, 590, 30, 591, 592, 593, 25, 594, 262, 64, 341, 127, 128, 41, 129, 49, 118, 119, 595, 596, 597, 598, 409, 410, 411, 412, 225, 413, 414, 415, 29, 416, 417, 418, 419, 343, 344, 345, 63, 420, 338, 339, 340, 342, 252, 253, 332, 333, 334, 335, 336, 65, 337, 346, 347, 348, 349, 350, 351, 352, 353, 354, 421, 422, 423, 424, 425, 426, 427, 428, 429, 430, 431, 432, 433, 697, 698, 699, 700, 701, 702, 726, 727, 728, 729, 738, 730, 731, 732, 733, 734] (by decide +kernel) (by decide +kernel)) (goodIn_sub (fun _ h => List.mem_append_left _ (List.mem_append_left _ (List.mem_append_right _ h))) (by decide +kernel))
set_option maxRecDepth 20000 in
theorem gL_law_L_reach : GoodIn wsL_law (va_wsS RL 157 yL_reach wsL_reach) := goodIn_app (goodIn_of _ (by decide +kernel)) ggL_law_L_reach
set_option maxRecDepth 20000 in
theorem ggL_law_X7_reach : GoodIn wsL_law wsX7_reach := goodIn_r _ [602, 146, 282, 83, 82, 368, 157, 158, 5, 159, 160, 161, 162, 163, 450, 451, 452, 453, 359, 360, 361, 362, 85, 86, 363, 364, 365, 366, 367, 369, 370, 371, 372, 373, 374, 375, 376, 377, 378, 166, 379, 168, 169, 170, 171, 380, 454, 455, 456, 457, 458, 459, 460, 461, 703, 704, 705, 706, 707, 708, 709, 710, 711, 712, 713, 714, 715, 716, 717] (by decide +kernel) (by decide +kernel)
set_option maxRecDepth 20000 in
theorem gL_law_X7_reach : GoodIn wsL_law (wsV RL 159 RX7 yX7_reach wsX7_reach) := goodIn_app (goodIn_of _ (by decide +kernel)) ggL_law_X7_reach
set_option maxRecDepth 20000 in
theorem ggL_law_X6_steepest : GoodIn wsL_law wsX6_steepest := goodIn_r _ [606, 26, 420, 338, 339, 25, 340, 64, 341, 127, 128, 41, 129, 49, 342, 343, 344, 345, 63, 252, 2, 253, 697, 698, 699, 700, 701, 702, 726, 727, 728, 729, 738] (by decide +kernel) (by decide +kernel)
