theorem dX6_addPoint_50 : decode cX6_addPoint 50 = .ok (.ldc2_w 68, 3) := by decide +kernel
theorem dX6_addPoint_53 : decode cX6_addPoint 53 = .ok (.ldc2_w 70, 3) := by decide +kernel
theorem dX6_addPoint_56 : decode cX6_addPoint 56 = .ok (.dload 5, 2) := by decide +kernel
theorem dX6_addPoint_58 : decode cX6_addPoint 58 = .ok (.invokestatic 57, 3) := by decide +kernel
theorem dX6_addPoint_61 : decode cX6_addPoint 61 = .ok (.ifCond .ne 13, 3) := by decide +kernel
theorem dX6_addPoint_64 : decode cX6_addPoint 64 = .ok (.new 61, 3) := by decide +kernel
theorem dX6_addPoint_67 : decode cX6_addPoint 67 = .ok (.dup, 1) := by decide +kernel
theorem dX6_addPoint_68 : decode cX6_addPoint 68 = .ok (.ldc 72, 2) := by decide +kernel
theorem dX6_addPoint_70 : decode cX6_addPoint 70 = .ok (.invokespecial 65, 3) := by decide +kernel
theorem dX6_addPoint_73 : decode cX6_addPoint 73 = .ok (.athrow, 1) := by decide +kernel
theorem dX6_addPoint_74 : decode cX6_addPoint 74 = .ok (.aload_n 0, 1) := by decide +kernel
theorem dX6_addPoint_75 : decode cX6_addPoint 75 = .ok (.getfield 10, 3) := by decide +kernel
theorem dX6_addPoint_78 : decode cX6_addPoint 78 = .ok (.dload 7, 2) := by decide +kernel
theorem dX6_addPoint_80 : decode cX6_addPoint 80 = .ok (.invokevirtual 74, 3) := by decide +kernel
theorem dX6_addPoint_83 : decode cX6_addPoint 83 = .ok (.ifCond .eq 13, 3) := by decide +kernel
theorem dX6_addPoint_86 : decode cX6_addPoint 86 = .ok (.new 61, 3) := by decide +kernel
theorem dX6_addPoint_89 : decode cX6_addPoint 89 = .ok (.dup, 1) := by decide +kernel
theorem dX6_addPoint_90 : decode cX6_addPoint 90 = .ok (.ldc 78, 2) := by decide +kernel
theorem dX6_addPoint_92 : decode cX6_addPoint 92 = .ok (.invokespecial 65, 3) := by decide +kernel
theorem dX6_addPoint_95 : decode cX6_addPoint 95 = .ok (.athrow, 1) := by decide +kernel
theorem dX6_addPoint_96 : decode cX6_addPoint 96 = .ok (.aload_n 0, 1) := by decide +kernel
theorem dX6_addPoint_97 : decode cX6_addPoint 97 = .ok (.getfield 10, 3) := by decide +kernel
theorem dX6_addPoint_100 : decode cX6_addPoint 100 = .ok (.getfield 80, 3) := by decide +kernel
theorem dX6_addPoint_103 : decode cX6_addPoint 103 = .ok (.bipush 40, 2) := by decide +kernel
theorem dX6_addPoint_105 : decode cX6_addPoint 105 = .ok (.if_icmp .lt 13, 3) := by decide +kernel
theorem dX6_addPoint_108 : decode cX6_addPoint 108 = .ok (.new 84, 3) := by decide +kernel
theorem dX6_addPoint_111 : decode cX6_addPoint 111 = .ok (.dup, 1) := by decide +kernel
theorem dX6_addPoint_112 : decode cX6_addPoint 112 = .ok (.ldc 86, 2) := by decide +kernel
theorem dX6_addPoint_114 : decode cX6_addPoint 114 = .ok (.invokespecial 88, 3) := by decide +kernel
theorem dX6_addPoint_117 : decode cX6_addPoint 117 = .ok (.athrow, 1) := by decide +kernel
theorem dX6_addPoint_118 : decode cX6_addPoint 118 = .ok (.aload_n 0, 1) := by decide +kernel
theorem dX6_addPoint_119 : decode cX6_addPoint 119 = .ok (.getfield 10, 3) := by decide +kernel
theorem dX6_addPoint_122 : decode cX6_addPoint 122 = .ok (.dload 7, 2) := by decide +kernel
theorem dX6_addPoint_124 : decode cX6_addPoint 124 = .ok (.dload 9, 2) := by decide +kernel
theorem dX6_addPoint_126 : decode cX6_addPoint 126 = .ok (.dload 5, 2) := by decide +kernel
theorem dX6_addPoint_128 : decode cX6_addPoint 128 = .ok (.invokevirtual 89, 3) := by decide +kernel
theorem dX6_addPoint_131 : decode cX6_addPoint 131 = .ok (.ireturn, 1) := by decide +kernel
theorem dX6_pointCount_0 : decode cX6_pointCount 0 = .ok (.aload_n 0, 1) := by decide +kernel
theorem dX6_pointCount_1 : decode cX6_pointCount 1 = .ok (.getfield 10, 3) := by decide +kernel
theorem dX6_pointCount_4 : decode cX6_pointCount 4 = .ok (.getfield 80, 3) := by decide +kernel
theorem dX6_pointCount_7 : decode cX6_pointCount 7 = .ok (.ireturn, 1) := by decide +kernel
set_option maxRecDepth 20000 in
theorem ggX6_fit_X0_clear : GoodIn wsX6_fit wsX0_clear := goodIn_r _ [10, 11, 79, 80, 81, 82] (by decide +kernel) (by decide +kernel)
set_option maxRecDepth 20000 in
theorem gX6_fit_X0_clear : GoodIn wsX6_fit (wsV RX6 112 RX0 yX0_clear wsX0_clear) := goodIn_app (goodIn_of _ (by decide +kernel)) ggX6_fit_X0_clear
set_option maxRecDepth 20000 in
theorem ggX6_fit_X4_get : GoodIn wsX6_fit wsX4_get := goodIn_r _ [16, 17, 83] (by decide +kernel) (by decide +kernel)
set_option maxRecDepth 20000 in
theorem gX6_fit_X4_get : GoodIn wsX6_fit (wsV RX6 104 RX4 yX4_get wsX4_get) := goodIn_app (goodIn_of _ (by decide +kernel)) ggX6_fit_X4_get
set_option maxRecDepth 20000 in
theorem ggX6_fit_X0_add : GoodIn wsX6_fit wsX0_add := goodIn_r _ [21, 11, 22, 23, 24, 25, 26, 27, 15, 28, 17, 29, 30, 31, 9, 32, 33, 13, 14, 16, 34, 35, 36, 37, 38, 39, 40, 79, 80, 81, 82, 83] (by decide +kernel) (by decide +kernel)
set_option maxRecDepth 20000 in
theorem gX6_fit_X0_add : GoodIn wsX6_fit (wsV RX6 121 RX0 yX0_add wsX0_add) := goodIn_app (goodIn_of _ (by decide +kernel)) ggX6_fit_X0_add
set_option maxRecDepth 20000 in
theorem ggX6_fit_X1_clear : GoodIn wsX6_fit wsX1_clear := goodIn_r _ [45, 46, 84, 85, 86, 87] (by decide +kernel) (by decide +kernel)
set_option maxRecDepth 20000 in
theorem gX6_fit_X1_clear : GoodIn wsX6_fit (wsV RX6 124 RX1 yX1_clear wsX1_clear) := goodIn_app (goodIn_of _ (by decide +kernel)) ggX6_fit_X1_clear
set_option maxRecDepth 20000 in
theorem ggX6_fit_X6_layKnotsOf : GoodIn wsX6_fit wsX6_layKnotsOf := goodIn_r _ [50, 4, 5, 3, 51, 52, 30, 31, 9, 32, 24, 23, 33, 13, 14, 15, 16, 17, 34, 35, 36, 53, 54, 55, 56, 22, 12, 57, 58, 59, 44, 60, 61, 46, 62, 63, 64, 65, 66, 67, 68, 26, 27, 28, 69, 70, 71, 72, 73, 74, 84, 85, 86, 87, 75, 76, 77, 78, 79, 80, 81, 82, 83] (by decide +kernel) (by decide +kernel)
set_option maxRecDepth 20000 in
theorem gX6_fit_X6_layKnotsOf : GoodIn wsX6_fit (wsV RX6 126 RX6 yX6_layKnotsOf wsX6_layKnotsOf) := goodIn_app (goodIn_of _ (by decide +kernel)) ggX6_fit_X6_layKnotsOf
theorem dX6_fit_0 : decode cX6_fit 0 = .ok (.aload_n 0, 1) := by decide +kernel
theorem dX6_fit_1 : decode cX6_fit 1 = .ok (.getfield 10, 3) := by decide +kernel
theorem dX6_fit_4 : decode cX6_fit 4 = .ok (.getfield 80, 3) := by decide +kernel
theorem dX6_fit_7 : decode cX6_fit 7 = .ok (.iconst 2, 1) := by decide +kernel
theorem dX6_fit_8 : decode cX6_fit 8 = .ok (.if_icmp .ge 13, 3) := by decide +kernel
theorem dX6_fit_11 : decode cX6_fit 11 = .ok (.new 84, 3) := by decide +kernel
theorem dX6_fit_14 : decode cX6_fit 14 = .ok (.dup, 1) := by decide +kernel
theorem dX6_fit_15 : decode cX6_fit 15 = .ok (.ldc 110, 2) := by decide +kernel
theorem dX6_fit_17 : decode cX6_fit 17 = .ok (.invokespecial 88, 3) := by decide +kernel
theorem dX6_fit_20 : decode cX6_fit 20 = .ok (.athrow, 1) := by decide +kernel
theorem dX6_fit_21 : decode cX6_fit 21 = .ok (.aload_n 0, 1) := by decide +kernel
theorem dX6_fit_22 : decode cX6_fit 22 = .ok (.getfield 19, 3) := by decide +kernel
theorem dX6_fit_25 : decode cX6_fit 25 = .ok (.invokevirtual 112, 3) := by decide +kernel
theorem dX6_fit_28 : decode cX6_fit 28 = .ok (.iconst 0, 1) := by decide +kernel
theorem dX6_fit_29 : decode cX6_fit 29 = .ok (.istore_n 1, 1) := by decide +kernel
theorem dX6_fit_30 : decode cX6_fit 30 = .ok (.iload_n 1, 1) := by decide +kernel
theorem dX6_fit_31 : decode cX6_fit 31 = .ok (.aload_n 0, 1) := by decide +kernel
theorem dX6_fit_32 : decode cX6_fit 32 = .ok (.getfield 10, 3) := by decide +kernel
theorem dX6_fit_35 : decode cX6_fit 35 = .ok (.getfield 80, 3) := by decide +kernel
theorem dX6_fit_38 : decode cX6_fit 38 = .ok (.if_icmp .ge 38, 3) := by decide +kernel
theorem dX6_fit_41 : decode cX6_fit 41 = .ok (.aload_n 0, 1) := by decide +kernel
theorem dX6_fit_42 : decode cX6_fit 42 = .ok (.getfield 19, 3) := by decide +kernel
theorem dX6_fit_45 : decode cX6_fit 45 = .ok (.aload_n 0, 1) := by decide +kernel
theorem dX6_fit_46 : decode cX6_fit 46 = .ok (.getfield 10, 3) := by decide +kernel
theorem dX6_fit_49 : decode cX6_fit 49 = .ok (.getfield 115, 3) := by decide +kernel
theorem dX6_fit_52 : decode cX6_fit 52 = .ok (.iload_n 1, 1) := by decide +kernel
theorem dX6_fit_53 : decode cX6_fit 53 = .ok (.invokevirtual 104, 3) := by decide +kernel
theorem dX6_fit_56 : decode cX6_fit 56 = .ok (.aload_n 0, 1) := by decide +kernel
theorem dX6_fit_57 : decode cX6_fit 57 = .ok (.getfield 10, 3) := by decide +kernel
theorem dX6_fit_60 : decode cX6_fit 60 = .ok (.getfield 118, 3) := by decide +kernel
theorem dX6_fit_63 : decode cX6_fit 63 = .ok (.iload_n 1, 1) := by decide +kernel
theorem dX6_fit_64 : decode cX6_fit 64 = .ok (.invokevirtual 104, 3) := by decide +kernel
theorem dX6_fit_67 : decode cX6_fit 67 = .ok (.invokevirtual 121, 3) := by decide +kernel
theorem dX6_fit_70 : decode cX6_fit 70 = .ok (.iinc 1 1, 3) := by decide +kernel
theorem dX6_fit_73 : decode cX6_fit 73 = .ok (.goto (-43), 3) := by decide +kernel
theorem dX6_fit_76 : decode cX6_fit 76 = .ok (.aload_n 0, 1) := by decide +kernel
theorem dX6_fit_77 : decode cX6_fit 77 = .ok (.getfield 26, 3) := by decide +kernel
theorem dX6_fit_80 : decode cX6_fit 80 = .ok (.invokevirtual 124, 3) := by decide +kernel
theorem dX6_fit_83 : decode cX6_fit 83 = .ok (.iconst 0, 1) := by decide +kernel
theorem dX6_fit_84 : decode cX6_fit 84 = .ok (.istore_n 1, 1) := by decide +kernel
theorem dX6_fit_85 : decode cX6_fit 85 = .ok (.iload_n 1, 1) := by decide +kernel
theorem dX6_fit_86 : decode cX6_fit 86 = .ok (.aload_n 0, 1) := by decide +kernel
theorem dX6_fit_87 : decode cX6_fit 87 = .ok (.getfield 19, 3) := by decide +kernel
theorem dX6_fit_90 : decode cX6_fit 90 = .ok (.getfield 125, 3) := by decide +kernel
theorem dX6_fit_93 : decode cX6_fit 93 = .ok (.if_icmp .ge 14, 3) := by decide +kernel
theorem dX6_fit_96 : decode cX6_fit 96 = .ok (.aload_n 0, 1) := by decide +kernel
theorem dX6_fit_97 : decode cX6_fit 97 = .ok (.iload_n 1, 1) := by decide +kernel
theorem dX6_fit_98 : decode cX6_fit 98 = .ok (.invokevirtual 126, 3) := by decide +kernel
theorem dX6_fit_101 : decode cX6_fit 101 = .ok (.iinc 1 1, 3) := by decide +kernel
theorem dX6_fit_104 : decode cX6_fit 104 = .ok (.goto (-19), 3) := by decide +kernel
theorem dX6_fit_107 : decode cX6_fit 107 = .ok (.aload_n 0, 1) := by decide +kernel
theorem dX6_fit_108 : decode cX6_fit 108 = .ok (.getfield 19, 3) := by decide +kernel
theorem dX6_fit_111 : decode cX6_fit 111 = .ok (.getfield 125, 3) := by decide +kernel
theorem dX6_fit_114 : decode cX6_fit 114 = .ok (.ireturn, 1) := by decide +kernel
set_option maxRecDepth 20000 in
theorem ggX6_layKnotsOf_X0_levelOf : GoodIn wsX6_layKnotsOf wsX0_levelOf := goodIn_r _ [9, 10, 11, 12, 13, 14, 15, 16, 17, 18, 19, 20, 58, 59, 60, 61, 62] (by decide +kernel) (by decide +kernel)
set_option maxRecDepth 20000 in
theorem gX6_layKnotsOf_X0_levelOf : GoodIn wsX6_layKnotsOf (wsV RX6 129 RX0 yX0_levelOf wsX0_levelOf) := goodIn_app (goodIn_of _ (by decide +kernel)) ggX6_layKnotsOf_X0_levelOf
set_option maxRecDepth 20000 in
theorem ggX6_layKnotsOf_X0_sizeOf : GoodIn wsX6_layKnotsOf wsX0_sizeOf := goodIn_r _ [24, 25, 58, 59, 60, 61] (by decide +kernel) (by decide +kernel)
set_option maxRecDepth 20000 in
theorem gX6_layKnotsOf_X0_sizeOf : GoodIn wsX6_layKnotsOf (wsV RX6 132 RX0 yX0_sizeOf wsX0_sizeOf) := goodIn_app (goodIn_of _ (by decide +kernel)) ggX6_layKnotsOf_X0_sizeOf
set_option maxRecDepth 20000 in
theorem ggX6_layKnotsOf_X4_get : GoodIn wsX6_layKnotsOf wsX4_get := goodIn_r _ [16, 17, 62] (by decide +kernel) (by decide +kernel)
set_option maxRecDepth 20000 in
theorem gX6_layKnotsOf_X4_get : GoodIn wsX6_layKnotsOf (wsV RX6 104 RX4 yX4_get wsX4_get) := goodIn_app (goodIn_of _ (by decide +kernel)) ggX6_layKnotsOf_X4_get
set_option maxRecDepth 20000 in
theorem ggX6_layKnotsOf_X1_insert : GoodIn wsX6_layKnotsOf wsX1_insert := goodIn_r _ [31, 32, 33, 34, 35, 36, 37, 38, 15, 39, 17, 40, 41, 42, 43, 50, 51, 52, 53, 62] (by decide +kernel) (by decide +kernel)
set_option maxRecDepth 20000 in
theorem gX6_layKnotsOf_X1_insert : GoodIn wsX6_layKnotsOf (wsV RX6 139 RX1 yX1_insert wsX1_insert) := goodIn_app (goodIn_of _ (by decide +kernel)) ggX6_layKnotsOf_X1_insert
theorem dX6_layKnotsOf_0 : decode cX6_layKnotsOf 0 = .ok (.aload_n 0, 1) := by decide +kernel
theorem dX6_layKnotsOf_1 : decode cX6_layKnotsOf 1 = .ok (.getfield 19, 3) := by decide +kernel
theorem dX6_layKnotsOf_4 : decode cX6_layKnotsOf 4 = .ok (.iload_n 1, 1) := by decide +kernel
theorem dX6_layKnotsOf_5 : decode cX6_layKnotsOf 5 = .ok (.invokevirtual 129, 3) := by decide +kernel
theorem dX6_layKnotsOf_8 : decode cX6_layKnotsOf 8 = .ok (.dstore_n 2, 1) := by decide +kernel
theorem dX6_layKnotsOf_9 : decode cX6_layKnotsOf 9 = .ok (.aload_n 0, 1) := by decide +kernel
theorem dX6_layKnotsOf_10 : decode cX6_layKnotsOf 10 = .ok (.getfield 19, 3) := by decide +kernel
theorem dX6_layKnotsOf_13 : decode cX6_layKnotsOf 13 = .ok (.iload_n 1, 1) := by decide +kernel
theorem dX6_layKnotsOf_14 : decode cX6_layKnotsOf 14 = .ok (.invokevirtual 132, 3) := by decide +kernel
theorem dX6_layKnotsOf_17 : decode cX6_layKnotsOf 17 = .ok (.istore 4, 2) := by decide +kernel
theorem dX6_layKnotsOf_19 : decode cX6_layKnotsOf 19 = .ok (.iconst 0, 1) := by decide +kernel
theorem dX6_layKnotsOf_20 : decode cX6_layKnotsOf 20 = .ok (.istore 5, 2) := by decide +kernel
theorem dX6_layKnotsOf_22 : decode cX6_layKnotsOf 22 = .ok (.iload 5, 2) := by decide +kernel
theorem dX6_layKnotsOf_24 : decode cX6_layKnotsOf 24 = .ok (.iload 4, 2) := by decide +kernel
theorem dX6_layKnotsOf_26 : decode cX6_layKnotsOf 26 = .ok (.if_icmp .ge 44, 3) := by decide +kernel
theorem dX6_layKnotsOf_29 : decode cX6_layKnotsOf 29 = .ok (.aload_n 0, 1) := by decide +kernel
theorem dX6_layKnotsOf_30 : decode cX6_layKnotsOf 30 = .ok (.getfield 26, 3) := by decide +kernel
theorem dX6_layKnotsOf_33 : decode cX6_layKnotsOf 33 = .ok (.aload_n 0, 1) := by decide +kernel
theorem dX6_layKnotsOf_34 : decode cX6_layKnotsOf 34 = .ok (.getfield 26, 3) := by decide +kernel
theorem dX6_layKnotsOf_37 : decode cX6_layKnotsOf 37 = .ok (.getfield 136, 3) := by decide +kernel
theorem dX6_layKnotsOf_40 : decode cX6_layKnotsOf 40 = .ok (.aload_n 0, 1) := by decide +kernel
theorem dX6_layKnotsOf_41 : decode cX6_layKnotsOf 41 = .ok (.getfield 10, 3) := by decide +kernel
theorem dX6_layKnotsOf_44 : decode cX6_layKnotsOf 44 = .ok (.getfield 100, 3) := by decide +kernel
theorem dX6_layKnotsOf_47 : decode cX6_layKnotsOf 47 = .ok (.aload_n 0, 1) := by decide +kernel
theorem dX6_layKnotsOf_48 : decode cX6_layKnotsOf 48 = .ok (.getfield 26, 3) := by decide +kernel
theorem dX6_layKnotsOf_51 : decode cX6_layKnotsOf 51 = .ok (.getfield 136, 3) := by decide +kernel
theorem dX6_layKnotsOf_54 : decode cX6_layKnotsOf 54 = .ok (.invokevirtual 104, 3) := by decide +kernel
theorem dX6_layKnotsOf_57 : decode cX6_layKnotsOf 57 = .ok (.dload_n 2, 1) := by decide +kernel
theorem dX6_layKnotsOf_58 : decode cX6_layKnotsOf 58 = .ok (.ldc2_w 137, 3) := by decide +kernel
theorem dX6_layKnotsOf_61 : decode cX6_layKnotsOf 61 = .ok (.invokevirtual 139, 3) := by decide +kernel
theorem dX6_layKnotsOf_64 : decode cX6_layKnotsOf 64 = .ok (.iinc 5 1, 3) := by decide +kernel
theorem dX6_layKnotsOf_67 : decode cX6_layKnotsOf 67 = .ok (.goto (-45), 3) := by decide +kernel
theorem dX6_layKnotsOf_70 : decode cX6_layKnotsOf 70 = .ok (.return_, 1) := by decide +kernel
theorem dX6_knotCount_0 : decode cX6_knotCount 0 = .ok (.aload_n 0, 1) := by decide +kernel
theorem dX6_knotCount_1 : decode cX6_knotCount 1 = .ok (.getfield 26, 3) := by decide +kernel
theorem dX6_knotCount_4 : decode cX6_knotCount 4 = .ok (.getfield 136, 3) := by decide +kernel
theorem dX6_knotCount_7 : decode cX6_knotCount 7 = .ok (.ireturn, 1) := by decide +kernel
set_option maxRecDepth 20000 in
theorem ggX6_knotPlace_X6_requireKnot : GoodIn wsX6_knotPlace wsX6_requireKnot := goodIn_ca (goodIn_r _ [6, 7, 8, 1, 15, 16, 17, 18, 19, 20, 21, 22, 23, 24] (by decide +kernel) (by decide +kernel)) (goodIn_sub (fun _ h => List.mem_cons_of_mem _ (List.mem_append_right _ h)) (by decide +kernel))
set_option maxRecDepth 20000 in
theorem gX6_knotPlace_X6_requireKnot : GoodIn wsX6_knotPlace (wsV RX6 143 RX6 yX6_requireKnot wsX6_requireKnot) := goodIn_app (goodIn_of _ (by decide +kernel)) ggX6_knotPlace_X6_requireKnot
set_option maxRecDepth 20000 in
theorem ggX6_knotPlace_X4_get : GoodIn wsX6_knotPlace wsX4_get := goodIn_r _ [13, 14, 25] (by decide +kernel) (by decide +kernel)
set_option maxRecDepth 20000 in
theorem gX6_knotPlace_X4_get : GoodIn wsX6_knotPlace (wsV RX6 104 RX4 yX4_get wsX4_get) := goodIn_app (goodIn_of _ (by decide +kernel)) ggX6_knotPlace_X4_get
theorem dX6_knotPlace_0 : decode cX6_knotPlace 0 = .ok (.aload_n 0, 1) := by decide +kernel
theorem dX6_knotPlace_1 : decode cX6_knotPlace 1 = .ok (.iload_n 1, 1) := by decide +kernel
theorem dX6_knotPlace_2 : decode cX6_knotPlace 2 = .ok (.invokevirtual 143, 3) := by decide +kernel
theorem dX6_knotPlace_5 : decode cX6_knotPlace 5 = .ok (.aload_n 0, 1) := by decide +kernel
theorem dX6_knotPlace_6 : decode cX6_knotPlace 6 = .ok (.getfield 26, 3) := by decide +kernel
theorem dX6_knotPlace_9 : decode cX6_knotPlace 9 = .ok (.getfield 146, 3) := by decide +kernel
theorem dX6_knotPlace_12 : decode cX6_knotPlace 12 = .ok (.iload_n 1, 1) := by decide +kernel
theorem dX6_knotPlace_13 : decode cX6_knotPlace 13 = .ok (.invokevirtual 104, 3) := by decide +kernel
theorem dX6_knotPlace_16 : decode cX6_knotPlace 16 = .ok (.dreturn, 1) := by decide +kernel
set_option maxRecDepth 20000 in
theorem ggX6_knotValue_X6_requireKnot : GoodIn wsX6_knotValue wsX6_requireKnot := goodIn_ca (goodIn_r _ [6, 7, 8, 1, 15, 16, 17, 18, 19, 20, 21, 22, 23, 24] (by decide +kernel) (by decide +kernel)) (goodIn_sub (fun _ h => List.mem_cons_of_mem _ (List.mem_append_right _ h)) (by decide +kernel))
set_option maxRecDepth 20000 in
theorem gX6_knotValue_X6_requireKnot : GoodIn wsX6_knotValue (wsV RX6 143 RX6 yX6_requireKnot wsX6_requireKnot) := goodIn_app (goodIn_of _ (by decide +kernel)) ggX6_knotValue_X6_requireKnot
set_option maxRecDepth 20000 in
theorem ggX6_knotValue_X4_get : GoodIn wsX6_knotValue wsX4_get := goodIn_r _ [13, 14, 25] (by decide +kernel) (by decide +kernel)
set_option maxRecDepth 20000 in
theorem gX6_knotValue_X4_get : GoodIn wsX6_knotValue (wsV RX6 104 RX4 yX4_get wsX4_get) := goodIn_app (goodIn_of _ (by decide +kernel)) ggX6_knotValue_X4_get
theorem dX6_knotValue_0 : decode cX6_knotValue 0 = .ok (.aload_n 0, 1) := by decide +kernel
theorem dX6_knotValue_1 : decode cX6_knotValue 1 = .ok (.iload_n 1, 1) := by decide +kernel
theorem dX6_knotValue_2 : decode cX6_knotValue 2 = .ok (.invokevirtual 143, 3) := by decide +kernel
theorem dX6_knotValue_5 : decode cX6_knotValue 5 = .ok (.aload_n 0, 1) := by decide +kernel
theorem dX6_knotValue_6 : decode cX6_knotValue 6 = .ok (.getfield 26, 3) := by decide +kernel
theorem dX6_knotValue_9 : decode cX6_knotValue 9 = .ok (.getfield 147, 3) := by decide +kernel
theorem dX6_knotValue_12 : decode cX6_knotValue 12 = .ok (.iload_n 1, 1) := by decide +kernel
theorem dX6_knotValue_13 : decode cX6_knotValue 13 = .ok (.invokevirtual 104, 3) := by decide +kernel
theorem dX6_knotValue_16 : decode cX6_knotValue 16 = .ok (.dreturn, 1) := by decide +kernel
set_option maxRecDepth 20000 in
theorem ggX6_knotSlope_X6_requireKnot : GoodIn wsX6_knotSlope wsX6_requireKnot := goodIn_ca (goodIn_r _ [6, 7, 8, 1, 44, 45, 46, 47, 48, 49, 50, 51, 52, 53] (by decide +kernel) (by decide +kernel)) (goodIn_sub (fun _ h => List.mem_cons_of_mem _ (List.mem_append_right _ h)) (by decide +kernel))
set_option maxRecDepth 20000 in
theorem gX6_knotSlope_X6_requireKnot : GoodIn wsX6_knotSlope (wsV RX6 143 RX6 yX6_requireKnot wsX6_requireKnot) := goodIn_app (goodIn_of _ (by decide +kernel)) ggX6_knotSlope_X6_requireKnot
set_option maxRecDepth 20000 in
theorem ggX6_knotSlope_X1_slopeOf : GoodIn wsX6_knotSlope wsX1_slopeOf := goodIn_r _ [13, 14, 15, 16, 17, 18, 19, 12, 20, 21, 22, 23, 24, 25, 26, 27, 28, 29, 30, 31, 32, 33, 5, 34, 35, 36, 37, 38, 39, 40, 41, 42, 43, 50, 51, 52, 53, 54] (by decide +kernel) (by decide +kernel)
set_option maxRecDepth 20000 in
theorem gX6_knotSlope_X1_slopeOf : GoodIn wsX6_knotSlope (wsV RX6 148 RX1 yX1_slopeOf wsX1_slopeOf) := goodIn_app (goodIn_of _ (by decide +kernel)) ggX6_knotSlope_X1_slopeOf
theorem dX6_knotSlope_0 : decode cX6_knotSlope 0 = .ok (.aload_n 0, 1) := by decide +kernel
theorem dX6_knotSlope_1 : decode cX6_knotSlope 1 = .ok (.iload_n 1, 1) := by decide +kernel
theorem dX6_knotSlope_2 : decode cX6_knotSlope 2 = .ok (.invokevirtual 143, 3) := by decide +kernel
theorem dX6_knotSlope_5 : decode cX6_knotSlope 5 = .ok (.aload_n 0, 1) := by decide +kernel
theorem dX6_knotSlope_6 : decode cX6_knotSlope 6 = .ok (.getfield 26, 3) := by decide +kernel
theorem dX6_knotSlope_9 : decode cX6_knotSlope 9 = .ok (.iload_n 1, 1) := by decide +kernel
theorem dX6_knotSlope_10 : decode cX6_knotSlope 10 = .ok (.invokevirtual 148, 3) := by decide +kernel
theorem dX6_knotSlope_13 : decode cX6_knotSlope 13 = .ok (.dreturn, 1) := by decide +kernel
set_option maxRecDepth 20000 in
theorem ggX6_isFixed_X6_requireKnot : GoodIn wsX6_isFixed wsX6_requireKnot := goodIn_ca (goodIn_r _ [6, 7, 8, 1, 21, 22, 23, 24, 25, 26, 27, 28, 29, 30] (by decide +kernel) (by decide +kernel)) (goodIn_sub (fun _ h => List.mem_cons_of_mem _ (List.mem_append_right _ h)) (by decide +kernel))
set_option maxRecDepth 20000 in
theorem gX6_isFixed_X6_requireKnot : GoodIn wsX6_isFixed (wsV RX6 143 RX6 yX6_requireKnot wsX6_requireKnot) := goodIn_app (goodIn_of _ (by decide +kernel)) ggX6_isFixed_X6_requireKnot
set_option maxRecDepth 20000 in
theorem ggX6_isFixed_X1_hasFixedSlope : GoodIn wsX6_isFixed wsX1_hasFixedSlope := goodIn_r _ [13, 14, 15, 16, 17, 18, 19, 20, 27, 28, 29, 30, 31] (by decide +kernel) (by decide +kernel)
set_option maxRecDepth 20000 in
theorem gX6_isFixed_X1_hasFixedSlope : GoodIn wsX6_isFixed (wsV RX6 151 RX1 yX1_hasFixedSlope wsX1_hasFixedSlope) := goodIn_app (goodIn_of _ (by decide +kernel)) ggX6_isFixed_X1_hasFixedSlope
theorem dX6_isFixed_0 : decode cX6_isFixed 0 = .ok (.aload_n 0, 1) := by decide +kernel
theorem dX6_isFixed_1 : decode cX6_isFixed 1 = .ok (.iload_n 1, 1) := by decide +kernel
theorem dX6_isFixed_2 : decode cX6_isFixed 2 = .ok (.invokevirtual 143, 3) := by decide +kernel
theorem dX6_isFixed_5 : decode cX6_isFixed 5 = .ok (.aload_n 0, 1) := by decide +kernel
theorem dX6_isFixed_6 : decode cX6_isFixed 6 = .ok (.getfield 26, 3) := by decide +kernel
theorem dX6_isFixed_9 : decode cX6_isFixed 9 = .ok (.iload_n 1, 1) := by decide +kernel
theorem dX6_isFixed_10 : decode cX6_isFixed 10 = .ok (.invokevirtual 151, 3) := by decide +kernel
theorem dX6_isFixed_13 : decode cX6_isFixed 13 = .ok (.ireturn, 1) := by decide +kernel
set_option maxRecDepth 20000 in
theorem ggX6_insertKnot_X6_settled : GoodIn wsX6_insertKnot wsX6_settled := goodIn_r _ [11, 12, 13, 14, 10, 15] (by decide +kernel) (by decide +kernel)
set_option maxRecDepth 20000 in
theorem gX6_insertKnot_X6_settled : GoodIn wsX6_insertKnot (va_wsS RX6 49 yX6_settled wsX6_settled) := goodIn_app (goodIn_of _ (by decide +kernel)) ggX6_insertKnot_X6_settled
set_option maxRecDepth 20000 in
theorem ggX6_insertKnot_X1_liesBetweenEnds : GoodIn wsX6_insertKnot wsX1_liesBetweenEnds := goodIn_r _ [20, 21, 22, 23, 24, 25, 26, 27, 28, 111, 112, 113, 114, 115] (by decide +kernel) (by decide +kernel)
set_option maxRecDepth 20000 in
theorem gX6_insertKnot_X1_liesBetweenEnds : GoodIn wsX6_insertKnot (wsV RX6 155 RX1 yX1_liesBetweenEnds wsX1_liesBetweenEnds) := goodIn_app (goodIn_of _ (by decide +kernel)) ggX6_insertKnot_X1_liesBetweenEnds
set_option maxRecDepth 20000 in
theorem ggX6_insertKnot_X1_pieceAt : GoodIn wsX6_insertKnot wsX1_pieceAt := goodIn_r _ [32, 21, 22, 23, 24, 25, 26, 27, 28, 111, 112, 113, 114, 115] (by decide +kernel) (by decide +kernel)
set_option maxRecDepth 20000 in
theorem gX6_insertKnot_X1_pieceAt : GoodIn wsX6_insertKnot (wsV RX6 160 RX1 yX1_pieceAt wsX1_pieceAt) := goodIn_app (goodIn_of _ (by decide +kernel)) ggX6_insertKnot_X1_pieceAt
set_option maxRecDepth 20000 in
theorem ggX6_insertKnot_X4_get : GoodIn wsX6_insertKnot wsX4_get := goodIn_r _ [27, 28, 115] (by decide +kernel) (by decide +kernel)
set_option maxRecDepth 20000 in
theorem gX6_insertKnot_X4_get : GoodIn wsX6_insertKnot (wsV RX6 104 RX4 yX4_get wsX4_get) := goodIn_app (goodIn_of _ (by decide +kernel)) ggX6_insertKnot_X4_get
set_option maxRecDepth 20000 in
theorem ggX6_insertKnot_X6_layPiece : GoodIn wsX6_insertKnot wsX6_layPiece := goodIn_r _ [37, 7, 5, 33, 24, 25, 26, 27, 28, 38, 39, 40, 41, 42, 43, 44, 45, 46, 47, 19, 48, 22, 23, 49, 50, 51, 52, 53, 54, 55, 10, 56, 57, 58, 59, 60, 21, 61, 62, 63, 64, 65, 66, 67, 68, 69, 70, 71, 72, 73, 74, 75, 76, 77, 78, 79, 80, 81, 105, 106, 107, 108, 109, 110, 111, 112, 113, 114, 115, 116, 117, 118, 119, 120] (by decide +kernel) (by decide +kernel)
set_option maxRecDepth 20000 in
theorem gX6_insertKnot_X6_layPiece : GoodIn wsX6_insertKnot (wsV RX6 170 RX6 yX6_layPiece wsX6_layPiece) := goodIn_app (goodIn_of _ (by decide +kernel)) ggX6_insertKnot_X6_layPiece
set_option maxRecDepth 20000 in
theorem ggX6_insertKnot_X2_heightAt : GoodIn wsX6_insertKnot wsX2_heightAt := goodIn_r _ [85, 43, 44, 77, 80, 81, 116, 117, 118, 119, 120] (by decide +kernel) (by decide +kernel)
set_option maxRecDepth 20000 in
theorem gX6_insertKnot_X2_heightAt : GoodIn wsX6_insertKnot (wsV RX6 173 RX2 yX2_heightAt wsX2_heightAt) := goodIn_app (goodIn_of _ (by decide +kernel)) ggX6_insertKnot_X2_heightAt
set_option maxRecDepth 20000 in
theorem ggX6_insertKnot_X6_within : GoodIn wsX6_insertKnot wsX6_within := goodIn_r _ [88] (by decide +kernel) (by decide +kernel)
set_option maxRecDepth 20000 in
theorem gX6_insertKnot_X6_within : GoodIn wsX6_insertKnot (va_wsS RX6 176 yX6_within wsX6_within) := goodIn_app (goodIn_of _ (by decide +kernel)) ggX6_insertKnot_X6_within
set_option maxRecDepth 20000 in
theorem ggX6_insertKnot_X2_steepnessAt : GoodIn wsX6_insertKnot wsX2_steepnessAt := goodIn_r _ [92, 43, 77, 79, 80, 78, 81, 116, 117, 118, 119, 120] (by decide +kernel) (by decide +kernel)
set_option maxRecDepth 20000 in
theorem gX6_insertKnot_X2_steepnessAt : GoodIn wsX6_insertKnot (wsV RX6 180 RX2 yX2_steepnessAt wsX2_steepnessAt) := goodIn_app (goodIn_of _ (by decide +kernel)) ggX6_insertKnot_X2_steepnessAt
set_option maxRecDepth 20000 in
theorem ggX6_insertKnot_X1_insert : GoodIn wsX6_insertKnot wsX1_insert := goodIn_r _ [96, 22, 21, 53, 62, 97, 98, 99, 26, 100, 28, 101, 102, 103, 104, 111, 112, 113, 114, 115] (by decide +kernel) (by decide +kernel)
set_option maxRecDepth 20000 in
theorem gX6_insertKnot_X1_insert : GoodIn wsX6_insertKnot (wsV RX6 139 RX1 yX1_insert wsX1_insert) := goodIn_app (goodIn_of _ (by decide +kernel)) ggX6_insertKnot_X1_insert
theorem dX6_insertKnot_0 : decode cX6_insertKnot 0 = .ok (.dload_n 1, 1) := by decide +kernel
theorem dX6_insertKnot_1 : decode cX6_insertKnot 1 = .ok (.invokestatic 49, 3) := by decide +kernel
theorem dX6_insertKnot_4 : decode cX6_insertKnot 4 = .ok (.dstore_n 3, 1) := by decide +kernel
theorem dX6_insertKnot_5 : decode cX6_insertKnot 5 = .ok (.aload_n 0, 1) := by decide +kernel
theorem dX6_insertKnot_6 : decode cX6_insertKnot 6 = .ok (.getfield 26, 3) := by decide +kernel
theorem dX6_insertKnot_9 : decode cX6_insertKnot 9 = .ok (.dload_n 3, 1) := by decide +kernel
theorem dX6_insertKnot_10 : decode cX6_insertKnot 10 = .ok (.invokevirtual 155, 3) := by decide +kernel
theorem dX6_insertKnot_13 : decode cX6_insertKnot 13 = .ok (.ifCond .ne 13, 3) := by decide +kernel
theorem dX6_insertKnot_16 : decode cX6_insertKnot 16 = .ok (.new 61, 3) := by decide +kernel
theorem dX6_insertKnot_19 : decode cX6_insertKnot 19 = .ok (.dup, 1) := by decide +kernel
theorem dX6_insertKnot_20 : decode cX6_insertKnot 20 = .ok (.ldc 158, 2) := by decide +kernel
theorem dX6_insertKnot_22 : decode cX6_insertKnot 22 = .ok (.invokespecial 65, 3) := by decide +kernel
theorem dX6_insertKnot_25 : decode cX6_insertKnot 25 = .ok (.athrow, 1) := by decide +kernel
theorem dX6_insertKnot_26 : decode cX6_insertKnot 26 = .ok (.aload_n 0, 1) := by decide +kernel
theorem dX6_insertKnot_27 : decode cX6_insertKnot 27 = .ok (.getfield 26, 3) := by decide +kernel
theorem dX6_insertKnot_30 : decode cX6_insertKnot 30 = .ok (.dload_n 3, 1) := by decide +kernel
theorem dX6_insertKnot_31 : decode cX6_insertKnot 31 = .ok (.invokevirtual 160, 3) := by decide +kernel
theorem dX6_insertKnot_34 : decode cX6_insertKnot 34 = .ok (.istore 5, 2) := by decide +kernel
theorem dX6_insertKnot_36 : decode cX6_insertKnot 36 = .ok (.iload 5, 2) := by decide +kernel
theorem dX6_insertKnot_38 : decode cX6_insertKnot 38 = .ok (.iconst 1, 1) := by decide +kernel
theorem dX6_insertKnot_39 : decode cX6_insertKnot 39 = .ok (.iadd, 1) := by decide +kernel
theorem dX6_insertKnot_40 : decode cX6_insertKnot 40 = .ok (.istore 6, 2) := by decide +kernel
theorem dX6_insertKnot_42 : decode cX6_insertKnot 42 = .ok (.dload_n 3, 1) := by decide +kernel
theorem dX6_insertKnot_43 : decode cX6_insertKnot 43 = .ok (.aload_n 0, 1) := by decide +kernel
theorem dX6_insertKnot_44 : decode cX6_insertKnot 44 = .ok (.getfield 26, 3) := by decide +kernel
theorem dX6_insertKnot_47 : decode cX6_insertKnot 47 = .ok (.getfield 146, 3) := by decide +kernel
theorem dX6_insertKnot_50 : decode cX6_insertKnot 50 = .ok (.iload 5, 2) := by decide +kernel
theorem dX6_insertKnot_52 : decode cX6_insertKnot 52 = .ok (.invokevirtual 104, 3) := by decide +kernel
theorem dX6_insertKnot_55 : decode cX6_insertKnot 55 = .ok (.dsub, 1) := by decide +kernel
theorem dX6_insertKnot_56 : decode cX6_insertKnot 56 = .ok (.ldc2_w 164, 3) := by decide +kernel
theorem dX6_insertKnot_59 : decode cX6_insertKnot 59 = .ok (.dcmp .g, 1) := by decide +kernel
theorem dX6_insertKnot_60 : decode cX6_insertKnot 60 = .ok (.ifCond .lt 24, 3) := by decide +kernel
theorem dX6_insertKnot_63 : decode cX6_insertKnot 63 = .ok (.aload_n 0, 1) := by decide +kernel
theorem dX6_insertKnot_64 : decode cX6_insertKnot 64 = .ok (.getfield 26, 3) := by decide +kernel
theorem dX6_insertKnot_67 : decode cX6_insertKnot 67 = .ok (.getfield 146, 3) := by decide +kernel
theorem dX6_insertKnot_70 : decode cX6_insertKnot 70 = .ok (.iload 6, 2) := by decide +kernel
theorem dX6_insertKnot_72 : decode cX6_insertKnot 72 = .ok (.invokevirtual 104, 3) := by decide +kernel
theorem dX6_insertKnot_75 : decode cX6_insertKnot 75 = .ok (.dload_n 3, 1) := by decide +kernel
theorem dX6_insertKnot_76 : decode cX6_insertKnot 76 = .ok (.dsub, 1) := by decide +kernel
theorem dX6_insertKnot_77 : decode cX6_insertKnot 77 = .ok (.ldc2_w 164, 3) := by decide +kernel
theorem dX6_insertKnot_80 : decode cX6_insertKnot 80 = .ok (.dcmp .g, 1) := by decide +kernel
theorem dX6_insertKnot_81 : decode cX6_insertKnot 81 = .ok (.ifCond .ge 13, 3) := by decide +kernel
theorem dX6_insertKnot_84 : decode cX6_insertKnot 84 = .ok (.new 61, 3) := by decide +kernel
theorem dX6_insertKnot_87 : decode cX6_insertKnot 87 = .ok (.dup, 1) := by decide +kernel
theorem dX6_insertKnot_88 : decode cX6_insertKnot 88 = .ok (.ldc 166, 2) := by decide +kernel
theorem dX6_insertKnot_90 : decode cX6_insertKnot 90 = .ok (.invokespecial 65, 3) := by decide +kernel
theorem dX6_insertKnot_93 : decode cX6_insertKnot 93 = .ok (.athrow, 1) := by decide +kernel
theorem dX6_insertKnot_94 : decode cX6_insertKnot 94 = .ok (.aload_n 0, 1) := by decide +kernel
theorem dX6_insertKnot_95 : decode cX6_insertKnot 95 = .ok (.getfield 26, 3) := by decide +kernel
theorem dX6_insertKnot_98 : decode cX6_insertKnot 98 = .ok (.getfield 136, 3) := by decide +kernel
theorem dX6_insertKnot_101 : decode cX6_insertKnot 101 = .ok (.bipush 60, 2) := by decide +kernel
theorem dX6_insertKnot_103 : decode cX6_insertKnot 103 = .ok (.if_icmp .lt 13, 3) := by decide +kernel
theorem dX6_insertKnot_106 : decode cX6_insertKnot 106 = .ok (.new 84, 3) := by decide +kernel
theorem dX6_insertKnot_109 : decode cX6_insertKnot 109 = .ok (.dup, 1) := by decide +kernel
theorem dX6_insertKnot_110 : decode cX6_insertKnot 110 = .ok (.ldc 168, 2) := by decide +kernel
theorem dX6_insertKnot_112 : decode cX6_insertKnot 112 = .ok (.invokespecial 88, 3) := by decide +kernel
theorem dX6_insertKnot_115 : decode cX6_insertKnot 115 = .ok (.athrow, 1) := by decide +kernel
theorem dX6_insertKnot_116 : decode cX6_insertKnot 116 = .ok (.aload_n 0, 1) := by decide +kernel
theorem dX6_insertKnot_117 : decode cX6_insertKnot 117 = .ok (.iload 5, 2) := by decide +kernel
theorem dX6_insertKnot_119 : decode cX6_insertKnot 119 = .ok (.invokevirtual 170, 3) := by decide +kernel
theorem dX6_insertKnot_122 : decode cX6_insertKnot 122 = .ok (.aload_n 0, 1) := by decide +kernel
theorem dX6_insertKnot_123 : decode cX6_insertKnot 123 = .ok (.getfield 33, 3) := by decide +kernel
theorem dX6_insertKnot_126 : decode cX6_insertKnot 126 = .ok (.dload_n 3, 1) := by decide +kernel
theorem dX6_insertKnot_127 : decode cX6_insertKnot 127 = .ok (.invokevirtual 173, 3) := by decide +kernel
theorem dX6_insertKnot_130 : decode cX6_insertKnot 130 = .ok (.dstore 7, 2) := by decide +kernel
theorem dX6_insertKnot_132 : decode cX6_insertKnot 132 = .ok (.aload_n 0, 1) := by decide +kernel
theorem dX6_insertKnot_133 : decode cX6_insertKnot 133 = .ok (.getfield 26, 3) := by decide +kernel
theorem dX6_insertKnot_136 : decode cX6_insertKnot 136 = .ok (.getfield 147, 3) := by decide +kernel
theorem dX6_insertKnot_139 : decode cX6_insertKnot 139 = .ok (.iload 5, 2) := by decide +kernel
theorem dX6_insertKnot_141 : decode cX6_insertKnot 141 = .ok (.invokevirtual 104, 3) := by decide +kernel
theorem dX6_insertKnot_144 : decode cX6_insertKnot 144 = .ok (.aload_n 0, 1) := by decide +kernel
theorem dX6_insertKnot_145 : decode cX6_insertKnot 145 = .ok (.getfield 26, 3) := by decide +kernel
theorem dX6_insertKnot_148 : decode cX6_insertKnot 148 = .ok (.getfield 147, 3) := by decide +kernel
theorem dX6_insertKnot_151 : decode cX6_insertKnot 151 = .ok (.iload 6, 2) := by decide +kernel
theorem dX6_insertKnot_153 : decode cX6_insertKnot 153 = .ok (.invokevirtual 104, 3) := by decide +kernel
theorem dX6_insertKnot_156 : decode cX6_insertKnot 156 = .ok (.dload 7, 2) := by decide +kernel
theorem dX6_insertKnot_158 : decode cX6_insertKnot 158 = .ok (.invokestatic 176, 3) := by decide +kernel
theorem dX6_insertKnot_161 : decode cX6_insertKnot 161 = .ok (.dstore 9, 2) := by decide +kernel
theorem dX6_insertKnot_163 : decode cX6_insertKnot 163 = .ok (.aload_n 0, 1) := by decide +kernel
theorem dX6_insertKnot_164 : decode cX6_insertKnot 164 = .ok (.getfield 33, 3) := by decide +kernel
theorem dX6_insertKnot_167 : decode cX6_insertKnot 167 = .ok (.dload_n 3, 1) := by decide +kernel
theorem dX6_insertKnot_168 : decode cX6_insertKnot 168 = .ok (.invokevirtual 180, 3) := by decide +kernel
theorem dX6_insertKnot_171 : decode cX6_insertKnot 171 = .ok (.dstore 11, 2) := by decide +kernel
theorem dX6_insertKnot_173 : decode cX6_insertKnot 173 = .ok (.aload_n 0, 1) := by decide +kernel
theorem dX6_insertKnot_174 : decode cX6_insertKnot 174 = .ok (.getfield 26, 3) := by decide +kernel
theorem dX6_insertKnot_177 : decode cX6_insertKnot 177 = .ok (.iload 6, 2) := by decide +kernel
theorem dX6_insertKnot_179 : decode cX6_insertKnot 179 = .ok (.dload_n 3, 1) := by decide +kernel
theorem dX6_insertKnot_180 : decode cX6_insertKnot 180 = .ok (.dload 9, 2) := by decide +kernel
theorem dX6_insertKnot_182 : decode cX6_insertKnot 182 = .ok (.dload 11, 2) := by decide +kernel
theorem dX6_insertKnot_184 : decode cX6_insertKnot 184 = .ok (.dconst 0, 1) := by decide +kernel
theorem dX6_insertKnot_185 : decode cX6_insertKnot 185 = .ok (.dcmp .g, 1) := by decide +kernel
theorem dX6_insertKnot_186 : decode cX6_insertKnot 186 = .ok (.ifCond .ge 7, 3) := by decide +kernel
theorem dX6_insertKnot_189 : decode cX6_insertKnot 189 = .ok (.dconst 0, 1) := by decide +kernel
theorem dX6_insertKnot_190 : decode cX6_insertKnot 190 = .ok (.goto 5, 3) := by decide +kernel
theorem dX6_insertKnot_193 : decode cX6_insertKnot 193 = .ok (.dload 11, 2) := by decide +kernel
theorem dX6_insertKnot_195 : decode cX6_insertKnot 195 = .ok (.invokevirtual 139, 3) := by decide +kernel
theorem dX6_insertKnot_198 : decode cX6_insertKnot 198 = .ok (.iload 6, 2) := by decide +kernel
theorem dX6_insertKnot_200 : decode cX6_insertKnot 200 = .ok (.ireturn, 1) := by decide +kernel
set_option maxRecDepth 20000 in
theorem ggX6_removeKnot_X6_requireKnot : GoodIn wsX6_removeKnot wsX6_requireKnot := goodIn_ca (goodIn_r _ [8, 9, 10, 3, 26, 27, 28, 29, 30, 31, 32, 33, 34, 35] (by decide +kernel) (by decide +kernel)) (goodIn_sub (fun _ h => List.mem_cons_of_mem _ (List.mem_append_right _ h)) (by decide +kernel))
set_option maxRecDepth 20000 in
theorem gX6_removeKnot_X6_requireKnot : GoodIn wsX6_removeKnot (wsV RX6 143 RX6 yX6_requireKnot wsX6_requireKnot) := goodIn_app (goodIn_of _ (by decide +kernel)) ggX6_removeKnot_X6_requireKnot
set_option maxRecDepth 20000 in
theorem ggX6_removeKnot_X1_remove : GoodIn wsX6_removeKnot wsX1_remove := goodIn_r _ [15, 16, 17, 18, 19, 20, 21, 22, 23, 24, 25, 32, 33, 34, 35, 36] (by decide +kernel) (by decide +kernel)
set_option maxRecDepth 20000 in
theorem gX6_removeKnot_X1_remove : GoodIn wsX6_removeKnot (wsV RX6 185 RX1 yX1_remove wsX1_remove) := goodIn_app (goodIn_of _ (by decide +kernel)) ggX6_removeKnot_X1_remove
theorem dX6_removeKnot_0 : decode cX6_removeKnot 0 = .ok (.aload_n 0, 1) := by decide +kernel
theorem dX6_removeKnot_1 : decode cX6_removeKnot 1 = .ok (.iload_n 1, 1) := by decide +kernel
theorem dX6_removeKnot_2 : decode cX6_removeKnot 2 = .ok (.invokevirtual 143, 3) := by decide +kernel
theorem dX6_removeKnot_5 : decode cX6_removeKnot 5 = .ok (.iload_n 1, 1) := by decide +kernel
theorem dX6_removeKnot_6 : decode cX6_removeKnot 6 = .ok (.ifCond .eq 16, 3) := by decide +kernel
theorem dX6_removeKnot_9 : decode cX6_removeKnot 9 = .ok (.iload_n 1, 1) := by decide +kernel
theorem dX6_removeKnot_10 : decode cX6_removeKnot 10 = .ok (.aload_n 0, 1) := by decide +kernel
theorem dX6_removeKnot_11 : decode cX6_removeKnot 11 = .ok (.getfield 26, 3) := by decide +kernel
theorem dX6_removeKnot_14 : decode cX6_removeKnot 14 = .ok (.getfield 136, 3) := by decide +kernel
theorem dX6_removeKnot_17 : decode cX6_removeKnot 17 = .ok (.iconst 1, 1) := by decide +kernel
theorem dX6_removeKnot_18 : decode cX6_removeKnot 18 = .ok (.isub, 1) := by decide +kernel
theorem dX6_removeKnot_19 : decode cX6_removeKnot 19 = .ok (.if_icmp .ne 13, 3) := by decide +kernel
theorem dX6_removeKnot_22 : decode cX6_removeKnot 22 = .ok (.new 61, 3) := by decide +kernel
theorem dX6_removeKnot_25 : decode cX6_removeKnot 25 = .ok (.dup, 1) := by decide +kernel
theorem dX6_removeKnot_26 : decode cX6_removeKnot 26 = .ok (.ldc 183, 2) := by decide +kernel
theorem dX6_removeKnot_28 : decode cX6_removeKnot 28 = .ok (.invokespecial 65, 3) := by decide +kernel
theorem dX6_removeKnot_31 : decode cX6_removeKnot 31 = .ok (.athrow, 1) := by decide +kernel
theorem dX6_removeKnot_32 : decode cX6_removeKnot 32 = .ok (.aload_n 0, 1) := by decide +kernel
theorem dX6_removeKnot_33 : decode cX6_removeKnot 33 = .ok (.getfield 26, 3) := by decide +kernel
theorem dX6_removeKnot_36 : decode cX6_removeKnot 36 = .ok (.iload_n 1, 1) := by decide +kernel
theorem dX6_removeKnot_37 : decode cX6_removeKnot 37 = .ok (.invokevirtual 185, 3) := by decide +kernel
theorem dX6_removeKnot_40 : decode cX6_removeKnot 40 = .ok (.aload_n 0, 1) := by decide +kernel
theorem dX6_removeKnot_41 : decode cX6_removeKnot 41 = .ok (.getfield 26, 3) := by decide +kernel
theorem dX6_removeKnot_44 : decode cX6_removeKnot 44 = .ok (.getfield 136, 3) := by decide +kernel
theorem dX6_removeKnot_47 : decode cX6_removeKnot 47 = .ok (.ireturn, 1) := by decide +kernel
set_option maxRecDepth 20000 in
theorem ggX6_setKnotValue_X6_requireKnot : GoodIn wsX6_setKnotValue wsX6_requireKnot := goodIn_ca (goodIn_r _ [10, 11, 12, 5, 33, 34, 35, 36, 37, 38, 39, 40, 41, 42] (by decide +kernel) (by decide +kernel)) (goodIn_sub (fun _ h => List.mem_cons_of_mem _ (List.mem_append_right _ h)) (by decide +kernel))
set_option maxRecDepth 20000 in
theorem gX6_setKnotValue_X6_requireKnot : GoodIn wsX6_setKnotValue (wsV RX6 143 RX6 yX6_requireKnot wsX6_requireKnot) := goodIn_app (goodIn_of _ (by decide +kernel)) ggX6_setKnotValue_X6_requireKnot
set_option maxRecDepth 20000 in
theorem ggX6_setKnotValue_X6_settled : GoodIn wsX6_setKnotValue wsX6_settled := goodIn_r _ [15, 16, 17, 18, 9, 19] (by decide +kernel) (by decide +kernel)
set_option maxRecDepth 20000 in
theorem gX6_setKnotValue_X6_settled : GoodIn wsX6_setKnotValue (va_wsS RX6 49 yX6_settled wsX6_settled) := goodIn_app (goodIn_of _ (by decide +kernel)) ggX6_setKnotValue_X6_settled
set_option maxRecDepth 20000 in
theorem ggX6_setKnotValue_X6_isFrom : GoodIn wsX6_setKnotValue wsX6_isFrom := goodIn_r _ [22] (by decide +kernel) (by decide +kernel)
set_option maxRecDepth 20000 in
theorem gX6_setKnotValue_X6_isFrom : GoodIn wsX6_setKnotValue (va_wsS RX6 57 yX6_isFrom wsX6_isFrom) := goodIn_app (goodIn_of _ (by decide +kernel)) ggX6_setKnotValue_X6_isFrom
set_option maxRecDepth 20000 in
theorem ggX6_setKnotValue_X4_get : GoodIn wsX6_setKnotValue wsX4_get := goodIn_r _ [27, 28, 43] (by decide +kernel) (by decide +kernel)
set_option maxRecDepth 20000 in
theorem gX6_setKnotValue_X4_get : GoodIn wsX6_setKnotValue (wsV RX6 104 RX4 yX4_get wsX4_get) := goodIn_app (goodIn_of _ (by decide +kernel)) ggX6_setKnotValue_X4_get
set_option maxRecDepth 20000 in
theorem ggX6_setKnotValue_X4_set : GoodIn wsX6_setKnotValue wsX4_set := goodIn_r _ [32, 28, 43] (by decide +kernel) (by decide +kernel)
set_option maxRecDepth 20000 in
theorem gX6_setKnotValue_X4_set : GoodIn wsX6_setKnotValue (wsV RX6 192 RX4 yX4_set wsX4_set) := goodIn_app (goodIn_of _ (by decide +kernel)) ggX6_setKnotValue_X4_set
theorem dX6_setKnotValue_0 : decode cX6_setKnotValue 0 = .ok (.aload_n 0, 1) := by decide +kernel
theorem dX6_setKnotValue_1 : decode cX6_setKnotValue 1 = .ok (.iload_n 1, 1) := by decide +kernel
theorem dX6_setKnotValue_2 : decode cX6_setKnotValue 2 = .ok (.invokevirtual 143, 3) := by decide +kernel
theorem dX6_setKnotValue_5 : decode cX6_setKnotValue 5 = .ok (.dload_n 2, 1) := by decide +kernel
theorem dX6_setKnotValue_6 : decode cX6_setKnotValue 6 = .ok (.invokestatic 49, 3) := by decide +kernel
theorem dX6_setKnotValue_9 : decode cX6_setKnotValue 9 = .ok (.dstore 4, 2) := by decide +kernel
theorem dX6_setKnotValue_11 : decode cX6_setKnotValue 11 = .ok (.ldc2_w 53, 3) := by decide +kernel
theorem dX6_setKnotValue_14 : decode cX6_setKnotValue 14 = .ok (.ldc2_w 55, 3) := by decide +kernel
theorem dX6_setKnotValue_17 : decode cX6_setKnotValue 17 = .ok (.dload 4, 2) := by decide +kernel
theorem dX6_setKnotValue_19 : decode cX6_setKnotValue 19 = .ok (.invokestatic 57, 3) := by decide +kernel
theorem dX6_setKnotValue_22 : decode cX6_setKnotValue 22 = .ok (.ifCond .ne 13, 3) := by decide +kernel
theorem dX6_setKnotValue_25 : decode cX6_setKnotValue 25 = .ok (.new 61, 3) := by decide +kernel
theorem dX6_setKnotValue_28 : decode cX6_setKnotValue 28 = .ok (.dup, 1) := by decide +kernel
theorem dX6_setKnotValue_29 : decode cX6_setKnotValue 29 = .ok (.ldc 186, 2) := by decide +kernel
theorem dX6_setKnotValue_31 : decode cX6_setKnotValue 31 = .ok (.invokespecial 65, 3) := by decide +kernel
theorem dX6_setKnotValue_34 : decode cX6_setKnotValue 34 = .ok (.athrow, 1) := by decide +kernel
theorem dX6_setKnotValue_35 : decode cX6_setKnotValue 35 = .ok (.iload_n 1, 1) := by decide +kernel
theorem dX6_setKnotValue_36 : decode cX6_setKnotValue 36 = .ok (.ifCond .le 32, 3) := by decide +kernel
theorem dX6_setKnotValue_39 : decode cX6_setKnotValue 39 = .ok (.dload 4, 2) := by decide +kernel
theorem dX6_setKnotValue_41 : decode cX6_setKnotValue 41 = .ok (.aload_n 0, 1) := by decide +kernel
theorem dX6_setKnotValue_42 : decode cX6_setKnotValue 42 = .ok (.getfield 26, 3) := by decide +kernel
theorem dX6_setKnotValue_45 : decode cX6_setKnotValue 45 = .ok (.getfield 147, 3) := by decide +kernel
theorem dX6_setKnotValue_48 : decode cX6_setKnotValue 48 = .ok (.iload_n 1, 1) := by decide +kernel
theorem dX6_setKnotValue_49 : decode cX6_setKnotValue 49 = .ok (.iconst 1, 1) := by decide +kernel
theorem dX6_setKnotValue_50 : decode cX6_setKnotValue 50 = .ok (.isub, 1) := by decide +kernel
theorem dX6_setKnotValue_51 : decode cX6_setKnotValue 51 = .ok (.invokevirtual 104, 3) := by decide +kernel
theorem dX6_setKnotValue_54 : decode cX6_setKnotValue 54 = .ok (.dcmp .g, 1) := by decide +kernel
theorem dX6_setKnotValue_55 : decode cX6_setKnotValue 55 = .ok (.ifCond .ge 13, 3) := by decide +kernel
theorem dX6_setKnotValue_58 : decode cX6_setKnotValue 58 = .ok (.new 61, 3) := by decide +kernel
theorem dX6_setKnotValue_61 : decode cX6_setKnotValue 61 = .ok (.dup, 1) := by decide +kernel
theorem dX6_setKnotValue_62 : decode cX6_setKnotValue 62 = .ok (.ldc 188, 2) := by decide +kernel
theorem dX6_setKnotValue_64 : decode cX6_setKnotValue 64 = .ok (.invokespecial 65, 3) := by decide +kernel
theorem dX6_setKnotValue_67 : decode cX6_setKnotValue 67 = .ok (.athrow, 1) := by decide +kernel
theorem dX6_setKnotValue_68 : decode cX6_setKnotValue 68 = .ok (.iload_n 1, 1) := by decide +kernel
theorem dX6_setKnotValue_69 : decode cX6_setKnotValue 69 = .ok (.aload_n 0, 1) := by decide +kernel
theorem dX6_setKnotValue_70 : decode cX6_setKnotValue 70 = .ok (.getfield 26, 3) := by decide +kernel
theorem dX6_setKnotValue_73 : decode cX6_setKnotValue 73 = .ok (.getfield 136, 3) := by decide +kernel
theorem dX6_setKnotValue_76 : decode cX6_setKnotValue 76 = .ok (.iconst 1, 1) := by decide +kernel
theorem dX6_setKnotValue_77 : decode cX6_setKnotValue 77 = .ok (.isub, 1) := by decide +kernel
theorem dX6_setKnotValue_78 : decode cX6_setKnotValue 78 = .ok (.if_icmp .ge 32, 3) := by decide +kernel
theorem dX6_setKnotValue_81 : decode cX6_setKnotValue 81 = .ok (.dload 4, 2) := by decide +kernel
theorem dX6_setKnotValue_83 : decode cX6_setKnotValue 83 = .ok (.aload_n 0, 1) := by decide +kernel
theorem dX6_setKnotValue_84 : decode cX6_setKnotValue 84 = .ok (.getfield 26, 3) := by decide +kernel
theorem dX6_setKnotValue_87 : decode cX6_setKnotValue 87 = .ok (.getfield 147, 3) := by decide +kernel
theorem dX6_setKnotValue_90 : decode cX6_setKnotValue 90 = .ok (.iload_n 1, 1) := by decide +kernel
theorem dX6_setKnotValue_91 : decode cX6_setKnotValue 91 = .ok (.iconst 1, 1) := by decide +kernel
theorem dX6_setKnotValue_92 : decode cX6_setKnotValue 92 = .ok (.iadd, 1) := by decide +kernel
theorem dX6_setKnotValue_93 : decode cX6_setKnotValue 93 = .ok (.invokevirtual 104, 3) := by decide +kernel
theorem dX6_setKnotValue_96 : decode cX6_setKnotValue 96 = .ok (.dcmp .l, 1) := by decide +kernel
theorem dX6_setKnotValue_97 : decode cX6_setKnotValue 97 = .ok (.ifCond .le 13, 3) := by decide +kernel
theorem dX6_setKnotValue_100 : decode cX6_setKnotValue 100 = .ok (.new 61, 3) := by decide +kernel
theorem dX6_setKnotValue_103 : decode cX6_setKnotValue 103 = .ok (.dup, 1) := by decide +kernel
theorem dX6_setKnotValue_104 : decode cX6_setKnotValue 104 = .ok (.ldc 190, 2) := by decide +kernel
theorem dX6_setKnotValue_106 : decode cX6_setKnotValue 106 = .ok (.invokespecial 65, 3) := by decide +kernel
theorem dX6_setKnotValue_109 : decode cX6_setKnotValue 109 = .ok (.athrow, 1) := by decide +kernel
theorem dX6_setKnotValue_110 : decode cX6_setKnotValue 110 = .ok (.aload_n 0, 1) := by decide +kernel
theorem dX6_setKnotValue_111 : decode cX6_setKnotValue 111 = .ok (.getfield 26, 3) := by decide +kernel
theorem dX6_setKnotValue_114 : decode cX6_setKnotValue 114 = .ok (.getfield 147, 3) := by decide +kernel
theorem dX6_setKnotValue_117 : decode cX6_setKnotValue 117 = .ok (.iload_n 1, 1) := by decide +kernel
theorem dX6_setKnotValue_118 : decode cX6_setKnotValue 118 = .ok (.invokevirtual 104, 3) := by decide +kernel
theorem dX6_setKnotValue_121 : decode cX6_setKnotValue 121 = .ok (.dstore 6, 2) := by decide +kernel
theorem dX6_setKnotValue_123 : decode cX6_setKnotValue 123 = .ok (.aload_n 0, 1) := by decide +kernel
theorem dX6_setKnotValue_124 : decode cX6_setKnotValue 124 = .ok (.getfield 26, 3) := by decide +kernel
theorem dX6_setKnotValue_127 : decode cX6_setKnotValue 127 = .ok (.getfield 147, 3) := by decide +kernel
theorem dX6_setKnotValue_130 : decode cX6_setKnotValue 130 = .ok (.iload_n 1, 1) := by decide +kernel
theorem dX6_setKnotValue_131 : decode cX6_setKnotValue 131 = .ok (.dload 4, 2) := by decide +kernel
theorem dX6_setKnotValue_133 : decode cX6_setKnotValue 133 = .ok (.invokevirtual 192, 3) := by decide +kernel
theorem dX6_setKnotValue_136 : decode cX6_setKnotValue 136 = .ok (.dload 6, 2) := by decide +kernel
theorem dX6_setKnotValue_138 : decode cX6_setKnotValue 138 = .ok (.dreturn, 1) := by decide +kernel
set_option maxRecDepth 20000 in
theorem ggX6_fixSlope_X6_requireKnot : GoodIn wsX6_fixSlope wsX6_requireKnot := goodIn_ca (goodIn_r _ [9, 10, 11, 4, 61, 62, 63, 64, 65, 66, 67, 68, 69, 70] (by decide +kernel) (by decide +kernel)) (goodIn_sub (fun _ h => List.mem_cons_of_mem _ (List.mem_append_right _ h)) (by decide +kernel))
set_option maxRecDepth 20000 in
theorem gX6_fixSlope_X6_requireKnot : GoodIn wsX6_fixSlope (wsV RX6 143 RX6 yX6_requireKnot wsX6_requireKnot) := goodIn_app (goodIn_of _ (by decide +kernel)) ggX6_fixSlope_X6_requireKnot
set_option maxRecDepth 20000 in
theorem ggX6_fixSlope_X6_settled : GoodIn wsX6_fixSlope wsX6_settled := goodIn_r _ [14, 15, 16, 17, 8, 18] (by decide +kernel) (by decide +kernel)
set_option maxRecDepth 20000 in
theorem gX6_fixSlope_X6_settled : GoodIn wsX6_fixSlope (va_wsS RX6 49 yX6_settled wsX6_settled) := goodIn_app (goodIn_of _ (by decide +kernel)) ggX6_fixSlope_X6_settled
set_option maxRecDepth 20000 in
theorem ggX6_fixSlope_X6_isFrom : GoodIn wsX6_fixSlope wsX6_isFrom := goodIn_r _ [21] (by decide +kernel) (by decide +kernel)
set_option maxRecDepth 20000 in
theorem gX6_fixSlope_X6_isFrom : GoodIn wsX6_fixSlope (va_wsS RX6 57 yX6_isFrom wsX6_isFrom) := goodIn_app (goodIn_of _ (by decide +kernel)) ggX6_fixSlope_X6_isFrom
set_option maxRecDepth 20000 in
theorem ggX6_fixSlope_X4_set : GoodIn wsX6_fixSlope wsX4_set := goodIn_r _ [26, 27, 71] (by decide +kernel) (by decide +kernel)
set_option maxRecDepth 20000 in
theorem gX6_fixSlope_X4_set : GoodIn wsX6_fixSlope (wsV RX6 192 RX4 yX4_set wsX4_set) := goodIn_app (goodIn_of _ (by decide +kernel)) ggX6_fixSlope_X4_set
set_option maxRecDepth 20000 in
theorem ggX6_fixSlope_X1_slopeOf : GoodIn wsX6_fixSlope wsX1_slopeOf := goodIn_r _ [32, 33, 34, 35, 36, 37, 38, 31, 39, 40, 41, 42, 43, 25, 44, 27, 45, 46, 47, 48, 49, 50, 8, 51, 52, 53, 54, 55, 56, 57, 58, 59, 60, 67, 68, 69, 70, 71] (by decide +kernel) (by decide +kernel)
set_option maxRecDepth 20000 in
theorem gX6_fixSlope_X1_slopeOf : GoodIn wsX6_fixSlope (wsV RX6 148 RX1 yX1_slopeOf wsX1_slopeOf) := goodIn_app (goodIn_of _ (by decide +kernel)) ggX6_fixSlope_X1_slopeOf
theorem dX6_fixSlope_0 : decode cX6_fixSlope 0 = .ok (.aload_n 0, 1) := by decide +kernel
theorem dX6_fixSlope_1 : decode cX6_fixSlope 1 = .ok (.iload_n 1, 1) := by decide +kernel
theorem dX6_fixSlope_2 : decode cX6_fixSlope 2 = .ok (.invokevirtual 143, 3) := by decide +kernel
theorem dX6_fixSlope_5 : decode cX6_fixSlope 5 = .ok (.dload_n 2, 1) := by decide +kernel
theorem dX6_fixSlope_6 : decode cX6_fixSlope 6 = .ok (.invokestatic 49, 3) := by decide +kernel
theorem dX6_fixSlope_9 : decode cX6_fixSlope 9 = .ok (.dstore 4, 2) := by decide +kernel
theorem dX6_fixSlope_11 : decode cX6_fixSlope 11 = .ok (.dconst 0, 1) := by decide +kernel
theorem dX6_fixSlope_12 : decode cX6_fixSlope 12 = .ok (.ldc2_w 55, 3) := by decide +kernel
theorem dX6_fixSlope_15 : decode cX6_fixSlope 15 = .ok (.dload 4, 2) := by decide +kernel
theorem dX6_fixSlope_17 : decode cX6_fixSlope 17 = .ok (.invokestatic 57, 3) := by decide +kernel
theorem dX6_fixSlope_20 : decode cX6_fixSlope 20 = .ok (.ifCond .ne 13, 3) := by decide +kernel
theorem dX6_fixSlope_23 : decode cX6_fixSlope 23 = .ok (.new 61, 3) := by decide +kernel
theorem dX6_fixSlope_26 : decode cX6_fixSlope 26 = .ok (.dup, 1) := by decide +kernel
theorem dX6_fixSlope_27 : decode cX6_fixSlope 27 = .ok (.ldc 196, 2) := by decide +kernel
theorem dX6_fixSlope_29 : decode cX6_fixSlope 29 = .ok (.invokespecial 65, 3) := by decide +kernel
theorem dX6_fixSlope_32 : decode cX6_fixSlope 32 = .ok (.athrow, 1) := by decide +kernel
theorem dX6_fixSlope_33 : decode cX6_fixSlope 33 = .ok (.aload_n 0, 1) := by decide +kernel
theorem dX6_fixSlope_34 : decode cX6_fixSlope 34 = .ok (.getfield 26, 3) := by decide +kernel
theorem dX6_fixSlope_37 : decode cX6_fixSlope 37 = .ok (.getfield 198, 3) := by decide +kernel
theorem dX6_fixSlope_40 : decode cX6_fixSlope 40 = .ok (.iload_n 1, 1) := by decide +kernel
theorem dX6_fixSlope_41 : decode cX6_fixSlope 41 = .ok (.dload 4, 2) := by decide +kernel
theorem dX6_fixSlope_43 : decode cX6_fixSlope 43 = .ok (.invokevirtual 192, 3) := by decide +kernel
theorem dX6_fixSlope_46 : decode cX6_fixSlope 46 = .ok (.aload_n 0, 1) := by decide +kernel
theorem dX6_fixSlope_47 : decode cX6_fixSlope 47 = .ok (.getfield 26, 3) := by decide +kernel
theorem dX6_fixSlope_50 : decode cX6_fixSlope 50 = .ok (.iload_n 1, 1) := by decide +kernel
theorem dX6_fixSlope_51 : decode cX6_fixSlope 51 = .ok (.invokevirtual 148, 3) := by decide +kernel
theorem dX6_fixSlope_54 : decode cX6_fixSlope 54 = .ok (.dreturn, 1) := by decide +kernel
set_option maxRecDepth 20000 in
theorem ggX6_freeSlope_X6_requireKnot : GoodIn wsX6_freeSlope wsX6_requireKnot := goodIn_ca (goodIn_r _ [7, 8, 9, 1, 26, 27, 28, 29, 30, 31, 32, 33, 34, 35] (by decide +kernel) (by decide +kernel)) (goodIn_sub (fun _ h => List.mem_cons_of_mem _ (List.mem_append_right _ h)) (by decide +kernel))
set_option maxRecDepth 20000 in
theorem gX6_freeSlope_X6_requireKnot : GoodIn wsX6_freeSlope (wsV RX6 143 RX6 yX6_requireKnot wsX6_requireKnot) := goodIn_app (goodIn_of _ (by decide +kernel)) ggX6_freeSlope_X6_requireKnot
set_option maxRecDepth 20000 in
theorem ggX6_freeSlope_X1_hasFixedSlope : GoodIn wsX6_freeSlope wsX1_hasFixedSlope := goodIn_r _ [14, 15, 16, 17, 18, 19, 20, 21, 32, 33, 34, 35, 36] (by decide +kernel) (by decide +kernel)
set_option maxRecDepth 20000 in
theorem gX6_freeSlope_X1_hasFixedSlope : GoodIn wsX6_freeSlope (wsV RX6 151 RX1 yX1_hasFixedSlope wsX1_hasFixedSlope) := goodIn_app (goodIn_of _ (by decide +kernel)) ggX6_freeSlope_X1_hasFixedSlope
set_option maxRecDepth 20000 in
theorem ggX6_freeSlope_X4_set : GoodIn wsX6_freeSlope wsX4_set := goodIn_r _ [25, 21, 36] (by decide +kernel) (by decide +kernel)
set_option maxRecDepth 20000 in
theorem gX6_freeSlope_X4_set : GoodIn wsX6_freeSlope (wsV RX6 192 RX4 yX4_set wsX4_set) := goodIn_app (goodIn_of _ (by decide +kernel)) ggX6_freeSlope_X4_set
theorem dX6_freeSlope_0 : decode cX6_freeSlope 0 = .ok (.aload_n 0, 1) := by decide +kernel
theorem dX6_freeSlope_1 : decode cX6_freeSlope 1 = .ok (.iload_n 1, 1) := by decide +kernel
theorem dX6_freeSlope_2 : decode cX6_freeSlope 2 = .ok (.invokevirtual 143, 3) := by decide +kernel
theorem dX6_freeSlope_5 : decode cX6_freeSlope 5 = .ok (.aload_n 0, 1) := by decide +kernel
theorem dX6_freeSlope_6 : decode cX6_freeSlope 6 = .ok (.getfield 26, 3) := by decide +kernel
theorem dX6_freeSlope_9 : decode cX6_freeSlope 9 = .ok (.iload_n 1, 1) := by decide +kernel
theorem dX6_freeSlope_10 : decode cX6_freeSlope 10 = .ok (.invokevirtual 151, 3) := by decide +kernel
theorem dX6_freeSlope_13 : decode cX6_freeSlope 13 = .ok (.istore_n 2, 1) := by decide +kernel
theorem dX6_freeSlope_14 : decode cX6_freeSlope 14 = .ok (.aload_n 0, 1) := by decide +kernel
theorem dX6_freeSlope_15 : decode cX6_freeSlope 15 = .ok (.getfield 26, 3) := by decide +kernel
theorem dX6_freeSlope_18 : decode cX6_freeSlope 18 = .ok (.getfield 198, 3) := by decide +kernel
theorem dX6_freeSlope_21 : decode cX6_freeSlope 21 = .ok (.iload_n 1, 1) := by decide +kernel
theorem dX6_freeSlope_22 : decode cX6_freeSlope 22 = .ok (.ldc2_w 137, 3) := by decide +kernel
theorem dX6_freeSlope_25 : decode cX6_freeSlope 25 = .ok (.invokevirtual 192, 3) := by decide +kernel
theorem dX6_freeSlope_28 : decode cX6_freeSlope 28 = .ok (.iload_n 2, 1) := by decide +kernel
theorem dX6_freeSlope_29 : decode cX6_freeSlope 29 = .ok (.ireturn, 1) := by decide +kernel
set_option maxRecDepth 20000 in
theorem ggX6_value_X6_requireOnSpline : GoodIn wsX6_value wsX6_requireOnSpline := goodIn_ca (goodIn_r _ [7, 8, 9, 1, 10, 11, 12, 13, 14, 15, 16, 17, 18, 19, 20, 21, 22, 23, 6, 24, 82, 83, 84, 85, 86, 87, 88, 89, 90, 91, 92] (by decide +kernel) (by decide +kernel)) (goodIn_sub (fun _ h => List.mem_cons_of_mem _ (List.mem_append_right _ h)) (by decide +kernel))
set_option maxRecDepth 20000 in
theorem gX6_value_X6_requireOnSpline : GoodIn wsX6_value (wsV RX6 201 RX6 yX6_requireOnSpline wsX6_requireOnSpline) := goodIn_app (goodIn_of _ (by decide +kernel)) ggX6_value_X6_requireOnSpline
set_option maxRecDepth 20000 in
theorem ggX6_value_X1_pieceAt : GoodIn wsX6_value wsX1_pieceAt := goodIn_r _ [28, 15, 16, 17, 18, 19, 20, 21, 22, 88, 89, 90, 91, 92] (by decide +kernel) (by decide +kernel)
set_option maxRecDepth 20000 in
theorem gX6_value_X1_pieceAt : GoodIn wsX6_value (wsV RX6 160 RX1 yX1_pieceAt wsX1_pieceAt) := goodIn_app (goodIn_of _ (by decide +kernel)) ggX6_value_X1_pieceAt
set_option maxRecDepth 20000 in
theorem ggX6_value_X6_layPiece : GoodIn wsX6_value wsX6_layPiece := goodIn_r _ [32, 2, 1, 33, 18, 19, 20, 21, 22, 34, 35, 36, 37, 38, 39, 40, 41, 42, 43, 13, 44, 16, 17, 45, 46, 47, 48, 49, 50, 51, 6, 52, 53, 54, 55, 56, 15, 57, 58, 59, 60, 61, 62, 63, 64, 65, 66, 67, 68, 69, 70, 71, 72, 73, 74, 75, 76, 77, 82, 83, 84, 85, 86, 87, 88, 89, 90, 91, 92, 93, 94, 95, 96, 97] (by decide +kernel) (by decide +kernel)
set_option maxRecDepth 20000 in
theorem gX6_value_X6_layPiece : GoodIn wsX6_value (wsV RX6 170 RX6 yX6_layPiece wsX6_layPiece) := goodIn_app (goodIn_of _ (by decide +kernel)) ggX6_value_X6_layPiece
set_option maxRecDepth 20000 in
theorem ggX6_value_X2_heightAt : GoodIn wsX6_value wsX2_heightAt := goodIn_r _ [81, 39, 40, 73, 76, 77, 93, 94, 95, 96, 97] (by decide +kernel) (by decide +kernel)
set_option maxRecDepth 20000 in
theorem gX6_value_X2_heightAt : GoodIn wsX6_value (wsV RX6 173 RX2 yX2_heightAt wsX2_heightAt) := goodIn_app (goodIn_of _ (by decide +kernel)) ggX6_value_X2_heightAt
theorem dX6_value_0 : decode cX6_value 0 = .ok (.aload_n 0, 1) := by decide +kernel
theorem dX6_value_1 : decode cX6_value 1 = .ok (.dload_n 1, 1) := by decide +kernel
theorem dX6_value_2 : decode cX6_value 2 = .ok (.invokevirtual 201, 3) := by decide +kernel
theorem dX6_value_5 : decode cX6_value 5 = .ok (.aload_n 0, 1) := by decide +kernel
theorem dX6_value_6 : decode cX6_value 6 = .ok (.aload_n 0, 1) := by decide +kernel
theorem dX6_value_7 : decode cX6_value 7 = .ok (.getfield 26, 3) := by decide +kernel
theorem dX6_value_10 : decode cX6_value 10 = .ok (.dload_n 1, 1) := by decide +kernel
theorem dX6_value_11 : decode cX6_value 11 = .ok (.invokevirtual 160, 3) := by decide +kernel
theorem dX6_value_14 : decode cX6_value 14 = .ok (.invokevirtual 170, 3) := by decide +kernel
theorem dX6_value_17 : decode cX6_value 17 = .ok (.aload_n 0, 1) := by decide +kernel
theorem dX6_value_18 : decode cX6_value 18 = .ok (.getfield 33, 3) := by decide +kernel
theorem dX6_value_21 : decode cX6_value 21 = .ok (.dload_n 1, 1) := by decide +kernel
theorem dX6_value_22 : decode cX6_value 22 = .ok (.invokevirtual 173, 3) := by decide +kernel
theorem dX6_value_25 : decode cX6_value 25 = .ok (.dreturn, 1) := by decide +kernel
set_option maxRecDepth 20000 in
theorem ggX6_slope_X6_requireOnSpline : GoodIn wsX6_slope wsX6_requireOnSpline := goodIn_ca (goodIn_r _ [7, 8, 9, 1, 10, 11, 12, 13, 14, 15, 16, 17, 18, 19, 20, 21, 22, 23, 6, 24, 82, 83, 84, 85, 86, 87, 88, 89, 90, 91, 92] (by decide +kernel) (by decide +kernel)) (goodIn_sub (fun _ h => List.mem_cons_of_mem _ (List.mem_append_right _ h)) (by decide +kernel))
set_option maxRecDepth 20000 in
theorem gX6_slope_X6_requireOnSpline : GoodIn wsX6_slope (wsV RX6 201 RX6 yX6_requireOnSpline wsX6_requireOnSpline) := goodIn_app (goodIn_of _ (by decide +kernel)) ggX6_slope_X6_requireOnSpline
set_option maxRecDepth 20000 in
theorem ggX6_slope_X1_pieceAt : GoodIn wsX6_slope wsX1_pieceAt := goodIn_r _ [28, 15, 16, 17, 18, 19, 20, 21, 22, 88, 89, 90, 91, 92] (by decide +kernel) (by decide +kernel)
set_option maxRecDepth 20000 in
theorem gX6_slope_X1_pieceAt : GoodIn wsX6_slope (wsV RX6 160 RX1 yX1_pieceAt wsX1_pieceAt) := goodIn_app (goodIn_of _ (by decide +kernel)) ggX6_slope_X1_pieceAt
set_option maxRecDepth 20000 in
theorem ggX6_slope_X6_layPiece : GoodIn wsX6_slope wsX6_layPiece := goodIn_r _ [32, 2, 1, 33, 18, 19, 20, 21, 22, 34, 35, 36, 37, 38, 39, 40, 41, 42, 43, 13, 44, 16, 17, 45, 46, 47, 48, 49, 50, 51, 6, 52, 53, 54, 55, 56, 15, 57, 58, 59, 60, 61, 62, 63, 64, 65, 66, 67, 68, 69, 70, 71, 72, 73, 74, 75, 76, 77, 82, 83, 84, 85, 86, 87, 88, 89, 90, 91, 92, 93, 94, 95, 96, 97] (by decide +kernel) (by decide +kernel)
set_option maxRecDepth 20000 in
theorem gX6_slope_X6_layPiece : GoodIn wsX6_slope (wsV RX6 170 RX6 yX6_layPiece wsX6_layPiece) := goodIn_app (goodIn_of _ (by decide +kernel)) ggX6_slope_X6_layPiece
set_option maxRecDepth 20000 in
theorem ggX6_slope_X2_steepnessAt : GoodIn wsX6_slope wsX2_steepnessAt := goodIn_r _ [81, 39, 73, 75, 76, 74, 77, 93, 94, 95, 96, 97] (by decide +kernel) (by decide +kernel)
set_option maxRecDepth 20000 in
theorem gX6_slope_X2_steepnessAt : GoodIn wsX6_slope (wsV RX6 180 RX2 yX2_steepnessAt wsX2_steepnessAt) := goodIn_app (goodIn_of _ (by decide +kernel)) ggX6_slope_X2_steepnessAt
theorem dX6_slope_0 : decode cX6_slope 0 = .ok (.aload_n 0, 1) := by decide +kernel
theorem dX6_slope_1 : decode cX6_slope 1 = .ok (.dload_n 1, 1) := by decide +kernel
theorem dX6_slope_2 : decode cX6_slope 2 = .ok (.invokevirtual 201, 3) := by decide +kernel
theorem dX6_slope_5 : decode cX6_slope 5 = .ok (.aload_n 0, 1) := by decide +kernel
theorem dX6_slope_6 : decode cX6_slope 6 = .ok (.aload_n 0, 1) := by decide +kernel
theorem dX6_slope_7 : decode cX6_slope 7 = .ok (.getfield 26, 3) := by decide +kernel
theorem dX6_slope_10 : decode cX6_slope 10 = .ok (.dload_n 1, 1) := by decide +kernel
theorem dX6_slope_11 : decode cX6_slope 11 = .ok (.invokevirtual 160, 3) := by decide +kernel
theorem dX6_slope_14 : decode cX6_slope 14 = .ok (.invokevirtual 170, 3) := by decide +kernel
theorem dX6_slope_17 : decode cX6_slope 17 = .ok (.aload_n 0, 1) := by decide +kernel
theorem dX6_slope_18 : decode cX6_slope 18 = .ok (.getfield 33, 3) := by decide +kernel
theorem dX6_slope_21 : decode cX6_slope 21 = .ok (.dload_n 1, 1) := by decide +kernel
theorem dX6_slope_22 : decode cX6_slope 22 = .ok (.invokevirtual 180, 3) := by decide +kernel
theorem dX6_slope_25 : decode cX6_slope 25 = .ok (.dreturn, 1) := by decide +kernel
set_option maxRecDepth 20000 in
theorem ggX6_area_X6_requireOnSpline : GoodIn wsX6_area wsX6_requireOnSpline := goodIn_ca (goodIn_r _ [5, 6, 7, 8, 9, 10, 11, 12, 13, 14, 15, 16, 17, 18, 19, 20, 21, 22, 4, 23, 87, 88, 89, 90, 91, 92, 93, 94, 95, 96, 97] (by decide +kernel) (by decide +kernel)) (goodIn_sub (fun _ h => List.mem_cons_of_mem _ (List.mem_append_right _ h)) (by decide +kernel))
set_option maxRecDepth 20000 in
theorem gX6_area_X6_requireOnSpline : GoodIn wsX6_area (wsV RX6 201 RX6 yX6_requireOnSpline wsX6_requireOnSpline) := goodIn_app (goodIn_of _ (by decide +kernel)) ggX6_area_X6_requireOnSpline
set_option maxRecDepth 20000 in
theorem ggX6_area_X6_areaUpTo : GoodIn wsX6_area wsX6_areaUpTo := goodIn_r _ [27, 8, 28, 29, 30, 31, 12, 32, 14, 15, 16, 17, 18, 19, 20, 21, 33, 34, 35, 4, 36, 37, 38, 39, 40, 41, 42, 43, 44, 45, 46, 47, 48, 49, 50, 51, 52, 53, 54, 55, 56, 57, 58, 59, 60, 61, 62, 63, 64, 65, 66, 67, 68, 69, 70, 71, 72, 73, 74, 75, 76, 77, 78, 79, 80, 81, 82, 83, 84, 85, 86, 87, 88, 89, 90, 91, 92, 93, 94, 95, 96, 97, 98, 99, 100, 101, 102] (by decide +kernel) (by decide +kernel)
set_option maxRecDepth 20000 in
theorem gX6_area_X6_areaUpTo : GoodIn wsX6_area (wsV RX6 205 RX6 yX6_areaUpTo wsX6_areaUpTo) := goodIn_app (goodIn_of _ (by decide +kernel)) ggX6_area_X6_areaUpTo
theorem dX6_area_0 : decode cX6_area 0 = .ok (.aload_n 0, 1) := by decide +kernel
theorem dX6_area_1 : decode cX6_area 1 = .ok (.dload_n 1, 1) := by decide +kernel
theorem dX6_area_2 : decode cX6_area 2 = .ok (.invokevirtual 201, 3) := by decide +kernel
theorem dX6_area_5 : decode cX6_area 5 = .ok (.aload_n 0, 1) := by decide +kernel
theorem dX6_area_6 : decode cX6_area 6 = .ok (.dload_n 3, 1) := by decide +kernel
theorem dX6_area_7 : decode cX6_area 7 = .ok (.invokevirtual 201, 3) := by decide +kernel
theorem dX6_area_10 : decode cX6_area 10 = .ok (.aload_n 0, 1) := by decide +kernel
theorem dX6_area_11 : decode cX6_area 11 = .ok (.dload_n 3, 1) := by decide +kernel
theorem dX6_area_12 : decode cX6_area 12 = .ok (.invokevirtual 205, 3) := by decide +kernel
theorem dX6_area_15 : decode cX6_area 15 = .ok (.aload_n 0, 1) := by decide +kernel
theorem dX6_area_16 : decode cX6_area 16 = .ok (.dload_n 1, 1) := by decide +kernel
theorem dX6_area_17 : decode cX6_area 17 = .ok (.invokevirtual 205, 3) := by decide +kernel
theorem dX6_area_20 : decode cX6_area 20 = .ok (.dsub, 1) := by decide +kernel
theorem dX6_area_21 : decode cX6_area 21 = .ok (.dreturn, 1) := by decide +kernel
set_option maxRecDepth 20000 in
theorem ggX6_areaUpTo_X1_pieceAt : GoodIn wsX6_areaUpTo wsX1_pieceAt := goodIn_r _ [7, 8, 9, 10, 11, 12, 13, 14, 15, 77, 78, 79, 80, 81] (by decide +kernel) (by decide +kernel)
set_option maxRecDepth 20000 in
theorem gX6_areaUpTo_X1_pieceAt : GoodIn wsX6_areaUpTo (wsV RX6 160 RX1 yX1_pieceAt wsX1_pieceAt) := goodIn_app (goodIn_of _ (by decide +kernel)) ggX6_areaUpTo_X1_pieceAt
set_option maxRecDepth 20000 in
theorem ggX6_areaUpTo_X6_layPiece : GoodIn wsX6_areaUpTo wsX6_layPiece := goodIn_r _ [20, 2, 1, 21, 11, 12, 13, 14, 15, 22, 23, 24, 25, 26, 27, 28, 29, 30, 31, 6, 32, 9, 10, 33, 34, 35, 36, 37, 38, 39, 19, 40, 41, 42, 43, 44, 8, 45, 46, 47, 48, 49, 50, 51, 52, 53, 54, 55, 56, 57, 58, 59, 60, 61, 62, 63, 64, 65, 71, 72, 73, 74, 75, 76, 77, 78, 79, 80, 81, 82, 83, 84, 85, 86] (by decide +kernel) (by decide +kernel)
set_option maxRecDepth 20000 in
theorem gX6_areaUpTo_X6_layPiece : GoodIn wsX6_areaUpTo (wsV RX6 170 RX6 yX6_layPiece wsX6_layPiece) := goodIn_app (goodIn_of _ (by decide +kernel)) ggX6_areaUpTo_X6_layPiece
set_option maxRecDepth 20000 in
theorem ggX6_areaUpTo_X4_get : GoodIn wsX6_areaUpTo wsX4_get := goodIn_r _ [14, 15, 81] (by decide +kernel) (by decide +kernel)
set_option maxRecDepth 20000 in
theorem gX6_areaUpTo_X4_get : GoodIn wsX6_areaUpTo (wsV RX6 104 RX4 yX4_get wsX4_get) := goodIn_app (goodIn_of _ (by decide +kernel)) ggX6_areaUpTo_X4_get
set_option maxRecDepth 20000 in
theorem ggX6_areaUpTo_X2_partUpTo : GoodIn wsX6_areaUpTo wsX2_partUpTo := goodIn_r _ [69, 27, 28, 61, 63, 64, 62, 65, 70, 82, 83, 84, 85, 86] (by decide +kernel) (by decide +kernel)
set_option maxRecDepth 20000 in
theorem gX6_areaUpTo_X2_partUpTo : GoodIn wsX6_areaUpTo (wsV RX6 208 RX2 yX2_partUpTo wsX2_partUpTo) := goodIn_app (goodIn_of _ (by decide +kernel)) ggX6_areaUpTo_X2_partUpTo
theorem dX6_areaUpTo_0 : decode cX6_areaUpTo 0 = .ok (.aload_n 0, 1) := by decide +kernel
theorem dX6_areaUpTo_1 : decode cX6_areaUpTo 1 = .ok (.getfield 26, 3) := by decide +kernel
theorem dX6_areaUpTo_4 : decode cX6_areaUpTo 4 = .ok (.dload_n 1, 1) := by decide +kernel
theorem dX6_areaUpTo_5 : decode cX6_areaUpTo 5 = .ok (.invokevirtual 160, 3) := by decide +kernel
theorem dX6_areaUpTo_8 : decode cX6_areaUpTo 8 = .ok (.istore_n 3, 1) := by decide +kernel
theorem dX6_areaUpTo_9 : decode cX6_areaUpTo 9 = .ok (.dconst 0, 1) := by decide +kernel
theorem dX6_areaUpTo_10 : decode cX6_areaUpTo 10 = .ok (.dstore 4, 2) := by decide +kernel
theorem dX6_areaUpTo_12 : decode cX6_areaUpTo 12 = .ok (.iconst 0, 1) := by decide +kernel
theorem dX6_areaUpTo_13 : decode cX6_areaUpTo 13 = .ok (.istore 6, 2) := by decide +kernel
theorem dX6_areaUpTo_15 : decode cX6_areaUpTo 15 = .ok (.iload 6, 2) := by decide +kernel
theorem dX6_areaUpTo_17 : decode cX6_areaUpTo 17 = .ok (.iload_n 3, 1) := by decide +kernel
theorem dX6_areaUpTo_18 : decode cX6_areaUpTo 18 = .ok (.if_icmp .ge 41, 3) := by decide +kernel
theorem dX6_areaUpTo_21 : decode cX6_areaUpTo 21 = .ok (.aload_n 0, 1) := by decide +kernel
theorem dX6_areaUpTo_22 : decode cX6_areaUpTo 22 = .ok (.iload 6, 2) := by decide +kernel
theorem dX6_areaUpTo_24 : decode cX6_areaUpTo 24 = .ok (.invokevirtual 170, 3) := by decide +kernel
theorem dX6_areaUpTo_27 : decode cX6_areaUpTo 27 = .ok (.dload 4, 2) := by decide +kernel
theorem dX6_areaUpTo_29 : decode cX6_areaUpTo 29 = .ok (.aload_n 0, 1) := by decide +kernel
theorem dX6_areaUpTo_30 : decode cX6_areaUpTo 30 = .ok (.getfield 33, 3) := by decide +kernel
theorem dX6_areaUpTo_33 : decode cX6_areaUpTo 33 = .ok (.aload_n 0, 1) := by decide +kernel
theorem dX6_areaUpTo_34 : decode cX6_areaUpTo 34 = .ok (.getfield 26, 3) := by decide +kernel
theorem dX6_areaUpTo_37 : decode cX6_areaUpTo 37 = .ok (.getfield 146, 3) := by decide +kernel
theorem dX6_areaUpTo_40 : decode cX6_areaUpTo 40 = .ok (.iload 6, 2) := by decide +kernel
theorem dX6_areaUpTo_42 : decode cX6_areaUpTo 42 = .ok (.iconst 1, 1) := by decide +kernel
theorem dX6_areaUpTo_43 : decode cX6_areaUpTo 43 = .ok (.iadd, 1) := by decide +kernel
theorem dX6_areaUpTo_44 : decode cX6_areaUpTo 44 = .ok (.invokevirtual 104, 3) := by decide +kernel
theorem dX6_areaUpTo_47 : decode cX6_areaUpTo 47 = .ok (.invokevirtual 208, 3) := by decide +kernel
theorem dX6_areaUpTo_50 : decode cX6_areaUpTo 50 = .ok (.dadd, 1) := by decide +kernel
theorem dX6_areaUpTo_51 : decode cX6_areaUpTo 51 = .ok (.dstore 4, 2) := by decide +kernel
theorem dX6_areaUpTo_53 : decode cX6_areaUpTo 53 = .ok (.iinc 6 1, 3) := by decide +kernel
theorem dX6_areaUpTo_56 : decode cX6_areaUpTo 56 = .ok (.goto (-41), 3) := by decide +kernel
theorem dX6_areaUpTo_59 : decode cX6_areaUpTo 59 = .ok (.aload_n 0, 1) := by decide +kernel
theorem dX6_areaUpTo_60 : decode cX6_areaUpTo 60 = .ok (.iload_n 3, 1) := by decide +kernel
theorem dX6_areaUpTo_61 : decode cX6_areaUpTo 61 = .ok (.invokevirtual 170, 3) := by decide +kernel
theorem dX6_areaUpTo_64 : decode cX6_areaUpTo 64 = .ok (.dload 4, 2) := by decide +kernel
theorem dX6_areaUpTo_66 : decode cX6_areaUpTo 66 = .ok (.aload_n 0, 1) := by decide +kernel
theorem dX6_areaUpTo_67 : decode cX6_areaUpTo 67 = .ok (.getfield 33, 3) := by decide +kernel
theorem dX6_areaUpTo_70 : decode cX6_areaUpTo 70 = .ok (.dload_n 1, 1) := by decide +kernel
theorem dX6_areaUpTo_71 : decode cX6_areaUpTo 71 = .ok (.invokevirtual 208, 3) := by decide +kernel
theorem dX6_areaUpTo_74 : decode cX6_areaUpTo 74 = .ok (.dadd, 1) := by decide +kernel
theorem dX6_areaUpTo_75 : decode cX6_areaUpTo 75 = .ok (.dreturn, 1) := by decide +kernel
theorem dX6_requireKnot_0 : decode cX6_requireKnot 0 = .ok (.iload_n 1, 1) := by decide +kernel
theorem dX6_requireKnot_1 : decode cX6_requireKnot 1 = .ok (.ifCond .lt 14, 3) := by decide +kernel
theorem dX6_requireKnot_4 : decode cX6_requireKnot 4 = .ok (.iload_n 1, 1) := by decide +kernel
theorem dX6_requireKnot_5 : decode cX6_requireKnot 5 = .ok (.aload_n 0, 1) := by decide +kernel
theorem dX6_requireKnot_6 : decode cX6_requireKnot 6 = .ok (.getfield 26, 3) := by decide +kernel
theorem dX6_requireKnot_9 : decode cX6_requireKnot 9 = .ok (.getfield 136, 3) := by decide +kernel
theorem dX6_requireKnot_12 : decode cX6_requireKnot 12 = .ok (.if_icmp .lt 14, 3) := by decide +kernel
theorem dX6_requireKnot_15 : decode cX6_requireKnot 15 = .ok (.new 257, 3) := by decide +kernel
theorem dX6_requireKnot_18 : decode cX6_requireKnot 18 = .ok (.dup, 1) := by decide +kernel
theorem dX6_requireKnot_19 : decode cX6_requireKnot 19 = .ok (.ldc_w 262, 3) := by decide +kernel
theorem dX6_requireKnot_22 : decode cX6_requireKnot 22 = .ok (.invokespecial 261, 3) := by decide +kernel
theorem dX6_requireKnot_25 : decode cX6_requireKnot 25 = .ok (.athrow, 1) := by decide +kernel
theorem dX6_requireKnot_26 : decode cX6_requireKnot 26 = .ok (.return_, 1) := by decide +kernel
set_option maxRecDepth 20000 in
theorem ggX6_requireOnSpline_X1_spansPlace : GoodIn wsX6_requireOnSpline wsX1_spansPlace := goodIn_r _ [8, 9, 10, 11, 12, 13, 14, 15, 16, 17, 18, 19, 26, 27, 28, 29, 30] (by decide +kernel) (by decide +kernel)
set_option maxRecDepth 20000 in
theorem gX6_requireOnSpline_X1_spansPlace : GoodIn wsX6_requireOnSpline (wsV RX6 264 RX1 yX1_spansPlace wsX1_spansPlace) := goodIn_app (goodIn_of _ (by decide +kernel)) ggX6_requireOnSpline_X1_spansPlace
theorem dX6_requireOnSpline_0 : decode cX6_requireOnSpline 0 = .ok (.aload_n 0, 1) := by decide +kernel
theorem dX6_requireOnSpline_1 : decode cX6_requireOnSpline 1 = .ok (.getfield 26, 3) := by decide +kernel
theorem dX6_requireOnSpline_4 : decode cX6_requireOnSpline 4 = .ok (.dload_n 1, 1) := by decide +kernel
theorem dX6_requireOnSpline_5 : decode cX6_requireOnSpline 5 = .ok (.invokevirtual 264, 3) := by decide +kernel
theorem dX6_requireOnSpline_8 : decode cX6_requireOnSpline 8 = .ok (.ifCond .ne 14, 3) := by decide +kernel
theorem dX6_requireOnSpline_11 : decode cX6_requireOnSpline 11 = .ok (.new 61, 3) := by decide +kernel
theorem dX6_requireOnSpline_14 : decode cX6_requireOnSpline 14 = .ok (.dup, 1) := by decide +kernel
theorem dX6_requireOnSpline_15 : decode cX6_requireOnSpline 15 = .ok (.ldc_w 267, 3) := by decide +kernel
theorem dX6_requireOnSpline_18 : decode cX6_requireOnSpline 18 = .ok (.invokespecial 65, 3) := by decide +kernel
theorem dX6_requireOnSpline_21 : decode cX6_requireOnSpline 21 = .ok (.athrow, 1) := by decide +kernel
theorem dX6_requireOnSpline_22 : decode cX6_requireOnSpline 22 = .ok (.return_, 1) := by decide +kernel
set_option maxRecDepth 20000 in
theorem ggX6_layPiece_X4_get : GoodIn wsX6_layPiece wsX4_get := goodIn_r _ [7, 8, 68] (by decide +kernel) (by decide +kernel)
set_option maxRecDepth 20000 in
theorem gX6_layPiece_X4_get : GoodIn wsX6_layPiece (wsV RX6 104 RX4 yX4_get wsX4_get) := goodIn_app (goodIn_of _ (by decide +kernel)) ggX6_layPiece_X4_get
set_option maxRecDepth 20000 in
theorem ggX6_layPiece_X2_startAt : GoodIn wsX6_layPiece wsX2_startAt := goodIn_r _ [13, 14, 15, 69, 70, 71, 72, 73] (by decide +kernel) (by decide +kernel)
set_option maxRecDepth 20000 in
theorem gX6_layPiece_X2_startAt : GoodIn wsX6_layPiece (wsV RX6 271 RX2 yX2_startAt wsX2_startAt) := goodIn_app (goodIn_of _ (by decide +kernel)) ggX6_layPiece_X2_startAt
set_option maxRecDepth 20000 in
theorem ggX6_layPiece_X1_widthOf : GoodIn wsX6_layPiece wsX1_widthOf := goodIn_r _ [20, 21, 22, 4, 5, 6, 7, 8, 64, 65, 66, 67, 68] (by decide +kernel) (by decide +kernel)
set_option maxRecDepth 20000 in
theorem gX6_layPiece_X1_widthOf : GoodIn wsX6_layPiece (wsV RX6 274 RX1 yX1_widthOf wsX1_widthOf) := goodIn_app (goodIn_of _ (by decide +kernel)) ggX6_layPiece_X1_widthOf
set_option maxRecDepth 20000 in
theorem ggX6_layPiece_X1_riseOf : GoodIn wsX6_layPiece wsX1_riseOf := goodIn_r _ [26, 27, 22, 4, 5, 6, 7, 8, 28, 17, 18, 19, 20, 21, 29, 30, 31, 64, 65, 66, 67, 68] (by decide +kernel) (by decide +kernel)
set_option maxRecDepth 20000 in
theorem gX6_layPiece_X1_riseOf : GoodIn wsX6_layPiece (wsV RX6 221 RX1 yX1_riseOf wsX1_riseOf) := goodIn_app (goodIn_of _ (by decide +kernel)) ggX6_layPiece_X1_riseOf
set_option maxRecDepth 20000 in
theorem ggX6_layPiece_X1_slopeOf : GoodIn wsX6_layPiece wsX1_slopeOf := goodIn_r _ [35, 36, 37, 38, 39, 24, 25, 19, 26, 27, 22, 4, 5, 6, 7, 8, 28, 17, 18, 20, 21, 29, 30, 31, 40, 41, 42, 43, 44, 45, 46, 47, 48, 64, 65, 66, 67, 68] (by decide +kernel) (by decide +kernel)
set_option maxRecDepth 20000 in
theorem gX6_layPiece_X1_slopeOf : GoodIn wsX6_layPiece (wsV RX6 148 RX1 yX1_slopeOf wsX1_slopeOf) := goodIn_app (goodIn_of _ (by decide +kernel)) ggX6_layPiece_X1_slopeOf
set_option maxRecDepth 20000 in
theorem ggX6_layPiece_X2_bend : GoodIn wsX6_layPiece wsX2_bend := goodIn_r _ [52, 53, 54, 55, 56, 57, 29, 30, 31, 69, 70, 71, 72, 73] (by decide +kernel) (by decide +kernel)
set_option maxRecDepth 20000 in
theorem gX6_layPiece_X2_bend : GoodIn wsX6_layPiece (wsV RX6 277 RX2 yX2_bend wsX2_bend) := goodIn_app (goodIn_of _ (by decide +kernel)) ggX6_layPiece_X2_bend
theorem dX6_layPiece_0 : decode cX6_layPiece 0 = .ok (.aload_n 0, 1) := by decide +kernel
theorem dX6_layPiece_1 : decode cX6_layPiece 1 = .ok (.getfield 33, 3) := by decide +kernel
theorem dX6_layPiece_4 : decode cX6_layPiece 4 = .ok (.aload_n 0, 1) := by decide +kernel
theorem dX6_layPiece_5 : decode cX6_layPiece 5 = .ok (.getfield 26, 3) := by decide +kernel
theorem dX6_layPiece_8 : decode cX6_layPiece 8 = .ok (.getfield 146, 3) := by decide +kernel
theorem dX6_layPiece_11 : decode cX6_layPiece 11 = .ok (.iload_n 1, 1) := by decide +kernel
theorem dX6_layPiece_12 : decode cX6_layPiece 12 = .ok (.invokevirtual 104, 3) := by decide +kernel
theorem dX6_layPiece_15 : decode cX6_layPiece 15 = .ok (.aload_n 0, 1) := by decide +kernel
theorem dX6_layPiece_16 : decode cX6_layPiece 16 = .ok (.getfield 26, 3) := by decide +kernel
theorem dX6_layPiece_19 : decode cX6_layPiece 19 = .ok (.getfield 147, 3) := by decide +kernel
theorem dX6_layPiece_22 : decode cX6_layPiece 22 = .ok (.iload_n 1, 1) := by decide +kernel
theorem dX6_layPiece_23 : decode cX6_layPiece 23 = .ok (.invokevirtual 104, 3) := by decide +kernel
theorem dX6_layPiece_26 : decode cX6_layPiece 26 = .ok (.invokevirtual 271, 3) := by decide +kernel
theorem dX6_layPiece_29 : decode cX6_layPiece 29 = .ok (.aload_n 0, 1) := by decide +kernel
theorem dX6_layPiece_30 : decode cX6_layPiece 30 = .ok (.getfield 33, 3) := by decide +kernel
theorem dX6_layPiece_33 : decode cX6_layPiece 33 = .ok (.aload_n 0, 1) := by decide +kernel
theorem dX6_layPiece_34 : decode cX6_layPiece 34 = .ok (.getfield 26, 3) := by decide +kernel
theorem dX6_layPiece_37 : decode cX6_layPiece 37 = .ok (.iload_n 1, 1) := by decide +kernel
theorem dX6_layPiece_38 : decode cX6_layPiece 38 = .ok (.invokevirtual 274, 3) := by decide +kernel
theorem dX6_layPiece_41 : decode cX6_layPiece 41 = .ok (.aload_n 0, 1) := by decide +kernel
theorem dX6_layPiece_42 : decode cX6_layPiece 42 = .ok (.getfield 26, 3) := by decide +kernel
theorem dX6_layPiece_45 : decode cX6_layPiece 45 = .ok (.iload_n 1, 1) := by decide +kernel
theorem dX6_layPiece_46 : decode cX6_layPiece 46 = .ok (.invokevirtual 221, 3) := by decide +kernel
theorem dX6_layPiece_49 : decode cX6_layPiece 49 = .ok (.aload_n 0, 1) := by decide +kernel
theorem dX6_layPiece_50 : decode cX6_layPiece 50 = .ok (.getfield 26, 3) := by decide +kernel
theorem dX6_layPiece_53 : decode cX6_layPiece 53 = .ok (.iload_n 1, 1) := by decide +kernel
theorem dX6_layPiece_54 : decode cX6_layPiece 54 = .ok (.invokevirtual 148, 3) := by decide +kernel
theorem dX6_layPiece_57 : decode cX6_layPiece 57 = .ok (.aload_n 0, 1) := by decide +kernel
theorem dX6_layPiece_58 : decode cX6_layPiece 58 = .ok (.getfield 26, 3) := by decide +kernel
theorem dX6_layPiece_61 : decode cX6_layPiece 61 = .ok (.iload_n 1, 1) := by decide +kernel
theorem dX6_layPiece_62 : decode cX6_layPiece 62 = .ok (.iconst 1, 1) := by decide +kernel
theorem dX6_layPiece_63 : decode cX6_layPiece 63 = .ok (.iadd, 1) := by decide +kernel
theorem dX6_layPiece_64 : decode cX6_layPiece 64 = .ok (.invokevirtual 148, 3) := by decide +kernel
theorem dX6_layPiece_67 : decode cX6_layPiece 67 = .ok (.invokevirtual 277, 3) := by decide +kernel
theorem dX6_layPiece_70 : decode cX6_layPiece 70 = .ok (.return_, 1) := by decide +kernel
theorem dX6_isFrom_0 : decode cX6_isFrom 0 = .ok (.dload 4, 2) := by decide +kernel
theorem dX6_isFrom_2 : decode cX6_isFrom 2 = .ok (.dload_n 0, 1) := by decide +kernel
theorem dX6_isFrom_3 : decode cX6_isFrom 3 = .ok (.dcmp .l, 1) := by decide +kernel
theorem dX6_isFrom_4 : decode cX6_isFrom 4 = .ok (.ifCond .lt 14, 3) := by decide +kernel
theorem dX6_isFrom_7 : decode cX6_isFrom 7 = .ok (.dload 4, 2) := by decide +kernel
theorem dX6_isFrom_9 : decode cX6_isFrom 9 = .ok (.dload_n 2, 1) := by decide +kernel
theorem dX6_isFrom_10 : decode cX6_isFrom 10 = .ok (.dcmp .g, 1) := by decide +kernel
theorem dX6_isFrom_11 : decode cX6_isFrom 11 = .ok (.ifCond .gt 7, 3) := by decide +kernel
theorem dX6_isFrom_14 : decode cX6_isFrom 14 = .ok (.iconst 1, 1) := by decide +kernel
theorem dX6_isFrom_15 : decode cX6_isFrom 15 = .ok (.goto 4, 3) := by decide +kernel
theorem dX6_isFrom_18 : decode cX6_isFrom 18 = .ok (.iconst 0, 1) := by decide +kernel
theorem dX6_isFrom_19 : decode cX6_isFrom 19 = .ok (.ireturn, 1) := by decide +kernel
theorem dX6_within_0 : decode cX6_within 0 = .ok (.dload 4, 2) := by decide +kernel
theorem dX6_within_2 : decode cX6_within 2 = .ok (.dload_n 0, 1) := by decide +kernel
theorem dX6_within_3 : decode cX6_within 3 = .ok (.dcmp .g, 1) := by decide +kernel
theorem dX6_within_4 : decode cX6_within 4 = .ok (.ifCond .ge 5, 3) := by decide +kernel
theorem dX6_within_7 : decode cX6_within 7 = .ok (.dload_n 0, 1) := by decide +kernel
theorem dX6_within_8 : decode cX6_within 8 = .ok (.dreturn, 1) := by decide +kernel
theorem dX6_within_9 : decode cX6_within 9 = .ok (.dload 4, 2) := by decide +kernel
theorem dX6_within_11 : decode cX6_within 11 = .ok (.dload_n 2, 1) := by decide +kernel
theorem dX6_within_12 : decode cX6_within 12 = .ok (.dcmp .l, 1) := by decide +kernel
theorem dX6_within_13 : decode cX6_within 13 = .ok (.ifCond .le 7, 3) := by decide +kernel
theorem dX6_within_16 : decode cX6_within 16 = .ok (.dload_n 2, 1) := by decide +kernel
theorem dX6_within_17 : decode cX6_within 17 = .ok (.goto 5, 3) := by decide +kernel
theorem dX6_within_20 : decode cX6_within 20 = .ok (.dload 4, 2) := by decide +kernel
theorem dX6_within_22 : decode cX6_within 22 = .ok (.dreturn, 1) := by decide +kernel
theorem dX6_magnitude_0 : decode cX6_magnitude 0 = .ok (.dload_n 0, 1) := by decide +kernel
theorem dX6_magnitude_1 : decode cX6_magnitude 1 = .ok (.dconst 0, 1) := by decide +kernel
theorem dX6_magnitude_2 : decode cX6_magnitude 2 = .ok (.dcmp .g, 1) := by decide +kernel
theorem dX6_magnitude_3 : decode cX6_magnitude 3 = .ok (.ifCond .ge 8, 3) := by decide +kernel
theorem dX6_magnitude_6 : decode cX6_magnitude 6 = .ok (.dload_n 0, 1) := by decide +kernel
theorem dX6_magnitude_7 : decode cX6_magnitude 7 = .ok (.dneg, 1) := by decide +kernel
theorem dX6_magnitude_8 : decode cX6_magnitude 8 = .ok (.goto 4, 3) := by decide +kernel
theorem dX6_magnitude_11 : decode cX6_magnitude 11 = .ok (.dload_n 0, 1) := by decide +kernel
theorem dX6_magnitude_12 : decode cX6_magnitude 12 = .ok (.dreturn, 1) := by decide +kernel
set_option maxRecDepth 20000 in
theorem ggX6_settled_X6_magnitude : GoodIn wsX6_settled wsX6_magnitude := goodIn_r _ [5] (by decide +kernel) (by decide +kernel)
set_option maxRecDepth 20000 in
theorem gX6_settled_X6_magnitude : GoodIn wsX6_settled (va_wsS RX6 281 yX6_magnitude wsX6_magnitude) := goodIn_app (goodIn_of _ (by decide +kernel)) ggX6_settled_X6_magnitude
theorem dX6_settled_0 : decode cX6_settled 0 = .ok (.dload_n 0, 1) := by decide +kernel
theorem dX6_settled_1 : decode cX6_settled 1 = .ok (.invokestatic 281, 3) := by decide +kernel
theorem dX6_settled_4 : decode cX6_settled 4 = .ok (.ldc2_w 284, 3) := by decide +kernel
theorem dX6_settled_7 : decode cX6_settled 7 = .ok (.dcmp .g, 1) := by decide +kernel
theorem dX6_settled_8 : decode cX6_settled 8 = .ok (.ifCond .ge 7, 3) := by decide +kernel
theorem dX6_settled_11 : decode cX6_settled 11 = .ok (.dconst 0, 1) := by decide +kernel
theorem dX6_settled_12 : decode cX6_settled 12 = .ok (.goto 4, 3) := by decide +kernel
theorem dX6_settled_15 : decode cX6_settled 15 = .ok (.dload_n 0, 1) := by decide +kernel
theorem dX6_settled_16 : decode cX6_settled 16 = .ok (.dreturn, 1) := by decide +kernel
theorem dX6_ratio_0 : decode cX6_ratio 0 = .ok (.dload_n 2, 1) := by decide +kernel
theorem dX6_ratio_1 : decode cX6_ratio 1 = .ok (.dconst 0, 1) := by decide +kernel
theorem dX6_ratio_2 : decode cX6_ratio 2 = .ok (.dcmp .l, 1) := by decide +kernel
theorem dX6_ratio_3 : decode cX6_ratio 3 = .ok (.ifCond .ne 7, 3) := by decide +kernel
theorem dX6_ratio_6 : decode cX6_ratio 6 = .ok (.dconst 0, 1) := by decide +kernel
theorem dX6_ratio_7 : decode cX6_ratio 7 = .ok (.goto 6, 3) := by decide +kernel
theorem dX6_ratio_10 : decode cX6_ratio 10 = .ok (.dload_n 0, 1) := by decide +kernel
theorem dX6_ratio_11 : decode cX6_ratio 11 = .ok (.dload_n 2, 1) := by decide +kernel
theorem dX6_ratio_12 : decode cX6_ratio 12 = .ok (.ddiv, 1) := by decide +kernel
theorem dX6_ratio_13 : decode cX6_ratio 13 = .ok (.dreturn, 1) := by decide +kernel
theorem dJ9_abs_294c1_0 : decode cJ9_abs_294c1 0 = .ok (.dload_n 0, 1) := by decide +kernel
theorem dJ9_abs_294c1_1 : decode cJ9_abs_294c1 1 = .ok (.invokestatic 79, 3) := by decide +kernel
theorem dJ9_abs_294c1_4 : decode cJ9_abs_294c1 4 = .ok (.ldc2_w 135, 3) := by decide +kernel
theorem dJ9_abs_294c1_7 : decode cJ9_abs_294c1 7 = .ok (.land, 1) := by decide +kernel
theorem dJ9_abs_294c1_8 : decode cJ9_abs_294c1 8 = .ok (.invokestatic 166, 3) := by decide +kernel
theorem dJ9_abs_294c1_11 : decode cJ9_abs_294c1 11 = .ok (.dreturn, 1) := by decide +kernel
theorem dJ9_max_eb370_0 : decode cJ9_max_eb370 0 = .ok (.dload_n 0, 1) := by decide +kernel
theorem dJ9_max_eb370_1 : decode cJ9_max_eb370 1 = .ok (.dload_n 0, 1) := by decide +kernel
theorem dJ9_max_eb370_2 : decode cJ9_max_eb370 2 = .ok (.dcmp .l, 1) := by decide +kernel
theorem dJ9_max_eb370_3 : decode cJ9_max_eb370 3 = .ok (.ifCond .eq 5, 3) := by decide +kernel
theorem dJ9_max_eb370_6 : decode cJ9_max_eb370 6 = .ok (.dload_n 0, 1) := by decide +kernel
theorem dJ9_max_eb370_7 : decode cJ9_max_eb370 7 = .ok (.dreturn, 1) := by decide +kernel
theorem dJ9_max_eb370_8 : decode cJ9_max_eb370 8 = .ok (.dload_n 0, 1) := by decide +kernel
theorem dJ9_max_eb370_9 : decode cJ9_max_eb370 9 = .ok (.dconst 0, 1) := by decide +kernel
theorem dJ9_max_eb370_10 : decode cJ9_max_eb370 10 = .ok (.dcmp .l, 1) := by decide +kernel
theorem dJ9_max_eb370_11 : decode cJ9_max_eb370 11 = .ok (.ifCond .ne 22, 3) := by decide +kernel
theorem dJ9_max_eb370_14 : decode cJ9_max_eb370 14 = .ok (.dload_n 2, 1) := by decide +kernel
theorem dJ9_max_eb370_15 : decode cJ9_max_eb370 15 = .ok (.dconst 0, 1) := by decide +kernel
theorem dJ9_max_eb370_16 : decode cJ9_max_eb370 16 = .ok (.dcmp .l, 1) := by decide +kernel
theorem dJ9_max_eb370_17 : decode cJ9_max_eb370 17 = .ok (.ifCond .ne 16, 3) := by decide +kernel
theorem dJ9_max_eb370_20 : decode cJ9_max_eb370 20 = .ok (.dload_n 0, 1) := by decide +kernel
theorem dJ9_max_eb370_21 : decode cJ9_max_eb370 21 = .ok (.invokestatic 79, 3) := by decide +kernel
theorem dJ9_max_eb370_24 : decode cJ9_max_eb370 24 = .ok (.getstatic 174, 3) := by decide +kernel
theorem dJ9_max_eb370_27 : decode cJ9_max_eb370 27 = .ok (.lcmp, 1) := by decide +kernel
theorem dJ9_max_eb370_28 : decode cJ9_max_eb370 28 = .ok (.ifCond .ne 5, 3) := by decide +kernel
theorem dJ9_max_eb370_31 : decode cJ9_max_eb370 31 = .ok (.dload_n 2, 1) := by decide +kernel
theorem dJ9_max_eb370_32 : decode cJ9_max_eb370 32 = .ok (.dreturn, 1) := by decide +kernel
theorem dJ9_max_eb370_33 : decode cJ9_max_eb370 33 = .ok (.dload_n 0, 1) := by decide +kernel
theorem dJ9_max_eb370_34 : decode cJ9_max_eb370 34 = .ok (.dload_n 2, 1) := by decide +kernel
theorem dJ9_max_eb370_35 : decode cJ9_max_eb370 35 = .ok (.dcmp .l, 1) := by decide +kernel
theorem dJ9_max_eb370_36 : decode cJ9_max_eb370 36 = .ok (.ifCond .lt 7, 3) := by decide +kernel
theorem dJ9_max_eb370_39 : decode cJ9_max_eb370 39 = .ok (.dload_n 0, 1) := by decide +kernel
theorem dJ9_max_eb370_40 : decode cJ9_max_eb370 40 = .ok (.goto 4, 3) := by decide +kernel
theorem dJ9_max_eb370_43 : decode cJ9_max_eb370 43 = .ok (.dload_n 2, 1) := by decide +kernel
theorem dJ9_max_eb370_44 : decode cJ9_max_eb370 44 = .ok (.dreturn, 1) := by decide +kernel
theorem dJ9_min_eb370_0 : decode cJ9_min_eb370 0 = .ok (.dload_n 0, 1) := by decide +kernel
theorem dJ9_min_eb370_1 : decode cJ9_min_eb370 1 = .ok (.dload_n 0, 1) := by decide +kernel
theorem dJ9_min_eb370_2 : decode cJ9_min_eb370 2 = .ok (.dcmp .l, 1) := by decide +kernel
theorem dJ9_min_eb370_3 : decode cJ9_min_eb370 3 = .ok (.ifCond .eq 5, 3) := by decide +kernel
theorem dJ9_min_eb370_6 : decode cJ9_min_eb370 6 = .ok (.dload_n 0, 1) := by decide +kernel
theorem dJ9_min_eb370_7 : decode cJ9_min_eb370 7 = .ok (.dreturn, 1) := by decide +kernel
theorem dJ9_min_eb370_8 : decode cJ9_min_eb370 8 = .ok (.dload_n 0, 1) := by decide +kernel
theorem dJ9_min_eb370_9 : decode cJ9_min_eb370 9 = .ok (.dconst 0, 1) := by decide +kernel
theorem dJ9_min_eb370_10 : decode cJ9_min_eb370 10 = .ok (.dcmp .l, 1) := by decide +kernel
theorem dJ9_min_eb370_11 : decode cJ9_min_eb370 11 = .ok (.ifCond .ne 22, 3) := by decide +kernel
theorem dJ9_min_eb370_14 : decode cJ9_min_eb370 14 = .ok (.dload_n 2, 1) := by decide +kernel
theorem dJ9_min_eb370_15 : decode cJ9_min_eb370 15 = .ok (.dconst 0, 1) := by decide +kernel
theorem dJ9_min_eb370_16 : decode cJ9_min_eb370 16 = .ok (.dcmp .l, 1) := by decide +kernel
theorem dJ9_min_eb370_17 : decode cJ9_min_eb370 17 = .ok (.ifCond .ne 16, 3) := by decide +kernel
theorem dJ9_min_eb370_20 : decode cJ9_min_eb370 20 = .ok (.dload_n 2, 1) := by decide +kernel
theorem dJ9_min_eb370_21 : decode cJ9_min_eb370 21 = .ok (.invokestatic 79, 3) := by decide +kernel
theorem dJ9_min_eb370_24 : decode cJ9_min_eb370 24 = .ok (.getstatic 174, 3) := by decide +kernel
theorem dJ9_min_eb370_27 : decode cJ9_min_eb370 27 = .ok (.lcmp, 1) := by decide +kernel
theorem dJ9_min_eb370_28 : decode cJ9_min_eb370 28 = .ok (.ifCond .ne 5, 3) := by decide +kernel
theorem dJ9_min_eb370_31 : decode cJ9_min_eb370 31 = .ok (.dload_n 2, 1) := by decide +kernel
theorem dJ9_min_eb370_32 : decode cJ9_min_eb370 32 = .ok (.dreturn, 1) := by decide +kernel
theorem dJ9_min_eb370_33 : decode cJ9_min_eb370 33 = .ok (.dload_n 0, 1) := by decide +kernel
theorem dJ9_min_eb370_34 : decode cJ9_min_eb370 34 = .ok (.dload_n 2, 1) := by decide +kernel
theorem dJ9_min_eb370_35 : decode cJ9_min_eb370 35 = .ok (.dcmp .g, 1) := by decide +kernel
theorem dJ9_min_eb370_36 : decode cJ9_min_eb370 36 = .ok (.ifCond .gt 7, 3) := by decide +kernel
theorem dJ9_min_eb370_39 : decode cJ9_min_eb370 39 = .ok (.dload_n 0, 1) := by decide +kernel
theorem dJ9_min_eb370_40 : decode cJ9_min_eb370 40 = .ok (.goto 4, 3) := by decide +kernel
theorem dJ9_min_eb370_43 : decode cJ9_min_eb370 43 = .ok (.dload_n 2, 1) := by decide +kernel
theorem dJ9_min_eb370_44 : decode cJ9_min_eb370 44 = .ok (.dreturn, 1) := by decide +kernel
theorem dL_below_0 : decode cL_below 0 = .ok (.iload_n 0, 1) := by decide +kernel
theorem dL_below_1 : decode cL_below 1 = .ok (.ldc 7, 2) := by decide +kernel
theorem dL_below_3 : decode cL_below 3 = .ok (.iand, 1) := by decide +kernel
theorem dL_below_4 : decode cL_below 4 = .ok (.iload_n 1, 1) := by decide +kernel
theorem dL_below_5 : decode cL_below 5 = .ok (.irem, 1) := by decide +kernel
theorem dL_below_6 : decode cL_below 6 = .ok (.ireturn, 1) := by decide +kernel
theorem dL_cell_0 : decode cL_cell 0 = .ok (.iload_n 1, 1) := by decide +kernel
theorem dL_cell_1 : decode cL_cell 1 = .ok (.aload_n 0, 1) := by decide +kernel
theorem dL_cell_2 : decode cL_cell 2 = .ok (.arraylength, 1) := by decide +kernel
theorem dL_cell_3 : decode cL_cell 3 = .ok (.if_icmp .ge 9, 3) := by decide +kernel
theorem dL_cell_6 : decode cL_cell 6 = .ok (.aload_n 0, 1) := by decide +kernel
theorem dL_cell_7 : decode cL_cell 7 = .ok (.iload_n 1, 1) := by decide +kernel
theorem dL_cell_8 : decode cL_cell 8 = .ok (.iaload, 1) := by decide +kernel
theorem dL_cell_9 : decode cL_cell 9 = .ok (.goto 9, 3) := by decide +kernel
theorem dL_cell_12 : decode cL_cell 12 = .ok (.ldc 8, 2) := by decide +kernel
theorem dL_cell_14 : decode cL_cell 14 = .ok (.iload_n 1, 1) := by decide +kernel
theorem dL_cell_15 : decode cL_cell 15 = .ok (.iconst 3, 1) := by decide +kernel
theorem dL_cell_16 : decode cL_cell 16 = .ok (.iadd, 1) := by decide +kernel
theorem dL_cell_17 : decode cL_cell 17 = .ok (.imul, 1) := by decide +kernel
theorem dL_cell_18 : decode cL_cell 18 = .ok (.ireturn, 1) := by decide +kernel
set_option maxRecDepth 20000 in
theorem ggL_build_L_cell : GoodIn wsL_build wsL_cell := goodIn_r _ [4, 5] (by decide +kernel) (by decide +kernel)
set_option maxRecDepth 20000 in
theorem gL_build_L_cell : GoodIn wsL_build (va_wsS RL 9 yL_cell wsL_cell) := goodIn_app (goodIn_of _ (by decide +kernel)) ggL_build_L_cell
set_option maxRecDepth 20000 in
theorem ggL_build_L_below : GoodIn wsL_build wsL_below := goodIn_r _ [8, 9] (by decide +kernel) (by decide +kernel)
set_option maxRecDepth 20000 in
theorem gL_build_L_below : GoodIn wsL_build (va_wsS RL 15 yL_below wsL_below) := goodIn_app (goodIn_of _ (by decide +kernel)) ggL_build_L_below
set_option maxRecDepth 20000 in
theorem ggL_build_X6_addPoint : GoodIn wsL_build wsX6_addPoint := goodIn_ca (goodIn_ca (goodIn_r _ [14, 15, 16, 17, 18, 19, 20, 21, 22, 23, 24, 25, 13, 26, 27, 28, 29, 30, 31, 32, 33, 34, 35, 36, 37, 38, 39, 40, 41, 42, 43, 44, 45, 46, 47, 48, 49, 50, 51, 52, 53, 54, 55, 56, 57, 58, 59, 60, 61, 66, 67, 68, 69, 70, 71, 72, 73, 74, 75, 76] (by decide +kernel) (by decide +kernel)) (goodIn_sub (fun _ h => List.mem_cons_of_mem _ (List.mem_append_left _ (List.mem_append_right _ h))) (by decide +kernel))) (goodIn_sub (fun _ h => List.mem_cons_of_mem _ (List.mem_append_right _ h)) (by decide +kernel))
set_option maxRecDepth 20000 in
theorem gL_build_X6_addPoint : GoodIn wsL_build (wsV RL 19 RX6 yX6_addPoint wsX6_addPoint) := goodIn_app (goodIn_of _ (by decide +kernel)) ggL_build_X6_addPoint
set_option maxRecDepth 20000 in
theorem ggL_build_X6_pointCount : GoodIn wsL_build wsX6_pointCount := goodIn_r _ [65, 23, 66, 67, 68, 69, 70, 71, 72, 73, 74, 75] (by decide +kernel) (by decide +kernel)
set_option maxRecDepth 20000 in
theorem gL_build_X6_pointCount : GoodIn wsL_build (wsV RL 25 RX6 yX6_pointCount wsX6_pointCount) := goodIn_app (goodIn_of _ (by decide +kernel)) ggL_build_X6_pointCount
theorem dL_build_0 : decode cL_build 0 = .ok (.iconst 0, 1) := by decide +kernel
theorem dL_build_1 : decode cL_build 1 = .ok (.istore 8, 2) := by decide +kernel
theorem dL_build_3 : decode cL_build 3 = .ok (.iload 8, 2) := by decide +kernel
theorem dL_build_5 : decode cL_build 5 = .ok (.iload_n 3, 1) := by decide +kernel
theorem dL_build_6 : decode cL_build 6 = .ok (.if_icmp .ge 79, 3) := by decide +kernel
theorem dL_build_9 : decode cL_build 9 = .ok (.aload_n 1, 1) := by decide +kernel
theorem dL_build_10 : decode cL_build 10 = .ok (.iload_n 2, 1) := by decide +kernel
theorem dL_build_11 : decode cL_build 11 = .ok (.iload 8, 2) := by decide +kernel
theorem dL_build_13 : decode cL_build 13 = .ok (.iadd, 1) := by decide +kernel
theorem dL_build_14 : decode cL_build 14 = .ok (.invokestatic 9, 3) := by decide +kernel
theorem dL_build_17 : decode cL_build 17 = .ok (.istore 9, 2) := by decide +kernel
theorem dL_build_19 : decode cL_build 19 = .ok (.aload 6, 2) := by decide +kernel
theorem dL_build_21 : decode cL_build 21 = .ok (.iload 8, 2) := by decide +kernel
theorem dL_build_23 : decode cL_build 23 = .ok (.iload 9, 2) := by decide +kernel
theorem dL_build_25 : decode cL_build 25 = .ok (.bipush 41, 2) := by decide +kernel
theorem dL_build_27 : decode cL_build 27 = .ok (.invokestatic 15, 3) := by decide +kernel
theorem dL_build_30 : decode cL_build 30 = .ok (.bipush 20, 2) := by decide +kernel
theorem dL_build_32 : decode cL_build 32 = .ok (.isub, 1) := by decide +kernel
theorem dL_build_33 : decode cL_build 33 = .ok (.i2d, 1) := by decide +kernel
theorem dL_build_34 : decode cL_build 34 = .ok (.dastore, 1) := by decide +kernel
theorem dL_build_35 : decode cL_build 35 = .ok (.aload 7, 2) := by decide +kernel
theorem dL_build_37 : decode cL_build 37 = .ok (.iload 8, 2) := by decide +kernel
theorem dL_build_39 : decode cL_build 39 = .ok (.iconst 1, 1) := by decide +kernel
theorem dL_build_40 : decode cL_build 40 = .ok (.iload 9, 2) := by decide +kernel
theorem dL_build_42 : decode cL_build 42 = .ok (.bipush 6, 2) := by decide +kernel
theorem dL_build_44 : decode cL_build 44 = .ok (.ishr, 1) := by decide +kernel
theorem dL_build_45 : decode cL_build 45 = .ok (.iconst 5, 1) := by decide +kernel
theorem dL_build_46 : decode cL_build 46 = .ok (.invokestatic 15, 3) := by decide +kernel
theorem dL_build_49 : decode cL_build 49 = .ok (.iadd, 1) := by decide +kernel
theorem dL_build_50 : decode cL_build 50 = .ok (.i2d, 1) := by decide +kernel
theorem dL_build_51 : decode cL_build 51 = .ok (.dastore, 1) := by decide +kernel
theorem dL_build_52 : decode cL_build 52 = .ok (.aload_n 0, 1) := by decide +kernel
theorem dL_build_53 : decode cL_build 53 = .ok (.dload 4, 2) := by decide +kernel
theorem dL_build_55 : decode cL_build 55 = .ok (.iload 8, 2) := by decide +kernel
theorem dL_build_57 : decode cL_build 57 = .ok (.i2d, 1) := by decide +kernel
theorem dL_build_58 : decode cL_build 58 = .ok (.dmul, 1) := by decide +kernel
theorem dL_build_59 : decode cL_build 59 = .ok (.aload 6, 2) := by decide +kernel
theorem dL_build_61 : decode cL_build 61 = .ok (.iload 8, 2) := by decide +kernel
theorem dL_build_63 : decode cL_build 63 = .ok (.daload, 1) := by decide +kernel
theorem dL_build_64 : decode cL_build 64 = .ok (.aload 7, 2) := by decide +kernel
theorem dL_build_66 : decode cL_build 66 = .ok (.iload 8, 2) := by decide +kernel
theorem dL_build_68 : decode cL_build 68 = .ok (.daload, 1) := by decide +kernel
theorem dL_build_69 : decode cL_build 69 = .ok (.invokevirtual 19, 3) := by decide +kernel
theorem dL_build_72 : decode cL_build 72 = .ok (.iload 8, 2) := by decide +kernel
theorem dL_build_74 : decode cL_build 74 = .ok (.if_icmp .eq 5, 3) := by decide +kernel
theorem dL_build_77 : decode cL_build 77 = .ok (.iconst 0, 1) := by decide +kernel
theorem dL_build_78 : decode cL_build 78 = .ok (.ireturn, 1) := by decide +kernel
theorem dL_build_79 : decode cL_build 79 = .ok (.iinc 8 1, 3) := by decide +kernel
theorem dL_build_82 : decode cL_build 82 = .ok (.goto (-79), 3) := by decide +kernel
theorem dL_build_85 : decode cL_build 85 = .ok (.aload_n 0, 1) := by decide +kernel
theorem dL_build_86 : decode cL_build 86 = .ok (.invokevirtual 25, 3) := by decide +kernel
