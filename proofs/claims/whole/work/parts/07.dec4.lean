theorem dX7_freeSlope_31 : decode cX7_freeSlope 31 = .ok (.invokevirtual 98, 3) := by decide +kernel
theorem dX7_freeSlope_34 : decode cX7_freeSlope 34 = .ok (.dstore_n 3, 1) := by decide +kernel
theorem dX7_freeSlope_35 : decode cX7_freeSlope 35 = .ok (.aload_n 0, 1) := by decide +kernel
theorem dX7_freeSlope_36 : decode cX7_freeSlope 36 = .ok (.iload_n 1, 1) := by decide +kernel
theorem dX7_freeSlope_37 : decode cX7_freeSlope 37 = .ok (.invokevirtual 98, 3) := by decide +kernel
theorem dX7_freeSlope_40 : decode cX7_freeSlope 40 = .ok (.dstore 5, 2) := by decide +kernel
theorem dX7_freeSlope_42 : decode cX7_freeSlope 42 = .ok (.dload_n 3, 1) := by decide +kernel
theorem dX7_freeSlope_43 : decode cX7_freeSlope 43 = .ok (.dconst 0, 1) := by decide +kernel
theorem dX7_freeSlope_44 : decode cX7_freeSlope 44 = .ok (.dcmp .l, 1) := by decide +kernel
theorem dX7_freeSlope_45 : decode cX7_freeSlope 45 = .ok (.ifCond .eq 10, 3) := by decide +kernel
theorem dX7_freeSlope_48 : decode cX7_freeSlope 48 = .ok (.dload 5, 2) := by decide +kernel
theorem dX7_freeSlope_50 : decode cX7_freeSlope 50 = .ok (.dconst 0, 1) := by decide +kernel
theorem dX7_freeSlope_51 : decode cX7_freeSlope 51 = .ok (.dcmp .l, 1) := by decide +kernel
theorem dX7_freeSlope_52 : decode cX7_freeSlope 52 = .ok (.ifCond .ne 5, 3) := by decide +kernel
theorem dX7_freeSlope_55 : decode cX7_freeSlope 55 = .ok (.dconst 0, 1) := by decide +kernel
theorem dX7_freeSlope_56 : decode cX7_freeSlope 56 = .ok (.dreturn, 1) := by decide +kernel
theorem dX7_freeSlope_57 : decode cX7_freeSlope 57 = .ok (.ldc2_w 101, 3) := by decide +kernel
theorem dX7_freeSlope_60 : decode cX7_freeSlope 60 = .ok (.aload_n 0, 1) := by decide +kernel
theorem dX7_freeSlope_61 : decode cX7_freeSlope 61 = .ok (.iload_n 1, 1) := by decide +kernel
theorem dX7_freeSlope_62 : decode cX7_freeSlope 62 = .ok (.invokevirtual 95, 3) := by decide +kernel
theorem dX7_freeSlope_65 : decode cX7_freeSlope 65 = .ok (.dmul, 1) := by decide +kernel
theorem dX7_freeSlope_66 : decode cX7_freeSlope 66 = .ok (.aload_n 0, 1) := by decide +kernel
theorem dX7_freeSlope_67 : decode cX7_freeSlope 67 = .ok (.iload_n 1, 1) := by decide +kernel
theorem dX7_freeSlope_68 : decode cX7_freeSlope 68 = .ok (.iconst 1, 1) := by decide +kernel
theorem dX7_freeSlope_69 : decode cX7_freeSlope 69 = .ok (.isub, 1) := by decide +kernel
theorem dX7_freeSlope_70 : decode cX7_freeSlope 70 = .ok (.invokevirtual 95, 3) := by decide +kernel
theorem dX7_freeSlope_73 : decode cX7_freeSlope 73 = .ok (.dadd, 1) := by decide +kernel
theorem dX7_freeSlope_74 : decode cX7_freeSlope 74 = .ok (.dstore 7, 2) := by decide +kernel
theorem dX7_freeSlope_76 : decode cX7_freeSlope 76 = .ok (.aload_n 0, 1) := by decide +kernel
theorem dX7_freeSlope_77 : decode cX7_freeSlope 77 = .ok (.iload_n 1, 1) := by decide +kernel
theorem dX7_freeSlope_78 : decode cX7_freeSlope 78 = .ok (.invokevirtual 95, 3) := by decide +kernel
theorem dX7_freeSlope_81 : decode cX7_freeSlope 81 = .ok (.ldc2_w 101, 3) := by decide +kernel
theorem dX7_freeSlope_84 : decode cX7_freeSlope 84 = .ok (.aload_n 0, 1) := by decide +kernel
theorem dX7_freeSlope_85 : decode cX7_freeSlope 85 = .ok (.iload_n 1, 1) := by decide +kernel
theorem dX7_freeSlope_86 : decode cX7_freeSlope 86 = .ok (.iconst 1, 1) := by decide +kernel
theorem dX7_freeSlope_87 : decode cX7_freeSlope 87 = .ok (.isub, 1) := by decide +kernel
theorem dX7_freeSlope_88 : decode cX7_freeSlope 88 = .ok (.invokevirtual 95, 3) := by decide +kernel
theorem dX7_freeSlope_91 : decode cX7_freeSlope 91 = .ok (.dmul, 1) := by decide +kernel
theorem dX7_freeSlope_92 : decode cX7_freeSlope 92 = .ok (.dadd, 1) := by decide +kernel
theorem dX7_freeSlope_93 : decode cX7_freeSlope 93 = .ok (.dstore 9, 2) := by decide +kernel
theorem dX7_freeSlope_95 : decode cX7_freeSlope 95 = .ok (.dload 7, 2) := by decide +kernel
theorem dX7_freeSlope_97 : decode cX7_freeSlope 97 = .ok (.dload 9, 2) := by decide +kernel
theorem dX7_freeSlope_99 : decode cX7_freeSlope 99 = .ok (.dadd, 1) := by decide +kernel
theorem dX7_freeSlope_100 : decode cX7_freeSlope 100 = .ok (.dload 7, 2) := by decide +kernel
theorem dX7_freeSlope_102 : decode cX7_freeSlope 102 = .ok (.dload_n 3, 1) := by decide +kernel
theorem dX7_freeSlope_103 : decode cX7_freeSlope 103 = .ok (.ddiv, 1) := by decide +kernel
theorem dX7_freeSlope_104 : decode cX7_freeSlope 104 = .ok (.dload 9, 2) := by decide +kernel
theorem dX7_freeSlope_106 : decode cX7_freeSlope 106 = .ok (.dload 5, 2) := by decide +kernel
theorem dX7_freeSlope_108 : decode cX7_freeSlope 108 = .ok (.ddiv, 1) := by decide +kernel
theorem dX7_freeSlope_109 : decode cX7_freeSlope 109 = .ok (.dadd, 1) := by decide +kernel
theorem dX7_freeSlope_110 : decode cX7_freeSlope 110 = .ok (.ddiv, 1) := by decide +kernel
theorem dX7_freeSlope_111 : decode cX7_freeSlope 111 = .ok (.dreturn, 1) := by decide +kernel
set_option maxRecDepth 20000 in
theorem ggX7_slopeOf_X7_freeSlope : GoodIn wsX7_slopeOf wsX7_freeSlope := goodIn_r _ [9, 1, 10, 11, 12, 13, 8, 14, 15, 16, 17, 18, 19, 20, 30, 31, 32, 33, 34, 35, 36, 37, 38, 39, 40, 41, 42, 43, 44] (by decide +kernel) (by decide +kernel)
set_option maxRecDepth 20000 in
theorem gX7_slopeOf_X7_freeSlope : GoodIn wsX7_slopeOf (wsV RX7 103 RX7 yX7_freeSlope wsX7_freeSlope) := goodIn_app (goodIn_of _ (by decide +kernel)) ggX7_slopeOf_X7_freeSlope
set_option maxRecDepth 20000 in
theorem ggX7_slopeOf_X7_rise : GoodIn wsX7_slopeOf wsX7_rise := goodIn_r _ [14, 15, 16, 17, 18, 8, 19, 20, 30, 31, 32, 33, 34, 35, 36, 37, 38, 39, 40, 41, 42, 43, 44] (by decide +kernel) (by decide +kernel)
set_option maxRecDepth 20000 in
theorem gX7_slopeOf_X7_rise : GoodIn wsX7_slopeOf (wsV RX7 98 RX7 yX7_rise wsX7_rise) := goodIn_app (goodIn_of _ (by decide +kernel)) ggX7_slopeOf_X7_rise
set_option maxRecDepth 20000 in
theorem ggX7_slopeOf_J9_min_eb370 : GoodIn wsX7_slopeOf wsJ9_min_eb370 := goodIn_r _ [24, 25, 26, 27, 28, 29] (by decide +kernel) (by decide +kernel)
set_option maxRecDepth 20000 in
theorem gX7_slopeOf_J9_min_eb370 : GoodIn wsX7_slopeOf (va_wsS RX7 107 yJ9_min_eb370 wsJ9_min_eb370) := goodIn_app (goodIn_of _ (by decide +kernel)) ggX7_slopeOf_J9_min_eb370
theorem dX7_slopeOf_0 : decode cX7_slopeOf 0 = .ok (.iload_n 1, 1) := by decide +kernel
theorem dX7_slopeOf_1 : decode cX7_slopeOf 1 = .ok (.ifCond .eq 13, 3) := by decide +kernel
theorem dX7_slopeOf_4 : decode cX7_slopeOf 4 = .ok (.iload_n 1, 1) := by decide +kernel
theorem dX7_slopeOf_5 : decode cX7_slopeOf 5 = .ok (.aload_n 0, 1) := by decide +kernel
theorem dX7_slopeOf_6 : decode cX7_slopeOf 6 = .ok (.getfield 56, 3) := by decide +kernel
theorem dX7_slopeOf_9 : decode cX7_slopeOf 9 = .ok (.iconst 1, 1) := by decide +kernel
theorem dX7_slopeOf_10 : decode cX7_slopeOf 10 = .ok (.isub, 1) := by decide +kernel
theorem dX7_slopeOf_11 : decode cX7_slopeOf 11 = .ok (.if_icmp .ne 7, 3) := by decide +kernel
theorem dX7_slopeOf_14 : decode cX7_slopeOf 14 = .ok (.iconst 1, 1) := by decide +kernel
theorem dX7_slopeOf_15 : decode cX7_slopeOf 15 = .ok (.goto 4, 3) := by decide +kernel
theorem dX7_slopeOf_18 : decode cX7_slopeOf 18 = .ok (.iconst 0, 1) := by decide +kernel
theorem dX7_slopeOf_19 : decode cX7_slopeOf 19 = .ok (.istore_n 2, 1) := by decide +kernel
theorem dX7_slopeOf_20 : decode cX7_slopeOf 20 = .ok (.aload_n 0, 1) := by decide +kernel
theorem dX7_slopeOf_21 : decode cX7_slopeOf 21 = .ok (.getfield 25, 3) := by decide +kernel
theorem dX7_slopeOf_24 : decode cX7_slopeOf 24 = .ok (.iload_n 1, 1) := by decide +kernel
theorem dX7_slopeOf_25 : decode cX7_slopeOf 25 = .ok (.baload, 1) := by decide +kernel
theorem dX7_slopeOf_26 : decode cX7_slopeOf 26 = .ok (.ifCond .eq 12, 3) := by decide +kernel
theorem dX7_slopeOf_29 : decode cX7_slopeOf 29 = .ok (.aload_n 0, 1) := by decide +kernel
theorem dX7_slopeOf_30 : decode cX7_slopeOf 30 = .ok (.getfield 29, 3) := by decide +kernel
theorem dX7_slopeOf_33 : decode cX7_slopeOf 33 = .ok (.iload_n 1, 1) := by decide +kernel
theorem dX7_slopeOf_34 : decode cX7_slopeOf 34 = .ok (.daload, 1) := by decide +kernel
theorem dX7_slopeOf_35 : decode cX7_slopeOf 35 = .ok (.goto 9, 3) := by decide +kernel
theorem dX7_slopeOf_38 : decode cX7_slopeOf 38 = .ok (.aload_n 0, 1) := by decide +kernel
theorem dX7_slopeOf_39 : decode cX7_slopeOf 39 = .ok (.iload_n 1, 1) := by decide +kernel
theorem dX7_slopeOf_40 : decode cX7_slopeOf 40 = .ok (.iload_n 2, 1) := by decide +kernel
theorem dX7_slopeOf_41 : decode cX7_slopeOf 41 = .ok (.invokevirtual 103, 3) := by decide +kernel
theorem dX7_slopeOf_44 : decode cX7_slopeOf 44 = .ok (.dstore_n 3, 1) := by decide +kernel
theorem dX7_slopeOf_45 : decode cX7_slopeOf 45 = .ok (.iload_n 2, 1) := by decide +kernel
theorem dX7_slopeOf_46 : decode cX7_slopeOf 46 = .ok (.ifCond .eq 12, 3) := by decide +kernel
theorem dX7_slopeOf_49 : decode cX7_slopeOf 49 = .ok (.aload_n 0, 1) := by decide +kernel
theorem dX7_slopeOf_50 : decode cX7_slopeOf 50 = .ok (.iload_n 1, 1) := by decide +kernel
theorem dX7_slopeOf_51 : decode cX7_slopeOf 51 = .ok (.iconst 1, 1) := by decide +kernel
theorem dX7_slopeOf_52 : decode cX7_slopeOf 52 = .ok (.invokevirtual 103, 3) := by decide +kernel
theorem dX7_slopeOf_55 : decode cX7_slopeOf 55 = .ok (.goto 18, 3) := by decide +kernel
theorem dX7_slopeOf_58 : decode cX7_slopeOf 58 = .ok (.aload_n 0, 1) := by decide +kernel
theorem dX7_slopeOf_59 : decode cX7_slopeOf 59 = .ok (.iload_n 1, 1) := by decide +kernel
theorem dX7_slopeOf_60 : decode cX7_slopeOf 60 = .ok (.iconst 1, 1) := by decide +kernel
theorem dX7_slopeOf_61 : decode cX7_slopeOf 61 = .ok (.isub, 1) := by decide +kernel
theorem dX7_slopeOf_62 : decode cX7_slopeOf 62 = .ok (.invokevirtual 98, 3) := by decide +kernel
theorem dX7_slopeOf_65 : decode cX7_slopeOf 65 = .ok (.aload_n 0, 1) := by decide +kernel
theorem dX7_slopeOf_66 : decode cX7_slopeOf 66 = .ok (.iload_n 1, 1) := by decide +kernel
theorem dX7_slopeOf_67 : decode cX7_slopeOf 67 = .ok (.invokevirtual 98, 3) := by decide +kernel
theorem dX7_slopeOf_70 : decode cX7_slopeOf 70 = .ok (.invokestatic 107, 3) := by decide +kernel
theorem dX7_slopeOf_73 : decode cX7_slopeOf 73 = .ok (.dstore 5, 2) := by decide +kernel
theorem dX7_slopeOf_75 : decode cX7_slopeOf 75 = .ok (.ldc2_w 111, 3) := by decide +kernel
theorem dX7_slopeOf_78 : decode cX7_slopeOf 78 = .ok (.dload 5, 2) := by decide +kernel
theorem dX7_slopeOf_80 : decode cX7_slopeOf 80 = .ok (.dmul, 1) := by decide +kernel
theorem dX7_slopeOf_81 : decode cX7_slopeOf 81 = .ok (.dstore 7, 2) := by decide +kernel
theorem dX7_slopeOf_83 : decode cX7_slopeOf 83 = .ok (.dload_n 3, 1) := by decide +kernel
theorem dX7_slopeOf_84 : decode cX7_slopeOf 84 = .ok (.dload 7, 2) := by decide +kernel
theorem dX7_slopeOf_86 : decode cX7_slopeOf 86 = .ok (.dcmp .l, 1) := by decide +kernel
theorem dX7_slopeOf_87 : decode cX7_slopeOf 87 = .ok (.ifCond .le 8, 3) := by decide +kernel
theorem dX7_slopeOf_90 : decode cX7_slopeOf 90 = .ok (.dload 7, 2) := by decide +kernel
theorem dX7_slopeOf_92 : decode cX7_slopeOf 92 = .ok (.goto 4, 3) := by decide +kernel
theorem dX7_slopeOf_95 : decode cX7_slopeOf 95 = .ok (.dload_n 3, 1) := by decide +kernel
theorem dX7_slopeOf_96 : decode cX7_slopeOf 96 = .ok (.dreturn, 1) := by decide +kernel
theorem dX7_knotCount_0 : decode cX7_knotCount 0 = .ok (.aload_n 0, 1) := by decide +kernel
theorem dX7_knotCount_1 : decode cX7_knotCount 1 = .ok (.iconst 0, 1) := by decide +kernel
theorem dX7_knotCount_2 : decode cX7_knotCount 2 = .ok (.putfield 48, 3) := by decide +kernel
theorem dX7_knotCount_5 : decode cX7_knotCount 5 = .ok (.aload_n 0, 1) := by decide +kernel
theorem dX7_knotCount_6 : decode cX7_knotCount 6 = .ok (.getfield 56, 3) := by decide +kernel
theorem dX7_knotCount_9 : decode cX7_knotCount 9 = .ok (.ireturn, 1) := by decide +kernel
set_option maxRecDepth 20000 in
theorem ggX7_knotPlace_X7_isKnot : GoodIn wsX7_knotPlace wsX7_isKnot := goodIn_r _ [7, 8, 13, 14, 15, 16, 17, 18, 19, 20, 21, 22, 23, 24, 25, 26, 27] (by decide +kernel) (by decide +kernel)
set_option maxRecDepth 20000 in
theorem gX7_knotPlace_X7_isKnot : GoodIn wsX7_knotPlace (wsV RX7 113 RX7 yX7_isKnot wsX7_isKnot) := goodIn_app (goodIn_of _ (by decide +kernel)) ggX7_knotPlace_X7_isKnot
set_option maxRecDepth 20000 in
theorem ggX7_knotPlace_X7_fail : GoodIn wsX7_knotPlace wsX7_fail := goodIn_r _ [12, 1, 13, 14, 15, 16, 17, 18, 19, 20, 21, 22, 23, 24, 25, 26, 27] (by decide +kernel) (by decide +kernel)
set_option maxRecDepth 20000 in
theorem gX7_knotPlace_X7_fail : GoodIn wsX7_knotPlace (wsV RX7 75 RX7 yX7_fail wsX7_fail) := goodIn_app (goodIn_of _ (by decide +kernel)) ggX7_knotPlace_X7_fail
theorem dX7_knotPlace_0 : decode cX7_knotPlace 0 = .ok (.aload_n 0, 1) := by decide +kernel
theorem dX7_knotPlace_1 : decode cX7_knotPlace 1 = .ok (.iconst 0, 1) := by decide +kernel
theorem dX7_knotPlace_2 : decode cX7_knotPlace 2 = .ok (.putfield 48, 3) := by decide +kernel
theorem dX7_knotPlace_5 : decode cX7_knotPlace 5 = .ok (.aload_n 0, 1) := by decide +kernel
theorem dX7_knotPlace_6 : decode cX7_knotPlace 6 = .ok (.iload_n 1, 1) := by decide +kernel
theorem dX7_knotPlace_7 : decode cX7_knotPlace 7 = .ok (.invokevirtual 113, 3) := by decide +kernel
theorem dX7_knotPlace_10 : decode cX7_knotPlace 10 = .ok (.ifCond .eq 12, 3) := by decide +kernel
theorem dX7_knotPlace_13 : decode cX7_knotPlace 13 = .ok (.aload_n 0, 1) := by decide +kernel
theorem dX7_knotPlace_14 : decode cX7_knotPlace 14 = .ok (.getfield 19, 3) := by decide +kernel
theorem dX7_knotPlace_17 : decode cX7_knotPlace 17 = .ok (.iload_n 1, 1) := by decide +kernel
theorem dX7_knotPlace_18 : decode cX7_knotPlace 18 = .ok (.daload, 1) := by decide +kernel
theorem dX7_knotPlace_19 : decode cX7_knotPlace 19 = .ok (.goto 9, 3) := by decide +kernel
theorem dX7_knotPlace_22 : decode cX7_knotPlace 22 = .ok (.aload_n 0, 1) := by decide +kernel
theorem dX7_knotPlace_23 : decode cX7_knotPlace 23 = .ok (.iconst 1, 1) := by decide +kernel
theorem dX7_knotPlace_24 : decode cX7_knotPlace 24 = .ok (.invokevirtual 75, 3) := by decide +kernel
theorem dX7_knotPlace_27 : decode cX7_knotPlace 27 = .ok (.i2d, 1) := by decide +kernel
theorem dX7_knotPlace_28 : decode cX7_knotPlace 28 = .ok (.dreturn, 1) := by decide +kernel
set_option maxRecDepth 20000 in
theorem ggX7_knotValue_X7_isKnot : GoodIn wsX7_knotValue wsX7_isKnot := goodIn_r _ [7, 8, 13, 14, 15, 16, 17, 18, 19, 20, 21, 22, 23, 24, 25, 26, 27] (by decide +kernel) (by decide +kernel)
set_option maxRecDepth 20000 in
theorem gX7_knotValue_X7_isKnot : GoodIn wsX7_knotValue (wsV RX7 113 RX7 yX7_isKnot wsX7_isKnot) := goodIn_app (goodIn_of _ (by decide +kernel)) ggX7_knotValue_X7_isKnot
set_option maxRecDepth 20000 in
theorem ggX7_knotValue_X7_fail : GoodIn wsX7_knotValue wsX7_fail := goodIn_r _ [12, 1, 13, 14, 15, 16, 17, 18, 19, 20, 21, 22, 23, 24, 25, 26, 27] (by decide +kernel) (by decide +kernel)
set_option maxRecDepth 20000 in
theorem gX7_knotValue_X7_fail : GoodIn wsX7_knotValue (wsV RX7 75 RX7 yX7_fail wsX7_fail) := goodIn_app (goodIn_of _ (by decide +kernel)) ggX7_knotValue_X7_fail
theorem dX7_knotValue_0 : decode cX7_knotValue 0 = .ok (.aload_n 0, 1) := by decide +kernel
theorem dX7_knotValue_1 : decode cX7_knotValue 1 = .ok (.iconst 0, 1) := by decide +kernel
theorem dX7_knotValue_2 : decode cX7_knotValue 2 = .ok (.putfield 48, 3) := by decide +kernel
theorem dX7_knotValue_5 : decode cX7_knotValue 5 = .ok (.aload_n 0, 1) := by decide +kernel
theorem dX7_knotValue_6 : decode cX7_knotValue 6 = .ok (.iload_n 1, 1) := by decide +kernel
theorem dX7_knotValue_7 : decode cX7_knotValue 7 = .ok (.invokevirtual 113, 3) := by decide +kernel
theorem dX7_knotValue_10 : decode cX7_knotValue 10 = .ok (.ifCond .eq 12, 3) := by decide +kernel
theorem dX7_knotValue_13 : decode cX7_knotValue 13 = .ok (.aload_n 0, 1) := by decide +kernel
theorem dX7_knotValue_14 : decode cX7_knotValue 14 = .ok (.getfield 22, 3) := by decide +kernel
theorem dX7_knotValue_17 : decode cX7_knotValue 17 = .ok (.iload_n 1, 1) := by decide +kernel
theorem dX7_knotValue_18 : decode cX7_knotValue 18 = .ok (.daload, 1) := by decide +kernel
theorem dX7_knotValue_19 : decode cX7_knotValue 19 = .ok (.goto 9, 3) := by decide +kernel
theorem dX7_knotValue_22 : decode cX7_knotValue 22 = .ok (.aload_n 0, 1) := by decide +kernel
theorem dX7_knotValue_23 : decode cX7_knotValue 23 = .ok (.iconst 1, 1) := by decide +kernel
theorem dX7_knotValue_24 : decode cX7_knotValue 24 = .ok (.invokevirtual 75, 3) := by decide +kernel
theorem dX7_knotValue_27 : decode cX7_knotValue 27 = .ok (.i2d, 1) := by decide +kernel
theorem dX7_knotValue_28 : decode cX7_knotValue 28 = .ok (.dreturn, 1) := by decide +kernel
set_option maxRecDepth 20000 in
theorem ggX7_knotSlope_X7_isKnot : GoodIn wsX7_knotSlope wsX7_isKnot := goodIn_r _ [6, 7, 43, 44, 45, 46, 47, 48, 49, 50, 51, 52, 53, 54, 55, 56, 57] (by decide +kernel) (by decide +kernel)
set_option maxRecDepth 20000 in
theorem gX7_knotSlope_X7_isKnot : GoodIn wsX7_knotSlope (wsV RX7 113 RX7 yX7_isKnot wsX7_isKnot) := goodIn_app (goodIn_of _ (by decide +kernel)) ggX7_knotSlope_X7_isKnot
set_option maxRecDepth 20000 in
theorem ggX7_knotSlope_X7_slopeOf : GoodIn wsX7_knotSlope wsX7_slopeOf := goodIn_r _ [11, 7, 12, 13, 14, 15, 16, 17, 5, 18, 19, 20, 21, 22, 23, 24, 25, 26, 27, 28, 29, 30, 31, 32, 33, 34, 35, 36, 37, 38, 43, 44, 45, 46, 47, 48, 49, 50, 51, 52, 53, 54, 55, 56, 57] (by decide +kernel) (by decide +kernel)
set_option maxRecDepth 20000 in
theorem gX7_knotSlope_X7_slopeOf : GoodIn wsX7_knotSlope (wsV RX7 117 RX7 yX7_slopeOf wsX7_slopeOf) := goodIn_app (goodIn_of _ (by decide +kernel)) ggX7_knotSlope_X7_slopeOf
set_option maxRecDepth 20000 in
theorem ggX7_knotSlope_X7_fail : GoodIn wsX7_knotSlope wsX7_fail := goodIn_r _ [42, 1, 43, 44, 45, 46, 47, 48, 49, 50, 51, 52, 53, 54, 55, 56, 57] (by decide +kernel) (by decide +kernel)
set_option maxRecDepth 20000 in
theorem gX7_knotSlope_X7_fail : GoodIn wsX7_knotSlope (wsV RX7 75 RX7 yX7_fail wsX7_fail) := goodIn_app (goodIn_of _ (by decide +kernel)) ggX7_knotSlope_X7_fail
theorem dX7_knotSlope_0 : decode cX7_knotSlope 0 = .ok (.aload_n 0, 1) := by decide +kernel
theorem dX7_knotSlope_1 : decode cX7_knotSlope 1 = .ok (.iconst 0, 1) := by decide +kernel
theorem dX7_knotSlope_2 : decode cX7_knotSlope 2 = .ok (.putfield 48, 3) := by decide +kernel
theorem dX7_knotSlope_5 : decode cX7_knotSlope 5 = .ok (.aload_n 0, 1) := by decide +kernel
theorem dX7_knotSlope_6 : decode cX7_knotSlope 6 = .ok (.iload_n 1, 1) := by decide +kernel
theorem dX7_knotSlope_7 : decode cX7_knotSlope 7 = .ok (.invokevirtual 113, 3) := by decide +kernel
theorem dX7_knotSlope_10 : decode cX7_knotSlope 10 = .ok (.ifCond .eq 11, 3) := by decide +kernel
theorem dX7_knotSlope_13 : decode cX7_knotSlope 13 = .ok (.aload_n 0, 1) := by decide +kernel
theorem dX7_knotSlope_14 : decode cX7_knotSlope 14 = .ok (.iload_n 1, 1) := by decide +kernel
theorem dX7_knotSlope_15 : decode cX7_knotSlope 15 = .ok (.invokevirtual 117, 3) := by decide +kernel
theorem dX7_knotSlope_18 : decode cX7_knotSlope 18 = .ok (.goto 9, 3) := by decide +kernel
theorem dX7_knotSlope_21 : decode cX7_knotSlope 21 = .ok (.aload_n 0, 1) := by decide +kernel
theorem dX7_knotSlope_22 : decode cX7_knotSlope 22 = .ok (.iconst 1, 1) := by decide +kernel
theorem dX7_knotSlope_23 : decode cX7_knotSlope 23 = .ok (.invokevirtual 75, 3) := by decide +kernel
theorem dX7_knotSlope_26 : decode cX7_knotSlope 26 = .ok (.i2d, 1) := by decide +kernel
theorem dX7_knotSlope_27 : decode cX7_knotSlope 27 = .ok (.dreturn, 1) := by decide +kernel
set_option maxRecDepth 20000 in
theorem ggX7_isFixed_X7_isKnot : GoodIn wsX7_isFixed wsX7_isKnot := goodIn_r _ [7, 8, 13, 14, 15, 16, 17, 18, 19, 20, 21, 22, 23, 24, 25, 26, 27] (by decide +kernel) (by decide +kernel)
set_option maxRecDepth 20000 in
theorem gX7_isFixed_X7_isKnot : GoodIn wsX7_isFixed (wsV RX7 113 RX7 yX7_isKnot wsX7_isKnot) := goodIn_app (goodIn_of _ (by decide +kernel)) ggX7_isFixed_X7_isKnot
set_option maxRecDepth 20000 in
theorem ggX7_isFixed_X7_fail : GoodIn wsX7_isFixed wsX7_fail := goodIn_r _ [12, 1, 13, 14, 15, 16, 17, 18, 19, 20, 21, 22, 23, 24, 25, 26, 27] (by decide +kernel) (by decide +kernel)
set_option maxRecDepth 20000 in
theorem gX7_isFixed_X7_fail : GoodIn wsX7_isFixed (wsV RX7 75 RX7 yX7_fail wsX7_fail) := goodIn_app (goodIn_of _ (by decide +kernel)) ggX7_isFixed_X7_fail
theorem dX7_isFixed_0 : decode cX7_isFixed 0 = .ok (.aload_n 0, 1) := by decide +kernel
theorem dX7_isFixed_1 : decode cX7_isFixed 1 = .ok (.iconst 0, 1) := by decide +kernel
theorem dX7_isFixed_2 : decode cX7_isFixed 2 = .ok (.putfield 48, 3) := by decide +kernel
theorem dX7_isFixed_5 : decode cX7_isFixed 5 = .ok (.aload_n 0, 1) := by decide +kernel
theorem dX7_isFixed_6 : decode cX7_isFixed 6 = .ok (.iload_n 1, 1) := by decide +kernel
theorem dX7_isFixed_7 : decode cX7_isFixed 7 = .ok (.invokevirtual 113, 3) := by decide +kernel
theorem dX7_isFixed_10 : decode cX7_isFixed 10 = .ok (.ifCond .eq 12, 3) := by decide +kernel
theorem dX7_isFixed_13 : decode cX7_isFixed 13 = .ok (.aload_n 0, 1) := by decide +kernel
theorem dX7_isFixed_14 : decode cX7_isFixed 14 = .ok (.getfield 25, 3) := by decide +kernel
theorem dX7_isFixed_17 : decode cX7_isFixed 17 = .ok (.iload_n 1, 1) := by decide +kernel
theorem dX7_isFixed_18 : decode cX7_isFixed 18 = .ok (.baload, 1) := by decide +kernel
theorem dX7_isFixed_19 : decode cX7_isFixed 19 = .ok (.goto 16, 3) := by decide +kernel
theorem dX7_isFixed_22 : decode cX7_isFixed 22 = .ok (.aload_n 0, 1) := by decide +kernel
theorem dX7_isFixed_23 : decode cX7_isFixed 23 = .ok (.iconst 1, 1) := by decide +kernel
theorem dX7_isFixed_24 : decode cX7_isFixed 24 = .ok (.invokevirtual 75, 3) := by decide +kernel
theorem dX7_isFixed_27 : decode cX7_isFixed 27 = .ok (.ifCond .eq 7, 3) := by decide +kernel
theorem dX7_isFixed_30 : decode cX7_isFixed 30 = .ok (.iconst 1, 1) := by decide +kernel
theorem dX7_isFixed_31 : decode cX7_isFixed 31 = .ok (.goto 4, 3) := by decide +kernel
theorem dX7_isFixed_34 : decode cX7_isFixed 34 = .ok (.iconst 0, 1) := by decide +kernel
theorem dX7_isFixed_35 : decode cX7_isFixed 35 = .ok (.ireturn, 1) := by decide +kernel
theorem dX7_moveKnot_0 : decode cX7_moveKnot 0 = .ok (.aload_n 0, 1) := by decide +kernel
theorem dX7_moveKnot_1 : decode cX7_moveKnot 1 = .ok (.getfield 19, 3) := by decide +kernel
theorem dX7_moveKnot_4 : decode cX7_moveKnot 4 = .ok (.iload_n 2, 1) := by decide +kernel
theorem dX7_moveKnot_5 : decode cX7_moveKnot 5 = .ok (.aload_n 0, 1) := by decide +kernel
theorem dX7_moveKnot_6 : decode cX7_moveKnot 6 = .ok (.getfield 19, 3) := by decide +kernel
theorem dX7_moveKnot_9 : decode cX7_moveKnot 9 = .ok (.iload_n 1, 1) := by decide +kernel
theorem dX7_moveKnot_10 : decode cX7_moveKnot 10 = .ok (.daload, 1) := by decide +kernel
theorem dX7_moveKnot_11 : decode cX7_moveKnot 11 = .ok (.dastore, 1) := by decide +kernel
theorem dX7_moveKnot_12 : decode cX7_moveKnot 12 = .ok (.aload_n 0, 1) := by decide +kernel
theorem dX7_moveKnot_13 : decode cX7_moveKnot 13 = .ok (.getfield 22, 3) := by decide +kernel
theorem dX7_moveKnot_16 : decode cX7_moveKnot 16 = .ok (.iload_n 2, 1) := by decide +kernel
theorem dX7_moveKnot_17 : decode cX7_moveKnot 17 = .ok (.aload_n 0, 1) := by decide +kernel
theorem dX7_moveKnot_18 : decode cX7_moveKnot 18 = .ok (.getfield 22, 3) := by decide +kernel
theorem dX7_moveKnot_21 : decode cX7_moveKnot 21 = .ok (.iload_n 1, 1) := by decide +kernel
theorem dX7_moveKnot_22 : decode cX7_moveKnot 22 = .ok (.daload, 1) := by decide +kernel
theorem dX7_moveKnot_23 : decode cX7_moveKnot 23 = .ok (.dastore, 1) := by decide +kernel
theorem dX7_moveKnot_24 : decode cX7_moveKnot 24 = .ok (.aload_n 0, 1) := by decide +kernel
theorem dX7_moveKnot_25 : decode cX7_moveKnot 25 = .ok (.getfield 25, 3) := by decide +kernel
theorem dX7_moveKnot_28 : decode cX7_moveKnot 28 = .ok (.iload_n 2, 1) := by decide +kernel
theorem dX7_moveKnot_29 : decode cX7_moveKnot 29 = .ok (.aload_n 0, 1) := by decide +kernel
theorem dX7_moveKnot_30 : decode cX7_moveKnot 30 = .ok (.getfield 25, 3) := by decide +kernel
theorem dX7_moveKnot_33 : decode cX7_moveKnot 33 = .ok (.iload_n 1, 1) := by decide +kernel
theorem dX7_moveKnot_34 : decode cX7_moveKnot 34 = .ok (.baload, 1) := by decide +kernel
theorem dX7_moveKnot_35 : decode cX7_moveKnot 35 = .ok (.bastore, 1) := by decide +kernel
theorem dX7_moveKnot_36 : decode cX7_moveKnot 36 = .ok (.aload_n 0, 1) := by decide +kernel
theorem dX7_moveKnot_37 : decode cX7_moveKnot 37 = .ok (.getfield 29, 3) := by decide +kernel
theorem dX7_moveKnot_40 : decode cX7_moveKnot 40 = .ok (.iload_n 2, 1) := by decide +kernel
theorem dX7_moveKnot_41 : decode cX7_moveKnot 41 = .ok (.aload_n 0, 1) := by decide +kernel
theorem dX7_moveKnot_42 : decode cX7_moveKnot 42 = .ok (.getfield 29, 3) := by decide +kernel
theorem dX7_moveKnot_45 : decode cX7_moveKnot 45 = .ok (.iload_n 1, 1) := by decide +kernel
theorem dX7_moveKnot_46 : decode cX7_moveKnot 46 = .ok (.daload, 1) := by decide +kernel
theorem dX7_moveKnot_47 : decode cX7_moveKnot 47 = .ok (.dastore, 1) := by decide +kernel
theorem dX7_moveKnot_48 : decode cX7_moveKnot 48 = .ok (.return_, 1) := by decide +kernel
set_option maxRecDepth 20000 in
theorem ggX7_insertKnot_X7_plain : GoodIn wsX7_insertKnot wsX7_plain := goodIn_r _ [11, 12, 13] (by decide +kernel) (by decide +kernel)
set_option maxRecDepth 20000 in
theorem gX7_insertKnot_X7_plain : GoodIn wsX7_insertKnot (va_wsS RX7 59 yX7_plain wsX7_plain) := goodIn_app (goodIn_of _ (by decide +kernel)) ggX7_insertKnot_X7_plain
set_option maxRecDepth 20000 in
theorem ggX7_insertKnot_X7_fail : GoodIn wsX7_insertKnot wsX7_fail := goodIn_r _ [17, 1, 69, 70, 71, 72, 73, 74, 75, 76, 77, 78, 79, 80, 81, 82, 83] (by decide +kernel) (by decide +kernel)
set_option maxRecDepth 20000 in
theorem gX7_insertKnot_X7_fail : GoodIn wsX7_insertKnot (wsV RX7 75 RX7 yX7_fail wsX7_fail) := goodIn_app (goodIn_of _ (by decide +kernel)) ggX7_insertKnot_X7_fail
set_option maxRecDepth 20000 in
theorem ggX7_insertKnot_X7_pieceOf : GoodIn wsX7_insertKnot wsX7_pieceOf := goodIn_r _ [21, 2, 3, 69, 70, 71, 72, 73, 74, 75, 76, 77, 78, 79, 80, 81, 82, 83] (by decide +kernel) (by decide +kernel)
set_option maxRecDepth 20000 in
theorem gX7_insertKnot_X7_pieceOf : GoodIn wsX7_insertKnot (wsV RX7 120 RX7 yX7_pieceOf wsX7_pieceOf) := goodIn_app (goodIn_of _ (by decide +kernel)) ggX7_insertKnot_X7_pieceOf
set_option maxRecDepth 20000 in
theorem ggX7_insertKnot_X7_valueIn : GoodIn wsX7_insertKnot wsX7_valueIn := goodIn_r _ [25, 5, 26, 27, 28, 10, 29, 2, 6, 7, 30, 31, 32, 33, 34, 35, 36, 37, 38, 39, 40, 41, 42, 43, 3, 44, 45, 46, 47, 48, 49, 50, 51, 52, 53, 54, 55, 56, 57, 58, 59, 60, 69, 70, 71, 72, 73, 74, 75, 76, 77, 78, 79, 80, 81, 82, 83] (by decide +kernel) (by decide +kernel)
set_option maxRecDepth 20000 in
theorem gX7_insertKnot_X7_valueIn : GoodIn wsX7_insertKnot (wsV RX7 126 RX7 yX7_valueIn wsX7_valueIn) := goodIn_app (goodIn_of _ (by decide +kernel)) ggX7_insertKnot_X7_valueIn
set_option maxRecDepth 20000 in
theorem ggX7_insertKnot_X7_slopeIn : GoodIn wsX7_insertKnot wsX7_slopeIn := goodIn_r _ [64, 35, 30, 26, 27, 28, 10, 29, 2, 6, 7, 31, 32, 33, 34, 36, 37, 38, 39, 5, 40, 41, 42, 43, 3, 44, 45, 46, 47, 48, 49, 50, 51, 52, 53, 54, 55, 56, 57, 58, 59, 60, 69, 70, 71, 72, 73, 74, 75, 76, 77, 78, 79, 80, 81, 82, 83] (by decide +kernel) (by decide +kernel)
set_option maxRecDepth 20000 in
theorem gX7_insertKnot_X7_slopeIn : GoodIn wsX7_insertKnot (wsV RX7 130 RX7 yX7_slopeIn wsX7_slopeIn) := goodIn_app (goodIn_of _ (by decide +kernel)) ggX7_insertKnot_X7_slopeIn
set_option maxRecDepth 20000 in
theorem ggX7_insertKnot_X7_moveKnot : GoodIn wsX7_insertKnot wsX7_moveKnot := goodIn_r _ [68, 3, 5, 6, 7, 69, 70, 71, 72, 73, 74, 75, 76, 77, 78, 79, 80, 81, 82, 83] (by decide +kernel) (by decide +kernel)
set_option maxRecDepth 20000 in
theorem gX7_insertKnot_X7_moveKnot : GoodIn wsX7_insertKnot (wsV RX7 133 RX7 yX7_moveKnot wsX7_moveKnot) := goodIn_app (goodIn_of _ (by decide +kernel)) ggX7_insertKnot_X7_moveKnot
theorem dX7_insertKnot_0 : decode cX7_insertKnot 0 = .ok (.aload_n 0, 1) := by decide +kernel
theorem dX7_insertKnot_1 : decode cX7_insertKnot 1 = .ok (.iconst 0, 1) := by decide +kernel
theorem dX7_insertKnot_2 : decode cX7_insertKnot 2 = .ok (.putfield 48, 3) := by decide +kernel
theorem dX7_insertKnot_5 : decode cX7_insertKnot 5 = .ok (.dload_n 1, 1) := by decide +kernel
theorem dX7_insertKnot_6 : decode cX7_insertKnot 6 = .ok (.invokestatic 59, 3) := by decide +kernel
theorem dX7_insertKnot_9 : decode cX7_insertKnot 9 = .ok (.dstore_n 3, 1) := by decide +kernel
theorem dX7_insertKnot_10 : decode cX7_insertKnot 10 = .ok (.aload_n 0, 1) := by decide +kernel
theorem dX7_insertKnot_11 : decode cX7_insertKnot 11 = .ok (.getfield 56, 3) := by decide +kernel
theorem dX7_insertKnot_14 : decode cX7_insertKnot 14 = .ok (.ifCond .eq 30, 3) := by decide +kernel
theorem dX7_insertKnot_17 : decode cX7_insertKnot 17 = .ok (.dload_n 3, 1) := by decide +kernel
theorem dX7_insertKnot_18 : decode cX7_insertKnot 18 = .ok (.aload_n 0, 1) := by decide +kernel
theorem dX7_insertKnot_19 : decode cX7_insertKnot 19 = .ok (.getfield 19, 3) := by decide +kernel
theorem dX7_insertKnot_22 : decode cX7_insertKnot 22 = .ok (.iconst 0, 1) := by decide +kernel
theorem dX7_insertKnot_23 : decode cX7_insertKnot 23 = .ok (.daload, 1) := by decide +kernel
theorem dX7_insertKnot_24 : decode cX7_insertKnot 24 = .ok (.dcmp .l, 1) := by decide +kernel
theorem dX7_insertKnot_25 : decode cX7_insertKnot 25 = .ok (.ifCond .le 19, 3) := by decide +kernel
theorem dX7_insertKnot_28 : decode cX7_insertKnot 28 = .ok (.dload_n 3, 1) := by decide +kernel
theorem dX7_insertKnot_29 : decode cX7_insertKnot 29 = .ok (.aload_n 0, 1) := by decide +kernel
theorem dX7_insertKnot_30 : decode cX7_insertKnot 30 = .ok (.getfield 19, 3) := by decide +kernel
theorem dX7_insertKnot_33 : decode cX7_insertKnot 33 = .ok (.aload_n 0, 1) := by decide +kernel
theorem dX7_insertKnot_34 : decode cX7_insertKnot 34 = .ok (.getfield 56, 3) := by decide +kernel
theorem dX7_insertKnot_37 : decode cX7_insertKnot 37 = .ok (.iconst 1, 1) := by decide +kernel
theorem dX7_insertKnot_38 : decode cX7_insertKnot 38 = .ok (.isub, 1) := by decide +kernel
theorem dX7_insertKnot_39 : decode cX7_insertKnot 39 = .ok (.daload, 1) := by decide +kernel
theorem dX7_insertKnot_40 : decode cX7_insertKnot 40 = .ok (.dcmp .g, 1) := by decide +kernel
theorem dX7_insertKnot_41 : decode cX7_insertKnot 41 = .ok (.ifCond .lt 9, 3) := by decide +kernel
theorem dX7_insertKnot_44 : decode cX7_insertKnot 44 = .ok (.aload_n 0, 1) := by decide +kernel
theorem dX7_insertKnot_45 : decode cX7_insertKnot 45 = .ok (.iconst 1, 1) := by decide +kernel
theorem dX7_insertKnot_46 : decode cX7_insertKnot 46 = .ok (.invokevirtual 75, 3) := by decide +kernel
theorem dX7_insertKnot_49 : decode cX7_insertKnot 49 = .ok (.ireturn, 1) := by decide +kernel
theorem dX7_insertKnot_50 : decode cX7_insertKnot 50 = .ok (.aload_n 0, 1) := by decide +kernel
theorem dX7_insertKnot_51 : decode cX7_insertKnot 51 = .ok (.dload_n 3, 1) := by decide +kernel
theorem dX7_insertKnot_52 : decode cX7_insertKnot 52 = .ok (.invokevirtual 120, 3) := by decide +kernel
theorem dX7_insertKnot_55 : decode cX7_insertKnot 55 = .ok (.istore 5, 2) := by decide +kernel
theorem dX7_insertKnot_57 : decode cX7_insertKnot 57 = .ok (.dload_n 3, 1) := by decide +kernel
theorem dX7_insertKnot_58 : decode cX7_insertKnot 58 = .ok (.aload_n 0, 1) := by decide +kernel
theorem dX7_insertKnot_59 : decode cX7_insertKnot 59 = .ok (.getfield 19, 3) := by decide +kernel
theorem dX7_insertKnot_62 : decode cX7_insertKnot 62 = .ok (.iload 5, 2) := by decide +kernel
theorem dX7_insertKnot_64 : decode cX7_insertKnot 64 = .ok (.daload, 1) := by decide +kernel
theorem dX7_insertKnot_65 : decode cX7_insertKnot 65 = .ok (.dsub, 1) := by decide +kernel
theorem dX7_insertKnot_66 : decode cX7_insertKnot 66 = .ok (.ldc2_w 124, 3) := by decide +kernel
theorem dX7_insertKnot_69 : decode cX7_insertKnot 69 = .ok (.dcmp .g, 1) := by decide +kernel
theorem dX7_insertKnot_70 : decode cX7_insertKnot 70 = .ok (.ifCond .lt 21, 3) := by decide +kernel
theorem dX7_insertKnot_73 : decode cX7_insertKnot 73 = .ok (.aload_n 0, 1) := by decide +kernel
theorem dX7_insertKnot_74 : decode cX7_insertKnot 74 = .ok (.getfield 19, 3) := by decide +kernel
theorem dX7_insertKnot_77 : decode cX7_insertKnot 77 = .ok (.iload 5, 2) := by decide +kernel
theorem dX7_insertKnot_79 : decode cX7_insertKnot 79 = .ok (.iconst 1, 1) := by decide +kernel
theorem dX7_insertKnot_80 : decode cX7_insertKnot 80 = .ok (.iadd, 1) := by decide +kernel
theorem dX7_insertKnot_81 : decode cX7_insertKnot 81 = .ok (.daload, 1) := by decide +kernel
theorem dX7_insertKnot_82 : decode cX7_insertKnot 82 = .ok (.dload_n 3, 1) := by decide +kernel
theorem dX7_insertKnot_83 : decode cX7_insertKnot 83 = .ok (.dsub, 1) := by decide +kernel
theorem dX7_insertKnot_84 : decode cX7_insertKnot 84 = .ok (.ldc2_w 124, 3) := by decide +kernel
theorem dX7_insertKnot_87 : decode cX7_insertKnot 87 = .ok (.dcmp .g, 1) := by decide +kernel
theorem dX7_insertKnot_88 : decode cX7_insertKnot 88 = .ok (.ifCond .ge 9, 3) := by decide +kernel
theorem dX7_insertKnot_91 : decode cX7_insertKnot 91 = .ok (.aload_n 0, 1) := by decide +kernel
theorem dX7_insertKnot_92 : decode cX7_insertKnot 92 = .ok (.iconst 1, 1) := by decide +kernel
theorem dX7_insertKnot_93 : decode cX7_insertKnot 93 = .ok (.invokevirtual 75, 3) := by decide +kernel
theorem dX7_insertKnot_96 : decode cX7_insertKnot 96 = .ok (.ireturn, 1) := by decide +kernel
theorem dX7_insertKnot_97 : decode cX7_insertKnot 97 = .ok (.aload_n 0, 1) := by decide +kernel
theorem dX7_insertKnot_98 : decode cX7_insertKnot 98 = .ok (.getfield 56, 3) := by decide +kernel
theorem dX7_insertKnot_101 : decode cX7_insertKnot 101 = .ok (.bipush 60, 2) := by decide +kernel
theorem dX7_insertKnot_103 : decode cX7_insertKnot 103 = .ok (.if_icmp .ne 9, 3) := by decide +kernel
theorem dX7_insertKnot_106 : decode cX7_insertKnot 106 = .ok (.aload_n 0, 1) := by decide +kernel
theorem dX7_insertKnot_107 : decode cX7_insertKnot 107 = .ok (.iconst 2, 1) := by decide +kernel
theorem dX7_insertKnot_108 : decode cX7_insertKnot 108 = .ok (.invokevirtual 75, 3) := by decide +kernel
theorem dX7_insertKnot_111 : decode cX7_insertKnot 111 = .ok (.ireturn, 1) := by decide +kernel
theorem dX7_insertKnot_112 : decode cX7_insertKnot 112 = .ok (.aload_n 0, 1) := by decide +kernel
theorem dX7_insertKnot_113 : decode cX7_insertKnot 113 = .ok (.iload 5, 2) := by decide +kernel
theorem dX7_insertKnot_115 : decode cX7_insertKnot 115 = .ok (.dload_n 3, 1) := by decide +kernel
theorem dX7_insertKnot_116 : decode cX7_insertKnot 116 = .ok (.aload_n 0, 1) := by decide +kernel
theorem dX7_insertKnot_117 : decode cX7_insertKnot 117 = .ok (.getfield 19, 3) := by decide +kernel
theorem dX7_insertKnot_120 : decode cX7_insertKnot 120 = .ok (.iload 5, 2) := by decide +kernel
theorem dX7_insertKnot_122 : decode cX7_insertKnot 122 = .ok (.daload, 1) := by decide +kernel
theorem dX7_insertKnot_123 : decode cX7_insertKnot 123 = .ok (.dsub, 1) := by decide +kernel
theorem dX7_insertKnot_124 : decode cX7_insertKnot 124 = .ok (.invokevirtual 126, 3) := by decide +kernel
theorem dX7_insertKnot_127 : decode cX7_insertKnot 127 = .ok (.dstore 6, 2) := by decide +kernel
theorem dX7_insertKnot_129 : decode cX7_insertKnot 129 = .ok (.dload 6, 2) := by decide +kernel
theorem dX7_insertKnot_131 : decode cX7_insertKnot 131 = .ok (.aload_n 0, 1) := by decide +kernel
theorem dX7_insertKnot_132 : decode cX7_insertKnot 132 = .ok (.getfield 22, 3) := by decide +kernel
theorem dX7_insertKnot_135 : decode cX7_insertKnot 135 = .ok (.iload 5, 2) := by decide +kernel
theorem dX7_insertKnot_137 : decode cX7_insertKnot 137 = .ok (.daload, 1) := by decide +kernel
theorem dX7_insertKnot_138 : decode cX7_insertKnot 138 = .ok (.dcmp .g, 1) := by decide +kernel
theorem dX7_insertKnot_139 : decode cX7_insertKnot 139 = .ok (.ifCond .ge 15, 3) := by decide +kernel
theorem dX7_insertKnot_142 : decode cX7_insertKnot 142 = .ok (.aload_n 0, 1) := by decide +kernel
theorem dX7_insertKnot_143 : decode cX7_insertKnot 143 = .ok (.getfield 22, 3) := by decide +kernel
theorem dX7_insertKnot_146 : decode cX7_insertKnot 146 = .ok (.iload 5, 2) := by decide +kernel
theorem dX7_insertKnot_148 : decode cX7_insertKnot 148 = .ok (.daload, 1) := by decide +kernel
theorem dX7_insertKnot_149 : decode cX7_insertKnot 149 = .ok (.dstore 6, 2) := by decide +kernel
theorem dX7_insertKnot_151 : decode cX7_insertKnot 151 = .ok (.goto 29, 3) := by decide +kernel
theorem dX7_insertKnot_154 : decode cX7_insertKnot 154 = .ok (.dload 6, 2) := by decide +kernel
theorem dX7_insertKnot_156 : decode cX7_insertKnot 156 = .ok (.aload_n 0, 1) := by decide +kernel
theorem dX7_insertKnot_157 : decode cX7_insertKnot 157 = .ok (.getfield 22, 3) := by decide +kernel
theorem dX7_insertKnot_160 : decode cX7_insertKnot 160 = .ok (.iload 5, 2) := by decide +kernel
theorem dX7_insertKnot_162 : decode cX7_insertKnot 162 = .ok (.iconst 1, 1) := by decide +kernel
theorem dX7_insertKnot_163 : decode cX7_insertKnot 163 = .ok (.iadd, 1) := by decide +kernel
theorem dX7_insertKnot_164 : decode cX7_insertKnot 164 = .ok (.daload, 1) := by decide +kernel
theorem dX7_insertKnot_165 : decode cX7_insertKnot 165 = .ok (.dcmp .l, 1) := by decide +kernel
theorem dX7_insertKnot_166 : decode cX7_insertKnot 166 = .ok (.ifCond .le 14, 3) := by decide +kernel
theorem dX7_insertKnot_169 : decode cX7_insertKnot 169 = .ok (.aload_n 0, 1) := by decide +kernel
theorem dX7_insertKnot_170 : decode cX7_insertKnot 170 = .ok (.getfield 22, 3) := by decide +kernel
theorem dX7_insertKnot_173 : decode cX7_insertKnot 173 = .ok (.iload 5, 2) := by decide +kernel
theorem dX7_insertKnot_175 : decode cX7_insertKnot 175 = .ok (.iconst 1, 1) := by decide +kernel
theorem dX7_insertKnot_176 : decode cX7_insertKnot 176 = .ok (.iadd, 1) := by decide +kernel
theorem dX7_insertKnot_177 : decode cX7_insertKnot 177 = .ok (.daload, 1) := by decide +kernel
theorem dX7_insertKnot_178 : decode cX7_insertKnot 178 = .ok (.dstore 6, 2) := by decide +kernel
theorem dX7_insertKnot_180 : decode cX7_insertKnot 180 = .ok (.aload_n 0, 1) := by decide +kernel
theorem dX7_insertKnot_181 : decode cX7_insertKnot 181 = .ok (.iload 5, 2) := by decide +kernel
theorem dX7_insertKnot_183 : decode cX7_insertKnot 183 = .ok (.dload_n 3, 1) := by decide +kernel
theorem dX7_insertKnot_184 : decode cX7_insertKnot 184 = .ok (.aload_n 0, 1) := by decide +kernel
theorem dX7_insertKnot_185 : decode cX7_insertKnot 185 = .ok (.getfield 19, 3) := by decide +kernel
theorem dX7_insertKnot_188 : decode cX7_insertKnot 188 = .ok (.iload 5, 2) := by decide +kernel
theorem dX7_insertKnot_190 : decode cX7_insertKnot 190 = .ok (.daload, 1) := by decide +kernel
theorem dX7_insertKnot_191 : decode cX7_insertKnot 191 = .ok (.dsub, 1) := by decide +kernel
theorem dX7_insertKnot_192 : decode cX7_insertKnot 192 = .ok (.invokevirtual 130, 3) := by decide +kernel
theorem dX7_insertKnot_195 : decode cX7_insertKnot 195 = .ok (.dstore 8, 2) := by decide +kernel
theorem dX7_insertKnot_197 : decode cX7_insertKnot 197 = .ok (.aload_n 0, 1) := by decide +kernel
theorem dX7_insertKnot_198 : decode cX7_insertKnot 198 = .ok (.getfield 56, 3) := by decide +kernel
theorem dX7_insertKnot_201 : decode cX7_insertKnot 201 = .ok (.istore 10, 2) := by decide +kernel
theorem dX7_insertKnot_203 : decode cX7_insertKnot 203 = .ok (.iload 10, 2) := by decide +kernel
theorem dX7_insertKnot_205 : decode cX7_insertKnot 205 = .ok (.iload 5, 2) := by decide +kernel
theorem dX7_insertKnot_207 : decode cX7_insertKnot 207 = .ok (.iconst 1, 1) := by decide +kernel
theorem dX7_insertKnot_208 : decode cX7_insertKnot 208 = .ok (.iadd, 1) := by decide +kernel
theorem dX7_insertKnot_209 : decode cX7_insertKnot 209 = .ok (.if_icmp .le 19, 3) := by decide +kernel
theorem dX7_insertKnot_212 : decode cX7_insertKnot 212 = .ok (.aload_n 0, 1) := by decide +kernel
theorem dX7_insertKnot_213 : decode cX7_insertKnot 213 = .ok (.iload 10, 2) := by decide +kernel
theorem dX7_insertKnot_215 : decode cX7_insertKnot 215 = .ok (.iconst 1, 1) := by decide +kernel
theorem dX7_insertKnot_216 : decode cX7_insertKnot 216 = .ok (.isub, 1) := by decide +kernel
theorem dX7_insertKnot_217 : decode cX7_insertKnot 217 = .ok (.iload 10, 2) := by decide +kernel
theorem dX7_insertKnot_219 : decode cX7_insertKnot 219 = .ok (.invokevirtual 133, 3) := by decide +kernel
theorem dX7_insertKnot_222 : decode cX7_insertKnot 222 = .ok (.iinc 10 (-1), 3) := by decide +kernel
theorem dX7_insertKnot_225 : decode cX7_insertKnot 225 = .ok (.goto (-22), 3) := by decide +kernel
theorem dX7_insertKnot_228 : decode cX7_insertKnot 228 = .ok (.aload_n 0, 1) := by decide +kernel
theorem dX7_insertKnot_229 : decode cX7_insertKnot 229 = .ok (.getfield 19, 3) := by decide +kernel
theorem dX7_insertKnot_232 : decode cX7_insertKnot 232 = .ok (.iload 5, 2) := by decide +kernel
theorem dX7_insertKnot_234 : decode cX7_insertKnot 234 = .ok (.iconst 1, 1) := by decide +kernel
theorem dX7_insertKnot_235 : decode cX7_insertKnot 235 = .ok (.iadd, 1) := by decide +kernel
theorem dX7_insertKnot_236 : decode cX7_insertKnot 236 = .ok (.dload_n 3, 1) := by decide +kernel
theorem dX7_insertKnot_237 : decode cX7_insertKnot 237 = .ok (.dastore, 1) := by decide +kernel
theorem dX7_insertKnot_238 : decode cX7_insertKnot 238 = .ok (.aload_n 0, 1) := by decide +kernel
theorem dX7_insertKnot_239 : decode cX7_insertKnot 239 = .ok (.getfield 22, 3) := by decide +kernel
theorem dX7_insertKnot_242 : decode cX7_insertKnot 242 = .ok (.iload 5, 2) := by decide +kernel
theorem dX7_insertKnot_244 : decode cX7_insertKnot 244 = .ok (.iconst 1, 1) := by decide +kernel
theorem dX7_insertKnot_245 : decode cX7_insertKnot 245 = .ok (.iadd, 1) := by decide +kernel
theorem dX7_insertKnot_246 : decode cX7_insertKnot 246 = .ok (.dload 6, 2) := by decide +kernel
theorem dX7_insertKnot_248 : decode cX7_insertKnot 248 = .ok (.dastore, 1) := by decide +kernel
theorem dX7_insertKnot_249 : decode cX7_insertKnot 249 = .ok (.aload_n 0, 1) := by decide +kernel
theorem dX7_insertKnot_250 : decode cX7_insertKnot 250 = .ok (.getfield 25, 3) := by decide +kernel
theorem dX7_insertKnot_253 : decode cX7_insertKnot 253 = .ok (.iload 5, 2) := by decide +kernel
theorem dX7_insertKnot_255 : decode cX7_insertKnot 255 = .ok (.iconst 1, 1) := by decide +kernel
theorem dX7_insertKnot_256 : decode cX7_insertKnot 256 = .ok (.iadd, 1) := by decide +kernel
theorem dX7_insertKnot_257 : decode cX7_insertKnot 257 = .ok (.iconst 1, 1) := by decide +kernel
theorem dX7_insertKnot_258 : decode cX7_insertKnot 258 = .ok (.bastore, 1) := by decide +kernel
theorem dX7_insertKnot_259 : decode cX7_insertKnot 259 = .ok (.aload_n 0, 1) := by decide +kernel
theorem dX7_insertKnot_260 : decode cX7_insertKnot 260 = .ok (.getfield 29, 3) := by decide +kernel
theorem dX7_insertKnot_263 : decode cX7_insertKnot 263 = .ok (.iload 5, 2) := by decide +kernel
theorem dX7_insertKnot_265 : decode cX7_insertKnot 265 = .ok (.iconst 1, 1) := by decide +kernel
theorem dX7_insertKnot_266 : decode cX7_insertKnot 266 = .ok (.iadd, 1) := by decide +kernel
theorem dX7_insertKnot_267 : decode cX7_insertKnot 267 = .ok (.dload 8, 2) := by decide +kernel
theorem dX7_insertKnot_269 : decode cX7_insertKnot 269 = .ok (.dconst 0, 1) := by decide +kernel
theorem dX7_insertKnot_270 : decode cX7_insertKnot 270 = .ok (.dcmp .g, 1) := by decide +kernel
theorem dX7_insertKnot_271 : decode cX7_insertKnot 271 = .ok (.ifCond .ge 7, 3) := by decide +kernel
theorem dX7_insertKnot_274 : decode cX7_insertKnot 274 = .ok (.dconst 0, 1) := by decide +kernel
theorem dX7_insertKnot_275 : decode cX7_insertKnot 275 = .ok (.goto 5, 3) := by decide +kernel
theorem dX7_insertKnot_278 : decode cX7_insertKnot 278 = .ok (.dload 8, 2) := by decide +kernel
theorem dX7_insertKnot_280 : decode cX7_insertKnot 280 = .ok (.dastore, 1) := by decide +kernel
theorem dX7_insertKnot_281 : decode cX7_insertKnot 281 = .ok (.aload_n 0, 1) := by decide +kernel
theorem dX7_insertKnot_282 : decode cX7_insertKnot 282 = .ok (.dup, 1) := by decide +kernel
theorem dX7_insertKnot_283 : decode cX7_insertKnot 283 = .ok (.getfield 56, 3) := by decide +kernel
theorem dX7_insertKnot_286 : decode cX7_insertKnot 286 = .ok (.iconst 1, 1) := by decide +kernel
theorem dX7_insertKnot_287 : decode cX7_insertKnot 287 = .ok (.iadd, 1) := by decide +kernel
theorem dX7_insertKnot_288 : decode cX7_insertKnot 288 = .ok (.putfield 56, 3) := by decide +kernel
theorem dX7_insertKnot_291 : decode cX7_insertKnot 291 = .ok (.iload 5, 2) := by decide +kernel
theorem dX7_insertKnot_293 : decode cX7_insertKnot 293 = .ok (.iconst 1, 1) := by decide +kernel
theorem dX7_insertKnot_294 : decode cX7_insertKnot 294 = .ok (.iadd, 1) := by decide +kernel
theorem dX7_insertKnot_295 : decode cX7_insertKnot 295 = .ok (.ireturn, 1) := by decide +kernel
set_option maxRecDepth 20000 in
theorem ggX7_removeKnot_X7_isKnot : GoodIn wsX7_removeKnot wsX7_isKnot := goodIn_r _ [7, 2, 20, 21, 22, 23, 24, 25, 26, 27, 28, 29, 30, 31, 32, 33, 34] (by decide +kernel) (by decide +kernel)
set_option maxRecDepth 20000 in
theorem gX7_removeKnot_X7_isKnot : GoodIn wsX7_removeKnot (wsV RX7 113 RX7 yX7_isKnot wsX7_isKnot) := goodIn_app (goodIn_of _ (by decide +kernel)) ggX7_removeKnot_X7_isKnot
set_option maxRecDepth 20000 in
theorem ggX7_removeKnot_X7_fail : GoodIn wsX7_removeKnot wsX7_fail := goodIn_r _ [11, 1, 20, 21, 22, 23, 24, 25, 26, 27, 28, 29, 30, 31, 32, 33, 34] (by decide +kernel) (by decide +kernel)
set_option maxRecDepth 20000 in
theorem gX7_removeKnot_X7_fail : GoodIn wsX7_removeKnot (wsV RX7 75 RX7 yX7_fail wsX7_fail) := goodIn_app (goodIn_of _ (by decide +kernel)) ggX7_removeKnot_X7_fail
set_option maxRecDepth 20000 in
theorem ggX7_removeKnot_X7_moveKnot : GoodIn wsX7_removeKnot wsX7_moveKnot := goodIn_r _ [15, 16, 17, 18, 19, 20, 21, 22, 23, 24, 25, 26, 27, 28, 29, 30, 31, 32, 33, 34] (by decide +kernel) (by decide +kernel)
set_option maxRecDepth 20000 in
theorem gX7_removeKnot_X7_moveKnot : GoodIn wsX7_removeKnot (wsV RX7 133 RX7 yX7_moveKnot wsX7_moveKnot) := goodIn_app (goodIn_of _ (by decide +kernel)) ggX7_removeKnot_X7_moveKnot
theorem dX7_removeKnot_0 : decode cX7_removeKnot 0 = .ok (.aload_n 0, 1) := by decide +kernel
theorem dX7_removeKnot_1 : decode cX7_removeKnot 1 = .ok (.iconst 0, 1) := by decide +kernel
theorem dX7_removeKnot_2 : decode cX7_removeKnot 2 = .ok (.putfield 48, 3) := by decide +kernel
theorem dX7_removeKnot_5 : decode cX7_removeKnot 5 = .ok (.aload_n 0, 1) := by decide +kernel
theorem dX7_removeKnot_6 : decode cX7_removeKnot 6 = .ok (.iload_n 1, 1) := by decide +kernel
theorem dX7_removeKnot_7 : decode cX7_removeKnot 7 = .ok (.invokevirtual 113, 3) := by decide +kernel
theorem dX7_removeKnot_10 : decode cX7_removeKnot 10 = .ok (.ifCond .ne 9, 3) := by decide +kernel
theorem dX7_removeKnot_13 : decode cX7_removeKnot 13 = .ok (.aload_n 0, 1) := by decide +kernel
theorem dX7_removeKnot_14 : decode cX7_removeKnot 14 = .ok (.iconst 1, 1) := by decide +kernel
theorem dX7_removeKnot_15 : decode cX7_removeKnot 15 = .ok (.invokevirtual 75, 3) := by decide +kernel
theorem dX7_removeKnot_18 : decode cX7_removeKnot 18 = .ok (.ireturn, 1) := by decide +kernel
theorem dX7_removeKnot_19 : decode cX7_removeKnot 19 = .ok (.iload_n 1, 1) := by decide +kernel
theorem dX7_removeKnot_20 : decode cX7_removeKnot 20 = .ok (.ifCond .eq 13, 3) := by decide +kernel
theorem dX7_removeKnot_23 : decode cX7_removeKnot 23 = .ok (.iload_n 1, 1) := by decide +kernel
theorem dX7_removeKnot_24 : decode cX7_removeKnot 24 = .ok (.aload_n 0, 1) := by decide +kernel
theorem dX7_removeKnot_25 : decode cX7_removeKnot 25 = .ok (.getfield 56, 3) := by decide +kernel
theorem dX7_removeKnot_28 : decode cX7_removeKnot 28 = .ok (.iconst 1, 1) := by decide +kernel
theorem dX7_removeKnot_29 : decode cX7_removeKnot 29 = .ok (.isub, 1) := by decide +kernel
theorem dX7_removeKnot_30 : decode cX7_removeKnot 30 = .ok (.if_icmp .ne 9, 3) := by decide +kernel
theorem dX7_removeKnot_33 : decode cX7_removeKnot 33 = .ok (.aload_n 0, 1) := by decide +kernel
theorem dX7_removeKnot_34 : decode cX7_removeKnot 34 = .ok (.iconst 2, 1) := by decide +kernel
theorem dX7_removeKnot_35 : decode cX7_removeKnot 35 = .ok (.invokevirtual 75, 3) := by decide +kernel
theorem dX7_removeKnot_38 : decode cX7_removeKnot 38 = .ok (.ireturn, 1) := by decide +kernel
theorem dX7_removeKnot_39 : decode cX7_removeKnot 39 = .ok (.aload_n 0, 1) := by decide +kernel
theorem dX7_removeKnot_40 : decode cX7_removeKnot 40 = .ok (.dup, 1) := by decide +kernel
theorem dX7_removeKnot_41 : decode cX7_removeKnot 41 = .ok (.getfield 56, 3) := by decide +kernel
theorem dX7_removeKnot_44 : decode cX7_removeKnot 44 = .ok (.iconst 1, 1) := by decide +kernel
theorem dX7_removeKnot_45 : decode cX7_removeKnot 45 = .ok (.isub, 1) := by decide +kernel
theorem dX7_removeKnot_46 : decode cX7_removeKnot 46 = .ok (.putfield 56, 3) := by decide +kernel
theorem dX7_removeKnot_49 : decode cX7_removeKnot 49 = .ok (.iload_n 1, 1) := by decide +kernel
theorem dX7_removeKnot_50 : decode cX7_removeKnot 50 = .ok (.istore_n 2, 1) := by decide +kernel
theorem dX7_removeKnot_51 : decode cX7_removeKnot 51 = .ok (.iload_n 2, 1) := by decide +kernel
theorem dX7_removeKnot_52 : decode cX7_removeKnot 52 = .ok (.aload_n 0, 1) := by decide +kernel
theorem dX7_removeKnot_53 : decode cX7_removeKnot 53 = .ok (.getfield 56, 3) := by decide +kernel
theorem dX7_removeKnot_56 : decode cX7_removeKnot 56 = .ok (.if_icmp .ge 17, 3) := by decide +kernel
theorem dX7_removeKnot_59 : decode cX7_removeKnot 59 = .ok (.aload_n 0, 1) := by decide +kernel
theorem dX7_removeKnot_60 : decode cX7_removeKnot 60 = .ok (.iload_n 2, 1) := by decide +kernel
theorem dX7_removeKnot_61 : decode cX7_removeKnot 61 = .ok (.iconst 1, 1) := by decide +kernel
theorem dX7_removeKnot_62 : decode cX7_removeKnot 62 = .ok (.iadd, 1) := by decide +kernel
theorem dX7_removeKnot_63 : decode cX7_removeKnot 63 = .ok (.iload_n 2, 1) := by decide +kernel
theorem dX7_removeKnot_64 : decode cX7_removeKnot 64 = .ok (.invokevirtual 133, 3) := by decide +kernel
theorem dX7_removeKnot_67 : decode cX7_removeKnot 67 = .ok (.iinc 2 1, 3) := by decide +kernel
theorem dX7_removeKnot_70 : decode cX7_removeKnot 70 = .ok (.goto (-19), 3) := by decide +kernel
theorem dX7_removeKnot_73 : decode cX7_removeKnot 73 = .ok (.aload_n 0, 1) := by decide +kernel
theorem dX7_removeKnot_74 : decode cX7_removeKnot 74 = .ok (.getfield 56, 3) := by decide +kernel
theorem dX7_removeKnot_77 : decode cX7_removeKnot 77 = .ok (.ireturn, 1) := by decide +kernel
set_option maxRecDepth 20000 in
theorem ggX7_setKnotValue_X7_plain : GoodIn wsX7_setKnotValue wsX7_plain := goodIn_r _ [9, 10, 11] (by decide +kernel) (by decide +kernel)
set_option maxRecDepth 20000 in
theorem gX7_setKnotValue_X7_plain : GoodIn wsX7_setKnotValue (va_wsS RX7 59 yX7_plain wsX7_plain) := goodIn_app (goodIn_of _ (by decide +kernel)) ggX7_setKnotValue_X7_plain
set_option maxRecDepth 20000 in
theorem ggX7_setKnotValue_X7_isKnot : GoodIn wsX7_setKnotValue wsX7_isKnot := goodIn_r _ [15, 5, 23, 24, 25, 26, 27, 28, 29, 30, 31, 32, 33, 34, 35, 36, 37] (by decide +kernel) (by decide +kernel)
set_option maxRecDepth 20000 in
theorem gX7_setKnotValue_X7_isKnot : GoodIn wsX7_setKnotValue (wsV RX7 113 RX7 yX7_isKnot wsX7_isKnot) := goodIn_app (goodIn_of _ (by decide +kernel)) ggX7_setKnotValue_X7_isKnot
set_option maxRecDepth 20000 in
theorem ggX7_setKnotValue_X7_fail : GoodIn wsX7_setKnotValue wsX7_fail := goodIn_r _ [19, 1, 23, 24, 25, 26, 27, 28, 29, 30, 31, 32, 33, 34, 35, 36, 37] (by decide +kernel) (by decide +kernel)
set_option maxRecDepth 20000 in
theorem gX7_setKnotValue_X7_fail : GoodIn wsX7_setKnotValue (wsV RX7 75 RX7 yX7_fail wsX7_fail) := goodIn_app (goodIn_of _ (by decide +kernel)) ggX7_setKnotValue_X7_fail
set_option maxRecDepth 20000 in
theorem ggX7_setKnotValue_X7_isIn : GoodIn wsX7_setKnotValue wsX7_isIn := goodIn_r _ [22] (by decide +kernel) (by decide +kernel)
set_option maxRecDepth 20000 in
theorem gX7_setKnotValue_X7_isIn : GoodIn wsX7_setKnotValue (va_wsS RX7 67 yX7_isIn wsX7_isIn) := goodIn_app (goodIn_of _ (by decide +kernel)) ggX7_setKnotValue_X7_isIn
theorem dX7_setKnotValue_0 : decode cX7_setKnotValue 0 = .ok (.aload_n 0, 1) := by decide +kernel
theorem dX7_setKnotValue_1 : decode cX7_setKnotValue 1 = .ok (.iconst 0, 1) := by decide +kernel
theorem dX7_setKnotValue_2 : decode cX7_setKnotValue 2 = .ok (.putfield 48, 3) := by decide +kernel
theorem dX7_setKnotValue_5 : decode cX7_setKnotValue 5 = .ok (.dload_n 2, 1) := by decide +kernel
theorem dX7_setKnotValue_6 : decode cX7_setKnotValue 6 = .ok (.invokestatic 59, 3) := by decide +kernel
theorem dX7_setKnotValue_9 : decode cX7_setKnotValue 9 = .ok (.dstore 4, 2) := by decide +kernel
theorem dX7_setKnotValue_11 : decode cX7_setKnotValue 11 = .ok (.aload_n 0, 1) := by decide +kernel
theorem dX7_setKnotValue_12 : decode cX7_setKnotValue 12 = .ok (.iload_n 1, 1) := by decide +kernel
theorem dX7_setKnotValue_13 : decode cX7_setKnotValue 13 = .ok (.invokevirtual 113, 3) := by decide +kernel
theorem dX7_setKnotValue_16 : decode cX7_setKnotValue 16 = .ok (.ifCond .ne 10, 3) := by decide +kernel
theorem dX7_setKnotValue_19 : decode cX7_setKnotValue 19 = .ok (.aload_n 0, 1) := by decide +kernel
theorem dX7_setKnotValue_20 : decode cX7_setKnotValue 20 = .ok (.iconst 1, 1) := by decide +kernel
theorem dX7_setKnotValue_21 : decode cX7_setKnotValue 21 = .ok (.invokevirtual 75, 3) := by decide +kernel
theorem dX7_setKnotValue_24 : decode cX7_setKnotValue 24 = .ok (.i2d, 1) := by decide +kernel
theorem dX7_setKnotValue_25 : decode cX7_setKnotValue 25 = .ok (.dreturn, 1) := by decide +kernel
theorem dX7_setKnotValue_26 : decode cX7_setKnotValue 26 = .ok (.dload 4, 2) := by decide +kernel
theorem dX7_setKnotValue_28 : decode cX7_setKnotValue 28 = .ok (.ldc2_w 63, 3) := by decide +kernel
theorem dX7_setKnotValue_31 : decode cX7_setKnotValue 31 = .ok (.ldc2_w 65, 3) := by decide +kernel
theorem dX7_setKnotValue_34 : decode cX7_setKnotValue 34 = .ok (.invokestatic 67, 3) := by decide +kernel
theorem dX7_setKnotValue_37 : decode cX7_setKnotValue 37 = .ok (.ifCond .eq 45, 3) := by decide +kernel
theorem dX7_setKnotValue_40 : decode cX7_setKnotValue 40 = .ok (.iload_n 1, 1) := by decide +kernel
theorem dX7_setKnotValue_41 : decode cX7_setKnotValue 41 = .ok (.ifCond .le 17, 3) := by decide +kernel
theorem dX7_setKnotValue_44 : decode cX7_setKnotValue 44 = .ok (.dload 4, 2) := by decide +kernel
theorem dX7_setKnotValue_46 : decode cX7_setKnotValue 46 = .ok (.aload_n 0, 1) := by decide +kernel
theorem dX7_setKnotValue_47 : decode cX7_setKnotValue 47 = .ok (.getfield 22, 3) := by decide +kernel
theorem dX7_setKnotValue_50 : decode cX7_setKnotValue 50 = .ok (.iload_n 1, 1) := by decide +kernel
theorem dX7_setKnotValue_51 : decode cX7_setKnotValue 51 = .ok (.iconst 1, 1) := by decide +kernel
theorem dX7_setKnotValue_52 : decode cX7_setKnotValue 52 = .ok (.isub, 1) := by decide +kernel
theorem dX7_setKnotValue_53 : decode cX7_setKnotValue 53 = .ok (.daload, 1) := by decide +kernel
theorem dX7_setKnotValue_54 : decode cX7_setKnotValue 54 = .ok (.dcmp .g, 1) := by decide +kernel
theorem dX7_setKnotValue_55 : decode cX7_setKnotValue 55 = .ok (.ifCond .lt 27, 3) := by decide +kernel
theorem dX7_setKnotValue_58 : decode cX7_setKnotValue 58 = .ok (.iload_n 1, 1) := by decide +kernel
theorem dX7_setKnotValue_59 : decode cX7_setKnotValue 59 = .ok (.aload_n 0, 1) := by decide +kernel
theorem dX7_setKnotValue_60 : decode cX7_setKnotValue 60 = .ok (.getfield 56, 3) := by decide +kernel
theorem dX7_setKnotValue_63 : decode cX7_setKnotValue 63 = .ok (.iconst 1, 1) := by decide +kernel
theorem dX7_setKnotValue_64 : decode cX7_setKnotValue 64 = .ok (.isub, 1) := by decide +kernel
theorem dX7_setKnotValue_65 : decode cX7_setKnotValue 65 = .ok (.if_icmp .ge 24, 3) := by decide +kernel
theorem dX7_setKnotValue_68 : decode cX7_setKnotValue 68 = .ok (.dload 4, 2) := by decide +kernel
theorem dX7_setKnotValue_70 : decode cX7_setKnotValue 70 = .ok (.aload_n 0, 1) := by decide +kernel
theorem dX7_setKnotValue_71 : decode cX7_setKnotValue 71 = .ok (.getfield 22, 3) := by decide +kernel
theorem dX7_setKnotValue_74 : decode cX7_setKnotValue 74 = .ok (.iload_n 1, 1) := by decide +kernel
theorem dX7_setKnotValue_75 : decode cX7_setKnotValue 75 = .ok (.iconst 1, 1) := by decide +kernel
theorem dX7_setKnotValue_76 : decode cX7_setKnotValue 76 = .ok (.iadd, 1) := by decide +kernel
theorem dX7_setKnotValue_77 : decode cX7_setKnotValue 77 = .ok (.daload, 1) := by decide +kernel
theorem dX7_setKnotValue_78 : decode cX7_setKnotValue 78 = .ok (.dcmp .l, 1) := by decide +kernel
theorem dX7_setKnotValue_79 : decode cX7_setKnotValue 79 = .ok (.ifCond .le 10, 3) := by decide +kernel
theorem dX7_setKnotValue_82 : decode cX7_setKnotValue 82 = .ok (.aload_n 0, 1) := by decide +kernel
theorem dX7_setKnotValue_83 : decode cX7_setKnotValue 83 = .ok (.iconst 2, 1) := by decide +kernel
theorem dX7_setKnotValue_84 : decode cX7_setKnotValue 84 = .ok (.invokevirtual 75, 3) := by decide +kernel
theorem dX7_setKnotValue_87 : decode cX7_setKnotValue 87 = .ok (.i2d, 1) := by decide +kernel
theorem dX7_setKnotValue_88 : decode cX7_setKnotValue 88 = .ok (.dreturn, 1) := by decide +kernel
theorem dX7_setKnotValue_89 : decode cX7_setKnotValue 89 = .ok (.aload_n 0, 1) := by decide +kernel
theorem dX7_setKnotValue_90 : decode cX7_setKnotValue 90 = .ok (.getfield 22, 3) := by decide +kernel
theorem dX7_setKnotValue_93 : decode cX7_setKnotValue 93 = .ok (.iload_n 1, 1) := by decide +kernel
theorem dX7_setKnotValue_94 : decode cX7_setKnotValue 94 = .ok (.daload, 1) := by decide +kernel
theorem dX7_setKnotValue_95 : decode cX7_setKnotValue 95 = .ok (.dstore 6, 2) := by decide +kernel
theorem dX7_setKnotValue_97 : decode cX7_setKnotValue 97 = .ok (.aload_n 0, 1) := by decide +kernel
theorem dX7_setKnotValue_98 : decode cX7_setKnotValue 98 = .ok (.getfield 22, 3) := by decide +kernel
theorem dX7_setKnotValue_101 : decode cX7_setKnotValue 101 = .ok (.iload_n 1, 1) := by decide +kernel
theorem dX7_setKnotValue_102 : decode cX7_setKnotValue 102 = .ok (.dload 4, 2) := by decide +kernel
theorem dX7_setKnotValue_104 : decode cX7_setKnotValue 104 = .ok (.dastore, 1) := by decide +kernel
theorem dX7_setKnotValue_105 : decode cX7_setKnotValue 105 = .ok (.dload 6, 2) := by decide +kernel
theorem dX7_setKnotValue_107 : decode cX7_setKnotValue 107 = .ok (.dreturn, 1) := by decide +kernel
set_option maxRecDepth 20000 in
theorem ggX7_fixSlope_X7_plain : GoodIn wsX7_fixSlope wsX7_plain := goodIn_r _ [8, 9, 10] (by decide +kernel) (by decide +kernel)
set_option maxRecDepth 20000 in
theorem gX7_fixSlope_X7_plain : GoodIn wsX7_fixSlope (va_wsS RX7 59 yX7_plain wsX7_plain) := goodIn_app (goodIn_of _ (by decide +kernel)) ggX7_fixSlope_X7_plain
set_option maxRecDepth 20000 in
theorem ggX7_fixSlope_X7_isKnot : GoodIn wsX7_fixSlope wsX7_isKnot := goodIn_r _ [14, 15, 52, 53, 54, 55, 56, 57, 58, 59, 60, 61, 62, 63, 64, 65, 66] (by decide +kernel) (by decide +kernel)
set_option maxRecDepth 20000 in
theorem gX7_fixSlope_X7_isKnot : GoodIn wsX7_fixSlope (wsV RX7 113 RX7 yX7_isKnot wsX7_isKnot) := goodIn_app (goodIn_of _ (by decide +kernel)) ggX7_fixSlope_X7_isKnot
set_option maxRecDepth 20000 in
theorem ggX7_fixSlope_X7_fail : GoodIn wsX7_fixSlope wsX7_fail := goodIn_r _ [19, 1, 52, 53, 54, 55, 56, 57, 58, 59, 60, 61, 62, 63, 64, 65, 66] (by decide +kernel) (by decide +kernel)
set_option maxRecDepth 20000 in
theorem gX7_fixSlope_X7_fail : GoodIn wsX7_fixSlope (wsV RX7 75 RX7 yX7_fail wsX7_fail) := goodIn_app (goodIn_of _ (by decide +kernel)) ggX7_fixSlope_X7_fail
set_option maxRecDepth 20000 in
theorem ggX7_fixSlope_X7_isIn : GoodIn wsX7_fixSlope wsX7_isIn := goodIn_r _ [22] (by decide +kernel) (by decide +kernel)
set_option maxRecDepth 20000 in
theorem gX7_fixSlope_X7_isIn : GoodIn wsX7_fixSlope (va_wsS RX7 67 yX7_isIn wsX7_isIn) := goodIn_app (goodIn_of _ (by decide +kernel)) ggX7_fixSlope_X7_isIn
set_option maxRecDepth 20000 in
theorem ggX7_fixSlope_X7_slopeOf : GoodIn wsX7_fixSlope wsX7_slopeOf := goodIn_r _ [26, 15, 3, 4, 27, 28, 29, 30, 7, 31, 32, 33, 34, 35, 36, 37, 38, 39, 40, 41, 42, 43, 44, 45, 46, 47, 48, 49, 50, 51, 52, 53, 54, 55, 56, 57, 58, 59, 60, 61, 62, 63, 64, 65, 66] (by decide +kernel) (by decide +kernel)
set_option maxRecDepth 20000 in
theorem gX7_fixSlope_X7_slopeOf : GoodIn wsX7_fixSlope (wsV RX7 117 RX7 yX7_slopeOf wsX7_slopeOf) := goodIn_app (goodIn_of _ (by decide +kernel)) ggX7_fixSlope_X7_slopeOf
theorem dX7_fixSlope_0 : decode cX7_fixSlope 0 = .ok (.aload_n 0, 1) := by decide +kernel
theorem dX7_fixSlope_1 : decode cX7_fixSlope 1 = .ok (.iconst 0, 1) := by decide +kernel
theorem dX7_fixSlope_2 : decode cX7_fixSlope 2 = .ok (.putfield 48, 3) := by decide +kernel
theorem dX7_fixSlope_5 : decode cX7_fixSlope 5 = .ok (.dload_n 2, 1) := by decide +kernel
theorem dX7_fixSlope_6 : decode cX7_fixSlope 6 = .ok (.invokestatic 59, 3) := by decide +kernel
theorem dX7_fixSlope_9 : decode cX7_fixSlope 9 = .ok (.dstore 4, 2) := by decide +kernel
theorem dX7_fixSlope_11 : decode cX7_fixSlope 11 = .ok (.aload_n 0, 1) := by decide +kernel
theorem dX7_fixSlope_12 : decode cX7_fixSlope 12 = .ok (.iload_n 1, 1) := by decide +kernel
theorem dX7_fixSlope_13 : decode cX7_fixSlope 13 = .ok (.invokevirtual 113, 3) := by decide +kernel
theorem dX7_fixSlope_16 : decode cX7_fixSlope 16 = .ok (.ifCond .ne 10, 3) := by decide +kernel
theorem dX7_fixSlope_19 : decode cX7_fixSlope 19 = .ok (.aload_n 0, 1) := by decide +kernel
theorem dX7_fixSlope_20 : decode cX7_fixSlope 20 = .ok (.iconst 1, 1) := by decide +kernel
theorem dX7_fixSlope_21 : decode cX7_fixSlope 21 = .ok (.invokevirtual 75, 3) := by decide +kernel
theorem dX7_fixSlope_24 : decode cX7_fixSlope 24 = .ok (.i2d, 1) := by decide +kernel
theorem dX7_fixSlope_25 : decode cX7_fixSlope 25 = .ok (.dreturn, 1) := by decide +kernel
theorem dX7_fixSlope_26 : decode cX7_fixSlope 26 = .ok (.dload 4, 2) := by decide +kernel
theorem dX7_fixSlope_28 : decode cX7_fixSlope 28 = .ok (.dconst 0, 1) := by decide +kernel
theorem dX7_fixSlope_29 : decode cX7_fixSlope 29 = .ok (.ldc2_w 65, 3) := by decide +kernel
theorem dX7_fixSlope_32 : decode cX7_fixSlope 32 = .ok (.invokestatic 67, 3) := by decide +kernel
theorem dX7_fixSlope_35 : decode cX7_fixSlope 35 = .ok (.ifCond .ne 10, 3) := by decide +kernel
theorem dX7_fixSlope_38 : decode cX7_fixSlope 38 = .ok (.aload_n 0, 1) := by decide +kernel
theorem dX7_fixSlope_39 : decode cX7_fixSlope 39 = .ok (.iconst 2, 1) := by decide +kernel
theorem dX7_fixSlope_40 : decode cX7_fixSlope 40 = .ok (.invokevirtual 75, 3) := by decide +kernel
theorem dX7_fixSlope_43 : decode cX7_fixSlope 43 = .ok (.i2d, 1) := by decide +kernel
theorem dX7_fixSlope_44 : decode cX7_fixSlope 44 = .ok (.dreturn, 1) := by decide +kernel
theorem dX7_fixSlope_45 : decode cX7_fixSlope 45 = .ok (.aload_n 0, 1) := by decide +kernel
theorem dX7_fixSlope_46 : decode cX7_fixSlope 46 = .ok (.getfield 25, 3) := by decide +kernel
theorem dX7_fixSlope_49 : decode cX7_fixSlope 49 = .ok (.iload_n 1, 1) := by decide +kernel
theorem dX7_fixSlope_50 : decode cX7_fixSlope 50 = .ok (.iconst 1, 1) := by decide +kernel
theorem dX7_fixSlope_51 : decode cX7_fixSlope 51 = .ok (.bastore, 1) := by decide +kernel
theorem dX7_fixSlope_52 : decode cX7_fixSlope 52 = .ok (.aload_n 0, 1) := by decide +kernel
theorem dX7_fixSlope_53 : decode cX7_fixSlope 53 = .ok (.getfield 29, 3) := by decide +kernel
theorem dX7_fixSlope_56 : decode cX7_fixSlope 56 = .ok (.iload_n 1, 1) := by decide +kernel
theorem dX7_fixSlope_57 : decode cX7_fixSlope 57 = .ok (.dload 4, 2) := by decide +kernel
theorem dX7_fixSlope_59 : decode cX7_fixSlope 59 = .ok (.dastore, 1) := by decide +kernel
theorem dX7_fixSlope_60 : decode cX7_fixSlope 60 = .ok (.aload_n 0, 1) := by decide +kernel
theorem dX7_fixSlope_61 : decode cX7_fixSlope 61 = .ok (.iload_n 1, 1) := by decide +kernel
theorem dX7_fixSlope_62 : decode cX7_fixSlope 62 = .ok (.invokevirtual 117, 3) := by decide +kernel
theorem dX7_fixSlope_65 : decode cX7_fixSlope 65 = .ok (.dreturn, 1) := by decide +kernel
set_option maxRecDepth 20000 in
theorem ggX7_freeSlope__X7_isKnot : GoodIn wsX7_freeSlope_ wsX7_isKnot := goodIn_r _ [7, 8, 13, 14, 15, 16, 17, 18, 19, 20, 21, 22, 23, 24, 25, 26, 27] (by decide +kernel) (by decide +kernel)
set_option maxRecDepth 20000 in
theorem gX7_freeSlope__X7_isKnot : GoodIn wsX7_freeSlope_ (wsV RX7 113 RX7 yX7_isKnot wsX7_isKnot) := goodIn_app (goodIn_of _ (by decide +kernel)) ggX7_freeSlope__X7_isKnot
set_option maxRecDepth 20000 in
theorem ggX7_freeSlope__X7_fail : GoodIn wsX7_freeSlope_ wsX7_fail := goodIn_r _ [12, 1, 13, 14, 15, 16, 17, 18, 19, 20, 21, 22, 23, 24, 25, 26, 27] (by decide +kernel) (by decide +kernel)
set_option maxRecDepth 20000 in
theorem gX7_freeSlope__X7_fail : GoodIn wsX7_freeSlope_ (wsV RX7 75 RX7 yX7_fail wsX7_fail) := goodIn_app (goodIn_of _ (by decide +kernel)) ggX7_freeSlope__X7_fail
theorem dX7_freeSlope__0 : decode cX7_freeSlope_ 0 = .ok (.aload_n 0, 1) := by decide +kernel
theorem dX7_freeSlope__1 : decode cX7_freeSlope_ 1 = .ok (.iconst 0, 1) := by decide +kernel
theorem dX7_freeSlope__2 : decode cX7_freeSlope_ 2 = .ok (.putfield 48, 3) := by decide +kernel
theorem dX7_freeSlope__5 : decode cX7_freeSlope_ 5 = .ok (.aload_n 0, 1) := by decide +kernel
theorem dX7_freeSlope__6 : decode cX7_freeSlope_ 6 = .ok (.iload_n 1, 1) := by decide +kernel
theorem dX7_freeSlope__7 : decode cX7_freeSlope_ 7 = .ok (.invokevirtual 113, 3) := by decide +kernel
theorem dX7_freeSlope__10 : decode cX7_freeSlope_ 10 = .ok (.ifCond .ne 17, 3) := by decide +kernel
theorem dX7_freeSlope__13 : decode cX7_freeSlope_ 13 = .ok (.aload_n 0, 1) := by decide +kernel
theorem dX7_freeSlope__14 : decode cX7_freeSlope_ 14 = .ok (.iconst 1, 1) := by decide +kernel
theorem dX7_freeSlope__15 : decode cX7_freeSlope_ 15 = .ok (.invokevirtual 75, 3) := by decide +kernel
theorem dX7_freeSlope__18 : decode cX7_freeSlope_ 18 = .ok (.ifCond .eq 7, 3) := by decide +kernel
theorem dX7_freeSlope__21 : decode cX7_freeSlope_ 21 = .ok (.iconst 1, 1) := by decide +kernel
theorem dX7_freeSlope__22 : decode cX7_freeSlope_ 22 = .ok (.goto 4, 3) := by decide +kernel
theorem dX7_freeSlope__25 : decode cX7_freeSlope_ 25 = .ok (.iconst 0, 1) := by decide +kernel
theorem dX7_freeSlope__26 : decode cX7_freeSlope_ 26 = .ok (.ireturn, 1) := by decide +kernel
theorem dX7_freeSlope__27 : decode cX7_freeSlope_ 27 = .ok (.aload_n 0, 1) := by decide +kernel
theorem dX7_freeSlope__28 : decode cX7_freeSlope_ 28 = .ok (.getfield 25, 3) := by decide +kernel
theorem dX7_freeSlope__31 : decode cX7_freeSlope_ 31 = .ok (.iload_n 1, 1) := by decide +kernel
theorem dX7_freeSlope__32 : decode cX7_freeSlope_ 32 = .ok (.baload, 1) := by decide +kernel
theorem dX7_freeSlope__33 : decode cX7_freeSlope_ 33 = .ok (.istore_n 2, 1) := by decide +kernel
theorem dX7_freeSlope__34 : decode cX7_freeSlope_ 34 = .ok (.aload_n 0, 1) := by decide +kernel
theorem dX7_freeSlope__35 : decode cX7_freeSlope_ 35 = .ok (.getfield 25, 3) := by decide +kernel
theorem dX7_freeSlope__38 : decode cX7_freeSlope_ 38 = .ok (.iload_n 1, 1) := by decide +kernel
theorem dX7_freeSlope__39 : decode cX7_freeSlope_ 39 = .ok (.iconst 0, 1) := by decide +kernel
theorem dX7_freeSlope__40 : decode cX7_freeSlope_ 40 = .ok (.bastore, 1) := by decide +kernel
theorem dX7_freeSlope__41 : decode cX7_freeSlope_ 41 = .ok (.iload_n 2, 1) := by decide +kernel
theorem dX7_freeSlope__42 : decode cX7_freeSlope_ 42 = .ok (.ireturn, 1) := by decide +kernel
theorem dX7_pieceOf_0 : decode cX7_pieceOf 0 = .ok (.iconst 0, 1) := by decide +kernel
theorem dX7_pieceOf_1 : decode cX7_pieceOf 1 = .ok (.istore_n 3, 1) := by decide +kernel
theorem dX7_pieceOf_2 : decode cX7_pieceOf 2 = .ok (.iload_n 3, 1) := by decide +kernel
theorem dX7_pieceOf_3 : decode cX7_pieceOf 3 = .ok (.iconst 1, 1) := by decide +kernel
theorem dX7_pieceOf_4 : decode cX7_pieceOf 4 = .ok (.iadd, 1) := by decide +kernel
theorem dX7_pieceOf_5 : decode cX7_pieceOf 5 = .ok (.aload_n 0, 1) := by decide +kernel
theorem dX7_pieceOf_6 : decode cX7_pieceOf 6 = .ok (.getfield 56, 3) := by decide +kernel
theorem dX7_pieceOf_9 : decode cX7_pieceOf 9 = .ok (.iconst 1, 1) := by decide +kernel
theorem dX7_pieceOf_10 : decode cX7_pieceOf 10 = .ok (.isub, 1) := by decide +kernel
theorem dX7_pieceOf_11 : decode cX7_pieceOf 11 = .ok (.if_icmp .ge 22, 3) := by decide +kernel
theorem dX7_pieceOf_14 : decode cX7_pieceOf 14 = .ok (.aload_n 0, 1) := by decide +kernel
theorem dX7_pieceOf_15 : decode cX7_pieceOf 15 = .ok (.getfield 19, 3) := by decide +kernel
theorem dX7_pieceOf_18 : decode cX7_pieceOf 18 = .ok (.iload_n 3, 1) := by decide +kernel
theorem dX7_pieceOf_19 : decode cX7_pieceOf 19 = .ok (.iconst 1, 1) := by decide +kernel
theorem dX7_pieceOf_20 : decode cX7_pieceOf 20 = .ok (.iadd, 1) := by decide +kernel
theorem dX7_pieceOf_21 : decode cX7_pieceOf 21 = .ok (.daload, 1) := by decide +kernel
theorem dX7_pieceOf_22 : decode cX7_pieceOf 22 = .ok (.dload_n 1, 1) := by decide +kernel
theorem dX7_pieceOf_23 : decode cX7_pieceOf 23 = .ok (.dcmp .g, 1) := by decide +kernel
theorem dX7_pieceOf_24 : decode cX7_pieceOf 24 = .ok (.ifCond .gt 9, 3) := by decide +kernel
theorem dX7_pieceOf_27 : decode cX7_pieceOf 27 = .ok (.iinc 3 1, 3) := by decide +kernel
theorem dX7_pieceOf_30 : decode cX7_pieceOf 30 = .ok (.goto (-28), 3) := by decide +kernel
theorem dX7_pieceOf_33 : decode cX7_pieceOf 33 = .ok (.iload_n 3, 1) := by decide +kernel
theorem dX7_pieceOf_34 : decode cX7_pieceOf 34 = .ok (.ireturn, 1) := by decide +kernel
set_option maxRecDepth 20000 in
theorem ggX7_isInside_X7_isIn : GoodIn wsX7_isInside wsX7_isIn := goodIn_r _ [6] (by decide +kernel) (by decide +kernel)
set_option maxRecDepth 20000 in
theorem gX7_isInside_X7_isIn : GoodIn wsX7_isInside (va_wsS RX7 67 yX7_isIn wsX7_isIn) := goodIn_app (goodIn_of _ (by decide +kernel)) ggX7_isInside_X7_isIn
theorem dX7_isInside_0 : decode cX7_isInside 0 = .ok (.aload_n 0, 1) := by decide +kernel
theorem dX7_isInside_1 : decode cX7_isInside 1 = .ok (.getfield 56, 3) := by decide +kernel
theorem dX7_isInside_4 : decode cX7_isInside 4 = .ok (.ifCond .le 31, 3) := by decide +kernel
theorem dX7_isInside_7 : decode cX7_isInside 7 = .ok (.dload_n 1, 1) := by decide +kernel
theorem dX7_isInside_8 : decode cX7_isInside 8 = .ok (.aload_n 0, 1) := by decide +kernel
theorem dX7_isInside_9 : decode cX7_isInside 9 = .ok (.getfield 19, 3) := by decide +kernel
theorem dX7_isInside_12 : decode cX7_isInside 12 = .ok (.iconst 0, 1) := by decide +kernel
theorem dX7_isInside_13 : decode cX7_isInside 13 = .ok (.daload, 1) := by decide +kernel
theorem dX7_isInside_14 : decode cX7_isInside 14 = .ok (.aload_n 0, 1) := by decide +kernel
theorem dX7_isInside_15 : decode cX7_isInside 15 = .ok (.getfield 19, 3) := by decide +kernel
theorem dX7_isInside_18 : decode cX7_isInside 18 = .ok (.aload_n 0, 1) := by decide +kernel
theorem dX7_isInside_19 : decode cX7_isInside 19 = .ok (.getfield 56, 3) := by decide +kernel
theorem dX7_isInside_22 : decode cX7_isInside 22 = .ok (.iconst 1, 1) := by decide +kernel
theorem dX7_isInside_23 : decode cX7_isInside 23 = .ok (.isub, 1) := by decide +kernel
theorem dX7_isInside_24 : decode cX7_isInside 24 = .ok (.daload, 1) := by decide +kernel
theorem dX7_isInside_25 : decode cX7_isInside 25 = .ok (.invokestatic 67, 3) := by decide +kernel
theorem dX7_isInside_28 : decode cX7_isInside 28 = .ok (.ifCond .eq 7, 3) := by decide +kernel
theorem dX7_isInside_31 : decode cX7_isInside 31 = .ok (.iconst 1, 1) := by decide +kernel
theorem dX7_isInside_32 : decode cX7_isInside 32 = .ok (.goto 4, 3) := by decide +kernel
theorem dX7_isInside_35 : decode cX7_isInside 35 = .ok (.iconst 0, 1) := by decide +kernel
theorem dX7_isInside_36 : decode cX7_isInside 36 = .ok (.ireturn, 1) := by decide +kernel
set_option maxRecDepth 20000 in
theorem ggX7_square_X7_rise : GoodIn wsX7_square wsX7_rise := goodIn_r _ [7, 8, 9, 10, 11, 6, 12, 13, 34, 35, 36, 37, 38, 39, 40, 41, 42, 43, 44, 45, 46, 47, 48] (by decide +kernel) (by decide +kernel)
set_option maxRecDepth 20000 in
theorem gX7_square_X7_rise : GoodIn wsX7_square (wsV RX7 98 RX7 yX7_rise wsX7_rise) := goodIn_app (goodIn_of _ (by decide +kernel)) ggX7_square_X7_rise
set_option maxRecDepth 20000 in
theorem ggX7_square_X7_slopeOf : GoodIn wsX7_square wsX7_slopeOf := goodIn_r _ [17, 18, 19, 20, 1, 21, 22, 23, 6, 24, 2, 3, 4, 5, 7, 8, 9, 10, 11, 12, 13, 25, 26, 27, 28, 29, 30, 31, 32, 33, 34, 35, 36, 37, 38, 39, 40, 41, 42, 43, 44, 45, 46, 47, 48] (by decide +kernel) (by decide +kernel)
set_option maxRecDepth 20000 in
theorem gX7_square_X7_slopeOf : GoodIn wsX7_square (wsV RX7 117 RX7 yX7_slopeOf wsX7_slopeOf) := goodIn_app (goodIn_of _ (by decide +kernel)) ggX7_square_X7_slopeOf
set_option maxRecDepth 20000 in
theorem ggX7_square_X7_width : GoodIn wsX7_square wsX7_width := goodIn_r _ [12, 13, 34, 35, 36, 37, 38, 39, 40, 41, 42, 43, 44, 45, 46, 47, 48] (by decide +kernel) (by decide +kernel)
set_option maxRecDepth 20000 in
theorem gX7_square_X7_width : GoodIn wsX7_square (wsV RX7 95 RX7 yX7_width wsX7_width) := goodIn_app (goodIn_of _ (by decide +kernel)) ggX7_square_X7_width
theorem dX7_square_0 : decode cX7_square 0 = .ok (.ldc2_w 111, 3) := by decide +kernel
theorem dX7_square_3 : decode cX7_square 3 = .ok (.aload_n 0, 1) := by decide +kernel
theorem dX7_square_4 : decode cX7_square 4 = .ok (.iload_n 1, 1) := by decide +kernel
theorem dX7_square_5 : decode cX7_square 5 = .ok (.invokevirtual 98, 3) := by decide +kernel
theorem dX7_square_8 : decode cX7_square 8 = .ok (.dmul, 1) := by decide +kernel
theorem dX7_square_9 : decode cX7_square 9 = .ok (.ldc2_w 101, 3) := by decide +kernel
theorem dX7_square_12 : decode cX7_square 12 = .ok (.aload_n 0, 1) := by decide +kernel
theorem dX7_square_13 : decode cX7_square 13 = .ok (.iload_n 1, 1) := by decide +kernel
theorem dX7_square_14 : decode cX7_square 14 = .ok (.invokevirtual 117, 3) := by decide +kernel
theorem dX7_square_17 : decode cX7_square 17 = .ok (.dmul, 1) := by decide +kernel
theorem dX7_square_18 : decode cX7_square 18 = .ok (.dsub, 1) := by decide +kernel
theorem dX7_square_19 : decode cX7_square 19 = .ok (.aload_n 0, 1) := by decide +kernel
theorem dX7_square_20 : decode cX7_square 20 = .ok (.iload_n 1, 1) := by decide +kernel
theorem dX7_square_21 : decode cX7_square 21 = .ok (.iconst 1, 1) := by decide +kernel
theorem dX7_square_22 : decode cX7_square 22 = .ok (.iadd, 1) := by decide +kernel
theorem dX7_square_23 : decode cX7_square 23 = .ok (.invokevirtual 117, 3) := by decide +kernel
theorem dX7_square_26 : decode cX7_square 26 = .ok (.dsub, 1) := by decide +kernel
theorem dX7_square_27 : decode cX7_square 27 = .ok (.aload_n 0, 1) := by decide +kernel
theorem dX7_square_28 : decode cX7_square 28 = .ok (.iload_n 1, 1) := by decide +kernel
theorem dX7_square_29 : decode cX7_square 29 = .ok (.invokevirtual 95, 3) := by decide +kernel
theorem dX7_square_32 : decode cX7_square 32 = .ok (.ddiv, 1) := by decide +kernel
theorem dX7_square_33 : decode cX7_square 33 = .ok (.dreturn, 1) := by decide +kernel
set_option maxRecDepth 20000 in
theorem ggX7_cube_X7_slopeOf : GoodIn wsX7_cube wsX7_slopeOf := goodIn_r _ [6, 7, 8, 9, 10, 11, 12, 13, 5, 14, 1, 15, 16, 17, 18, 19, 20, 21, 22, 23, 24, 25, 26, 27, 28, 29, 30, 31, 32, 33, 34, 35, 36, 37, 38, 39, 40, 41, 42, 43, 44, 45, 46, 47, 48] (by decide +kernel) (by decide +kernel)
set_option maxRecDepth 20000 in
theorem gX7_cube_X7_slopeOf : GoodIn wsX7_cube (wsV RX7 117 RX7 yX7_slopeOf wsX7_slopeOf) := goodIn_app (goodIn_of _ (by decide +kernel)) ggX7_cube_X7_slopeOf
set_option maxRecDepth 20000 in
theorem ggX7_cube_X7_rise : GoodIn wsX7_cube wsX7_rise := goodIn_r _ [18, 19, 20, 21, 22, 5, 23, 24, 34, 35, 36, 37, 38, 39, 40, 41, 42, 43, 44, 45, 46, 47, 48] (by decide +kernel) (by decide +kernel)
set_option maxRecDepth 20000 in
theorem gX7_cube_X7_rise : GoodIn wsX7_cube (wsV RX7 98 RX7 yX7_rise wsX7_rise) := goodIn_app (goodIn_of _ (by decide +kernel)) ggX7_cube_X7_rise
set_option maxRecDepth 20000 in
theorem ggX7_cube_X7_width : GoodIn wsX7_cube wsX7_width := goodIn_r _ [23, 24, 34, 35, 36, 37, 38, 39, 40, 41, 42, 43, 44, 45, 46, 47, 48] (by decide +kernel) (by decide +kernel)
set_option maxRecDepth 20000 in
theorem gX7_cube_X7_width : GoodIn wsX7_cube (wsV RX7 95 RX7 yX7_width wsX7_width) := goodIn_app (goodIn_of _ (by decide +kernel)) ggX7_cube_X7_width
theorem dX7_cube_0 : decode cX7_cube 0 = .ok (.aload_n 0, 1) := by decide +kernel
theorem dX7_cube_1 : decode cX7_cube 1 = .ok (.iload_n 1, 1) := by decide +kernel
theorem dX7_cube_2 : decode cX7_cube 2 = .ok (.invokevirtual 117, 3) := by decide +kernel
theorem dX7_cube_5 : decode cX7_cube 5 = .ok (.aload_n 0, 1) := by decide +kernel
theorem dX7_cube_6 : decode cX7_cube 6 = .ok (.iload_n 1, 1) := by decide +kernel
theorem dX7_cube_7 : decode cX7_cube 7 = .ok (.iconst 1, 1) := by decide +kernel
theorem dX7_cube_8 : decode cX7_cube 8 = .ok (.iadd, 1) := by decide +kernel
theorem dX7_cube_9 : decode cX7_cube 9 = .ok (.invokevirtual 117, 3) := by decide +kernel
theorem dX7_cube_12 : decode cX7_cube 12 = .ok (.dadd, 1) := by decide +kernel
theorem dX7_cube_13 : decode cX7_cube 13 = .ok (.ldc2_w 101, 3) := by decide +kernel
theorem dX7_cube_16 : decode cX7_cube 16 = .ok (.aload_n 0, 1) := by decide +kernel
theorem dX7_cube_17 : decode cX7_cube 17 = .ok (.iload_n 1, 1) := by decide +kernel
theorem dX7_cube_18 : decode cX7_cube 18 = .ok (.invokevirtual 98, 3) := by decide +kernel
theorem dX7_cube_21 : decode cX7_cube 21 = .ok (.dmul, 1) := by decide +kernel
theorem dX7_cube_22 : decode cX7_cube 22 = .ok (.dsub, 1) := by decide +kernel
theorem dX7_cube_23 : decode cX7_cube 23 = .ok (.aload_n 0, 1) := by decide +kernel
theorem dX7_cube_24 : decode cX7_cube 24 = .ok (.iload_n 1, 1) := by decide +kernel
theorem dX7_cube_25 : decode cX7_cube 25 = .ok (.invokevirtual 95, 3) := by decide +kernel
theorem dX7_cube_28 : decode cX7_cube 28 = .ok (.aload_n 0, 1) := by decide +kernel
theorem dX7_cube_29 : decode cX7_cube 29 = .ok (.iload_n 1, 1) := by decide +kernel
theorem dX7_cube_30 : decode cX7_cube 30 = .ok (.invokevirtual 95, 3) := by decide +kernel
theorem dX7_cube_33 : decode cX7_cube 33 = .ok (.dmul, 1) := by decide +kernel
theorem dX7_cube_34 : decode cX7_cube 34 = .ok (.ddiv, 1) := by decide +kernel
theorem dX7_cube_35 : decode cX7_cube 35 = .ok (.dreturn, 1) := by decide +kernel
set_option maxRecDepth 20000 in
theorem ggX7_valueIn_X7_slopeOf : GoodIn wsX7_valueIn wsX7_slopeOf := goodIn_r _ [6, 7, 8, 9, 10, 11, 12, 13, 5, 14, 15, 16, 17, 18, 19, 1, 20, 21, 22, 23, 24, 25, 26, 27, 28, 29, 30, 31, 32, 33, 42, 43, 44, 45, 46, 47, 48, 49, 50, 51, 52, 53, 54, 55, 56] (by decide +kernel) (by decide +kernel)
set_option maxRecDepth 20000 in
theorem gX7_valueIn_X7_slopeOf : GoodIn wsX7_valueIn (wsV RX7 117 RX7 yX7_slopeOf wsX7_slopeOf) := goodIn_app (goodIn_of _ (by decide +kernel)) ggX7_valueIn_X7_slopeOf
set_option maxRecDepth 20000 in
theorem ggX7_valueIn_X7_square : GoodIn wsX7_valueIn wsX7_square := goodIn_r _ [37, 10, 15, 16, 17, 18, 5, 19, 1, 20, 21, 22, 23, 24, 2, 3, 4, 6, 7, 8, 9, 11, 12, 13, 14, 25, 26, 27, 28, 29, 30, 31, 32, 33, 42, 43, 44, 45, 46, 47, 48, 49, 50, 51, 52, 53, 54, 55, 56] (by decide +kernel) (by decide +kernel)
set_option maxRecDepth 20000 in
theorem gX7_valueIn_X7_square : GoodIn wsX7_valueIn (wsV RX7 136 RX7 yX7_square wsX7_square) := goodIn_app (goodIn_of _ (by decide +kernel)) ggX7_valueIn_X7_square
set_option maxRecDepth 20000 in
theorem ggX7_valueIn_X7_cube : GoodIn wsX7_valueIn wsX7_cube := goodIn_r _ [41, 15, 2, 3, 4, 5, 6, 7, 8, 9, 10, 11, 12, 13, 14, 16, 17, 18, 19, 1, 20, 21, 22, 23, 24, 25, 26, 27, 28, 29, 30, 31, 32, 33, 42, 43, 44, 45, 46, 47, 48, 49, 50, 51, 52, 53, 54, 55, 56] (by decide +kernel) (by decide +kernel)
set_option maxRecDepth 20000 in
theorem gX7_valueIn_X7_cube : GoodIn wsX7_valueIn (wsV RX7 139 RX7 yX7_cube wsX7_cube) := goodIn_app (goodIn_of _ (by decide +kernel)) ggX7_valueIn_X7_cube
theorem dX7_valueIn_0 : decode cX7_valueIn 0 = .ok (.aload_n 0, 1) := by decide +kernel
theorem dX7_valueIn_1 : decode cX7_valueIn 1 = .ok (.getfield 22, 3) := by decide +kernel
theorem dX7_valueIn_4 : decode cX7_valueIn 4 = .ok (.iload_n 1, 1) := by decide +kernel
theorem dX7_valueIn_5 : decode cX7_valueIn 5 = .ok (.daload, 1) := by decide +kernel
theorem dX7_valueIn_6 : decode cX7_valueIn 6 = .ok (.dload_n 2, 1) := by decide +kernel
theorem dX7_valueIn_7 : decode cX7_valueIn 7 = .ok (.aload_n 0, 1) := by decide +kernel
theorem dX7_valueIn_8 : decode cX7_valueIn 8 = .ok (.iload_n 1, 1) := by decide +kernel
theorem dX7_valueIn_9 : decode cX7_valueIn 9 = .ok (.invokevirtual 117, 3) := by decide +kernel
theorem dX7_valueIn_12 : decode cX7_valueIn 12 = .ok (.dload_n 2, 1) := by decide +kernel
theorem dX7_valueIn_13 : decode cX7_valueIn 13 = .ok (.aload_n 0, 1) := by decide +kernel
theorem dX7_valueIn_14 : decode cX7_valueIn 14 = .ok (.iload_n 1, 1) := by decide +kernel
theorem dX7_valueIn_15 : decode cX7_valueIn 15 = .ok (.invokevirtual 136, 3) := by decide +kernel
theorem dX7_valueIn_18 : decode cX7_valueIn 18 = .ok (.dload_n 2, 1) := by decide +kernel
theorem dX7_valueIn_19 : decode cX7_valueIn 19 = .ok (.aload_n 0, 1) := by decide +kernel
theorem dX7_valueIn_20 : decode cX7_valueIn 20 = .ok (.iload_n 1, 1) := by decide +kernel
theorem dX7_valueIn_21 : decode cX7_valueIn 21 = .ok (.invokevirtual 139, 3) := by decide +kernel
theorem dX7_valueIn_24 : decode cX7_valueIn 24 = .ok (.dmul, 1) := by decide +kernel
theorem dX7_valueIn_25 : decode cX7_valueIn 25 = .ok (.dadd, 1) := by decide +kernel
theorem dX7_valueIn_26 : decode cX7_valueIn 26 = .ok (.dmul, 1) := by decide +kernel
theorem dX7_valueIn_27 : decode cX7_valueIn 27 = .ok (.dadd, 1) := by decide +kernel
theorem dX7_valueIn_28 : decode cX7_valueIn 28 = .ok (.dmul, 1) := by decide +kernel
theorem dX7_valueIn_29 : decode cX7_valueIn 29 = .ok (.dadd, 1) := by decide +kernel
theorem dX7_valueIn_30 : decode cX7_valueIn 30 = .ok (.dreturn, 1) := by decide +kernel
set_option maxRecDepth 20000 in
theorem ggX7_slopeIn_X7_slopeOf : GoodIn wsX7_slopeIn wsX7_slopeOf := goodIn_r _ [7, 8, 9, 10, 2, 11, 12, 13, 6, 14, 1, 15, 16, 17, 18, 19, 20, 21, 22, 23, 24, 25, 26, 27, 28, 29, 30, 31, 32, 33, 42, 43, 44, 45, 46, 47, 48, 49, 50, 51, 52, 53, 54, 55, 56] (by decide +kernel) (by decide +kernel)
set_option maxRecDepth 20000 in
theorem gX7_slopeIn_X7_slopeOf : GoodIn wsX7_slopeIn (wsV RX7 117 RX7 yX7_slopeOf wsX7_slopeOf) := goodIn_app (goodIn_of _ (by decide +kernel)) ggX7_slopeIn_X7_slopeOf
set_option maxRecDepth 20000 in
theorem ggX7_slopeIn_X7_square : GoodIn wsX7_slopeIn wsX7_square := goodIn_r _ [37, 2, 1, 15, 16, 17, 6, 18, 19, 20, 21, 22, 23, 24, 3, 4, 5, 7, 8, 9, 10, 11, 12, 13, 14, 25, 26, 27, 28, 29, 30, 31, 32, 33, 42, 43, 44, 45, 46, 47, 48, 49, 50, 51, 52, 53, 54, 55, 56] (by decide +kernel) (by decide +kernel)
set_option maxRecDepth 20000 in
theorem gX7_slopeIn_X7_square : GoodIn wsX7_slopeIn (wsV RX7 136 RX7 yX7_square wsX7_square) := goodIn_app (goodIn_of _ (by decide +kernel)) ggX7_slopeIn_X7_square
set_option maxRecDepth 20000 in
theorem ggX7_slopeIn_X7_cube : GoodIn wsX7_slopeIn wsX7_cube := goodIn_r _ [41, 1, 3, 4, 5, 6, 7, 8, 9, 10, 2, 11, 12, 13, 14, 15, 16, 17, 18, 19, 20, 21, 22, 23, 24, 25, 26, 27, 28, 29, 30, 31, 32, 33, 42, 43, 44, 45, 46, 47, 48, 49, 50, 51, 52, 53, 54, 55, 56] (by decide +kernel) (by decide +kernel)
set_option maxRecDepth 20000 in
theorem gX7_slopeIn_X7_cube : GoodIn wsX7_slopeIn (wsV RX7 139 RX7 yX7_cube wsX7_cube) := goodIn_app (goodIn_of _ (by decide +kernel)) ggX7_slopeIn_X7_cube
theorem dX7_slopeIn_0 : decode cX7_slopeIn 0 = .ok (.aload_n 0, 1) := by decide +kernel
theorem dX7_slopeIn_1 : decode cX7_slopeIn 1 = .ok (.iload_n 1, 1) := by decide +kernel
theorem dX7_slopeIn_2 : decode cX7_slopeIn 2 = .ok (.invokevirtual 117, 3) := by decide +kernel
theorem dX7_slopeIn_5 : decode cX7_slopeIn 5 = .ok (.dload_n 2, 1) := by decide +kernel
theorem dX7_slopeIn_6 : decode cX7_slopeIn 6 = .ok (.ldc2_w 101, 3) := by decide +kernel
theorem dX7_slopeIn_9 : decode cX7_slopeIn 9 = .ok (.aload_n 0, 1) := by decide +kernel
theorem dX7_slopeIn_10 : decode cX7_slopeIn 10 = .ok (.iload_n 1, 1) := by decide +kernel
theorem dX7_slopeIn_11 : decode cX7_slopeIn 11 = .ok (.invokevirtual 136, 3) := by decide +kernel
theorem dX7_slopeIn_14 : decode cX7_slopeIn 14 = .ok (.dmul, 1) := by decide +kernel
theorem dX7_slopeIn_15 : decode cX7_slopeIn 15 = .ok (.dload_n 2, 1) := by decide +kernel
theorem dX7_slopeIn_16 : decode cX7_slopeIn 16 = .ok (.ldc2_w 111, 3) := by decide +kernel
theorem dX7_slopeIn_19 : decode cX7_slopeIn 19 = .ok (.aload_n 0, 1) := by decide +kernel
theorem dX7_slopeIn_20 : decode cX7_slopeIn 20 = .ok (.iload_n 1, 1) := by decide +kernel
theorem dX7_slopeIn_21 : decode cX7_slopeIn 21 = .ok (.invokevirtual 139, 3) := by decide +kernel
theorem dX7_slopeIn_24 : decode cX7_slopeIn 24 = .ok (.dmul, 1) := by decide +kernel
theorem dX7_slopeIn_25 : decode cX7_slopeIn 25 = .ok (.dmul, 1) := by decide +kernel
theorem dX7_slopeIn_26 : decode cX7_slopeIn 26 = .ok (.dadd, 1) := by decide +kernel
theorem dX7_slopeIn_27 : decode cX7_slopeIn 27 = .ok (.dmul, 1) := by decide +kernel
theorem dX7_slopeIn_28 : decode cX7_slopeIn 28 = .ok (.dadd, 1) := by decide +kernel
theorem dX7_slopeIn_29 : decode cX7_slopeIn 29 = .ok (.dreturn, 1) := by decide +kernel
set_option maxRecDepth 20000 in
theorem ggX7_partOf_X7_slopeOf : GoodIn wsX7_partOf wsX7_slopeOf := goodIn_r _ [9, 10, 11, 12, 3, 13, 14, 15, 8, 16, 2, 17, 18, 19, 20, 1, 21, 22, 23, 24, 25, 26, 27, 28, 29, 30, 31, 32, 33, 34, 43, 44, 45, 46, 47, 48, 49, 50, 51, 52, 53, 54, 55, 56, 57] (by decide +kernel) (by decide +kernel)
set_option maxRecDepth 20000 in
theorem gX7_partOf_X7_slopeOf : GoodIn wsX7_partOf (wsV RX7 117 RX7 yX7_slopeOf wsX7_slopeOf) := goodIn_app (goodIn_of _ (by decide +kernel)) ggX7_partOf_X7_slopeOf
set_option maxRecDepth 20000 in
theorem ggX7_partOf_X7_square : GoodIn wsX7_partOf wsX7_square := goodIn_r _ [38, 3, 2, 17, 18, 19, 8, 20, 1, 21, 22, 23, 24, 25, 5, 6, 7, 9, 10, 11, 12, 13, 14, 15, 16, 26, 27, 28, 29, 30, 31, 32, 33, 34, 43, 44, 45, 46, 47, 48, 49, 50, 51, 52, 53, 54, 55, 56, 57] (by decide +kernel) (by decide +kernel)
set_option maxRecDepth 20000 in
theorem gX7_partOf_X7_square : GoodIn wsX7_partOf (wsV RX7 136 RX7 yX7_square wsX7_square) := goodIn_app (goodIn_of _ (by decide +kernel)) ggX7_partOf_X7_square
set_option maxRecDepth 20000 in
theorem ggX7_partOf_X7_cube : GoodIn wsX7_partOf wsX7_cube := goodIn_r _ [42, 2, 5, 6, 7, 8, 9, 10, 11, 12, 3, 13, 14, 15, 16, 17, 18, 19, 20, 1, 21, 22, 23, 24, 25, 26, 27, 28, 29, 30, 31, 32, 33, 34, 43, 44, 45, 46, 47, 48, 49, 50, 51, 52, 53, 54, 55, 56, 57] (by decide +kernel) (by decide +kernel)
set_option maxRecDepth 20000 in
theorem gX7_partOf_X7_cube : GoodIn wsX7_partOf (wsV RX7 139 RX7 yX7_cube wsX7_cube) := goodIn_app (goodIn_of _ (by decide +kernel)) ggX7_partOf_X7_cube
theorem dX7_partOf_0 : decode cX7_partOf 0 = .ok (.dload_n 2, 1) := by decide +kernel
theorem dX7_partOf_1 : decode cX7_partOf 1 = .ok (.aload_n 0, 1) := by decide +kernel
theorem dX7_partOf_2 : decode cX7_partOf 2 = .ok (.getfield 22, 3) := by decide +kernel
theorem dX7_partOf_5 : decode cX7_partOf 5 = .ok (.iload_n 1, 1) := by decide +kernel
theorem dX7_partOf_6 : decode cX7_partOf 6 = .ok (.daload, 1) := by decide +kernel
theorem dX7_partOf_7 : decode cX7_partOf 7 = .ok (.dload_n 2, 1) := by decide +kernel
theorem dX7_partOf_8 : decode cX7_partOf 8 = .ok (.aload_n 0, 1) := by decide +kernel
theorem dX7_partOf_9 : decode cX7_partOf 9 = .ok (.iload_n 1, 1) := by decide +kernel
theorem dX7_partOf_10 : decode cX7_partOf 10 = .ok (.invokevirtual 117, 3) := by decide +kernel
theorem dX7_partOf_13 : decode cX7_partOf 13 = .ok (.ldc2_w 101, 3) := by decide +kernel
theorem dX7_partOf_16 : decode cX7_partOf 16 = .ok (.ddiv, 1) := by decide +kernel
theorem dX7_partOf_17 : decode cX7_partOf 17 = .ok (.dload_n 2, 1) := by decide +kernel
theorem dX7_partOf_18 : decode cX7_partOf 18 = .ok (.aload_n 0, 1) := by decide +kernel
theorem dX7_partOf_19 : decode cX7_partOf 19 = .ok (.iload_n 1, 1) := by decide +kernel
theorem dX7_partOf_20 : decode cX7_partOf 20 = .ok (.invokevirtual 136, 3) := by decide +kernel
theorem dX7_partOf_23 : decode cX7_partOf 23 = .ok (.ldc2_w 111, 3) := by decide +kernel
theorem dX7_partOf_26 : decode cX7_partOf 26 = .ok (.ddiv, 1) := by decide +kernel
theorem dX7_partOf_27 : decode cX7_partOf 27 = .ok (.dload_n 2, 1) := by decide +kernel
theorem dX7_partOf_28 : decode cX7_partOf 28 = .ok (.aload_n 0, 1) := by decide +kernel
theorem dX7_partOf_29 : decode cX7_partOf 29 = .ok (.iload_n 1, 1) := by decide +kernel
theorem dX7_partOf_30 : decode cX7_partOf 30 = .ok (.invokevirtual 139, 3) := by decide +kernel
theorem dX7_partOf_33 : decode cX7_partOf 33 = .ok (.ldc2_w 142, 3) := by decide +kernel
theorem dX7_partOf_36 : decode cX7_partOf 36 = .ok (.ddiv, 1) := by decide +kernel
theorem dX7_partOf_37 : decode cX7_partOf 37 = .ok (.dmul, 1) := by decide +kernel
theorem dX7_partOf_38 : decode cX7_partOf 38 = .ok (.dadd, 1) := by decide +kernel
theorem dX7_partOf_39 : decode cX7_partOf 39 = .ok (.dmul, 1) := by decide +kernel
theorem dX7_partOf_40 : decode cX7_partOf 40 = .ok (.dadd, 1) := by decide +kernel
theorem dX7_partOf_41 : decode cX7_partOf 41 = .ok (.dmul, 1) := by decide +kernel
theorem dX7_partOf_42 : decode cX7_partOf 42 = .ok (.dadd, 1) := by decide +kernel
theorem dX7_partOf_43 : decode cX7_partOf 43 = .ok (.dmul, 1) := by decide +kernel
theorem dX7_partOf_44 : decode cX7_partOf 44 = .ok (.dreturn, 1) := by decide +kernel
set_option maxRecDepth 20000 in
theorem ggX7_areaTo_X7_pieceOf : GoodIn wsX7_areaTo wsX7_pieceOf := goodIn_r _ [6, 7, 1, 51, 52, 53, 54, 55, 56, 57, 58, 59, 60, 61, 62, 63, 64, 65] (by decide +kernel) (by decide +kernel)
set_option maxRecDepth 20000 in
theorem gX7_areaTo_X7_pieceOf : GoodIn wsX7_areaTo (wsV RX7 120 RX7 yX7_pieceOf wsX7_pieceOf) := goodIn_app (goodIn_of _ (by decide +kernel)) ggX7_areaTo_X7_pieceOf
set_option maxRecDepth 20000 in
theorem ggX7_areaTo_X7_width : GoodIn wsX7_areaTo wsX7_width := goodIn_r _ [11, 1, 51, 52, 53, 54, 55, 56, 57, 58, 59, 60, 61, 62, 63, 64, 65] (by decide +kernel) (by decide +kernel)
set_option maxRecDepth 20000 in
theorem gX7_areaTo_X7_width : GoodIn wsX7_areaTo (wsV RX7 95 RX7 yX7_width wsX7_width) := goodIn_app (goodIn_of _ (by decide +kernel)) ggX7_areaTo_X7_width
set_option maxRecDepth 20000 in
theorem ggX7_areaTo_X7_partOf : GoodIn wsX7_areaTo wsX7_partOf := goodIn_r _ [15, 16, 17, 18, 19, 20, 21, 22, 5, 23, 7, 24, 25, 26, 27, 28, 29, 30, 31, 32, 33, 8, 9, 10, 11, 1, 34, 35, 36, 37, 38, 39, 40, 41, 42, 43, 44, 45, 46, 47, 48, 49, 50, 51, 52, 53, 54, 55, 56, 57, 58, 59, 60, 61, 62, 63, 64, 65] (by decide +kernel) (by decide +kernel)
set_option maxRecDepth 20000 in
theorem gX7_areaTo_X7_partOf : GoodIn wsX7_areaTo (wsV RX7 144 RX7 yX7_partOf wsX7_partOf) := goodIn_app (goodIn_of _ (by decide +kernel)) ggX7_areaTo_X7_partOf
theorem dX7_areaTo_0 : decode cX7_areaTo 0 = .ok (.aload_n 0, 1) := by decide +kernel
theorem dX7_areaTo_1 : decode cX7_areaTo 1 = .ok (.dload_n 1, 1) := by decide +kernel
theorem dX7_areaTo_2 : decode cX7_areaTo 2 = .ok (.invokevirtual 120, 3) := by decide +kernel
theorem dX7_areaTo_5 : decode cX7_areaTo 5 = .ok (.istore_n 3, 1) := by decide +kernel
theorem dX7_areaTo_6 : decode cX7_areaTo 6 = .ok (.dconst 0, 1) := by decide +kernel
theorem dX7_areaTo_7 : decode cX7_areaTo 7 = .ok (.dstore 4, 2) := by decide +kernel
theorem dX7_areaTo_9 : decode cX7_areaTo 9 = .ok (.iconst 0, 1) := by decide +kernel
theorem dX7_areaTo_10 : decode cX7_areaTo 10 = .ok (.istore 6, 2) := by decide +kernel
theorem dX7_areaTo_12 : decode cX7_areaTo 12 = .ok (.iload 6, 2) := by decide +kernel
theorem dX7_areaTo_14 : decode cX7_areaTo 14 = .ok (.iload_n 3, 1) := by decide +kernel
theorem dX7_areaTo_15 : decode cX7_areaTo 15 = .ok (.if_icmp .ge 26, 3) := by decide +kernel
theorem dX7_areaTo_18 : decode cX7_areaTo 18 = .ok (.dload 4, 2) := by decide +kernel
theorem dX7_areaTo_20 : decode cX7_areaTo 20 = .ok (.aload_n 0, 1) := by decide +kernel
theorem dX7_areaTo_21 : decode cX7_areaTo 21 = .ok (.iload 6, 2) := by decide +kernel
theorem dX7_areaTo_23 : decode cX7_areaTo 23 = .ok (.aload_n 0, 1) := by decide +kernel
theorem dX7_areaTo_24 : decode cX7_areaTo 24 = .ok (.iload 6, 2) := by decide +kernel
theorem dX7_areaTo_26 : decode cX7_areaTo 26 = .ok (.invokevirtual 95, 3) := by decide +kernel
theorem dX7_areaTo_29 : decode cX7_areaTo 29 = .ok (.invokevirtual 144, 3) := by decide +kernel
theorem dX7_areaTo_32 : decode cX7_areaTo 32 = .ok (.dadd, 1) := by decide +kernel
theorem dX7_areaTo_33 : decode cX7_areaTo 33 = .ok (.dstore 4, 2) := by decide +kernel
theorem dX7_areaTo_35 : decode cX7_areaTo 35 = .ok (.iinc 6 1, 3) := by decide +kernel
theorem dX7_areaTo_38 : decode cX7_areaTo 38 = .ok (.goto (-26), 3) := by decide +kernel
theorem dX7_areaTo_41 : decode cX7_areaTo 41 = .ok (.dload 4, 2) := by decide +kernel
theorem dX7_areaTo_43 : decode cX7_areaTo 43 = .ok (.aload_n 0, 1) := by decide +kernel
theorem dX7_areaTo_44 : decode cX7_areaTo 44 = .ok (.iload_n 3, 1) := by decide +kernel
theorem dX7_areaTo_45 : decode cX7_areaTo 45 = .ok (.dload_n 1, 1) := by decide +kernel
theorem dX7_areaTo_46 : decode cX7_areaTo 46 = .ok (.aload_n 0, 1) := by decide +kernel
theorem dX7_areaTo_47 : decode cX7_areaTo 47 = .ok (.getfield 19, 3) := by decide +kernel
theorem dX7_areaTo_50 : decode cX7_areaTo 50 = .ok (.iload_n 3, 1) := by decide +kernel
theorem dX7_areaTo_51 : decode cX7_areaTo 51 = .ok (.daload, 1) := by decide +kernel
theorem dX7_areaTo_52 : decode cX7_areaTo 52 = .ok (.dsub, 1) := by decide +kernel
theorem dX7_areaTo_53 : decode cX7_areaTo 53 = .ok (.invokevirtual 144, 3) := by decide +kernel
theorem dX7_areaTo_56 : decode cX7_areaTo 56 = .ok (.dadd, 1) := by decide +kernel
theorem dX7_areaTo_57 : decode cX7_areaTo 57 = .ok (.dreturn, 1) := by decide +kernel
set_option maxRecDepth 20000 in
theorem ggX7_value_X7_isInside : GoodIn wsX7_value wsX7_isInside := goodIn_r _ [7, 8, 2, 9, 10, 6, 11, 62, 63, 64, 65, 66, 67, 68, 69, 70, 71, 72, 73, 74, 75, 76] (by decide +kernel) (by decide +kernel)
set_option maxRecDepth 20000 in
theorem gX7_value_X7_isInside : GoodIn wsX7_value (wsV RX7 147 RX7 yX7_isInside wsX7_isInside) := goodIn_app (goodIn_of _ (by decide +kernel)) ggX7_value_X7_isInside
set_option maxRecDepth 20000 in
theorem ggX7_value_X7_fail : GoodIn wsX7_value wsX7_fail := goodIn_r _ [15, 1, 62, 63, 64, 65, 66, 67, 68, 69, 70, 71, 72, 73, 74, 75, 76] (by decide +kernel) (by decide +kernel)
set_option maxRecDepth 20000 in
theorem gX7_value_X7_fail : GoodIn wsX7_value (wsV RX7 75 RX7 yX7_fail wsX7_fail) := goodIn_app (goodIn_of _ (by decide +kernel)) ggX7_value_X7_fail
set_option maxRecDepth 20000 in
theorem ggX7_value_X7_pieceOf : GoodIn wsX7_value wsX7_pieceOf := goodIn_r _ [19, 8, 2, 62, 63, 64, 65, 66, 67, 68, 69, 70, 71, 72, 73, 74, 75, 76] (by decide +kernel) (by decide +kernel)
set_option maxRecDepth 20000 in
theorem gX7_value_X7_pieceOf : GoodIn wsX7_value (wsV RX7 120 RX7 yX7_pieceOf wsX7_pieceOf) := goodIn_app (goodIn_of _ (by decide +kernel)) ggX7_value_X7_pieceOf
set_option maxRecDepth 20000 in
theorem ggX7_value_X7_valueIn : GoodIn wsX7_value wsX7_valueIn := goodIn_r _ [23, 24, 25, 26, 27, 6, 28, 8, 29, 30, 31, 32, 33, 34, 35, 36, 37, 38, 39, 40, 41, 42, 43, 44, 2, 45, 46, 47, 48, 49, 50, 51, 52, 53, 54, 55, 56, 57, 58, 59, 60, 61, 62, 63, 64, 65, 66, 67, 68, 69, 70, 71, 72, 73, 74, 75, 76] (by decide +kernel) (by decide +kernel)
set_option maxRecDepth 20000 in
theorem gX7_value_X7_valueIn : GoodIn wsX7_value (wsV RX7 126 RX7 yX7_valueIn wsX7_valueIn) := goodIn_app (goodIn_of _ (by decide +kernel)) ggX7_value_X7_valueIn
theorem dX7_value_0 : decode cX7_value 0 = .ok (.aload_n 0, 1) := by decide +kernel
theorem dX7_value_1 : decode cX7_value 1 = .ok (.iconst 0, 1) := by decide +kernel
theorem dX7_value_2 : decode cX7_value 2 = .ok (.putfield 48, 3) := by decide +kernel
theorem dX7_value_5 : decode cX7_value 5 = .ok (.aload_n 0, 1) := by decide +kernel
theorem dX7_value_6 : decode cX7_value 6 = .ok (.dload_n 1, 1) := by decide +kernel
theorem dX7_value_7 : decode cX7_value 7 = .ok (.invokevirtual 147, 3) := by decide +kernel
theorem dX7_value_10 : decode cX7_value 10 = .ok (.ifCond .ne 10, 3) := by decide +kernel
theorem dX7_value_13 : decode cX7_value 13 = .ok (.aload_n 0, 1) := by decide +kernel
theorem dX7_value_14 : decode cX7_value 14 = .ok (.iconst 1, 1) := by decide +kernel
theorem dX7_value_15 : decode cX7_value 15 = .ok (.invokevirtual 75, 3) := by decide +kernel
theorem dX7_value_18 : decode cX7_value 18 = .ok (.i2d, 1) := by decide +kernel
theorem dX7_value_19 : decode cX7_value 19 = .ok (.dreturn, 1) := by decide +kernel
theorem dX7_value_20 : decode cX7_value 20 = .ok (.aload_n 0, 1) := by decide +kernel
theorem dX7_value_21 : decode cX7_value 21 = .ok (.dload_n 1, 1) := by decide +kernel
theorem dX7_value_22 : decode cX7_value 22 = .ok (.invokevirtual 120, 3) := by decide +kernel
theorem dX7_value_25 : decode cX7_value 25 = .ok (.istore_n 3, 1) := by decide +kernel
theorem dX7_value_26 : decode cX7_value 26 = .ok (.aload_n 0, 1) := by decide +kernel
theorem dX7_value_27 : decode cX7_value 27 = .ok (.iload_n 3, 1) := by decide +kernel
theorem dX7_value_28 : decode cX7_value 28 = .ok (.dload_n 1, 1) := by decide +kernel
theorem dX7_value_29 : decode cX7_value 29 = .ok (.aload_n 0, 1) := by decide +kernel
theorem dX7_value_30 : decode cX7_value 30 = .ok (.getfield 19, 3) := by decide +kernel
theorem dX7_value_33 : decode cX7_value 33 = .ok (.iload_n 3, 1) := by decide +kernel
theorem dX7_value_34 : decode cX7_value 34 = .ok (.daload, 1) := by decide +kernel
theorem dX7_value_35 : decode cX7_value 35 = .ok (.dsub, 1) := by decide +kernel
theorem dX7_value_36 : decode cX7_value 36 = .ok (.invokevirtual 126, 3) := by decide +kernel
theorem dX7_value_39 : decode cX7_value 39 = .ok (.dreturn, 1) := by decide +kernel
set_option maxRecDepth 20000 in
theorem ggX7_slope_X7_isInside : GoodIn wsX7_slope wsX7_isInside := goodIn_r _ [7, 8, 2, 9, 10, 6, 11, 62, 63, 64, 65, 66, 67, 68, 69, 70, 71, 72, 73, 74, 75, 76] (by decide +kernel) (by decide +kernel)
set_option maxRecDepth 20000 in
theorem gX7_slope_X7_isInside : GoodIn wsX7_slope (wsV RX7 147 RX7 yX7_isInside wsX7_isInside) := goodIn_app (goodIn_of _ (by decide +kernel)) ggX7_slope_X7_isInside
set_option maxRecDepth 20000 in
theorem ggX7_slope_X7_fail : GoodIn wsX7_slope wsX7_fail := goodIn_r _ [15, 1, 62, 63, 64, 65, 66, 67, 68, 69, 70, 71, 72, 73, 74, 75, 76] (by decide +kernel) (by decide +kernel)
set_option maxRecDepth 20000 in
theorem gX7_slope_X7_fail : GoodIn wsX7_slope (wsV RX7 75 RX7 yX7_fail wsX7_fail) := goodIn_app (goodIn_of _ (by decide +kernel)) ggX7_slope_X7_fail
set_option maxRecDepth 20000 in
theorem ggX7_slope_X7_pieceOf : GoodIn wsX7_slope wsX7_pieceOf := goodIn_r _ [19, 8, 2, 62, 63, 64, 65, 66, 67, 68, 69, 70, 71, 72, 73, 74, 75, 76] (by decide +kernel) (by decide +kernel)
set_option maxRecDepth 20000 in
theorem gX7_slope_X7_pieceOf : GoodIn wsX7_slope (wsV RX7 120 RX7 yX7_pieceOf wsX7_pieceOf) := goodIn_app (goodIn_of _ (by decide +kernel)) ggX7_slope_X7_pieceOf
set_option maxRecDepth 20000 in
theorem ggX7_slope_X7_slopeIn : GoodIn wsX7_slope wsX7_slopeIn := goodIn_r _ [23, 24, 25, 26, 27, 28, 6, 29, 8, 30, 31, 32, 33, 34, 35, 36, 37, 38, 39, 40, 41, 42, 43, 44, 2, 45, 46, 47, 48, 49, 50, 51, 52, 53, 54, 55, 56, 57, 58, 59, 60, 61, 62, 63, 64, 65, 66, 67, 68, 69, 70, 71, 72, 73, 74, 75, 76] (by decide +kernel) (by decide +kernel)
set_option maxRecDepth 20000 in
theorem gX7_slope_X7_slopeIn : GoodIn wsX7_slope (wsV RX7 130 RX7 yX7_slopeIn wsX7_slopeIn) := goodIn_app (goodIn_of _ (by decide +kernel)) ggX7_slope_X7_slopeIn
theorem dX7_slope_0 : decode cX7_slope 0 = .ok (.aload_n 0, 1) := by decide +kernel
theorem dX7_slope_1 : decode cX7_slope 1 = .ok (.iconst 0, 1) := by decide +kernel
theorem dX7_slope_2 : decode cX7_slope 2 = .ok (.putfield 48, 3) := by decide +kernel
theorem dX7_slope_5 : decode cX7_slope 5 = .ok (.aload_n 0, 1) := by decide +kernel
