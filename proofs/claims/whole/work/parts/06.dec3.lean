set_option maxRecDepth 20000 in
theorem ggX6_setTail_X6_tailAt : GoodIn wsX6_setTail wsX6_tailAt := goodIn_r _ [24, 25, 26, 30, 31, 32, 33, 34, 35] (by decide +kernel) (by decide +kernel)
set_option maxRecDepth 20000 in
theorem gX6_setTail_X6_tailAt : GoodIn wsX6_setTail (wsV RX6 233 RX6 yX6_tailAt wsX6_tailAt) := goodIn_app (goodIn_of _ (by decide +kernel)) ggX6_setTail_X6_tailAt
theorem dX6_setTail_0 : decode cX6_setTail 0 = .ok (.iload_n 1, 1) := by decide +kernel
theorem dX6_setTail_1 : decode cX6_setTail 1 = .ok (.invokestatic 224, 3) := by decide +kernel
theorem dX6_setTail_4 : decode cX6_setTail 4 = .ok (.dload_n 3, 1) := by decide +kernel
theorem dX6_setTail_5 : decode cX6_setTail 5 = .ok (.invokestatic 49, 3) := by decide +kernel
theorem dX6_setTail_8 : decode cX6_setTail 8 = .ok (.dstore 5, 2) := by decide +kernel
theorem dX6_setTail_10 : decode cX6_setTail 10 = .ok (.iload_n 2, 1) := by decide +kernel
theorem dX6_setTail_11 : decode cX6_setTail 11 = .ok (.ifCond .lt 9, 3) := by decide +kernel
theorem dX6_setTail_14 : decode cX6_setTail 14 = .ok (.iload_n 2, 1) := by decide +kernel
theorem dX6_setTail_15 : decode cX6_setTail 15 = .ok (.bipush 6, 2) := by decide +kernel
theorem dX6_setTail_17 : decode cX6_setTail 17 = .ok (.if_icmp .le 13, 3) := by decide +kernel
theorem dX6_setTail_20 : decode cX6_setTail 20 = .ok (.new 61, 3) := by decide +kernel
theorem dX6_setTail_23 : decode cX6_setTail 23 = .ok (.dup, 1) := by decide +kernel
theorem dX6_setTail_24 : decode cX6_setTail 24 = .ok (.ldc 227, 2) := by decide +kernel
theorem dX6_setTail_26 : decode cX6_setTail 26 = .ok (.invokespecial 65, 3) := by decide +kernel
theorem dX6_setTail_29 : decode cX6_setTail 29 = .ok (.athrow, 1) := by decide +kernel
theorem dX6_setTail_30 : decode cX6_setTail 30 = .ok (.ldc2_w 53, 3) := by decide +kernel
theorem dX6_setTail_33 : decode cX6_setTail 33 = .ok (.ldc2_w 55, 3) := by decide +kernel
theorem dX6_setTail_36 : decode cX6_setTail 36 = .ok (.dload 5, 2) := by decide +kernel
theorem dX6_setTail_38 : decode cX6_setTail 38 = .ok (.invokestatic 57, 3) := by decide +kernel
theorem dX6_setTail_41 : decode cX6_setTail 41 = .ok (.ifCond .ne 13, 3) := by decide +kernel
theorem dX6_setTail_44 : decode cX6_setTail 44 = .ok (.new 61, 3) := by decide +kernel
theorem dX6_setTail_47 : decode cX6_setTail 47 = .ok (.dup, 1) := by decide +kernel
theorem dX6_setTail_48 : decode cX6_setTail 48 = .ok (.ldc 229, 2) := by decide +kernel
theorem dX6_setTail_50 : decode cX6_setTail 50 = .ok (.invokespecial 65, 3) := by decide +kernel
theorem dX6_setTail_53 : decode cX6_setTail 53 = .ok (.athrow, 1) := by decide +kernel
theorem dX6_setTail_54 : decode cX6_setTail 54 = .ok (.iload_n 2, 1) := by decide +kernel
theorem dX6_setTail_55 : decode cX6_setTail 55 = .ok (.iconst 4, 1) := by decide +kernel
theorem dX6_setTail_56 : decode cX6_setTail 56 = .ok (.if_icmp .lt 20, 3) := by decide +kernel
theorem dX6_setTail_59 : decode cX6_setTail 59 = .ok (.dload 5, 2) := by decide +kernel
theorem dX6_setTail_61 : decode cX6_setTail 61 = .ok (.dconst 0, 1) := by decide +kernel
theorem dX6_setTail_62 : decode cX6_setTail 62 = .ok (.dcmp .l, 1) := by decide +kernel
theorem dX6_setTail_63 : decode cX6_setTail 63 = .ok (.ifCond .ne 13, 3) := by decide +kernel
theorem dX6_setTail_66 : decode cX6_setTail 66 = .ok (.new 61, 3) := by decide +kernel
theorem dX6_setTail_69 : decode cX6_setTail 69 = .ok (.dup, 1) := by decide +kernel
theorem dX6_setTail_70 : decode cX6_setTail 70 = .ok (.ldc 231, 2) := by decide +kernel
theorem dX6_setTail_72 : decode cX6_setTail 72 = .ok (.invokespecial 65, 3) := by decide +kernel
theorem dX6_setTail_75 : decode cX6_setTail 75 = .ok (.athrow, 1) := by decide +kernel
theorem dX6_setTail_76 : decode cX6_setTail 76 = .ok (.aload_n 0, 1) := by decide +kernel
theorem dX6_setTail_77 : decode cX6_setTail 77 = .ok (.iload_n 1, 1) := by decide +kernel
theorem dX6_setTail_78 : decode cX6_setTail 78 = .ok (.invokevirtual 233, 3) := by decide +kernel
theorem dX6_setTail_81 : decode cX6_setTail 81 = .ok (.astore 7, 2) := by decide +kernel
theorem dX6_setTail_83 : decode cX6_setTail 83 = .ok (.aload 7, 2) := by decide +kernel
theorem dX6_setTail_85 : decode cX6_setTail 85 = .ok (.getfield 237, 3) := by decide +kernel
theorem dX6_setTail_88 : decode cX6_setTail 88 = .ok (.istore 8, 2) := by decide +kernel
theorem dX6_setTail_90 : decode cX6_setTail 90 = .ok (.aload 7, 2) := by decide +kernel
theorem dX6_setTail_92 : decode cX6_setTail 92 = .ok (.iload_n 2, 1) := by decide +kernel
theorem dX6_setTail_93 : decode cX6_setTail 93 = .ok (.putfield 237, 3) := by decide +kernel
theorem dX6_setTail_96 : decode cX6_setTail 96 = .ok (.aload 7, 2) := by decide +kernel
theorem dX6_setTail_98 : decode cX6_setTail 98 = .ok (.dload 5, 2) := by decide +kernel
theorem dX6_setTail_100 : decode cX6_setTail 100 = .ok (.putfield 240, 3) := by decide +kernel
theorem dX6_setTail_103 : decode cX6_setTail 103 = .ok (.iload 8, 2) := by decide +kernel
theorem dX6_setTail_105 : decode cX6_setTail 105 = .ok (.ireturn, 1) := by decide +kernel
set_option maxRecDepth 20000 in
theorem ggX6_limit_X6_requireEnd : GoodIn wsX6_limit wsX6_requireEnd := goodIn_ca (goodIn_r _ [7, 8, 9] (by decide +kernel) (by decide +kernel)) (goodIn_sub (fun _ h => List.mem_cons_of_mem _ (List.mem_append_right _ h)) (by decide +kernel))
set_option maxRecDepth 20000 in
theorem gX6_limit_X6_requireEnd : GoodIn wsX6_limit (va_wsS RX6 224 yX6_requireEnd wsX6_requireEnd) := goodIn_app (goodIn_of _ (by decide +kernel)) ggX6_limit_X6_requireEnd
set_option maxRecDepth 20000 in
theorem ggX6_limit_X6_tailAt : GoodIn wsX6_limit wsX6_tailAt := goodIn_r _ [13, 14, 15, 40, 41, 42, 43, 44, 45] (by decide +kernel) (by decide +kernel)
set_option maxRecDepth 20000 in
theorem gX6_limit_X6_tailAt : GoodIn wsX6_limit (wsV RX6 233 RX6 yX6_tailAt wsX6_tailAt) := goodIn_app (goodIn_of _ (by decide +kernel)) ggX6_limit_X6_tailAt
set_option maxRecDepth 20000 in
theorem ggX6_limit_X4_get : GoodIn wsX6_limit wsX4_get := goodIn_r _ [20, 21, 50] (by decide +kernel) (by decide +kernel)
set_option maxRecDepth 20000 in
theorem gX6_limit_X4_get : GoodIn wsX6_limit (wsV RX6 104 RX4 yX4_get wsX4_get) := goodIn_app (goodIn_of _ (by decide +kernel)) ggX6_limit_X4_get
set_option maxRecDepth 20000 in
theorem ggX6_limit_X5_limitFrom : GoodIn wsX6_limit wsX5_limitFrom := goodIn_r _ [26, 27, 28, 29, 30, 31, 32, 33, 34, 25, 35, 36, 37, 38, 39, 51, 52, 53] (by decide +kernel) (by decide +kernel)
set_option maxRecDepth 20000 in
theorem gX6_limit_X5_limitFrom : GoodIn wsX6_limit (wsV RX6 246 RX5 yX5_limitFrom wsX5_limitFrom) := goodIn_app (goodIn_of _ (by decide +kernel)) ggX6_limit_X5_limitFrom
theorem dX6_limit_0 : decode cX6_limit 0 = .ok (.iload_n 1, 1) := by decide +kernel
theorem dX6_limit_1 : decode cX6_limit 1 = .ok (.invokestatic 224, 3) := by decide +kernel
theorem dX6_limit_4 : decode cX6_limit 4 = .ok (.aload_n 0, 1) := by decide +kernel
theorem dX6_limit_5 : decode cX6_limit 5 = .ok (.getfield 26, 3) := by decide +kernel
theorem dX6_limit_8 : decode cX6_limit 8 = .ok (.getfield 136, 3) := by decide +kernel
theorem dX6_limit_11 : decode cX6_limit 11 = .ok (.ifCond .ne 13, 3) := by decide +kernel
theorem dX6_limit_14 : decode cX6_limit 14 = .ok (.new 84, 3) := by decide +kernel
theorem dX6_limit_17 : decode cX6_limit 17 = .ok (.dup, 1) := by decide +kernel
theorem dX6_limit_18 : decode cX6_limit 18 = .ok (.ldc 244, 2) := by decide +kernel
theorem dX6_limit_20 : decode cX6_limit 20 = .ok (.invokespecial 88, 3) := by decide +kernel
theorem dX6_limit_23 : decode cX6_limit 23 = .ok (.athrow, 1) := by decide +kernel
theorem dX6_limit_24 : decode cX6_limit 24 = .ok (.iload_n 1, 1) := by decide +kernel
theorem dX6_limit_25 : decode cX6_limit 25 = .ok (.ifCond .ne 7, 3) := by decide +kernel
theorem dX6_limit_28 : decode cX6_limit 28 = .ok (.iconst 0, 1) := by decide +kernel
theorem dX6_limit_29 : decode cX6_limit 29 = .ok (.goto 12, 3) := by decide +kernel
theorem dX6_limit_32 : decode cX6_limit 32 = .ok (.aload_n 0, 1) := by decide +kernel
theorem dX6_limit_33 : decode cX6_limit 33 = .ok (.getfield 26, 3) := by decide +kernel
theorem dX6_limit_36 : decode cX6_limit 36 = .ok (.getfield 136, 3) := by decide +kernel
theorem dX6_limit_39 : decode cX6_limit 39 = .ok (.iconst 1, 1) := by decide +kernel
theorem dX6_limit_40 : decode cX6_limit 40 = .ok (.isub, 1) := by decide +kernel
theorem dX6_limit_41 : decode cX6_limit 41 = .ok (.istore_n 2, 1) := by decide +kernel
theorem dX6_limit_42 : decode cX6_limit 42 = .ok (.aload_n 0, 1) := by decide +kernel
theorem dX6_limit_43 : decode cX6_limit 43 = .ok (.iload_n 1, 1) := by decide +kernel
theorem dX6_limit_44 : decode cX6_limit 44 = .ok (.invokevirtual 233, 3) := by decide +kernel
theorem dX6_limit_47 : decode cX6_limit 47 = .ok (.aload_n 0, 1) := by decide +kernel
theorem dX6_limit_48 : decode cX6_limit 48 = .ok (.getfield 26, 3) := by decide +kernel
theorem dX6_limit_51 : decode cX6_limit 51 = .ok (.getfield 147, 3) := by decide +kernel
theorem dX6_limit_54 : decode cX6_limit 54 = .ok (.iload_n 2, 1) := by decide +kernel
theorem dX6_limit_55 : decode cX6_limit 55 = .ok (.invokevirtual 104, 3) := by decide +kernel
theorem dX6_limit_58 : decode cX6_limit 58 = .ok (.invokevirtual 246, 3) := by decide +kernel
theorem dX6_limit_61 : decode cX6_limit 61 = .ok (.dreturn, 1) := by decide +kernel
theorem dX6_tailAt_0 : decode cX6_tailAt 0 = .ok (.iload_n 1, 1) := by decide +kernel
theorem dX6_tailAt_1 : decode cX6_tailAt 1 = .ok (.ifCond .ne 10, 3) := by decide +kernel
theorem dX6_tailAt_4 : decode cX6_tailAt 4 = .ok (.aload_n 0, 1) := by decide +kernel
theorem dX6_tailAt_5 : decode cX6_tailAt 5 = .ok (.getfield 42, 3) := by decide +kernel
theorem dX6_tailAt_8 : decode cX6_tailAt 8 = .ok (.goto 7, 3) := by decide +kernel
theorem dX6_tailAt_11 : decode cX6_tailAt 11 = .ok (.aload_n 0, 1) := by decide +kernel
theorem dX6_tailAt_12 : decode cX6_tailAt 12 = .ok (.getfield 46, 3) := by decide +kernel
theorem dX6_tailAt_15 : decode cX6_tailAt 15 = .ok (.areturn, 1) := by decide +kernel
set_option maxRecDepth 20000 in
theorem ggX6_digest_X4_get : GoodIn wsX6_digest wsX4_get := goodIn_r _ [11, 12, 74] (by decide +kernel) (by decide +kernel)
set_option maxRecDepth 20000 in
theorem gX6_digest_X4_get : GoodIn wsX6_digest (wsV RX6 104 RX4 yX4_get wsX4_get) := goodIn_app (goodIn_of _ (by decide +kernel)) ggX6_digest_X4_get
set_option maxRecDepth 20000 in
theorem ggX6_digest_X6_bitsOf : GoodIn wsX6_digest wsX6_bitsOf := goodIn_r _ [16, 17, 18, 19, 20, 21, 22, 23, 24, 15, 25] (by decide +kernel) (by decide +kernel)
set_option maxRecDepth 20000 in
theorem gX6_digest_X6_bitsOf : GoodIn wsX6_digest (va_wsS RX6 253 yX6_bitsOf wsX6_bitsOf) := goodIn_app (goodIn_of _ (by decide +kernel)) ggX6_digest_X6_bitsOf
set_option maxRecDepth 20000 in
theorem ggX6_digest_X1_slopeOf : GoodIn wsX6_digest wsX1_slopeOf := goodIn_r _ [30, 31, 32, 33, 34, 35, 36, 29, 37, 38, 39, 8, 9, 10, 11, 12, 40, 41, 42, 43, 44, 45, 15, 46, 47, 48, 49, 50, 51, 52, 53, 54, 55, 67, 68, 69, 70, 74] (by decide +kernel) (by decide +kernel)
set_option maxRecDepth 20000 in
theorem gX6_digest_X1_slopeOf : GoodIn wsX6_digest (wsV RX6 148 RX1 yX1_slopeOf wsX1_slopeOf) := goodIn_app (goodIn_of _ (by decide +kernel)) ggX6_digest_X1_slopeOf
set_option maxRecDepth 20000 in
theorem ggX6_digest_X1_hasFixedSlope : GoodIn wsX6_digest wsX1_hasFixedSlope := goodIn_r _ [50, 33, 39, 8, 9, 10, 11, 12, 67, 68, 69, 70, 74] (by decide +kernel) (by decide +kernel)
set_option maxRecDepth 20000 in
theorem gX6_digest_X1_hasFixedSlope : GoodIn wsX6_digest (wsV RX6 151 RX1 yX1_hasFixedSlope wsX1_hasFixedSlope) := goodIn_app (goodIn_of _ (by decide +kernel)) ggX6_digest_X1_hasFixedSlope
theorem dX6_digest_0 : decode cX6_digest 0 = .ok (.ldc2_w 249, 3) := by decide +kernel
theorem dX6_digest_3 : decode cX6_digest 3 = .ok (.lstore_n 1, 1) := by decide +kernel
theorem dX6_digest_4 : decode cX6_digest 4 = .ok (.lload_n 1, 1) := by decide +kernel
theorem dX6_digest_5 : decode cX6_digest 5 = .ok (.ldc2_w 251, 3) := by decide +kernel
theorem dX6_digest_8 : decode cX6_digest 8 = .ok (.lmul, 1) := by decide +kernel
theorem dX6_digest_9 : decode cX6_digest 9 = .ok (.aload_n 0, 1) := by decide +kernel
theorem dX6_digest_10 : decode cX6_digest 10 = .ok (.getfield 10, 3) := by decide +kernel
theorem dX6_digest_13 : decode cX6_digest 13 = .ok (.getfield 80, 3) := by decide +kernel
theorem dX6_digest_16 : decode cX6_digest 16 = .ok (.i2l, 1) := by decide +kernel
theorem dX6_digest_17 : decode cX6_digest 17 = .ok (.ladd, 1) := by decide +kernel
theorem dX6_digest_18 : decode cX6_digest 18 = .ok (.lstore_n 1, 1) := by decide +kernel
theorem dX6_digest_19 : decode cX6_digest 19 = .ok (.lload_n 1, 1) := by decide +kernel
theorem dX6_digest_20 : decode cX6_digest 20 = .ok (.ldc2_w 251, 3) := by decide +kernel
theorem dX6_digest_23 : decode cX6_digest 23 = .ok (.lmul, 1) := by decide +kernel
theorem dX6_digest_24 : decode cX6_digest 24 = .ok (.aload_n 0, 1) := by decide +kernel
theorem dX6_digest_25 : decode cX6_digest 25 = .ok (.getfield 26, 3) := by decide +kernel
theorem dX6_digest_28 : decode cX6_digest 28 = .ok (.getfield 136, 3) := by decide +kernel
theorem dX6_digest_31 : decode cX6_digest 31 = .ok (.i2l, 1) := by decide +kernel
theorem dX6_digest_32 : decode cX6_digest 32 = .ok (.ladd, 1) := by decide +kernel
theorem dX6_digest_33 : decode cX6_digest 33 = .ok (.lstore_n 1, 1) := by decide +kernel
theorem dX6_digest_34 : decode cX6_digest 34 = .ok (.iconst 0, 1) := by decide +kernel
theorem dX6_digest_35 : decode cX6_digest 35 = .ok (.istore_n 3, 1) := by decide +kernel
theorem dX6_digest_36 : decode cX6_digest 36 = .ok (.iload_n 3, 1) := by decide +kernel
theorem dX6_digest_37 : decode cX6_digest 37 = .ok (.aload_n 0, 1) := by decide +kernel
theorem dX6_digest_38 : decode cX6_digest 38 = .ok (.getfield 26, 3) := by decide +kernel
theorem dX6_digest_41 : decode cX6_digest 41 = .ok (.getfield 136, 3) := by decide +kernel
theorem dX6_digest_44 : decode cX6_digest 44 = .ok (.if_icmp .ge 92, 3) := by decide +kernel
theorem dX6_digest_47 : decode cX6_digest 47 = .ok (.lload_n 1, 1) := by decide +kernel
theorem dX6_digest_48 : decode cX6_digest 48 = .ok (.ldc2_w 251, 3) := by decide +kernel
theorem dX6_digest_51 : decode cX6_digest 51 = .ok (.lmul, 1) := by decide +kernel
theorem dX6_digest_52 : decode cX6_digest 52 = .ok (.aload_n 0, 1) := by decide +kernel
theorem dX6_digest_53 : decode cX6_digest 53 = .ok (.getfield 26, 3) := by decide +kernel
theorem dX6_digest_56 : decode cX6_digest 56 = .ok (.getfield 146, 3) := by decide +kernel
theorem dX6_digest_59 : decode cX6_digest 59 = .ok (.iload_n 3, 1) := by decide +kernel
theorem dX6_digest_60 : decode cX6_digest 60 = .ok (.invokevirtual 104, 3) := by decide +kernel
theorem dX6_digest_63 : decode cX6_digest 63 = .ok (.invokestatic 253, 3) := by decide +kernel
theorem dX6_digest_66 : decode cX6_digest 66 = .ok (.ladd, 1) := by decide +kernel
theorem dX6_digest_67 : decode cX6_digest 67 = .ok (.lstore_n 1, 1) := by decide +kernel
theorem dX6_digest_68 : decode cX6_digest 68 = .ok (.lload_n 1, 1) := by decide +kernel
theorem dX6_digest_69 : decode cX6_digest 69 = .ok (.ldc2_w 251, 3) := by decide +kernel
theorem dX6_digest_72 : decode cX6_digest 72 = .ok (.lmul, 1) := by decide +kernel
theorem dX6_digest_73 : decode cX6_digest 73 = .ok (.aload_n 0, 1) := by decide +kernel
theorem dX6_digest_74 : decode cX6_digest 74 = .ok (.getfield 26, 3) := by decide +kernel
theorem dX6_digest_77 : decode cX6_digest 77 = .ok (.getfield 147, 3) := by decide +kernel
theorem dX6_digest_80 : decode cX6_digest 80 = .ok (.iload_n 3, 1) := by decide +kernel
theorem dX6_digest_81 : decode cX6_digest 81 = .ok (.invokevirtual 104, 3) := by decide +kernel
theorem dX6_digest_84 : decode cX6_digest 84 = .ok (.invokestatic 253, 3) := by decide +kernel
theorem dX6_digest_87 : decode cX6_digest 87 = .ok (.ladd, 1) := by decide +kernel
theorem dX6_digest_88 : decode cX6_digest 88 = .ok (.lstore_n 1, 1) := by decide +kernel
theorem dX6_digest_89 : decode cX6_digest 89 = .ok (.lload_n 1, 1) := by decide +kernel
theorem dX6_digest_90 : decode cX6_digest 90 = .ok (.ldc2_w 251, 3) := by decide +kernel
theorem dX6_digest_93 : decode cX6_digest 93 = .ok (.lmul, 1) := by decide +kernel
theorem dX6_digest_94 : decode cX6_digest 94 = .ok (.aload_n 0, 1) := by decide +kernel
theorem dX6_digest_95 : decode cX6_digest 95 = .ok (.getfield 26, 3) := by decide +kernel
theorem dX6_digest_98 : decode cX6_digest 98 = .ok (.iload_n 3, 1) := by decide +kernel
theorem dX6_digest_99 : decode cX6_digest 99 = .ok (.invokevirtual 148, 3) := by decide +kernel
theorem dX6_digest_102 : decode cX6_digest 102 = .ok (.invokestatic 253, 3) := by decide +kernel
theorem dX6_digest_105 : decode cX6_digest 105 = .ok (.ladd, 1) := by decide +kernel
theorem dX6_digest_106 : decode cX6_digest 106 = .ok (.lstore_n 1, 1) := by decide +kernel
theorem dX6_digest_107 : decode cX6_digest 107 = .ok (.lload_n 1, 1) := by decide +kernel
theorem dX6_digest_108 : decode cX6_digest 108 = .ok (.ldc2_w 251, 3) := by decide +kernel
theorem dX6_digest_111 : decode cX6_digest 111 = .ok (.lmul, 1) := by decide +kernel
theorem dX6_digest_112 : decode cX6_digest 112 = .ok (.aload_n 0, 1) := by decide +kernel
theorem dX6_digest_113 : decode cX6_digest 113 = .ok (.getfield 26, 3) := by decide +kernel
theorem dX6_digest_116 : decode cX6_digest 116 = .ok (.iload_n 3, 1) := by decide +kernel
theorem dX6_digest_117 : decode cX6_digest 117 = .ok (.invokevirtual 151, 3) := by decide +kernel
theorem dX6_digest_120 : decode cX6_digest 120 = .ok (.ifCond .eq 7, 3) := by decide +kernel
theorem dX6_digest_123 : decode cX6_digest 123 = .ok (.lconst 1, 1) := by decide +kernel
theorem dX6_digest_124 : decode cX6_digest 124 = .ok (.goto 4, 3) := by decide +kernel
theorem dX6_digest_127 : decode cX6_digest 127 = .ok (.lconst 0, 1) := by decide +kernel
theorem dX6_digest_128 : decode cX6_digest 128 = .ok (.ladd, 1) := by decide +kernel
theorem dX6_digest_129 : decode cX6_digest 129 = .ok (.lstore_n 1, 1) := by decide +kernel
theorem dX6_digest_130 : decode cX6_digest 130 = .ok (.iinc 3 1, 3) := by decide +kernel
theorem dX6_digest_133 : decode cX6_digest 133 = .ok (.goto (-97), 3) := by decide +kernel
theorem dX6_digest_136 : decode cX6_digest 136 = .ok (.lload_n 1, 1) := by decide +kernel
theorem dX6_digest_137 : decode cX6_digest 137 = .ok (.ldc2_w 251, 3) := by decide +kernel
theorem dX6_digest_140 : decode cX6_digest 140 = .ok (.lmul, 1) := by decide +kernel
theorem dX6_digest_141 : decode cX6_digest 141 = .ok (.aload_n 0, 1) := by decide +kernel
theorem dX6_digest_142 : decode cX6_digest 142 = .ok (.getfield 42, 3) := by decide +kernel
theorem dX6_digest_145 : decode cX6_digest 145 = .ok (.getfield 237, 3) := by decide +kernel
theorem dX6_digest_148 : decode cX6_digest 148 = .ok (.i2l, 1) := by decide +kernel
theorem dX6_digest_149 : decode cX6_digest 149 = .ok (.ladd, 1) := by decide +kernel
theorem dX6_digest_150 : decode cX6_digest 150 = .ok (.lstore_n 1, 1) := by decide +kernel
theorem dX6_digest_151 : decode cX6_digest 151 = .ok (.lload_n 1, 1) := by decide +kernel
theorem dX6_digest_152 : decode cX6_digest 152 = .ok (.ldc2_w 251, 3) := by decide +kernel
theorem dX6_digest_155 : decode cX6_digest 155 = .ok (.lmul, 1) := by decide +kernel
theorem dX6_digest_156 : decode cX6_digest 156 = .ok (.aload_n 0, 1) := by decide +kernel
theorem dX6_digest_157 : decode cX6_digest 157 = .ok (.getfield 46, 3) := by decide +kernel
theorem dX6_digest_160 : decode cX6_digest 160 = .ok (.getfield 237, 3) := by decide +kernel
theorem dX6_digest_163 : decode cX6_digest 163 = .ok (.i2l, 1) := by decide +kernel
theorem dX6_digest_164 : decode cX6_digest 164 = .ok (.ladd, 1) := by decide +kernel
theorem dX6_digest_165 : decode cX6_digest 165 = .ok (.lstore_n 1, 1) := by decide +kernel
theorem dX6_digest_166 : decode cX6_digest 166 = .ok (.lload_n 1, 1) := by decide +kernel
theorem dX6_digest_167 : decode cX6_digest 167 = .ok (.lreturn, 1) := by decide +kernel
theorem dX6_requirePoint_0 : decode cX6_requirePoint 0 = .ok (.iload_n 1, 1) := by decide +kernel
theorem dX6_requirePoint_1 : decode cX6_requirePoint 1 = .ok (.ifCond .lt 14, 3) := by decide +kernel
theorem dX6_requirePoint_4 : decode cX6_requirePoint 4 = .ok (.iload_n 1, 1) := by decide +kernel
theorem dX6_requirePoint_5 : decode cX6_requirePoint 5 = .ok (.aload_n 0, 1) := by decide +kernel
theorem dX6_requirePoint_6 : decode cX6_requirePoint 6 = .ok (.getfield 10, 3) := by decide +kernel
theorem dX6_requirePoint_9 : decode cX6_requirePoint 9 = .ok (.getfield 80, 3) := by decide +kernel
theorem dX6_requirePoint_12 : decode cX6_requirePoint 12 = .ok (.if_icmp .lt 14, 3) := by decide +kernel
theorem dX6_requirePoint_15 : decode cX6_requirePoint 15 = .ok (.new 257, 3) := by decide +kernel
theorem dX6_requirePoint_18 : decode cX6_requirePoint 18 = .ok (.dup, 1) := by decide +kernel
theorem dX6_requirePoint_19 : decode cX6_requirePoint 19 = .ok (.ldc_w 259, 3) := by decide +kernel
theorem dX6_requirePoint_22 : decode cX6_requirePoint 22 = .ok (.invokespecial 261, 3) := by decide +kernel
theorem dX6_requirePoint_25 : decode cX6_requirePoint 25 = .ok (.athrow, 1) := by decide +kernel
theorem dX6_requirePoint_26 : decode cX6_requirePoint 26 = .ok (.return_, 1) := by decide +kernel
theorem dX6_requireKnot_0 : decode cX6_requireKnot 0 = .ok (.iload_n 1, 1) := by decide +kernel
theorem dX6_requireKnot_1 : decode cX6_requireKnot 1 = .ok (.ifCond .lt 14, 3) := by decide +kernel
theorem dX6_requireKnot_4 : decode cX6_requireKnot 4 = .ok (.iload_n 1, 1) := by decide +kernel
theorem dX6_requireKnot_5 : decode cX6_requireKnot 5 = .ok (.aload_n 0, 1) := by decide +kernel
theorem dX6_requireKnot_6 : decode cX6_requireKnot 6 = .ok (.getfield 26, 3) := by decide +kernel
theorem dX6_requireKnot_9 : decode cX6_requireKnot 9 = .ok (.getfield 136, 3) := by decide +kernel
theorem dX6_requireKnot_12 : decode cX6_requireKnot 12 = .ok (.if_icmp .lt 14, 3) := by decide +kernel
theorem dX6_requireKnot_15 : decode cX6_requireKnot 15 = .ok (.new 257, 3) := by decide +kernel
theorem dX6_requireKnot_18 : decode cX6_requireKnot 18 = .ok (.dup, 1) := by decide +kernel
theorem dX6_requireKnot_19 : decode cX6_requireKnot 19 = .ok (.ldc_w 262, 3) := by decide +kernel
theorem dX6_requireKnot_22 : decode cX6_requireKnot 22 = .ok (.invokespecial 261, 3) := by decide +kernel
theorem dX6_requireKnot_25 : decode cX6_requireKnot 25 = .ok (.athrow, 1) := by decide +kernel
theorem dX6_requireKnot_26 : decode cX6_requireKnot 26 = .ok (.return_, 1) := by decide +kernel
set_option maxRecDepth 20000 in
theorem ggX6_requireOnSpline_X1_spansPlace : GoodIn wsX6_requireOnSpline wsX1_spansPlace := goodIn_r _ [8, 9, 10, 11, 12, 13, 14, 15, 16, 17, 18, 19, 26, 27, 28, 29, 30] (by decide +kernel) (by decide +kernel)
set_option maxRecDepth 20000 in
theorem gX6_requireOnSpline_X1_spansPlace : GoodIn wsX6_requireOnSpline (wsV RX6 264 RX1 yX1_spansPlace wsX1_spansPlace) := goodIn_app (goodIn_of _ (by decide +kernel)) ggX6_requireOnSpline_X1_spansPlace
theorem dX6_requireOnSpline_0 : decode cX6_requireOnSpline 0 = .ok (.aload_n 0, 1) := by decide +kernel
theorem dX6_requireOnSpline_1 : decode cX6_requireOnSpline 1 = .ok (.getfield 26, 3) := by decide +kernel
theorem dX6_requireOnSpline_4 : decode cX6_requireOnSpline 4 = .ok (.dload_n 1, 1) := by decide +kernel
theorem dX6_requireOnSpline_5 : decode cX6_requireOnSpline 5 = .ok (.invokevirtual 264, 3) := by decide +kernel
theorem dX6_requireOnSpline_8 : decode cX6_requireOnSpline 8 = .ok (.ifCond .ne 14, 3) := by decide +kernel
theorem dX6_requireOnSpline_11 : decode cX6_requireOnSpline 11 = .ok (.new 61, 3) := by decide +kernel
theorem dX6_requireOnSpline_14 : decode cX6_requireOnSpline 14 = .ok (.dup, 1) := by decide +kernel
theorem dX6_requireOnSpline_15 : decode cX6_requireOnSpline 15 = .ok (.ldc_w 267, 3) := by decide +kernel
theorem dX6_requireOnSpline_18 : decode cX6_requireOnSpline 18 = .ok (.invokespecial 65, 3) := by decide +kernel
theorem dX6_requireOnSpline_21 : decode cX6_requireOnSpline 21 = .ok (.athrow, 1) := by decide +kernel
theorem dX6_requireOnSpline_22 : decode cX6_requireOnSpline 22 = .ok (.return_, 1) := by decide +kernel
theorem dX6_requireEnd_0 : decode cX6_requireEnd 0 = .ok (.iload_n 0, 1) := by decide +kernel
theorem dX6_requireEnd_1 : decode cX6_requireEnd 1 = .ok (.ifCond .eq 19, 3) := by decide +kernel
theorem dX6_requireEnd_4 : decode cX6_requireEnd 4 = .ok (.iload_n 0, 1) := by decide +kernel
theorem dX6_requireEnd_5 : decode cX6_requireEnd 5 = .ok (.iconst 1, 1) := by decide +kernel
theorem dX6_requireEnd_6 : decode cX6_requireEnd 6 = .ok (.if_icmp .eq 14, 3) := by decide +kernel
theorem dX6_requireEnd_9 : decode cX6_requireEnd 9 = .ok (.new 257, 3) := by decide +kernel
theorem dX6_requireEnd_12 : decode cX6_requireEnd 12 = .ok (.dup, 1) := by decide +kernel
theorem dX6_requireEnd_13 : decode cX6_requireEnd 13 = .ok (.ldc_w 269, 3) := by decide +kernel
theorem dX6_requireEnd_16 : decode cX6_requireEnd 16 = .ok (.invokespecial 261, 3) := by decide +kernel
theorem dX6_requireEnd_19 : decode cX6_requireEnd 19 = .ok (.athrow, 1) := by decide +kernel
theorem dX6_requireEnd_20 : decode cX6_requireEnd 20 = .ok (.return_, 1) := by decide +kernel
set_option maxRecDepth 20000 in
theorem ggX6_layPiece_X4_get : GoodIn wsX6_layPiece wsX4_get := goodIn_r _ [7, 8, 68] (by decide +kernel) (by decide +kernel)
set_option maxRecDepth 20000 in
theorem gX6_layPiece_X4_get : GoodIn wsX6_layPiece (wsV RX6 104 RX4 yX4_get wsX4_get) := goodIn_app (goodIn_of _ (by decide +kernel)) ggX6_layPiece_X4_get
set_option maxRecDepth 20000 in
theorem ggX6_layPiece_X2_startAt : GoodIn wsX6_layPiece wsX2_startAt := goodIn_r _ [13, 14, 15, 69, 70, 71, 72, 73] (by decide +kernel) (by decide +kernel)
set_option maxRecDepth 20000 in
theorem gX6_layPiece_X2_startAt : GoodIn wsX6_layPiece (wsV RX6 271 RX2 yX2_startAt wsX2_startAt) := goodIn_app (goodIn_of _ (by decide +kernel)) ggX6_layPiece_X2_startAt
set_option maxRecDepth 20000 in
theorem ggX6_layPiece_X1_widthOf : GoodIn wsX6_layPiece wsX1_widthOf := goodIn_r _ [20, 21, 22, 4, 5, 6, 7, 8, 64, 65, 66, 67, 68] (by decide +kernel) (by decide +kernel)
set_option maxRecDepth 20000 in
theorem gX6_layPiece_X1_widthOf : GoodIn wsX6_layPiece (wsV RX6 274 RX1 yX1_widthOf wsX1_widthOf) := goodIn_app (goodIn_of _ (by decide +kernel)) ggX6_layPiece_X1_widthOf
set_option maxRecDepth 20000 in
theorem ggX6_layPiece_X1_riseOf : GoodIn wsX6_layPiece wsX1_riseOf := goodIn_r _ [26, 27, 22, 4, 5, 6, 7, 8, 28, 17, 18, 19, 20, 21, 29, 30, 31, 64, 65, 66, 67, 68] (by decide +kernel) (by decide +kernel)
set_option maxRecDepth 20000 in
theorem gX6_layPiece_X1_riseOf : GoodIn wsX6_layPiece (wsV RX6 221 RX1 yX1_riseOf wsX1_riseOf) := goodIn_app (goodIn_of _ (by decide +kernel)) ggX6_layPiece_X1_riseOf
set_option maxRecDepth 20000 in
theorem ggX6_layPiece_X1_slopeOf : GoodIn wsX6_layPiece wsX1_slopeOf := goodIn_r _ [35, 36, 37, 38, 39, 24, 25, 19, 26, 27, 22, 4, 5, 6, 7, 8, 28, 17, 18, 20, 21, 29, 30, 31, 40, 41, 42, 43, 44, 45, 46, 47, 48, 64, 65, 66, 67, 68] (by decide +kernel) (by decide +kernel)
set_option maxRecDepth 20000 in
theorem gX6_layPiece_X1_slopeOf : GoodIn wsX6_layPiece (wsV RX6 148 RX1 yX1_slopeOf wsX1_slopeOf) := goodIn_app (goodIn_of _ (by decide +kernel)) ggX6_layPiece_X1_slopeOf
set_option maxRecDepth 20000 in
theorem ggX6_layPiece_X2_bend : GoodIn wsX6_layPiece wsX2_bend := goodIn_r _ [52, 53, 54, 55, 56, 57, 29, 30, 31, 69, 70, 71, 72, 73] (by decide +kernel) (by decide +kernel)
set_option maxRecDepth 20000 in
theorem gX6_layPiece_X2_bend : GoodIn wsX6_layPiece (wsV RX6 277 RX2 yX2_bend wsX2_bend) := goodIn_app (goodIn_of _ (by decide +kernel)) ggX6_layPiece_X2_bend
theorem dX6_layPiece_0 : decode cX6_layPiece 0 = .ok (.aload_n 0, 1) := by decide +kernel
theorem dX6_layPiece_1 : decode cX6_layPiece 1 = .ok (.getfield 33, 3) := by decide +kernel
theorem dX6_layPiece_4 : decode cX6_layPiece 4 = .ok (.aload_n 0, 1) := by decide +kernel
theorem dX6_layPiece_5 : decode cX6_layPiece 5 = .ok (.getfield 26, 3) := by decide +kernel
theorem dX6_layPiece_8 : decode cX6_layPiece 8 = .ok (.getfield 146, 3) := by decide +kernel
theorem dX6_layPiece_11 : decode cX6_layPiece 11 = .ok (.iload_n 1, 1) := by decide +kernel
theorem dX6_layPiece_12 : decode cX6_layPiece 12 = .ok (.invokevirtual 104, 3) := by decide +kernel
theorem dX6_layPiece_15 : decode cX6_layPiece 15 = .ok (.aload_n 0, 1) := by decide +kernel
theorem dX6_layPiece_16 : decode cX6_layPiece 16 = .ok (.getfield 26, 3) := by decide +kernel
theorem dX6_layPiece_19 : decode cX6_layPiece 19 = .ok (.getfield 147, 3) := by decide +kernel
theorem dX6_layPiece_22 : decode cX6_layPiece 22 = .ok (.iload_n 1, 1) := by decide +kernel
theorem dX6_layPiece_23 : decode cX6_layPiece 23 = .ok (.invokevirtual 104, 3) := by decide +kernel
theorem dX6_layPiece_26 : decode cX6_layPiece 26 = .ok (.invokevirtual 271, 3) := by decide +kernel
theorem dX6_layPiece_29 : decode cX6_layPiece 29 = .ok (.aload_n 0, 1) := by decide +kernel
theorem dX6_layPiece_30 : decode cX6_layPiece 30 = .ok (.getfield 33, 3) := by decide +kernel
theorem dX6_layPiece_33 : decode cX6_layPiece 33 = .ok (.aload_n 0, 1) := by decide +kernel
theorem dX6_layPiece_34 : decode cX6_layPiece 34 = .ok (.getfield 26, 3) := by decide +kernel
theorem dX6_layPiece_37 : decode cX6_layPiece 37 = .ok (.iload_n 1, 1) := by decide +kernel
theorem dX6_layPiece_38 : decode cX6_layPiece 38 = .ok (.invokevirtual 274, 3) := by decide +kernel
theorem dX6_layPiece_41 : decode cX6_layPiece 41 = .ok (.aload_n 0, 1) := by decide +kernel
theorem dX6_layPiece_42 : decode cX6_layPiece 42 = .ok (.getfield 26, 3) := by decide +kernel
theorem dX6_layPiece_45 : decode cX6_layPiece 45 = .ok (.iload_n 1, 1) := by decide +kernel
theorem dX6_layPiece_46 : decode cX6_layPiece 46 = .ok (.invokevirtual 221, 3) := by decide +kernel
theorem dX6_layPiece_49 : decode cX6_layPiece 49 = .ok (.aload_n 0, 1) := by decide +kernel
theorem dX6_layPiece_50 : decode cX6_layPiece 50 = .ok (.getfield 26, 3) := by decide +kernel
theorem dX6_layPiece_53 : decode cX6_layPiece 53 = .ok (.iload_n 1, 1) := by decide +kernel
theorem dX6_layPiece_54 : decode cX6_layPiece 54 = .ok (.invokevirtual 148, 3) := by decide +kernel
theorem dX6_layPiece_57 : decode cX6_layPiece 57 = .ok (.aload_n 0, 1) := by decide +kernel
theorem dX6_layPiece_58 : decode cX6_layPiece 58 = .ok (.getfield 26, 3) := by decide +kernel
theorem dX6_layPiece_61 : decode cX6_layPiece 61 = .ok (.iload_n 1, 1) := by decide +kernel
theorem dX6_layPiece_62 : decode cX6_layPiece 62 = .ok (.iconst 1, 1) := by decide +kernel
theorem dX6_layPiece_63 : decode cX6_layPiece 63 = .ok (.iadd, 1) := by decide +kernel
theorem dX6_layPiece_64 : decode cX6_layPiece 64 = .ok (.invokevirtual 148, 3) := by decide +kernel
theorem dX6_layPiece_67 : decode cX6_layPiece 67 = .ok (.invokevirtual 277, 3) := by decide +kernel
theorem dX6_layPiece_70 : decode cX6_layPiece 70 = .ok (.return_, 1) := by decide +kernel
theorem dX6_isFrom_0 : decode cX6_isFrom 0 = .ok (.dload 4, 2) := by decide +kernel
theorem dX6_isFrom_2 : decode cX6_isFrom 2 = .ok (.dload_n 0, 1) := by decide +kernel
theorem dX6_isFrom_3 : decode cX6_isFrom 3 = .ok (.dcmp .l, 1) := by decide +kernel
theorem dX6_isFrom_4 : decode cX6_isFrom 4 = .ok (.ifCond .lt 14, 3) := by decide +kernel
theorem dX6_isFrom_7 : decode cX6_isFrom 7 = .ok (.dload 4, 2) := by decide +kernel
theorem dX6_isFrom_9 : decode cX6_isFrom 9 = .ok (.dload_n 2, 1) := by decide +kernel
theorem dX6_isFrom_10 : decode cX6_isFrom 10 = .ok (.dcmp .g, 1) := by decide +kernel
theorem dX6_isFrom_11 : decode cX6_isFrom 11 = .ok (.ifCond .gt 7, 3) := by decide +kernel
theorem dX6_isFrom_14 : decode cX6_isFrom 14 = .ok (.iconst 1, 1) := by decide +kernel
theorem dX6_isFrom_15 : decode cX6_isFrom 15 = .ok (.goto 4, 3) := by decide +kernel
theorem dX6_isFrom_18 : decode cX6_isFrom 18 = .ok (.iconst 0, 1) := by decide +kernel
theorem dX6_isFrom_19 : decode cX6_isFrom 19 = .ok (.ireturn, 1) := by decide +kernel
theorem dX6_within_0 : decode cX6_within 0 = .ok (.dload 4, 2) := by decide +kernel
theorem dX6_within_2 : decode cX6_within 2 = .ok (.dload_n 0, 1) := by decide +kernel
theorem dX6_within_3 : decode cX6_within 3 = .ok (.dcmp .g, 1) := by decide +kernel
theorem dX6_within_4 : decode cX6_within 4 = .ok (.ifCond .ge 5, 3) := by decide +kernel
theorem dX6_within_7 : decode cX6_within 7 = .ok (.dload_n 0, 1) := by decide +kernel
theorem dX6_within_8 : decode cX6_within 8 = .ok (.dreturn, 1) := by decide +kernel
theorem dX6_within_9 : decode cX6_within 9 = .ok (.dload 4, 2) := by decide +kernel
theorem dX6_within_11 : decode cX6_within 11 = .ok (.dload_n 2, 1) := by decide +kernel
theorem dX6_within_12 : decode cX6_within 12 = .ok (.dcmp .l, 1) := by decide +kernel
theorem dX6_within_13 : decode cX6_within 13 = .ok (.ifCond .le 7, 3) := by decide +kernel
theorem dX6_within_16 : decode cX6_within 16 = .ok (.dload_n 2, 1) := by decide +kernel
theorem dX6_within_17 : decode cX6_within 17 = .ok (.goto 5, 3) := by decide +kernel
theorem dX6_within_20 : decode cX6_within 20 = .ok (.dload 4, 2) := by decide +kernel
theorem dX6_within_22 : decode cX6_within 22 = .ok (.dreturn, 1) := by decide +kernel
theorem dX6_magnitude_0 : decode cX6_magnitude 0 = .ok (.dload_n 0, 1) := by decide +kernel
theorem dX6_magnitude_1 : decode cX6_magnitude 1 = .ok (.dconst 0, 1) := by decide +kernel
theorem dX6_magnitude_2 : decode cX6_magnitude 2 = .ok (.dcmp .g, 1) := by decide +kernel
theorem dX6_magnitude_3 : decode cX6_magnitude 3 = .ok (.ifCond .ge 8, 3) := by decide +kernel
theorem dX6_magnitude_6 : decode cX6_magnitude 6 = .ok (.dload_n 0, 1) := by decide +kernel
theorem dX6_magnitude_7 : decode cX6_magnitude 7 = .ok (.dneg, 1) := by decide +kernel
theorem dX6_magnitude_8 : decode cX6_magnitude 8 = .ok (.goto 4, 3) := by decide +kernel
theorem dX6_magnitude_11 : decode cX6_magnitude 11 = .ok (.dload_n 0, 1) := by decide +kernel
theorem dX6_magnitude_12 : decode cX6_magnitude 12 = .ok (.dreturn, 1) := by decide +kernel
set_option maxRecDepth 20000 in
theorem ggX6_settled_X6_magnitude : GoodIn wsX6_settled wsX6_magnitude := goodIn_r _ [5] (by decide +kernel) (by decide +kernel)
set_option maxRecDepth 20000 in
theorem gX6_settled_X6_magnitude : GoodIn wsX6_settled (va_wsS RX6 281 yX6_magnitude wsX6_magnitude) := goodIn_app (goodIn_of _ (by decide +kernel)) ggX6_settled_X6_magnitude
theorem dX6_settled_0 : decode cX6_settled 0 = .ok (.dload_n 0, 1) := by decide +kernel
theorem dX6_settled_1 : decode cX6_settled 1 = .ok (.invokestatic 281, 3) := by decide +kernel
theorem dX6_settled_4 : decode cX6_settled 4 = .ok (.ldc2_w 284, 3) := by decide +kernel
theorem dX6_settled_7 : decode cX6_settled 7 = .ok (.dcmp .g, 1) := by decide +kernel
theorem dX6_settled_8 : decode cX6_settled 8 = .ok (.ifCond .ge 7, 3) := by decide +kernel
theorem dX6_settled_11 : decode cX6_settled 11 = .ok (.dconst 0, 1) := by decide +kernel
theorem dX6_settled_12 : decode cX6_settled 12 = .ok (.goto 4, 3) := by decide +kernel
theorem dX6_settled_15 : decode cX6_settled 15 = .ok (.dload_n 0, 1) := by decide +kernel
theorem dX6_settled_16 : decode cX6_settled 16 = .ok (.dreturn, 1) := by decide +kernel
theorem dX6_ratio_0 : decode cX6_ratio 0 = .ok (.dload_n 2, 1) := by decide +kernel
theorem dX6_ratio_1 : decode cX6_ratio 1 = .ok (.dconst 0, 1) := by decide +kernel
theorem dX6_ratio_2 : decode cX6_ratio 2 = .ok (.dcmp .l, 1) := by decide +kernel
theorem dX6_ratio_3 : decode cX6_ratio 3 = .ok (.ifCond .ne 7, 3) := by decide +kernel
theorem dX6_ratio_6 : decode cX6_ratio 6 = .ok (.dconst 0, 1) := by decide +kernel
theorem dX6_ratio_7 : decode cX6_ratio 7 = .ok (.goto 6, 3) := by decide +kernel
theorem dX6_ratio_10 : decode cX6_ratio 10 = .ok (.dload_n 0, 1) := by decide +kernel
theorem dX6_ratio_11 : decode cX6_ratio 11 = .ok (.dload_n 2, 1) := by decide +kernel
theorem dX6_ratio_12 : decode cX6_ratio 12 = .ok (.ddiv, 1) := by decide +kernel
theorem dX6_ratio_13 : decode cX6_ratio 13 = .ok (.dreturn, 1) := by decide +kernel
set_option maxRecDepth 20000 in
theorem ggX6_bitsOf_X6_magnitude : GoodIn wsX6_bitsOf wsX6_magnitude := goodIn_r _ [10] (by decide +kernel) (by decide +kernel)
set_option maxRecDepth 20000 in
theorem gX6_bitsOf_X6_magnitude : GoodIn wsX6_bitsOf (va_wsS RX6 281 yX6_magnitude wsX6_magnitude) := goodIn_app (goodIn_of _ (by decide +kernel)) ggX6_bitsOf_X6_magnitude
theorem dX6_bitsOf_0 : decode cX6_bitsOf 0 = .ok (.dload_n 0, 1) := by decide +kernel
theorem dX6_bitsOf_1 : decode cX6_bitsOf 1 = .ok (.dconst 0, 1) := by decide +kernel
theorem dX6_bitsOf_2 : decode cX6_bitsOf 2 = .ok (.dcmp .l, 1) := by decide +kernel
theorem dX6_bitsOf_3 : decode cX6_bitsOf 3 = .ok (.ifCond .ne 5, 3) := by decide +kernel
theorem dX6_bitsOf_6 : decode cX6_bitsOf 6 = .ok (.lconst 0, 1) := by decide +kernel
theorem dX6_bitsOf_7 : decode cX6_bitsOf 7 = .ok (.lreturn, 1) := by decide +kernel
theorem dX6_bitsOf_8 : decode cX6_bitsOf 8 = .ok (.dload_n 0, 1) := by decide +kernel
theorem dX6_bitsOf_9 : decode cX6_bitsOf 9 = .ok (.invokestatic 281, 3) := by decide +kernel
theorem dX6_bitsOf_12 : decode cX6_bitsOf 12 = .ok (.dstore_n 2, 1) := by decide +kernel
theorem dX6_bitsOf_13 : decode cX6_bitsOf 13 = .ok (.iconst 0, 1) := by decide +kernel
theorem dX6_bitsOf_14 : decode cX6_bitsOf 14 = .ok (.istore 4, 2) := by decide +kernel
theorem dX6_bitsOf_16 : decode cX6_bitsOf 16 = .ok (.dload_n 2, 1) := by decide +kernel
theorem dX6_bitsOf_17 : decode cX6_bitsOf 17 = .ok (.ldc2_w 286, 3) := by decide +kernel
theorem dX6_bitsOf_20 : decode cX6_bitsOf 20 = .ok (.dcmp .g, 1) := by decide +kernel
theorem dX6_bitsOf_21 : decode cX6_bitsOf 21 = .ok (.ifCond .ge 27, 3) := by decide +kernel
theorem dX6_bitsOf_24 : decode cX6_bitsOf 24 = .ok (.iload 4, 2) := by decide +kernel
theorem dX6_bitsOf_26 : decode cX6_bitsOf 26 = .ok (.sipush (-1058), 3) := by decide +kernel
theorem dX6_bitsOf_29 : decode cX6_bitsOf 29 = .ok (.if_icmp .lt 19, 3) := by decide +kernel
theorem dX6_bitsOf_32 : decode cX6_bitsOf 32 = .ok (.dload_n 2, 1) := by decide +kernel
theorem dX6_bitsOf_33 : decode cX6_bitsOf 33 = .ok (.ldc2_w 288, 3) := by decide +kernel
theorem dX6_bitsOf_36 : decode cX6_bitsOf 36 = .ok (.dmul, 1) := by decide +kernel
theorem dX6_bitsOf_37 : decode cX6_bitsOf 37 = .ok (.dstore_n 2, 1) := by decide +kernel
theorem dX6_bitsOf_38 : decode cX6_bitsOf 38 = .ok (.iload 4, 2) := by decide +kernel
theorem dX6_bitsOf_40 : decode cX6_bitsOf 40 = .ok (.bipush 16, 2) := by decide +kernel
theorem dX6_bitsOf_42 : decode cX6_bitsOf 42 = .ok (.isub, 1) := by decide +kernel
theorem dX6_bitsOf_43 : decode cX6_bitsOf 43 = .ok (.istore 4, 2) := by decide +kernel
theorem dX6_bitsOf_45 : decode cX6_bitsOf 45 = .ok (.goto (-29), 3) := by decide +kernel
theorem dX6_bitsOf_48 : decode cX6_bitsOf 48 = .ok (.dload_n 2, 1) := by decide +kernel
theorem dX6_bitsOf_49 : decode cX6_bitsOf 49 = .ok (.ldc2_w 290, 3) := by decide +kernel
theorem dX6_bitsOf_52 : decode cX6_bitsOf 52 = .ok (.dcmp .g, 1) := by decide +kernel
theorem dX6_bitsOf_53 : decode cX6_bitsOf 53 = .ok (.ifCond .ge 26, 3) := by decide +kernel
theorem dX6_bitsOf_56 : decode cX6_bitsOf 56 = .ok (.iload 4, 2) := by decide +kernel
theorem dX6_bitsOf_58 : decode cX6_bitsOf 58 = .ok (.sipush (-1074), 3) := by decide +kernel
theorem dX6_bitsOf_61 : decode cX6_bitsOf 61 = .ok (.if_icmp .le 18, 3) := by decide +kernel
theorem dX6_bitsOf_64 : decode cX6_bitsOf 64 = .ok (.dload_n 2, 1) := by decide +kernel
theorem dX6_bitsOf_65 : decode cX6_bitsOf 65 = .ok (.ldc2_w 219, 3) := by decide +kernel
theorem dX6_bitsOf_68 : decode cX6_bitsOf 68 = .ok (.dmul, 1) := by decide +kernel
theorem dX6_bitsOf_69 : decode cX6_bitsOf 69 = .ok (.dstore_n 2, 1) := by decide +kernel
theorem dX6_bitsOf_70 : decode cX6_bitsOf 70 = .ok (.iload 4, 2) := by decide +kernel
theorem dX6_bitsOf_72 : decode cX6_bitsOf 72 = .ok (.iconst 1, 1) := by decide +kernel
theorem dX6_bitsOf_73 : decode cX6_bitsOf 73 = .ok (.isub, 1) := by decide +kernel
theorem dX6_bitsOf_74 : decode cX6_bitsOf 74 = .ok (.istore 4, 2) := by decide +kernel
theorem dX6_bitsOf_76 : decode cX6_bitsOf 76 = .ok (.goto (-28), 3) := by decide +kernel
theorem dX6_bitsOf_79 : decode cX6_bitsOf 79 = .ok (.dload_n 2, 1) := by decide +kernel
theorem dX6_bitsOf_80 : decode cX6_bitsOf 80 = .ok (.d2l, 1) := by decide +kernel
theorem dX6_bitsOf_81 : decode cX6_bitsOf 81 = .ok (.lstore 5, 2) := by decide +kernel
theorem dX6_bitsOf_83 : decode cX6_bitsOf 83 = .ok (.lload 5, 2) := by decide +kernel
theorem dX6_bitsOf_85 : decode cX6_bitsOf 85 = .ok (.ldc2_w 292, 3) := by decide +kernel
theorem dX6_bitsOf_88 : decode cX6_bitsOf 88 = .ok (.lcmp, 1) := by decide +kernel
theorem dX6_bitsOf_89 : decode cX6_bitsOf 89 = .ok (.ifCond .lt 18, 3) := by decide +kernel
theorem dX6_bitsOf_92 : decode cX6_bitsOf 92 = .ok (.lload 5, 2) := by decide +kernel
theorem dX6_bitsOf_94 : decode cX6_bitsOf 94 = .ok (.iload 4, 2) := by decide +kernel
theorem dX6_bitsOf_96 : decode cX6_bitsOf 96 = .ok (.sipush 1074, 3) := by decide +kernel
theorem dX6_bitsOf_99 : decode cX6_bitsOf 99 = .ok (.iadd, 1) := by decide +kernel
theorem dX6_bitsOf_100 : decode cX6_bitsOf 100 = .ok (.i2l, 1) := by decide +kernel
theorem dX6_bitsOf_101 : decode cX6_bitsOf 101 = .ok (.bipush 52, 2) := by decide +kernel
theorem dX6_bitsOf_103 : decode cX6_bitsOf 103 = .ok (.lshl, 1) := by decide +kernel
theorem dX6_bitsOf_104 : decode cX6_bitsOf 104 = .ok (.ladd, 1) := by decide +kernel
theorem dX6_bitsOf_105 : decode cX6_bitsOf 105 = .ok (.lstore 5, 2) := by decide +kernel
theorem dX6_bitsOf_107 : decode cX6_bitsOf 107 = .ok (.dload_n 0, 1) := by decide +kernel
theorem dX6_bitsOf_108 : decode cX6_bitsOf 108 = .ok (.dconst 0, 1) := by decide +kernel
theorem dX6_bitsOf_109 : decode cX6_bitsOf 109 = .ok (.dcmp .g, 1) := by decide +kernel
theorem dX6_bitsOf_110 : decode cX6_bitsOf 110 = .ok (.ifCond .ge 12, 3) := by decide +kernel
theorem dX6_bitsOf_113 : decode cX6_bitsOf 113 = .ok (.lload 5, 2) := by decide +kernel
theorem dX6_bitsOf_115 : decode cX6_bitsOf 115 = .ok (.ldc2_w 294, 3) := by decide +kernel
theorem dX6_bitsOf_118 : decode cX6_bitsOf 118 = .ok (.lor, 1) := by decide +kernel
theorem dX6_bitsOf_119 : decode cX6_bitsOf 119 = .ok (.goto 5, 3) := by decide +kernel
theorem dX6_bitsOf_122 : decode cX6_bitsOf 122 = .ok (.lload 5, 2) := by decide +kernel
theorem dX6_bitsOf_124 : decode cX6_bitsOf 124 = .ok (.lreturn, 1) := by decide +kernel
theorem dX7_init_0 : decode cX7_init 0 = .ok (.aload_n 0, 1) := by decide +kernel
theorem dX7_init_1 : decode cX7_init 1 = .ok (.invokespecial 1, 3) := by decide +kernel
theorem dX7_init_4 : decode cX7_init 4 = .ok (.aload_n 0, 1) := by decide +kernel
theorem dX7_init_5 : decode cX7_init 5 = .ok (.bipush 40, 2) := by decide +kernel
theorem dX7_init_7 : decode cX7_init 7 = .ok (.newarray .double, 2) := by decide +kernel
theorem dX7_init_9 : decode cX7_init 9 = .ok (.putfield 9, 3) := by decide +kernel
theorem dX7_init_12 : decode cX7_init 12 = .ok (.aload_n 0, 1) := by decide +kernel
theorem dX7_init_13 : decode cX7_init 13 = .ok (.bipush 40, 2) := by decide +kernel
theorem dX7_init_15 : decode cX7_init 15 = .ok (.newarray .double, 2) := by decide +kernel
theorem dX7_init_17 : decode cX7_init 17 = .ok (.putfield 13, 3) := by decide +kernel
theorem dX7_init_20 : decode cX7_init 20 = .ok (.aload_n 0, 1) := by decide +kernel
theorem dX7_init_21 : decode cX7_init 21 = .ok (.bipush 40, 2) := by decide +kernel
theorem dX7_init_23 : decode cX7_init 23 = .ok (.newarray .double, 2) := by decide +kernel
theorem dX7_init_25 : decode cX7_init 25 = .ok (.putfield 16, 3) := by decide +kernel
theorem dX7_init_28 : decode cX7_init 28 = .ok (.aload_n 0, 1) := by decide +kernel
theorem dX7_init_29 : decode cX7_init 29 = .ok (.bipush 60, 2) := by decide +kernel
theorem dX7_init_31 : decode cX7_init 31 = .ok (.newarray .double, 2) := by decide +kernel
theorem dX7_init_33 : decode cX7_init 33 = .ok (.putfield 19, 3) := by decide +kernel
theorem dX7_init_36 : decode cX7_init 36 = .ok (.aload_n 0, 1) := by decide +kernel
theorem dX7_init_37 : decode cX7_init 37 = .ok (.bipush 60, 2) := by decide +kernel
theorem dX7_init_39 : decode cX7_init 39 = .ok (.newarray .double, 2) := by decide +kernel
theorem dX7_init_41 : decode cX7_init 41 = .ok (.putfield 22, 3) := by decide +kernel
theorem dX7_init_44 : decode cX7_init 44 = .ok (.aload_n 0, 1) := by decide +kernel
theorem dX7_init_45 : decode cX7_init 45 = .ok (.bipush 60, 2) := by decide +kernel
theorem dX7_init_47 : decode cX7_init 47 = .ok (.newarray .boolean, 2) := by decide +kernel
theorem dX7_init_49 : decode cX7_init 49 = .ok (.putfield 25, 3) := by decide +kernel
theorem dX7_init_52 : decode cX7_init 52 = .ok (.aload_n 0, 1) := by decide +kernel
theorem dX7_init_53 : decode cX7_init 53 = .ok (.bipush 60, 2) := by decide +kernel
theorem dX7_init_55 : decode cX7_init 55 = .ok (.newarray .double, 2) := by decide +kernel
theorem dX7_init_57 : decode cX7_init 57 = .ok (.putfield 29, 3) := by decide +kernel
theorem dX7_init_60 : decode cX7_init 60 = .ok (.aload_n 0, 1) := by decide +kernel
theorem dX7_init_61 : decode cX7_init 61 = .ok (.iconst 2, 1) := by decide +kernel
theorem dX7_init_62 : decode cX7_init 62 = .ok (.newarray .int, 2) := by decide +kernel
theorem dX7_init_64 : decode cX7_init 64 = .ok (.putfield 32, 3) := by decide +kernel
theorem dX7_init_67 : decode cX7_init 67 = .ok (.aload_n 0, 1) := by decide +kernel
theorem dX7_init_68 : decode cX7_init 68 = .ok (.iconst 2, 1) := by decide +kernel
theorem dX7_init_69 : decode cX7_init 69 = .ok (.newarray .double, 2) := by decide +kernel
theorem dX7_init_71 : decode cX7_init 71 = .ok (.putfield 36, 3) := by decide +kernel
theorem dX7_init_74 : decode cX7_init 74 = .ok (.aload_n 0, 1) := by decide +kernel
theorem dX7_init_75 : decode cX7_init 75 = .ok (.bipush 40, 2) := by decide +kernel
theorem dX7_init_77 : decode cX7_init 77 = .ok (.newarray .double, 2) := by decide +kernel
theorem dX7_init_79 : decode cX7_init 79 = .ok (.putfield 39, 3) := by decide +kernel
theorem dX7_init_82 : decode cX7_init 82 = .ok (.aload_n 0, 1) := by decide +kernel
theorem dX7_init_83 : decode cX7_init 83 = .ok (.bipush 40, 2) := by decide +kernel
theorem dX7_init_85 : decode cX7_init 85 = .ok (.newarray .double, 2) := by decide +kernel
theorem dX7_init_87 : decode cX7_init 87 = .ok (.putfield 42, 3) := by decide +kernel
theorem dX7_init_90 : decode cX7_init 90 = .ok (.aload_n 0, 1) := by decide +kernel
theorem dX7_init_91 : decode cX7_init 91 = .ok (.bipush 40, 2) := by decide +kernel
theorem dX7_init_93 : decode cX7_init 93 = .ok (.newarray .int, 2) := by decide +kernel
theorem dX7_init_95 : decode cX7_init 95 = .ok (.putfield 45, 3) := by decide +kernel
theorem dX7_init_98 : decode cX7_init 98 = .ok (.return_, 1) := by decide +kernel
theorem dX7_thrown_0 : decode cX7_thrown 0 = .ok (.aload_n 0, 1) := by decide +kernel
theorem dX7_thrown_1 : decode cX7_thrown 1 = .ok (.getfield 48, 3) := by decide +kernel
theorem dX7_thrown_4 : decode cX7_thrown 4 = .ok (.ireturn, 1) := by decide +kernel
theorem dX7_fail_0 : decode cX7_fail 0 = .ok (.aload_n 0, 1) := by decide +kernel
theorem dX7_fail_1 : decode cX7_fail 1 = .ok (.iload_n 1, 1) := by decide +kernel
theorem dX7_fail_2 : decode cX7_fail 2 = .ok (.putfield 48, 3) := by decide +kernel
theorem dX7_fail_5 : decode cX7_fail 5 = .ok (.iconst 0, 1) := by decide +kernel
theorem dX7_fail_6 : decode cX7_fail 6 = .ok (.ireturn, 1) := by decide +kernel
theorem dX7_isIn_0 : decode cX7_isIn 0 = .ok (.dload_n 0, 1) := by decide +kernel
theorem dX7_isIn_1 : decode cX7_isIn 1 = .ok (.dload_n 2, 1) := by decide +kernel
theorem dX7_isIn_2 : decode cX7_isIn 2 = .ok (.dcmp .l, 1) := by decide +kernel
theorem dX7_isIn_3 : decode cX7_isIn 3 = .ok (.ifCond .lt 14, 3) := by decide +kernel
theorem dX7_isIn_6 : decode cX7_isIn 6 = .ok (.dload_n 0, 1) := by decide +kernel
theorem dX7_isIn_7 : decode cX7_isIn 7 = .ok (.dload 4, 2) := by decide +kernel
theorem dX7_isIn_9 : decode cX7_isIn 9 = .ok (.dcmp .g, 1) := by decide +kernel
theorem dX7_isIn_10 : decode cX7_isIn 10 = .ok (.ifCond .gt 7, 3) := by decide +kernel
theorem dX7_isIn_13 : decode cX7_isIn 13 = .ok (.iconst 1, 1) := by decide +kernel
theorem dX7_isIn_14 : decode cX7_isIn 14 = .ok (.goto 4, 3) := by decide +kernel
theorem dX7_isIn_17 : decode cX7_isIn 17 = .ok (.iconst 0, 1) := by decide +kernel
theorem dX7_isIn_18 : decode cX7_isIn 18 = .ok (.ireturn, 1) := by decide +kernel
theorem dX7_plain_0 : decode cX7_plain 0 = .ok (.dload_n 0, 1) := by decide +kernel
theorem dX7_plain_1 : decode cX7_plain 1 = .ok (.ldc2_w 52, 3) := by decide +kernel
theorem dX7_plain_4 : decode cX7_plain 4 = .ok (.dcmp .l, 1) := by decide +kernel
theorem dX7_plain_5 : decode cX7_plain 5 = .ok (.ifCond .le 15, 3) := by decide +kernel
theorem dX7_plain_8 : decode cX7_plain 8 = .ok (.dload_n 0, 1) := by decide +kernel
theorem dX7_plain_9 : decode cX7_plain 9 = .ok (.ldc2_w 54, 3) := by decide +kernel
theorem dX7_plain_12 : decode cX7_plain 12 = .ok (.dcmp .g, 1) := by decide +kernel
theorem dX7_plain_13 : decode cX7_plain 13 = .ok (.ifCond .ge 7, 3) := by decide +kernel
theorem dX7_plain_16 : decode cX7_plain 16 = .ok (.dconst 0, 1) := by decide +kernel
theorem dX7_plain_17 : decode cX7_plain 17 = .ok (.goto 4, 3) := by decide +kernel
theorem dX7_plain_20 : decode cX7_plain 20 = .ok (.dload_n 0, 1) := by decide +kernel
theorem dX7_plain_21 : decode cX7_plain 21 = .ok (.dreturn, 1) := by decide +kernel
theorem dX7_isKnot_0 : decode cX7_isKnot 0 = .ok (.iload_n 1, 1) := by decide +kernel
theorem dX7_isKnot_1 : decode cX7_isKnot 1 = .ok (.ifCond .lt 15, 3) := by decide +kernel
theorem dX7_isKnot_4 : decode cX7_isKnot 4 = .ok (.iload_n 1, 1) := by decide +kernel
theorem dX7_isKnot_5 : decode cX7_isKnot 5 = .ok (.aload_n 0, 1) := by decide +kernel
theorem dX7_isKnot_6 : decode cX7_isKnot 6 = .ok (.getfield 56, 3) := by decide +kernel
theorem dX7_isKnot_9 : decode cX7_isKnot 9 = .ok (.if_icmp .ge 7, 3) := by decide +kernel
theorem dX7_isKnot_12 : decode cX7_isKnot 12 = .ok (.iconst 1, 1) := by decide +kernel
theorem dX7_isKnot_13 : decode cX7_isKnot 13 = .ok (.goto 4, 3) := by decide +kernel
theorem dX7_isKnot_16 : decode cX7_isKnot 16 = .ok (.iconst 0, 1) := by decide +kernel
theorem dX7_isKnot_17 : decode cX7_isKnot 17 = .ok (.ireturn, 1) := by decide +kernel
set_option maxRecDepth 20000 in
theorem ggX7_addPoint_X7_plain : GoodIn wsX7_addPoint wsX7_plain := goodIn_r _ [13, 14, 15] (by decide +kernel) (by decide +kernel)
set_option maxRecDepth 20000 in
theorem gX7_addPoint_X7_plain : GoodIn wsX7_addPoint (va_wsS RX7 59 yX7_plain wsX7_plain) := goodIn_app (goodIn_of _ (by decide +kernel)) ggX7_addPoint_X7_plain
set_option maxRecDepth 20000 in
theorem ggX7_addPoint_X7_isIn : GoodIn wsX7_addPoint wsX7_isIn := goodIn_r _ [18] (by decide +kernel) (by decide +kernel)
set_option maxRecDepth 20000 in
theorem gX7_addPoint_X7_isIn : GoodIn wsX7_addPoint (va_wsS RX7 67 yX7_isIn wsX7_isIn) := goodIn_app (goodIn_of _ (by decide +kernel)) ggX7_addPoint_X7_isIn
set_option maxRecDepth 20000 in
theorem ggX7_addPoint_X7_fail : GoodIn wsX7_addPoint wsX7_fail := goodIn_r _ [22, 1, 39, 40, 41, 42, 43, 44, 45, 46, 47, 48, 49, 50, 51, 52, 53] (by decide +kernel) (by decide +kernel)
set_option maxRecDepth 20000 in
theorem gX7_addPoint_X7_fail : GoodIn wsX7_addPoint (wsV RX7 75 RX7 yX7_fail wsX7_fail) := goodIn_app (goodIn_of _ (by decide +kernel)) ggX7_addPoint_X7_fail
set_option maxRecDepth 20000 in
theorem ggX7_addPoint_J9_abs_294c1 : GoodIn wsX7_addPoint wsJ9_abs_294c1 := goodIn_r _ [26, 27, 28, 29, 30, 31, 32, 33, 34] (by decide +kernel) (by decide +kernel)
set_option maxRecDepth 20000 in
theorem gX7_addPoint_J9_abs_294c1 : GoodIn wsX7_addPoint (va_wsS RX7 82 yJ9_abs_294c1 wsJ9_abs_294c1) := goodIn_app (goodIn_of _ (by decide +kernel)) ggX7_addPoint_J9_abs_294c1
set_option maxRecDepth 20000 in
theorem ggX7_addPoint_X7_movePoint : GoodIn wsX7_addPoint wsX7_movePoint := goodIn_r _ [38, 7, 8, 9, 39, 40, 41, 42, 43, 44, 45, 46, 47, 48, 49, 50, 51, 52, 53] (by decide +kernel) (by decide +kernel)
set_option maxRecDepth 20000 in
theorem gX7_addPoint_X7_movePoint : GoodIn wsX7_addPoint (wsV RX7 87 RX7 yX7_movePoint wsX7_movePoint) := goodIn_app (goodIn_of _ (by decide +kernel)) ggX7_addPoint_X7_movePoint
theorem dX7_addPoint_0 : decode cX7_addPoint 0 = .ok (.aload_n 0, 1) := by decide +kernel
theorem dX7_addPoint_1 : decode cX7_addPoint 1 = .ok (.iconst 0, 1) := by decide +kernel
theorem dX7_addPoint_2 : decode cX7_addPoint 2 = .ok (.putfield 48, 3) := by decide +kernel
theorem dX7_addPoint_5 : decode cX7_addPoint 5 = .ok (.dload_n 1, 1) := by decide +kernel
theorem dX7_addPoint_6 : decode cX7_addPoint 6 = .ok (.invokestatic 59, 3) := by decide +kernel
theorem dX7_addPoint_9 : decode cX7_addPoint 9 = .ok (.dstore 7, 2) := by decide +kernel
theorem dX7_addPoint_11 : decode cX7_addPoint 11 = .ok (.dload_n 3, 1) := by decide +kernel
theorem dX7_addPoint_12 : decode cX7_addPoint 12 = .ok (.invokestatic 59, 3) := by decide +kernel
theorem dX7_addPoint_15 : decode cX7_addPoint 15 = .ok (.dstore 9, 2) := by decide +kernel
theorem dX7_addPoint_17 : decode cX7_addPoint 17 = .ok (.dload 7, 2) := by decide +kernel
theorem dX7_addPoint_19 : decode cX7_addPoint 19 = .ok (.ldc2_w 63, 3) := by decide +kernel
theorem dX7_addPoint_22 : decode cX7_addPoint 22 = .ok (.ldc2_w 65, 3) := by decide +kernel
theorem dX7_addPoint_25 : decode cX7_addPoint 25 = .ok (.invokestatic 67, 3) := by decide +kernel
theorem dX7_addPoint_28 : decode cX7_addPoint 28 = .ok (.ifCond .eq 31, 3) := by decide +kernel
theorem dX7_addPoint_31 : decode cX7_addPoint 31 = .ok (.dload 9, 2) := by decide +kernel
theorem dX7_addPoint_33 : decode cX7_addPoint 33 = .ok (.ldc2_w 63, 3) := by decide +kernel
theorem dX7_addPoint_36 : decode cX7_addPoint 36 = .ok (.ldc2_w 65, 3) := by decide +kernel
theorem dX7_addPoint_39 : decode cX7_addPoint 39 = .ok (.invokestatic 67, 3) := by decide +kernel
theorem dX7_addPoint_42 : decode cX7_addPoint 42 = .ok (.ifCond .eq 17, 3) := by decide +kernel
theorem dX7_addPoint_45 : decode cX7_addPoint 45 = .ok (.dload 5, 2) := by decide +kernel
theorem dX7_addPoint_47 : decode cX7_addPoint 47 = .ok (.ldc2_w 71, 3) := by decide +kernel
theorem dX7_addPoint_50 : decode cX7_addPoint 50 = .ok (.ldc2_w 73, 3) := by decide +kernel
theorem dX7_addPoint_53 : decode cX7_addPoint 53 = .ok (.invokestatic 67, 3) := by decide +kernel
theorem dX7_addPoint_56 : decode cX7_addPoint 56 = .ok (.ifCond .ne 9, 3) := by decide +kernel
theorem dX7_addPoint_59 : decode cX7_addPoint 59 = .ok (.aload_n 0, 1) := by decide +kernel
theorem dX7_addPoint_60 : decode cX7_addPoint 60 = .ok (.iconst 1, 1) := by decide +kernel
theorem dX7_addPoint_61 : decode cX7_addPoint 61 = .ok (.invokevirtual 75, 3) := by decide +kernel
theorem dX7_addPoint_64 : decode cX7_addPoint 64 = .ok (.ireturn, 1) := by decide +kernel
theorem dX7_addPoint_65 : decode cX7_addPoint 65 = .ok (.iconst 0, 1) := by decide +kernel
theorem dX7_addPoint_66 : decode cX7_addPoint 66 = .ok (.istore 11, 2) := by decide +kernel
theorem dX7_addPoint_68 : decode cX7_addPoint 68 = .ok (.iconst 0, 1) := by decide +kernel
theorem dX7_addPoint_69 : decode cX7_addPoint 69 = .ok (.istore 12, 2) := by decide +kernel
theorem dX7_addPoint_71 : decode cX7_addPoint 71 = .ok (.iload 12, 2) := by decide +kernel
theorem dX7_addPoint_73 : decode cX7_addPoint 73 = .ok (.aload_n 0, 1) := by decide +kernel
theorem dX7_addPoint_74 : decode cX7_addPoint 74 = .ok (.getfield 79, 3) := by decide +kernel
theorem dX7_addPoint_77 : decode cX7_addPoint 77 = .ok (.if_icmp .ge 58, 3) := by decide +kernel
theorem dX7_addPoint_80 : decode cX7_addPoint 80 = .ok (.aload_n 0, 1) := by decide +kernel
theorem dX7_addPoint_81 : decode cX7_addPoint 81 = .ok (.getfield 9, 3) := by decide +kernel
theorem dX7_addPoint_84 : decode cX7_addPoint 84 = .ok (.iload 12, 2) := by decide +kernel
theorem dX7_addPoint_86 : decode cX7_addPoint 86 = .ok (.daload, 1) := by decide +kernel
theorem dX7_addPoint_87 : decode cX7_addPoint 87 = .ok (.dload 7, 2) := by decide +kernel
theorem dX7_addPoint_89 : decode cX7_addPoint 89 = .ok (.dsub, 1) := by decide +kernel
theorem dX7_addPoint_90 : decode cX7_addPoint 90 = .ok (.invokestatic 82, 3) := by decide +kernel
theorem dX7_addPoint_93 : decode cX7_addPoint 93 = .ok (.ldc2_w 71, 3) := by decide +kernel
theorem dX7_addPoint_96 : decode cX7_addPoint 96 = .ok (.dcmp .g, 1) := by decide +kernel
theorem dX7_addPoint_97 : decode cX7_addPoint 97 = .ok (.ifCond .ge 9, 3) := by decide +kernel
theorem dX7_addPoint_100 : decode cX7_addPoint 100 = .ok (.aload_n 0, 1) := by decide +kernel
theorem dX7_addPoint_101 : decode cX7_addPoint 101 = .ok (.iconst 1, 1) := by decide +kernel
theorem dX7_addPoint_102 : decode cX7_addPoint 102 = .ok (.invokevirtual 75, 3) := by decide +kernel
theorem dX7_addPoint_105 : decode cX7_addPoint 105 = .ok (.ireturn, 1) := by decide +kernel
theorem dX7_addPoint_106 : decode cX7_addPoint 106 = .ok (.iload 11, 2) := by decide +kernel
theorem dX7_addPoint_108 : decode cX7_addPoint 108 = .ok (.aload_n 0, 1) := by decide +kernel
theorem dX7_addPoint_109 : decode cX7_addPoint 109 = .ok (.getfield 9, 3) := by decide +kernel
theorem dX7_addPoint_112 : decode cX7_addPoint 112 = .ok (.iload 12, 2) := by decide +kernel
theorem dX7_addPoint_114 : decode cX7_addPoint 114 = .ok (.daload, 1) := by decide +kernel
theorem dX7_addPoint_115 : decode cX7_addPoint 115 = .ok (.dload 7, 2) := by decide +kernel
theorem dX7_addPoint_117 : decode cX7_addPoint 117 = .ok (.dcmp .g, 1) := by decide +kernel
theorem dX7_addPoint_118 : decode cX7_addPoint 118 = .ok (.ifCond .ge 7, 3) := by decide +kernel
theorem dX7_addPoint_121 : decode cX7_addPoint 121 = .ok (.iconst 1, 1) := by decide +kernel
theorem dX7_addPoint_122 : decode cX7_addPoint 122 = .ok (.goto 4, 3) := by decide +kernel
theorem dX7_addPoint_125 : decode cX7_addPoint 125 = .ok (.iconst 0, 1) := by decide +kernel
theorem dX7_addPoint_126 : decode cX7_addPoint 126 = .ok (.iadd, 1) := by decide +kernel
theorem dX7_addPoint_127 : decode cX7_addPoint 127 = .ok (.istore 11, 2) := by decide +kernel
theorem dX7_addPoint_129 : decode cX7_addPoint 129 = .ok (.iinc 12 1, 3) := by decide +kernel
theorem dX7_addPoint_132 : decode cX7_addPoint 132 = .ok (.goto (-61), 3) := by decide +kernel
theorem dX7_addPoint_135 : decode cX7_addPoint 135 = .ok (.aload_n 0, 1) := by decide +kernel
theorem dX7_addPoint_136 : decode cX7_addPoint 136 = .ok (.getfield 79, 3) := by decide +kernel
theorem dX7_addPoint_139 : decode cX7_addPoint 139 = .ok (.bipush 40, 2) := by decide +kernel
theorem dX7_addPoint_141 : decode cX7_addPoint 141 = .ok (.if_icmp .ne 9, 3) := by decide +kernel
theorem dX7_addPoint_144 : decode cX7_addPoint 144 = .ok (.aload_n 0, 1) := by decide +kernel
theorem dX7_addPoint_145 : decode cX7_addPoint 145 = .ok (.iconst 2, 1) := by decide +kernel
theorem dX7_addPoint_146 : decode cX7_addPoint 146 = .ok (.invokevirtual 75, 3) := by decide +kernel
theorem dX7_addPoint_149 : decode cX7_addPoint 149 = .ok (.ireturn, 1) := by decide +kernel
theorem dX7_addPoint_150 : decode cX7_addPoint 150 = .ok (.aload_n 0, 1) := by decide +kernel
theorem dX7_addPoint_151 : decode cX7_addPoint 151 = .ok (.getfield 79, 3) := by decide +kernel
theorem dX7_addPoint_154 : decode cX7_addPoint 154 = .ok (.istore 12, 2) := by decide +kernel
theorem dX7_addPoint_156 : decode cX7_addPoint 156 = .ok (.iload 12, 2) := by decide +kernel
theorem dX7_addPoint_158 : decode cX7_addPoint 158 = .ok (.iload 11, 2) := by decide +kernel
theorem dX7_addPoint_160 : decode cX7_addPoint 160 = .ok (.if_icmp .le 19, 3) := by decide +kernel
theorem dX7_addPoint_163 : decode cX7_addPoint 163 = .ok (.aload_n 0, 1) := by decide +kernel
theorem dX7_addPoint_164 : decode cX7_addPoint 164 = .ok (.iload 12, 2) := by decide +kernel
theorem dX7_addPoint_166 : decode cX7_addPoint 166 = .ok (.iconst 1, 1) := by decide +kernel
theorem dX7_addPoint_167 : decode cX7_addPoint 167 = .ok (.isub, 1) := by decide +kernel
theorem dX7_addPoint_168 : decode cX7_addPoint 168 = .ok (.iload 12, 2) := by decide +kernel
theorem dX7_addPoint_170 : decode cX7_addPoint 170 = .ok (.invokevirtual 87, 3) := by decide +kernel
theorem dX7_addPoint_173 : decode cX7_addPoint 173 = .ok (.iinc 12 (-1), 3) := by decide +kernel
theorem dX7_addPoint_176 : decode cX7_addPoint 176 = .ok (.goto (-20), 3) := by decide +kernel
theorem dX7_addPoint_179 : decode cX7_addPoint 179 = .ok (.aload_n 0, 1) := by decide +kernel
theorem dX7_addPoint_180 : decode cX7_addPoint 180 = .ok (.getfield 9, 3) := by decide +kernel
theorem dX7_addPoint_183 : decode cX7_addPoint 183 = .ok (.iload 11, 2) := by decide +kernel
theorem dX7_addPoint_185 : decode cX7_addPoint 185 = .ok (.dload 7, 2) := by decide +kernel
theorem dX7_addPoint_187 : decode cX7_addPoint 187 = .ok (.dastore, 1) := by decide +kernel
theorem dX7_addPoint_188 : decode cX7_addPoint 188 = .ok (.aload_n 0, 1) := by decide +kernel
theorem dX7_addPoint_189 : decode cX7_addPoint 189 = .ok (.getfield 13, 3) := by decide +kernel
theorem dX7_addPoint_192 : decode cX7_addPoint 192 = .ok (.iload 11, 2) := by decide +kernel
theorem dX7_addPoint_194 : decode cX7_addPoint 194 = .ok (.dload 9, 2) := by decide +kernel
theorem dX7_addPoint_196 : decode cX7_addPoint 196 = .ok (.dastore, 1) := by decide +kernel
theorem dX7_addPoint_197 : decode cX7_addPoint 197 = .ok (.aload_n 0, 1) := by decide +kernel
theorem dX7_addPoint_198 : decode cX7_addPoint 198 = .ok (.getfield 16, 3) := by decide +kernel
theorem dX7_addPoint_201 : decode cX7_addPoint 201 = .ok (.iload 11, 2) := by decide +kernel
theorem dX7_addPoint_203 : decode cX7_addPoint 203 = .ok (.dload 5, 2) := by decide +kernel
theorem dX7_addPoint_205 : decode cX7_addPoint 205 = .ok (.dastore, 1) := by decide +kernel
theorem dX7_addPoint_206 : decode cX7_addPoint 206 = .ok (.aload_n 0, 1) := by decide +kernel
theorem dX7_addPoint_207 : decode cX7_addPoint 207 = .ok (.dup, 1) := by decide +kernel
theorem dX7_addPoint_208 : decode cX7_addPoint 208 = .ok (.getfield 79, 3) := by decide +kernel
theorem dX7_addPoint_211 : decode cX7_addPoint 211 = .ok (.iconst 1, 1) := by decide +kernel
theorem dX7_addPoint_212 : decode cX7_addPoint 212 = .ok (.iadd, 1) := by decide +kernel
theorem dX7_addPoint_213 : decode cX7_addPoint 213 = .ok (.putfield 79, 3) := by decide +kernel
theorem dX7_addPoint_216 : decode cX7_addPoint 216 = .ok (.iload 11, 2) := by decide +kernel
theorem dX7_addPoint_218 : decode cX7_addPoint 218 = .ok (.ireturn, 1) := by decide +kernel
theorem dX7_movePoint_0 : decode cX7_movePoint 0 = .ok (.aload_n 0, 1) := by decide +kernel
theorem dX7_movePoint_1 : decode cX7_movePoint 1 = .ok (.getfield 9, 3) := by decide +kernel
theorem dX7_movePoint_4 : decode cX7_movePoint 4 = .ok (.iload_n 2, 1) := by decide +kernel
theorem dX7_movePoint_5 : decode cX7_movePoint 5 = .ok (.aload_n 0, 1) := by decide +kernel
theorem dX7_movePoint_6 : decode cX7_movePoint 6 = .ok (.getfield 9, 3) := by decide +kernel
theorem dX7_movePoint_9 : decode cX7_movePoint 9 = .ok (.iload_n 1, 1) := by decide +kernel
theorem dX7_movePoint_10 : decode cX7_movePoint 10 = .ok (.daload, 1) := by decide +kernel
theorem dX7_movePoint_11 : decode cX7_movePoint 11 = .ok (.dastore, 1) := by decide +kernel
theorem dX7_movePoint_12 : decode cX7_movePoint 12 = .ok (.aload_n 0, 1) := by decide +kernel
theorem dX7_movePoint_13 : decode cX7_movePoint 13 = .ok (.getfield 13, 3) := by decide +kernel
theorem dX7_movePoint_16 : decode cX7_movePoint 16 = .ok (.iload_n 2, 1) := by decide +kernel
theorem dX7_movePoint_17 : decode cX7_movePoint 17 = .ok (.aload_n 0, 1) := by decide +kernel
theorem dX7_movePoint_18 : decode cX7_movePoint 18 = .ok (.getfield 13, 3) := by decide +kernel
theorem dX7_movePoint_21 : decode cX7_movePoint 21 = .ok (.iload_n 1, 1) := by decide +kernel
theorem dX7_movePoint_22 : decode cX7_movePoint 22 = .ok (.daload, 1) := by decide +kernel
theorem dX7_movePoint_23 : decode cX7_movePoint 23 = .ok (.dastore, 1) := by decide +kernel
theorem dX7_movePoint_24 : decode cX7_movePoint 24 = .ok (.aload_n 0, 1) := by decide +kernel
theorem dX7_movePoint_25 : decode cX7_movePoint 25 = .ok (.getfield 16, 3) := by decide +kernel
theorem dX7_movePoint_28 : decode cX7_movePoint 28 = .ok (.iload_n 2, 1) := by decide +kernel
theorem dX7_movePoint_29 : decode cX7_movePoint 29 = .ok (.aload_n 0, 1) := by decide +kernel
theorem dX7_movePoint_30 : decode cX7_movePoint 30 = .ok (.getfield 16, 3) := by decide +kernel
theorem dX7_movePoint_33 : decode cX7_movePoint 33 = .ok (.iload_n 1, 1) := by decide +kernel
theorem dX7_movePoint_34 : decode cX7_movePoint 34 = .ok (.daload, 1) := by decide +kernel
theorem dX7_movePoint_35 : decode cX7_movePoint 35 = .ok (.dastore, 1) := by decide +kernel
theorem dX7_movePoint_36 : decode cX7_movePoint 36 = .ok (.return_, 1) := by decide +kernel
set_option maxRecDepth 20000 in
theorem ggX7_removePoint_X7_fail : GoodIn wsX7_removePoint wsX7_fail := goodIn_r _ [7, 1, 15, 16, 17, 18, 19, 20, 21, 22, 23, 24, 25, 26, 27, 28, 29] (by decide +kernel) (by decide +kernel)
set_option maxRecDepth 20000 in
theorem gX7_removePoint_X7_fail : GoodIn wsX7_removePoint (wsV RX7 75 RX7 yX7_fail wsX7_fail) := goodIn_app (goodIn_of _ (by decide +kernel)) ggX7_removePoint_X7_fail
set_option maxRecDepth 20000 in
theorem ggX7_removePoint_X7_movePoint : GoodIn wsX7_removePoint wsX7_movePoint := goodIn_r _ [11, 12, 13, 14, 15, 16, 17, 18, 19, 20, 21, 22, 23, 24, 25, 26, 27, 28, 29] (by decide +kernel) (by decide +kernel)
set_option maxRecDepth 20000 in
theorem gX7_removePoint_X7_movePoint : GoodIn wsX7_removePoint (wsV RX7 87 RX7 yX7_movePoint wsX7_movePoint) := goodIn_app (goodIn_of _ (by decide +kernel)) ggX7_removePoint_X7_movePoint
theorem dX7_removePoint_0 : decode cX7_removePoint 0 = .ok (.aload_n 0, 1) := by decide +kernel
theorem dX7_removePoint_1 : decode cX7_removePoint 1 = .ok (.iconst 0, 1) := by decide +kernel
theorem dX7_removePoint_2 : decode cX7_removePoint 2 = .ok (.putfield 48, 3) := by decide +kernel
theorem dX7_removePoint_5 : decode cX7_removePoint 5 = .ok (.iload_n 1, 1) := by decide +kernel
theorem dX7_removePoint_6 : decode cX7_removePoint 6 = .ok (.ifCond .lt 11, 3) := by decide +kernel
theorem dX7_removePoint_9 : decode cX7_removePoint 9 = .ok (.iload_n 1, 1) := by decide +kernel
theorem dX7_removePoint_10 : decode cX7_removePoint 10 = .ok (.aload_n 0, 1) := by decide +kernel
theorem dX7_removePoint_11 : decode cX7_removePoint 11 = .ok (.getfield 79, 3) := by decide +kernel
theorem dX7_removePoint_14 : decode cX7_removePoint 14 = .ok (.if_icmp .lt 9, 3) := by decide +kernel
theorem dX7_removePoint_17 : decode cX7_removePoint 17 = .ok (.aload_n 0, 1) := by decide +kernel
theorem dX7_removePoint_18 : decode cX7_removePoint 18 = .ok (.iconst 1, 1) := by decide +kernel
theorem dX7_removePoint_19 : decode cX7_removePoint 19 = .ok (.invokevirtual 75, 3) := by decide +kernel
theorem dX7_removePoint_22 : decode cX7_removePoint 22 = .ok (.ireturn, 1) := by decide +kernel
theorem dX7_removePoint_23 : decode cX7_removePoint 23 = .ok (.aload_n 0, 1) := by decide +kernel
theorem dX7_removePoint_24 : decode cX7_removePoint 24 = .ok (.dup, 1) := by decide +kernel
theorem dX7_removePoint_25 : decode cX7_removePoint 25 = .ok (.getfield 79, 3) := by decide +kernel
theorem dX7_removePoint_28 : decode cX7_removePoint 28 = .ok (.iconst 1, 1) := by decide +kernel
theorem dX7_removePoint_29 : decode cX7_removePoint 29 = .ok (.isub, 1) := by decide +kernel
theorem dX7_removePoint_30 : decode cX7_removePoint 30 = .ok (.putfield 79, 3) := by decide +kernel
theorem dX7_removePoint_33 : decode cX7_removePoint 33 = .ok (.iload_n 1, 1) := by decide +kernel
theorem dX7_removePoint_34 : decode cX7_removePoint 34 = .ok (.istore_n 2, 1) := by decide +kernel
theorem dX7_removePoint_35 : decode cX7_removePoint 35 = .ok (.iload_n 2, 1) := by decide +kernel
theorem dX7_removePoint_36 : decode cX7_removePoint 36 = .ok (.aload_n 0, 1) := by decide +kernel
theorem dX7_removePoint_37 : decode cX7_removePoint 37 = .ok (.getfield 79, 3) := by decide +kernel
theorem dX7_removePoint_40 : decode cX7_removePoint 40 = .ok (.if_icmp .ge 17, 3) := by decide +kernel
theorem dX7_removePoint_43 : decode cX7_removePoint 43 = .ok (.aload_n 0, 1) := by decide +kernel
theorem dX7_removePoint_44 : decode cX7_removePoint 44 = .ok (.iload_n 2, 1) := by decide +kernel
theorem dX7_removePoint_45 : decode cX7_removePoint 45 = .ok (.iconst 1, 1) := by decide +kernel
theorem dX7_removePoint_46 : decode cX7_removePoint 46 = .ok (.iadd, 1) := by decide +kernel
theorem dX7_removePoint_47 : decode cX7_removePoint 47 = .ok (.iload_n 2, 1) := by decide +kernel
theorem dX7_removePoint_48 : decode cX7_removePoint 48 = .ok (.invokevirtual 87, 3) := by decide +kernel
theorem dX7_removePoint_51 : decode cX7_removePoint 51 = .ok (.iinc 2 1, 3) := by decide +kernel
theorem dX7_removePoint_54 : decode cX7_removePoint 54 = .ok (.goto (-19), 3) := by decide +kernel
theorem dX7_removePoint_57 : decode cX7_removePoint 57 = .ok (.aload_n 0, 1) := by decide +kernel
theorem dX7_removePoint_58 : decode cX7_removePoint 58 = .ok (.getfield 79, 3) := by decide +kernel
theorem dX7_removePoint_61 : decode cX7_removePoint 61 = .ok (.ireturn, 1) := by decide +kernel
theorem dX7_pointCount_0 : decode cX7_pointCount 0 = .ok (.aload_n 0, 1) := by decide +kernel
theorem dX7_pointCount_1 : decode cX7_pointCount 1 = .ok (.iconst 0, 1) := by decide +kernel
theorem dX7_pointCount_2 : decode cX7_pointCount 2 = .ok (.putfield 48, 3) := by decide +kernel
theorem dX7_pointCount_5 : decode cX7_pointCount 5 = .ok (.aload_n 0, 1) := by decide +kernel
theorem dX7_pointCount_6 : decode cX7_pointCount 6 = .ok (.getfield 79, 3) := by decide +kernel
theorem dX7_pointCount_9 : decode cX7_pointCount 9 = .ok (.ireturn, 1) := by decide +kernel
set_option maxRecDepth 20000 in
theorem ggX7_pointPlace_X7_fail : GoodIn wsX7_pointPlace wsX7_fail := goodIn_r _ [8, 1, 9, 10, 11, 12, 13, 14, 15, 16, 17, 18, 19, 20, 21, 22, 23] (by decide +kernel) (by decide +kernel)
set_option maxRecDepth 20000 in
theorem gX7_pointPlace_X7_fail : GoodIn wsX7_pointPlace (wsV RX7 75 RX7 yX7_fail wsX7_fail) := goodIn_app (goodIn_of _ (by decide +kernel)) ggX7_pointPlace_X7_fail
theorem dX7_pointPlace_0 : decode cX7_pointPlace 0 = .ok (.aload_n 0, 1) := by decide +kernel
theorem dX7_pointPlace_1 : decode cX7_pointPlace 1 = .ok (.iconst 0, 1) := by decide +kernel
theorem dX7_pointPlace_2 : decode cX7_pointPlace 2 = .ok (.putfield 48, 3) := by decide +kernel
theorem dX7_pointPlace_5 : decode cX7_pointPlace 5 = .ok (.iload_n 1, 1) := by decide +kernel
theorem dX7_pointPlace_6 : decode cX7_pointPlace 6 = .ok (.ifCond .lt 20, 3) := by decide +kernel
theorem dX7_pointPlace_9 : decode cX7_pointPlace 9 = .ok (.iload_n 1, 1) := by decide +kernel
theorem dX7_pointPlace_10 : decode cX7_pointPlace 10 = .ok (.aload_n 0, 1) := by decide +kernel
theorem dX7_pointPlace_11 : decode cX7_pointPlace 11 = .ok (.getfield 79, 3) := by decide +kernel
theorem dX7_pointPlace_14 : decode cX7_pointPlace 14 = .ok (.if_icmp .ge 12, 3) := by decide +kernel
theorem dX7_pointPlace_17 : decode cX7_pointPlace 17 = .ok (.aload_n 0, 1) := by decide +kernel
theorem dX7_pointPlace_18 : decode cX7_pointPlace 18 = .ok (.getfield 9, 3) := by decide +kernel
theorem dX7_pointPlace_21 : decode cX7_pointPlace 21 = .ok (.iload_n 1, 1) := by decide +kernel
theorem dX7_pointPlace_22 : decode cX7_pointPlace 22 = .ok (.daload, 1) := by decide +kernel
theorem dX7_pointPlace_23 : decode cX7_pointPlace 23 = .ok (.goto 9, 3) := by decide +kernel
theorem dX7_pointPlace_26 : decode cX7_pointPlace 26 = .ok (.aload_n 0, 1) := by decide +kernel
theorem dX7_pointPlace_27 : decode cX7_pointPlace 27 = .ok (.iconst 1, 1) := by decide +kernel
theorem dX7_pointPlace_28 : decode cX7_pointPlace 28 = .ok (.invokevirtual 75, 3) := by decide +kernel
theorem dX7_pointPlace_31 : decode cX7_pointPlace 31 = .ok (.i2d, 1) := by decide +kernel
theorem dX7_pointPlace_32 : decode cX7_pointPlace 32 = .ok (.dreturn, 1) := by decide +kernel
theorem dX7_blockValue_0 : decode cX7_blockValue 0 = .ok (.aload_n 0, 1) := by decide +kernel
theorem dX7_blockValue_1 : decode cX7_blockValue 1 = .ok (.getfield 42, 3) := by decide +kernel
theorem dX7_blockValue_4 : decode cX7_blockValue 4 = .ok (.iload_n 1, 1) := by decide +kernel
theorem dX7_blockValue_5 : decode cX7_blockValue 5 = .ok (.daload, 1) := by decide +kernel
theorem dX7_blockValue_6 : decode cX7_blockValue 6 = .ok (.aload_n 0, 1) := by decide +kernel
theorem dX7_blockValue_7 : decode cX7_blockValue 7 = .ok (.getfield 39, 3) := by decide +kernel
theorem dX7_blockValue_10 : decode cX7_blockValue 10 = .ok (.iload_n 1, 1) := by decide +kernel
theorem dX7_blockValue_11 : decode cX7_blockValue 11 = .ok (.daload, 1) := by decide +kernel
theorem dX7_blockValue_12 : decode cX7_blockValue 12 = .ok (.ddiv, 1) := by decide +kernel
theorem dX7_blockValue_13 : decode cX7_blockValue 13 = .ok (.dreturn, 1) := by decide +kernel
set_option maxRecDepth 20000 in
theorem ggX7_fit_X7_fail : GoodIn wsX7_fit wsX7_fail := goodIn_r _ [18, 1, 23, 24, 25, 26, 27, 28, 29, 30, 31, 32, 33, 34, 35, 36, 37] (by decide +kernel) (by decide +kernel)
set_option maxRecDepth 20000 in
theorem gX7_fit_X7_fail : GoodIn wsX7_fit (wsV RX7 75 RX7 yX7_fail wsX7_fail) := goodIn_app (goodIn_of _ (by decide +kernel)) ggX7_fit_X7_fail
set_option maxRecDepth 20000 in
theorem ggX7_fit_X7_blockValue : GoodIn wsX7_fit wsX7_blockValue := goodIn_r _ [22, 5, 3, 23, 24, 25, 26, 27, 28, 29, 30, 31, 32, 33, 34, 35, 36, 37] (by decide +kernel) (by decide +kernel)
set_option maxRecDepth 20000 in
theorem gX7_fit_X7_blockValue : GoodIn wsX7_fit (wsV RX7 91 RX7 yX7_blockValue wsX7_blockValue) := goodIn_app (goodIn_of _ (by decide +kernel)) ggX7_fit_X7_blockValue
theorem dX7_fit_0 : decode cX7_fit 0 = .ok (.aload_n 0, 1) := by decide +kernel
theorem dX7_fit_1 : decode cX7_fit 1 = .ok (.iconst 0, 1) := by decide +kernel
theorem dX7_fit_2 : decode cX7_fit 2 = .ok (.putfield 48, 3) := by decide +kernel
theorem dX7_fit_5 : decode cX7_fit 5 = .ok (.aload_n 0, 1) := by decide +kernel
theorem dX7_fit_6 : decode cX7_fit 6 = .ok (.getfield 79, 3) := by decide +kernel
theorem dX7_fit_9 : decode cX7_fit 9 = .ok (.iconst 2, 1) := by decide +kernel
theorem dX7_fit_10 : decode cX7_fit 10 = .ok (.if_icmp .ge 9, 3) := by decide +kernel
theorem dX7_fit_13 : decode cX7_fit 13 = .ok (.aload_n 0, 1) := by decide +kernel
theorem dX7_fit_14 : decode cX7_fit 14 = .ok (.iconst 1, 1) := by decide +kernel
theorem dX7_fit_15 : decode cX7_fit 15 = .ok (.invokevirtual 75, 3) := by decide +kernel
theorem dX7_fit_18 : decode cX7_fit 18 = .ok (.ireturn, 1) := by decide +kernel
theorem dX7_fit_19 : decode cX7_fit 19 = .ok (.iconst 0, 1) := by decide +kernel
theorem dX7_fit_20 : decode cX7_fit 20 = .ok (.istore_n 1, 1) := by decide +kernel
theorem dX7_fit_21 : decode cX7_fit 21 = .ok (.iconst 0, 1) := by decide +kernel
theorem dX7_fit_22 : decode cX7_fit 22 = .ok (.istore_n 2, 1) := by decide +kernel
theorem dX7_fit_23 : decode cX7_fit 23 = .ok (.iload_n 2, 1) := by decide +kernel
theorem dX7_fit_24 : decode cX7_fit 24 = .ok (.aload_n 0, 1) := by decide +kernel
theorem dX7_fit_25 : decode cX7_fit 25 = .ok (.getfield 79, 3) := by decide +kernel
theorem dX7_fit_28 : decode cX7_fit 28 = .ok (.if_icmp .ge 142, 3) := by decide +kernel
theorem dX7_fit_31 : decode cX7_fit 31 = .ok (.aload_n 0, 1) := by decide +kernel
theorem dX7_fit_32 : decode cX7_fit 32 = .ok (.getfield 39, 3) := by decide +kernel
theorem dX7_fit_35 : decode cX7_fit 35 = .ok (.iload_n 1, 1) := by decide +kernel
theorem dX7_fit_36 : decode cX7_fit 36 = .ok (.aload_n 0, 1) := by decide +kernel
theorem dX7_fit_37 : decode cX7_fit 37 = .ok (.getfield 16, 3) := by decide +kernel
theorem dX7_fit_40 : decode cX7_fit 40 = .ok (.iload_n 2, 1) := by decide +kernel
theorem dX7_fit_41 : decode cX7_fit 41 = .ok (.daload, 1) := by decide +kernel
theorem dX7_fit_42 : decode cX7_fit 42 = .ok (.dastore, 1) := by decide +kernel
theorem dX7_fit_43 : decode cX7_fit 43 = .ok (.aload_n 0, 1) := by decide +kernel
theorem dX7_fit_44 : decode cX7_fit 44 = .ok (.getfield 42, 3) := by decide +kernel
theorem dX7_fit_47 : decode cX7_fit 47 = .ok (.iload_n 1, 1) := by decide +kernel
theorem dX7_fit_48 : decode cX7_fit 48 = .ok (.aload_n 0, 1) := by decide +kernel
theorem dX7_fit_49 : decode cX7_fit 49 = .ok (.getfield 16, 3) := by decide +kernel
theorem dX7_fit_52 : decode cX7_fit 52 = .ok (.iload_n 2, 1) := by decide +kernel
theorem dX7_fit_53 : decode cX7_fit 53 = .ok (.daload, 1) := by decide +kernel
theorem dX7_fit_54 : decode cX7_fit 54 = .ok (.aload_n 0, 1) := by decide +kernel
theorem dX7_fit_55 : decode cX7_fit 55 = .ok (.getfield 13, 3) := by decide +kernel
theorem dX7_fit_58 : decode cX7_fit 58 = .ok (.iload_n 2, 1) := by decide +kernel
theorem dX7_fit_59 : decode cX7_fit 59 = .ok (.daload, 1) := by decide +kernel
theorem dX7_fit_60 : decode cX7_fit 60 = .ok (.dmul, 1) := by decide +kernel
theorem dX7_fit_61 : decode cX7_fit 61 = .ok (.dastore, 1) := by decide +kernel
theorem dX7_fit_62 : decode cX7_fit 62 = .ok (.aload_n 0, 1) := by decide +kernel
theorem dX7_fit_63 : decode cX7_fit 63 = .ok (.getfield 45, 3) := by decide +kernel
theorem dX7_fit_66 : decode cX7_fit 66 = .ok (.iload_n 1, 1) := by decide +kernel
theorem dX7_fit_67 : decode cX7_fit 67 = .ok (.iconst 1, 1) := by decide +kernel
theorem dX7_fit_68 : decode cX7_fit 68 = .ok (.iastore, 1) := by decide +kernel
theorem dX7_fit_69 : decode cX7_fit 69 = .ok (.iinc 1 1, 3) := by decide +kernel
theorem dX7_fit_72 : decode cX7_fit 72 = .ok (.iload_n 1, 1) := by decide +kernel
theorem dX7_fit_73 : decode cX7_fit 73 = .ok (.iconst 1, 1) := by decide +kernel
theorem dX7_fit_74 : decode cX7_fit 74 = .ok (.if_icmp .le 90, 3) := by decide +kernel
theorem dX7_fit_77 : decode cX7_fit 77 = .ok (.aload_n 0, 1) := by decide +kernel
theorem dX7_fit_78 : decode cX7_fit 78 = .ok (.iload_n 1, 1) := by decide +kernel
theorem dX7_fit_79 : decode cX7_fit 79 = .ok (.iconst 1, 1) := by decide +kernel
theorem dX7_fit_80 : decode cX7_fit 80 = .ok (.isub, 1) := by decide +kernel
theorem dX7_fit_81 : decode cX7_fit 81 = .ok (.invokevirtual 91, 3) := by decide +kernel
theorem dX7_fit_84 : decode cX7_fit 84 = .ok (.aload_n 0, 1) := by decide +kernel
theorem dX7_fit_85 : decode cX7_fit 85 = .ok (.iload_n 1, 1) := by decide +kernel
theorem dX7_fit_86 : decode cX7_fit 86 = .ok (.iconst 2, 1) := by decide +kernel
theorem dX7_fit_87 : decode cX7_fit 87 = .ok (.isub, 1) := by decide +kernel
theorem dX7_fit_88 : decode cX7_fit 88 = .ok (.invokevirtual 91, 3) := by decide +kernel
theorem dX7_fit_91 : decode cX7_fit 91 = .ok (.dcmp .g, 1) := by decide +kernel
theorem dX7_fit_92 : decode cX7_fit 92 = .ok (.ifCond .ge 72, 3) := by decide +kernel
theorem dX7_fit_95 : decode cX7_fit 95 = .ok (.iinc 1 (-1), 3) := by decide +kernel
theorem dX7_fit_98 : decode cX7_fit 98 = .ok (.aload_n 0, 1) := by decide +kernel
theorem dX7_fit_99 : decode cX7_fit 99 = .ok (.getfield 39, 3) := by decide +kernel
theorem dX7_fit_102 : decode cX7_fit 102 = .ok (.iload_n 1, 1) := by decide +kernel
theorem dX7_fit_103 : decode cX7_fit 103 = .ok (.iconst 1, 1) := by decide +kernel
theorem dX7_fit_104 : decode cX7_fit 104 = .ok (.isub, 1) := by decide +kernel
theorem dX7_fit_105 : decode cX7_fit 105 = .ok (.aload_n 0, 1) := by decide +kernel
theorem dX7_fit_106 : decode cX7_fit 106 = .ok (.getfield 39, 3) := by decide +kernel
theorem dX7_fit_109 : decode cX7_fit 109 = .ok (.iload_n 1, 1) := by decide +kernel
theorem dX7_fit_110 : decode cX7_fit 110 = .ok (.iconst 1, 1) := by decide +kernel
theorem dX7_fit_111 : decode cX7_fit 111 = .ok (.isub, 1) := by decide +kernel
theorem dX7_fit_112 : decode cX7_fit 112 = .ok (.daload, 1) := by decide +kernel
theorem dX7_fit_113 : decode cX7_fit 113 = .ok (.aload_n 0, 1) := by decide +kernel
theorem dX7_fit_114 : decode cX7_fit 114 = .ok (.getfield 39, 3) := by decide +kernel
theorem dX7_fit_117 : decode cX7_fit 117 = .ok (.iload_n 1, 1) := by decide +kernel
theorem dX7_fit_118 : decode cX7_fit 118 = .ok (.daload, 1) := by decide +kernel
theorem dX7_fit_119 : decode cX7_fit 119 = .ok (.dadd, 1) := by decide +kernel
theorem dX7_fit_120 : decode cX7_fit 120 = .ok (.dastore, 1) := by decide +kernel
theorem dX7_fit_121 : decode cX7_fit 121 = .ok (.aload_n 0, 1) := by decide +kernel
theorem dX7_fit_122 : decode cX7_fit 122 = .ok (.getfield 42, 3) := by decide +kernel
theorem dX7_fit_125 : decode cX7_fit 125 = .ok (.iload_n 1, 1) := by decide +kernel
theorem dX7_fit_126 : decode cX7_fit 126 = .ok (.iconst 1, 1) := by decide +kernel
theorem dX7_fit_127 : decode cX7_fit 127 = .ok (.isub, 1) := by decide +kernel
theorem dX7_fit_128 : decode cX7_fit 128 = .ok (.aload_n 0, 1) := by decide +kernel
theorem dX7_fit_129 : decode cX7_fit 129 = .ok (.getfield 42, 3) := by decide +kernel
theorem dX7_fit_132 : decode cX7_fit 132 = .ok (.iload_n 1, 1) := by decide +kernel
theorem dX7_fit_133 : decode cX7_fit 133 = .ok (.iconst 1, 1) := by decide +kernel
theorem dX7_fit_134 : decode cX7_fit 134 = .ok (.isub, 1) := by decide +kernel
theorem dX7_fit_135 : decode cX7_fit 135 = .ok (.daload, 1) := by decide +kernel
theorem dX7_fit_136 : decode cX7_fit 136 = .ok (.aload_n 0, 1) := by decide +kernel
theorem dX7_fit_137 : decode cX7_fit 137 = .ok (.getfield 42, 3) := by decide +kernel
theorem dX7_fit_140 : decode cX7_fit 140 = .ok (.iload_n 1, 1) := by decide +kernel
theorem dX7_fit_141 : decode cX7_fit 141 = .ok (.daload, 1) := by decide +kernel
theorem dX7_fit_142 : decode cX7_fit 142 = .ok (.dadd, 1) := by decide +kernel
theorem dX7_fit_143 : decode cX7_fit 143 = .ok (.dastore, 1) := by decide +kernel
theorem dX7_fit_144 : decode cX7_fit 144 = .ok (.aload_n 0, 1) := by decide +kernel
theorem dX7_fit_145 : decode cX7_fit 145 = .ok (.getfield 45, 3) := by decide +kernel
theorem dX7_fit_148 : decode cX7_fit 148 = .ok (.iload_n 1, 1) := by decide +kernel
theorem dX7_fit_149 : decode cX7_fit 149 = .ok (.iconst 1, 1) := by decide +kernel
theorem dX7_fit_150 : decode cX7_fit 150 = .ok (.isub, 1) := by decide +kernel
theorem dX7_fit_151 : decode cX7_fit 151 = .ok (.dup2, 1) := by decide +kernel
theorem dX7_fit_152 : decode cX7_fit 152 = .ok (.iaload, 1) := by decide +kernel
theorem dX7_fit_153 : decode cX7_fit 153 = .ok (.aload_n 0, 1) := by decide +kernel
theorem dX7_fit_154 : decode cX7_fit 154 = .ok (.getfield 45, 3) := by decide +kernel
theorem dX7_fit_157 : decode cX7_fit 157 = .ok (.iload_n 1, 1) := by decide +kernel
theorem dX7_fit_158 : decode cX7_fit 158 = .ok (.iaload, 1) := by decide +kernel
theorem dX7_fit_159 : decode cX7_fit 159 = .ok (.iadd, 1) := by decide +kernel
theorem dX7_fit_160 : decode cX7_fit 160 = .ok (.iastore, 1) := by decide +kernel
theorem dX7_fit_161 : decode cX7_fit 161 = .ok (.goto (-89), 3) := by decide +kernel
theorem dX7_fit_164 : decode cX7_fit 164 = .ok (.iinc 2 1, 3) := by decide +kernel
theorem dX7_fit_167 : decode cX7_fit 167 = .ok (.goto (-144), 3) := by decide +kernel
theorem dX7_fit_170 : decode cX7_fit 170 = .ok (.aload_n 0, 1) := by decide +kernel
theorem dX7_fit_171 : decode cX7_fit 171 = .ok (.iconst 0, 1) := by decide +kernel
theorem dX7_fit_172 : decode cX7_fit 172 = .ok (.putfield 56, 3) := by decide +kernel
theorem dX7_fit_175 : decode cX7_fit 175 = .ok (.iconst 0, 1) := by decide +kernel
theorem dX7_fit_176 : decode cX7_fit 176 = .ok (.istore_n 2, 1) := by decide +kernel
theorem dX7_fit_177 : decode cX7_fit 177 = .ok (.iload_n 2, 1) := by decide +kernel
theorem dX7_fit_178 : decode cX7_fit 178 = .ok (.iload_n 1, 1) := by decide +kernel
theorem dX7_fit_179 : decode cX7_fit 179 = .ok (.if_icmp .ge 89, 3) := by decide +kernel
theorem dX7_fit_182 : decode cX7_fit 182 = .ok (.iconst 0, 1) := by decide +kernel
theorem dX7_fit_183 : decode cX7_fit 183 = .ok (.istore_n 3, 1) := by decide +kernel
theorem dX7_fit_184 : decode cX7_fit 184 = .ok (.iload_n 3, 1) := by decide +kernel
theorem dX7_fit_185 : decode cX7_fit 185 = .ok (.aload_n 0, 1) := by decide +kernel
theorem dX7_fit_186 : decode cX7_fit 186 = .ok (.getfield 45, 3) := by decide +kernel
theorem dX7_fit_189 : decode cX7_fit 189 = .ok (.iload_n 2, 1) := by decide +kernel
theorem dX7_fit_190 : decode cX7_fit 190 = .ok (.iaload, 1) := by decide +kernel
theorem dX7_fit_191 : decode cX7_fit 191 = .ok (.if_icmp .ge 71, 3) := by decide +kernel
theorem dX7_fit_194 : decode cX7_fit 194 = .ok (.aload_n 0, 1) := by decide +kernel
theorem dX7_fit_195 : decode cX7_fit 195 = .ok (.getfield 19, 3) := by decide +kernel
theorem dX7_fit_198 : decode cX7_fit 198 = .ok (.aload_n 0, 1) := by decide +kernel
theorem dX7_fit_199 : decode cX7_fit 199 = .ok (.getfield 56, 3) := by decide +kernel
theorem dX7_fit_202 : decode cX7_fit 202 = .ok (.aload_n 0, 1) := by decide +kernel
theorem dX7_fit_203 : decode cX7_fit 203 = .ok (.getfield 9, 3) := by decide +kernel
theorem dX7_fit_206 : decode cX7_fit 206 = .ok (.aload_n 0, 1) := by decide +kernel
theorem dX7_fit_207 : decode cX7_fit 207 = .ok (.getfield 56, 3) := by decide +kernel
theorem dX7_fit_210 : decode cX7_fit 210 = .ok (.daload, 1) := by decide +kernel
theorem dX7_fit_211 : decode cX7_fit 211 = .ok (.dastore, 1) := by decide +kernel
theorem dX7_fit_212 : decode cX7_fit 212 = .ok (.aload_n 0, 1) := by decide +kernel
theorem dX7_fit_213 : decode cX7_fit 213 = .ok (.getfield 22, 3) := by decide +kernel
theorem dX7_fit_216 : decode cX7_fit 216 = .ok (.aload_n 0, 1) := by decide +kernel
theorem dX7_fit_217 : decode cX7_fit 217 = .ok (.getfield 56, 3) := by decide +kernel
theorem dX7_fit_220 : decode cX7_fit 220 = .ok (.aload_n 0, 1) := by decide +kernel
theorem dX7_fit_221 : decode cX7_fit 221 = .ok (.iload_n 2, 1) := by decide +kernel
theorem dX7_fit_222 : decode cX7_fit 222 = .ok (.invokevirtual 91, 3) := by decide +kernel
theorem dX7_fit_225 : decode cX7_fit 225 = .ok (.dastore, 1) := by decide +kernel
theorem dX7_fit_226 : decode cX7_fit 226 = .ok (.aload_n 0, 1) := by decide +kernel
theorem dX7_fit_227 : decode cX7_fit 227 = .ok (.getfield 25, 3) := by decide +kernel
theorem dX7_fit_230 : decode cX7_fit 230 = .ok (.aload_n 0, 1) := by decide +kernel
theorem dX7_fit_231 : decode cX7_fit 231 = .ok (.getfield 56, 3) := by decide +kernel
theorem dX7_fit_234 : decode cX7_fit 234 = .ok (.iconst 0, 1) := by decide +kernel
theorem dX7_fit_235 : decode cX7_fit 235 = .ok (.bastore, 1) := by decide +kernel
theorem dX7_fit_236 : decode cX7_fit 236 = .ok (.aload_n 0, 1) := by decide +kernel
theorem dX7_fit_237 : decode cX7_fit 237 = .ok (.getfield 29, 3) := by decide +kernel
theorem dX7_fit_240 : decode cX7_fit 240 = .ok (.aload_n 0, 1) := by decide +kernel
theorem dX7_fit_241 : decode cX7_fit 241 = .ok (.getfield 56, 3) := by decide +kernel
theorem dX7_fit_244 : decode cX7_fit 244 = .ok (.dconst 0, 1) := by decide +kernel
theorem dX7_fit_245 : decode cX7_fit 245 = .ok (.dastore, 1) := by decide +kernel
theorem dX7_fit_246 : decode cX7_fit 246 = .ok (.aload_n 0, 1) := by decide +kernel
theorem dX7_fit_247 : decode cX7_fit 247 = .ok (.dup, 1) := by decide +kernel
theorem dX7_fit_248 : decode cX7_fit 248 = .ok (.getfield 56, 3) := by decide +kernel
theorem dX7_fit_251 : decode cX7_fit 251 = .ok (.iconst 1, 1) := by decide +kernel
theorem dX7_fit_252 : decode cX7_fit 252 = .ok (.iadd, 1) := by decide +kernel
theorem dX7_fit_253 : decode cX7_fit 253 = .ok (.putfield 56, 3) := by decide +kernel
theorem dX7_fit_256 : decode cX7_fit 256 = .ok (.iinc 3 1, 3) := by decide +kernel
theorem dX7_fit_259 : decode cX7_fit 259 = .ok (.goto (-75), 3) := by decide +kernel
theorem dX7_fit_262 : decode cX7_fit 262 = .ok (.iinc 2 1, 3) := by decide +kernel
theorem dX7_fit_265 : decode cX7_fit 265 = .ok (.goto (-88), 3) := by decide +kernel
theorem dX7_fit_268 : decode cX7_fit 268 = .ok (.iload_n 1, 1) := by decide +kernel
theorem dX7_fit_269 : decode cX7_fit 269 = .ok (.ireturn, 1) := by decide +kernel
theorem dX7_width_0 : decode cX7_width 0 = .ok (.aload_n 0, 1) := by decide +kernel
theorem dX7_width_1 : decode cX7_width 1 = .ok (.getfield 19, 3) := by decide +kernel
theorem dX7_width_4 : decode cX7_width 4 = .ok (.iload_n 1, 1) := by decide +kernel
theorem dX7_width_5 : decode cX7_width 5 = .ok (.iconst 1, 1) := by decide +kernel
theorem dX7_width_6 : decode cX7_width 6 = .ok (.iadd, 1) := by decide +kernel
theorem dX7_width_7 : decode cX7_width 7 = .ok (.daload, 1) := by decide +kernel
theorem dX7_width_8 : decode cX7_width 8 = .ok (.aload_n 0, 1) := by decide +kernel
theorem dX7_width_9 : decode cX7_width 9 = .ok (.getfield 19, 3) := by decide +kernel
theorem dX7_width_12 : decode cX7_width 12 = .ok (.iload_n 1, 1) := by decide +kernel
theorem dX7_width_13 : decode cX7_width 13 = .ok (.daload, 1) := by decide +kernel
theorem dX7_width_14 : decode cX7_width 14 = .ok (.dsub, 1) := by decide +kernel
theorem dX7_width_15 : decode cX7_width 15 = .ok (.dreturn, 1) := by decide +kernel
set_option maxRecDepth 20000 in
theorem ggX7_rise_X7_width : GoodIn wsX7_rise wsX7_width := goodIn_r _ [6, 7, 8, 9, 10, 11, 12, 13, 14, 15, 16, 17, 18, 19, 20, 21, 22] (by decide +kernel) (by decide +kernel)
set_option maxRecDepth 20000 in
theorem gX7_rise_X7_width : GoodIn wsX7_rise (wsV RX7 95 RX7 yX7_width wsX7_width) := goodIn_app (goodIn_of _ (by decide +kernel)) ggX7_rise_X7_width
theorem dX7_rise_0 : decode cX7_rise 0 = .ok (.aload_n 0, 1) := by decide +kernel
theorem dX7_rise_1 : decode cX7_rise 1 = .ok (.getfield 22, 3) := by decide +kernel
theorem dX7_rise_4 : decode cX7_rise 4 = .ok (.iload_n 1, 1) := by decide +kernel
theorem dX7_rise_5 : decode cX7_rise 5 = .ok (.iconst 1, 1) := by decide +kernel
theorem dX7_rise_6 : decode cX7_rise 6 = .ok (.iadd, 1) := by decide +kernel
theorem dX7_rise_7 : decode cX7_rise 7 = .ok (.daload, 1) := by decide +kernel
theorem dX7_rise_8 : decode cX7_rise 8 = .ok (.aload_n 0, 1) := by decide +kernel
theorem dX7_rise_9 : decode cX7_rise 9 = .ok (.getfield 22, 3) := by decide +kernel
theorem dX7_rise_12 : decode cX7_rise 12 = .ok (.iload_n 1, 1) := by decide +kernel
theorem dX7_rise_13 : decode cX7_rise 13 = .ok (.daload, 1) := by decide +kernel
theorem dX7_rise_14 : decode cX7_rise 14 = .ok (.dsub, 1) := by decide +kernel
theorem dX7_rise_15 : decode cX7_rise 15 = .ok (.aload_n 0, 1) := by decide +kernel
theorem dX7_rise_16 : decode cX7_rise 16 = .ok (.iload_n 1, 1) := by decide +kernel
theorem dX7_rise_17 : decode cX7_rise 17 = .ok (.invokevirtual 95, 3) := by decide +kernel
theorem dX7_rise_20 : decode cX7_rise 20 = .ok (.ddiv, 1) := by decide +kernel
theorem dX7_rise_21 : decode cX7_rise 21 = .ok (.dreturn, 1) := by decide +kernel
set_option maxRecDepth 20000 in
theorem ggX7_freeSlope_X7_rise : GoodIn wsX7_freeSlope wsX7_rise := goodIn_r _ [7, 8, 9, 10, 11, 6, 12, 13, 14, 15, 16, 17, 18, 19, 20, 21, 22, 23, 24, 25, 26, 27, 28] (by decide +kernel) (by decide +kernel)
set_option maxRecDepth 20000 in
theorem gX7_freeSlope_X7_rise : GoodIn wsX7_freeSlope (wsV RX7 98 RX7 yX7_rise wsX7_rise) := goodIn_app (goodIn_of _ (by decide +kernel)) ggX7_freeSlope_X7_rise
set_option maxRecDepth 20000 in
theorem ggX7_freeSlope_X7_width : GoodIn wsX7_freeSlope wsX7_width := goodIn_r _ [12, 13, 14, 15, 16, 17, 18, 19, 20, 21, 22, 23, 24, 25, 26, 27, 28] (by decide +kernel) (by decide +kernel)
set_option maxRecDepth 20000 in
theorem gX7_freeSlope_X7_width : GoodIn wsX7_freeSlope (wsV RX7 95 RX7 yX7_width wsX7_width) := goodIn_app (goodIn_of _ (by decide +kernel)) ggX7_freeSlope_X7_width
theorem dX7_freeSlope_0 : decode cX7_freeSlope 0 = .ok (.iload_n 2, 1) := by decide +kernel
theorem dX7_freeSlope_1 : decode cX7_freeSlope 1 = .ok (.ifCond .eq 26, 3) := by decide +kernel
theorem dX7_freeSlope_4 : decode cX7_freeSlope 4 = .ok (.iload_n 1, 1) := by decide +kernel
theorem dX7_freeSlope_5 : decode cX7_freeSlope 5 = .ok (.ifCond .ne 11, 3) := by decide +kernel
theorem dX7_freeSlope_8 : decode cX7_freeSlope 8 = .ok (.aload_n 0, 1) := by decide +kernel
theorem dX7_freeSlope_9 : decode cX7_freeSlope 9 = .ok (.iconst 0, 1) := by decide +kernel
theorem dX7_freeSlope_10 : decode cX7_freeSlope 10 = .ok (.invokevirtual 98, 3) := by decide +kernel
theorem dX7_freeSlope_13 : decode cX7_freeSlope 13 = .ok (.goto 13, 3) := by decide +kernel
theorem dX7_freeSlope_16 : decode cX7_freeSlope 16 = .ok (.aload_n 0, 1) := by decide +kernel
theorem dX7_freeSlope_17 : decode cX7_freeSlope 17 = .ok (.aload_n 0, 1) := by decide +kernel
theorem dX7_freeSlope_18 : decode cX7_freeSlope 18 = .ok (.getfield 56, 3) := by decide +kernel
theorem dX7_freeSlope_21 : decode cX7_freeSlope 21 = .ok (.iconst 2, 1) := by decide +kernel
theorem dX7_freeSlope_22 : decode cX7_freeSlope 22 = .ok (.isub, 1) := by decide +kernel
theorem dX7_freeSlope_23 : decode cX7_freeSlope 23 = .ok (.invokevirtual 98, 3) := by decide +kernel
theorem dX7_freeSlope_26 : decode cX7_freeSlope 26 = .ok (.dreturn, 1) := by decide +kernel
theorem dX7_freeSlope_27 : decode cX7_freeSlope 27 = .ok (.aload_n 0, 1) := by decide +kernel
theorem dX7_freeSlope_28 : decode cX7_freeSlope 28 = .ok (.iload_n 1, 1) := by decide +kernel
theorem dX7_freeSlope_29 : decode cX7_freeSlope 29 = .ok (.iconst 1, 1) := by decide +kernel
theorem dX7_freeSlope_30 : decode cX7_freeSlope 30 = .ok (.isub, 1) := by decide +kernel
