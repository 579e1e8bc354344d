set_option maxRecDepth 20000 in
theorem ggX0_init_X4_init : GoodIn wsX0_init wsX4_init := goodIn_r _ [13, 14, 2, 3, 15, 16, 17] (by decide +kernel) (by decide +kernel)
set_option maxRecDepth 20000 in
theorem gX0_init_X4_init : GoodIn wsX0_init (wsX4_init) := ggX0_init_X4_init
theorem dX0_init_0 : decode cX0_init 0 = .ok (.aload_n 0, 1) := by decide +kernel
theorem dX0_init_1 : decode cX0_init 1 = .ok (.invokespecial 3, 3) := by decide +kernel
theorem dX0_init_4 : decode cX0_init 4 = .ok (.aload_n 0, 1) := by decide +kernel
theorem dX0_init_5 : decode cX0_init 5 = .ok (.new 9, 3) := by decide +kernel
theorem dX0_init_8 : decode cX0_init 8 = .ok (.dup, 1) := by decide +kernel
theorem dX0_init_9 : decode cX0_init 9 = .ok (.bipush 40, 2) := by decide +kernel
theorem dX0_init_11 : decode cX0_init 11 = .ok (.invokespecial 11, 3) := by decide +kernel
theorem dX0_init_14 : decode cX0_init 14 = .ok (.putfield 14, 3) := by decide +kernel
theorem dX0_init_17 : decode cX0_init 17 = .ok (.aload_n 0, 1) := by decide +kernel
theorem dX0_init_18 : decode cX0_init 18 = .ok (.new 9, 3) := by decide +kernel
theorem dX0_init_21 : decode cX0_init 21 = .ok (.dup, 1) := by decide +kernel
theorem dX0_init_22 : decode cX0_init 22 = .ok (.bipush 40, 2) := by decide +kernel
theorem dX0_init_24 : decode cX0_init 24 = .ok (.invokespecial 11, 3) := by decide +kernel
theorem dX0_init_27 : decode cX0_init 27 = .ok (.putfield 20, 3) := by decide +kernel
theorem dX0_init_30 : decode cX0_init 30 = .ok (.aload_n 0, 1) := by decide +kernel
theorem dX0_init_31 : decode cX0_init 31 = .ok (.bipush 40, 2) := by decide +kernel
theorem dX0_init_33 : decode cX0_init 33 = .ok (.newarray .int, 2) := by decide +kernel
theorem dX0_init_35 : decode cX0_init 35 = .ok (.putfield 23, 3) := by decide +kernel
theorem dX0_init_38 : decode cX0_init 38 = .ok (.return_, 1) := by decide +kernel
theorem dX0_clear_0 : decode cX0_clear 0 = .ok (.aload_n 0, 1) := by decide +kernel
theorem dX0_clear_1 : decode cX0_clear 1 = .ok (.iconst 0, 1) := by decide +kernel
theorem dX0_clear_2 : decode cX0_clear 2 = .ok (.putfield 27, 3) := by decide +kernel
theorem dX0_clear_5 : decode cX0_clear 5 = .ok (.return_, 1) := by decide +kernel
set_option maxRecDepth 20000 in
theorem ggX0_add_X4_set : GoodIn wsX0_add wsX4_set := goodIn_r _ [9, 10, 31] (by decide +kernel) (by decide +kernel)
set_option maxRecDepth 20000 in
theorem gX0_add_X4_set : GoodIn wsX0_add (wsV RX0 31 RX4 yX4_set wsX4_set) := goodIn_app (goodIn_of _ (by decide +kernel)) ggX0_add_X4_set
set_option maxRecDepth 20000 in
theorem ggX0_add_X0_levelOf : GoodIn wsX0_add wsX0_levelOf := goodIn_r _ [15, 4, 3, 16, 17, 18, 8, 19, 10, 20, 21, 22, 27, 28, 29, 30, 31] (by decide +kernel) (by decide +kernel)
set_option maxRecDepth 20000 in
theorem gX0_add_X0_levelOf : GoodIn wsX0_add (wsV RX0 35 RX0 yX0_levelOf wsX0_levelOf) := goodIn_app (goodIn_of _ (by decide +kernel)) ggX0_add_X0_levelOf
set_option maxRecDepth 20000 in
theorem ggX0_add_X0_joinWithLeft : GoodIn wsX0_add wsX0_joinWithLeft := goodIn_r _ [26, 2, 3, 4, 1, 16, 17, 18, 8, 19, 10, 5, 6, 7, 9, 27, 28, 29, 30, 31] (by decide +kernel) (by decide +kernel)
set_option maxRecDepth 20000 in
theorem gX0_add_X0_joinWithLeft : GoodIn wsX0_add (wsV RX0 39 RX0 yX0_joinWithLeft wsX0_joinWithLeft) := goodIn_app (goodIn_of _ (by decide +kernel)) ggX0_add_X0_joinWithLeft
theorem dX0_add_0 : decode cX0_add 0 = .ok (.aload_n 0, 1) := by decide +kernel
theorem dX0_add_1 : decode cX0_add 1 = .ok (.getfield 27, 3) := by decide +kernel
theorem dX0_add_4 : decode cX0_add 4 = .ok (.ifCond .lt 15, 3) := by decide +kernel
theorem dX0_add_7 : decode cX0_add 7 = .ok (.aload_n 0, 1) := by decide +kernel
theorem dX0_add_8 : decode cX0_add 8 = .ok (.getfield 27, 3) := by decide +kernel
theorem dX0_add_11 : decode cX0_add 11 = .ok (.aload_n 0, 1) := by decide +kernel
theorem dX0_add_12 : decode cX0_add 12 = .ok (.getfield 23, 3) := by decide +kernel
theorem dX0_add_15 : decode cX0_add 15 = .ok (.arraylength, 1) := by decide +kernel
theorem dX0_add_16 : decode cX0_add 16 = .ok (.if_icmp .lt 4, 3) := by decide +kernel
theorem dX0_add_19 : decode cX0_add 19 = .ok (.return_, 1) := by decide +kernel
theorem dX0_add_20 : decode cX0_add 20 = .ok (.aload_n 0, 1) := by decide +kernel
theorem dX0_add_21 : decode cX0_add 21 = .ok (.getfield 14, 3) := by decide +kernel
theorem dX0_add_24 : decode cX0_add 24 = .ok (.aload_n 0, 1) := by decide +kernel
theorem dX0_add_25 : decode cX0_add 25 = .ok (.getfield 27, 3) := by decide +kernel
theorem dX0_add_28 : decode cX0_add 28 = .ok (.dload_n 3, 1) := by decide +kernel
theorem dX0_add_29 : decode cX0_add 29 = .ok (.invokevirtual 31, 3) := by decide +kernel
theorem dX0_add_32 : decode cX0_add 32 = .ok (.aload_n 0, 1) := by decide +kernel
theorem dX0_add_33 : decode cX0_add 33 = .ok (.getfield 20, 3) := by decide +kernel
theorem dX0_add_36 : decode cX0_add 36 = .ok (.aload_n 0, 1) := by decide +kernel
theorem dX0_add_37 : decode cX0_add 37 = .ok (.getfield 27, 3) := by decide +kernel
theorem dX0_add_40 : decode cX0_add 40 = .ok (.dload_n 3, 1) := by decide +kernel
theorem dX0_add_41 : decode cX0_add 41 = .ok (.dload_n 1, 1) := by decide +kernel
theorem dX0_add_42 : decode cX0_add 42 = .ok (.dmul, 1) := by decide +kernel
theorem dX0_add_43 : decode cX0_add 43 = .ok (.invokevirtual 31, 3) := by decide +kernel
theorem dX0_add_46 : decode cX0_add 46 = .ok (.aload_n 0, 1) := by decide +kernel
theorem dX0_add_47 : decode cX0_add 47 = .ok (.getfield 23, 3) := by decide +kernel
theorem dX0_add_50 : decode cX0_add 50 = .ok (.aload_n 0, 1) := by decide +kernel
theorem dX0_add_51 : decode cX0_add 51 = .ok (.getfield 27, 3) := by decide +kernel
theorem dX0_add_54 : decode cX0_add 54 = .ok (.iconst 1, 1) := by decide +kernel
theorem dX0_add_55 : decode cX0_add 55 = .ok (.iastore, 1) := by decide +kernel
theorem dX0_add_56 : decode cX0_add 56 = .ok (.aload_n 0, 1) := by decide +kernel
theorem dX0_add_57 : decode cX0_add 57 = .ok (.dup, 1) := by decide +kernel
theorem dX0_add_58 : decode cX0_add 58 = .ok (.getfield 27, 3) := by decide +kernel
theorem dX0_add_61 : decode cX0_add 61 = .ok (.iconst 1, 1) := by decide +kernel
theorem dX0_add_62 : decode cX0_add 62 = .ok (.iadd, 1) := by decide +kernel
theorem dX0_add_63 : decode cX0_add 63 = .ok (.putfield 27, 3) := by decide +kernel
theorem dX0_add_66 : decode cX0_add 66 = .ok (.aload_n 0, 1) := by decide +kernel
theorem dX0_add_67 : decode cX0_add 67 = .ok (.getfield 27, 3) := by decide +kernel
theorem dX0_add_70 : decode cX0_add 70 = .ok (.iconst 1, 1) := by decide +kernel
theorem dX0_add_71 : decode cX0_add 71 = .ok (.isub, 1) := by decide +kernel
theorem dX0_add_72 : decode cX0_add 72 = .ok (.istore 5, 2) := by decide +kernel
theorem dX0_add_74 : decode cX0_add 74 = .ok (.iload 5, 2) := by decide +kernel
theorem dX0_add_76 : decode cX0_add 76 = .ok (.ifCond .le 33, 3) := by decide +kernel
theorem dX0_add_79 : decode cX0_add 79 = .ok (.aload_n 0, 1) := by decide +kernel
theorem dX0_add_80 : decode cX0_add 80 = .ok (.iload 5, 2) := by decide +kernel
theorem dX0_add_82 : decode cX0_add 82 = .ok (.invokevirtual 35, 3) := by decide +kernel
theorem dX0_add_85 : decode cX0_add 85 = .ok (.aload_n 0, 1) := by decide +kernel
theorem dX0_add_86 : decode cX0_add 86 = .ok (.iload 5, 2) := by decide +kernel
theorem dX0_add_88 : decode cX0_add 88 = .ok (.iconst 1, 1) := by decide +kernel
theorem dX0_add_89 : decode cX0_add 89 = .ok (.isub, 1) := by decide +kernel
theorem dX0_add_90 : decode cX0_add 90 = .ok (.invokevirtual 35, 3) := by decide +kernel
theorem dX0_add_93 : decode cX0_add 93 = .ok (.dcmp .g, 1) := by decide +kernel
theorem dX0_add_94 : decode cX0_add 94 = .ok (.ifCond .ge 15, 3) := by decide +kernel
theorem dX0_add_97 : decode cX0_add 97 = .ok (.aload_n 0, 1) := by decide +kernel
theorem dX0_add_98 : decode cX0_add 98 = .ok (.iload 5, 2) := by decide +kernel
theorem dX0_add_100 : decode cX0_add 100 = .ok (.invokevirtual 39, 3) := by decide +kernel
theorem dX0_add_103 : decode cX0_add 103 = .ok (.iinc 5 (-1), 3) := by decide +kernel
theorem dX0_add_106 : decode cX0_add 106 = .ok (.goto (-32), 3) := by decide +kernel
theorem dX0_add_109 : decode cX0_add 109 = .ok (.return_, 1) := by decide +kernel
set_option maxRecDepth 20000 in
theorem ggX0_joinWithLeft_X4_get : GoodIn wsX0_joinWithLeft wsX4_get := goodIn_r _ [9, 10, 19] (by decide +kernel) (by decide +kernel)
set_option maxRecDepth 20000 in
theorem gX0_joinWithLeft_X4_get : GoodIn wsX0_joinWithLeft (wsV RX0 42 RX4 yX4_get wsX4_get) := goodIn_app (goodIn_of _ (by decide +kernel)) ggX0_joinWithLeft_X4_get
set_option maxRecDepth 20000 in
theorem ggX0_joinWithLeft_X4_set : GoodIn wsX0_joinWithLeft wsX4_set := goodIn_r _ [14, 10, 19] (by decide +kernel) (by decide +kernel)
set_option maxRecDepth 20000 in
theorem gX0_joinWithLeft_X4_set : GoodIn wsX0_joinWithLeft (wsV RX0 31 RX4 yX4_set wsX4_set) := goodIn_app (goodIn_of _ (by decide +kernel)) ggX0_joinWithLeft_X4_set
theorem dX0_joinWithLeft_0 : decode cX0_joinWithLeft 0 = .ok (.iload_n 1, 1) := by decide +kernel
theorem dX0_joinWithLeft_1 : decode cX0_joinWithLeft 1 = .ok (.iconst 1, 1) := by decide +kernel
theorem dX0_joinWithLeft_2 : decode cX0_joinWithLeft 2 = .ok (.isub, 1) := by decide +kernel
theorem dX0_joinWithLeft_3 : decode cX0_joinWithLeft 3 = .ok (.istore_n 2, 1) := by decide +kernel
theorem dX0_joinWithLeft_4 : decode cX0_joinWithLeft 4 = .ok (.iload_n 2, 1) := by decide +kernel
theorem dX0_joinWithLeft_5 : decode cX0_joinWithLeft 5 = .ok (.ifCond .lt 12, 3) := by decide +kernel
theorem dX0_joinWithLeft_8 : decode cX0_joinWithLeft 8 = .ok (.iload_n 1, 1) := by decide +kernel
theorem dX0_joinWithLeft_9 : decode cX0_joinWithLeft 9 = .ok (.aload_n 0, 1) := by decide +kernel
theorem dX0_joinWithLeft_10 : decode cX0_joinWithLeft 10 = .ok (.getfield 23, 3) := by decide +kernel
theorem dX0_joinWithLeft_13 : decode cX0_joinWithLeft 13 = .ok (.arraylength, 1) := by decide +kernel
theorem dX0_joinWithLeft_14 : decode cX0_joinWithLeft 14 = .ok (.if_icmp .lt 4, 3) := by decide +kernel
theorem dX0_joinWithLeft_17 : decode cX0_joinWithLeft 17 = .ok (.return_, 1) := by decide +kernel
theorem dX0_joinWithLeft_18 : decode cX0_joinWithLeft 18 = .ok (.aload_n 0, 1) := by decide +kernel
theorem dX0_joinWithLeft_19 : decode cX0_joinWithLeft 19 = .ok (.getfield 14, 3) := by decide +kernel
theorem dX0_joinWithLeft_22 : decode cX0_joinWithLeft 22 = .ok (.iload_n 2, 1) := by decide +kernel
theorem dX0_joinWithLeft_23 : decode cX0_joinWithLeft 23 = .ok (.aload_n 0, 1) := by decide +kernel
theorem dX0_joinWithLeft_24 : decode cX0_joinWithLeft 24 = .ok (.getfield 14, 3) := by decide +kernel
theorem dX0_joinWithLeft_27 : decode cX0_joinWithLeft 27 = .ok (.iload_n 2, 1) := by decide +kernel
theorem dX0_joinWithLeft_28 : decode cX0_joinWithLeft 28 = .ok (.invokevirtual 42, 3) := by decide +kernel
theorem dX0_joinWithLeft_31 : decode cX0_joinWithLeft 31 = .ok (.aload_n 0, 1) := by decide +kernel
theorem dX0_joinWithLeft_32 : decode cX0_joinWithLeft 32 = .ok (.getfield 14, 3) := by decide +kernel
theorem dX0_joinWithLeft_35 : decode cX0_joinWithLeft 35 = .ok (.iload_n 1, 1) := by decide +kernel
theorem dX0_joinWithLeft_36 : decode cX0_joinWithLeft 36 = .ok (.invokevirtual 42, 3) := by decide +kernel
theorem dX0_joinWithLeft_39 : decode cX0_joinWithLeft 39 = .ok (.dadd, 1) := by decide +kernel
theorem dX0_joinWithLeft_40 : decode cX0_joinWithLeft 40 = .ok (.invokevirtual 31, 3) := by decide +kernel
theorem dX0_joinWithLeft_43 : decode cX0_joinWithLeft 43 = .ok (.aload_n 0, 1) := by decide +kernel
theorem dX0_joinWithLeft_44 : decode cX0_joinWithLeft 44 = .ok (.getfield 20, 3) := by decide +kernel
theorem dX0_joinWithLeft_47 : decode cX0_joinWithLeft 47 = .ok (.iload_n 2, 1) := by decide +kernel
theorem dX0_joinWithLeft_48 : decode cX0_joinWithLeft 48 = .ok (.aload_n 0, 1) := by decide +kernel
theorem dX0_joinWithLeft_49 : decode cX0_joinWithLeft 49 = .ok (.getfield 20, 3) := by decide +kernel
theorem dX0_joinWithLeft_52 : decode cX0_joinWithLeft 52 = .ok (.iload_n 2, 1) := by decide +kernel
theorem dX0_joinWithLeft_53 : decode cX0_joinWithLeft 53 = .ok (.invokevirtual 42, 3) := by decide +kernel
theorem dX0_joinWithLeft_56 : decode cX0_joinWithLeft 56 = .ok (.aload_n 0, 1) := by decide +kernel
theorem dX0_joinWithLeft_57 : decode cX0_joinWithLeft 57 = .ok (.getfield 20, 3) := by decide +kernel
theorem dX0_joinWithLeft_60 : decode cX0_joinWithLeft 60 = .ok (.iload_n 1, 1) := by decide +kernel
theorem dX0_joinWithLeft_61 : decode cX0_joinWithLeft 61 = .ok (.invokevirtual 42, 3) := by decide +kernel
theorem dX0_joinWithLeft_64 : decode cX0_joinWithLeft 64 = .ok (.dadd, 1) := by decide +kernel
theorem dX0_joinWithLeft_65 : decode cX0_joinWithLeft 65 = .ok (.invokevirtual 31, 3) := by decide +kernel
theorem dX0_joinWithLeft_68 : decode cX0_joinWithLeft 68 = .ok (.aload_n 0, 1) := by decide +kernel
theorem dX0_joinWithLeft_69 : decode cX0_joinWithLeft 69 = .ok (.getfield 23, 3) := by decide +kernel
theorem dX0_joinWithLeft_72 : decode cX0_joinWithLeft 72 = .ok (.iload_n 2, 1) := by decide +kernel
theorem dX0_joinWithLeft_73 : decode cX0_joinWithLeft 73 = .ok (.aload_n 0, 1) := by decide +kernel
theorem dX0_joinWithLeft_74 : decode cX0_joinWithLeft 74 = .ok (.getfield 23, 3) := by decide +kernel
theorem dX0_joinWithLeft_77 : decode cX0_joinWithLeft 77 = .ok (.iload_n 2, 1) := by decide +kernel
theorem dX0_joinWithLeft_78 : decode cX0_joinWithLeft 78 = .ok (.iaload, 1) := by decide +kernel
theorem dX0_joinWithLeft_79 : decode cX0_joinWithLeft 79 = .ok (.aload_n 0, 1) := by decide +kernel
theorem dX0_joinWithLeft_80 : decode cX0_joinWithLeft 80 = .ok (.getfield 23, 3) := by decide +kernel
theorem dX0_joinWithLeft_83 : decode cX0_joinWithLeft 83 = .ok (.iload_n 1, 1) := by decide +kernel
theorem dX0_joinWithLeft_84 : decode cX0_joinWithLeft 84 = .ok (.iaload, 1) := by decide +kernel
theorem dX0_joinWithLeft_85 : decode cX0_joinWithLeft 85 = .ok (.iadd, 1) := by decide +kernel
theorem dX0_joinWithLeft_86 : decode cX0_joinWithLeft 86 = .ok (.iastore, 1) := by decide +kernel
theorem dX0_joinWithLeft_87 : decode cX0_joinWithLeft 87 = .ok (.aload_n 0, 1) := by decide +kernel
theorem dX0_joinWithLeft_88 : decode cX0_joinWithLeft 88 = .ok (.iload_n 1, 1) := by decide +kernel
theorem dX0_joinWithLeft_89 : decode cX0_joinWithLeft 89 = .ok (.putfield 27, 3) := by decide +kernel
theorem dX0_joinWithLeft_92 : decode cX0_joinWithLeft 92 = .ok (.return_, 1) := by decide +kernel
set_option maxRecDepth 20000 in
theorem ggX0_levelOf_X4_get : GoodIn wsX0_levelOf wsX4_get := goodIn_r _ [7, 8, 16] (by decide +kernel) (by decide +kernel)
set_option maxRecDepth 20000 in
theorem gX0_levelOf_X4_get : GoodIn wsX0_levelOf (wsV RX0 42 RX4 yX4_get wsX4_get) := goodIn_app (goodIn_of _ (by decide +kernel)) ggX0_levelOf_X4_get
set_option maxRecDepth 20000 in
theorem ggX0_levelOf_X6_ratio : GoodIn wsX0_levelOf wsX6_ratio := goodIn_r _ [11] (by decide +kernel) (by decide +kernel)
set_option maxRecDepth 20000 in
theorem gX0_levelOf_X6_ratio_n45 : GoodIn wsX0_levelOf (wsX6_ratio) := ggX0_levelOf_X6_ratio
theorem dX0_levelOf_0 : decode cX0_levelOf 0 = .ok (.aload_n 0, 1) := by decide +kernel
theorem dX0_levelOf_1 : decode cX0_levelOf 1 = .ok (.getfield 20, 3) := by decide +kernel
theorem dX0_levelOf_4 : decode cX0_levelOf 4 = .ok (.iload_n 1, 1) := by decide +kernel
theorem dX0_levelOf_5 : decode cX0_levelOf 5 = .ok (.invokevirtual 42, 3) := by decide +kernel
theorem dX0_levelOf_8 : decode cX0_levelOf 8 = .ok (.aload_n 0, 1) := by decide +kernel
theorem dX0_levelOf_9 : decode cX0_levelOf 9 = .ok (.getfield 14, 3) := by decide +kernel
theorem dX0_levelOf_12 : decode cX0_levelOf 12 = .ok (.iload_n 1, 1) := by decide +kernel
theorem dX0_levelOf_13 : decode cX0_levelOf 13 = .ok (.invokevirtual 42, 3) := by decide +kernel
theorem dX0_levelOf_16 : decode cX0_levelOf 16 = .ok (.invokestatic 45, 3) := by decide +kernel
theorem dX0_levelOf_19 : decode cX0_levelOf 19 = .ok (.dreturn, 1) := by decide +kernel
theorem dX0_sizeOf_0 : decode cX0_sizeOf 0 = .ok (.iload_n 1, 1) := by decide +kernel
theorem dX0_sizeOf_1 : decode cX0_sizeOf 1 = .ok (.ifCond .lt 21, 3) := by decide +kernel
theorem dX0_sizeOf_4 : decode cX0_sizeOf 4 = .ok (.iload_n 1, 1) := by decide +kernel
theorem dX0_sizeOf_5 : decode cX0_sizeOf 5 = .ok (.aload_n 0, 1) := by decide +kernel
theorem dX0_sizeOf_6 : decode cX0_sizeOf 6 = .ok (.getfield 23, 3) := by decide +kernel
theorem dX0_sizeOf_9 : decode cX0_sizeOf 9 = .ok (.arraylength, 1) := by decide +kernel
theorem dX0_sizeOf_10 : decode cX0_sizeOf 10 = .ok (.if_icmp .ge 12, 3) := by decide +kernel
theorem dX0_sizeOf_13 : decode cX0_sizeOf 13 = .ok (.aload_n 0, 1) := by decide +kernel
theorem dX0_sizeOf_14 : decode cX0_sizeOf 14 = .ok (.getfield 23, 3) := by decide +kernel
theorem dX0_sizeOf_17 : decode cX0_sizeOf 17 = .ok (.iload_n 1, 1) := by decide +kernel
theorem dX0_sizeOf_18 : decode cX0_sizeOf 18 = .ok (.iaload, 1) := by decide +kernel
theorem dX0_sizeOf_19 : decode cX0_sizeOf 19 = .ok (.goto 4, 3) := by decide +kernel
theorem dX0_sizeOf_22 : decode cX0_sizeOf 22 = .ok (.iconst 0, 1) := by decide +kernel
theorem dX0_sizeOf_23 : decode cX0_sizeOf 23 = .ok (.ireturn, 1) := by decide +kernel
set_option maxRecDepth 20000 in
theorem ggX1_init_X4_init : GoodIn wsX1_init wsX4_init := goodIn_r _ [12, 13, 2, 3, 14, 15, 16] (by decide +kernel) (by decide +kernel)
set_option maxRecDepth 20000 in
theorem gX1_init_X4_init : GoodIn wsX1_init (wsX4_init) := ggX1_init_X4_init
theorem dX1_init_0 : decode cX1_init 0 = .ok (.aload_n 0, 1) := by decide +kernel
theorem dX1_init_1 : decode cX1_init 1 = .ok (.invokespecial 3, 3) := by decide +kernel
theorem dX1_init_4 : decode cX1_init 4 = .ok (.aload_n 0, 1) := by decide +kernel
theorem dX1_init_5 : decode cX1_init 5 = .ok (.new 9, 3) := by decide +kernel
theorem dX1_init_8 : decode cX1_init 8 = .ok (.dup, 1) := by decide +kernel
theorem dX1_init_9 : decode cX1_init 9 = .ok (.bipush 60, 2) := by decide +kernel
theorem dX1_init_11 : decode cX1_init 11 = .ok (.invokespecial 11, 3) := by decide +kernel
theorem dX1_init_14 : decode cX1_init 14 = .ok (.putfield 14, 3) := by decide +kernel
theorem dX1_init_17 : decode cX1_init 17 = .ok (.aload_n 0, 1) := by decide +kernel
theorem dX1_init_18 : decode cX1_init 18 = .ok (.new 9, 3) := by decide +kernel
theorem dX1_init_21 : decode cX1_init 21 = .ok (.dup, 1) := by decide +kernel
theorem dX1_init_22 : decode cX1_init 22 = .ok (.bipush 60, 2) := by decide +kernel
theorem dX1_init_24 : decode cX1_init 24 = .ok (.invokespecial 11, 3) := by decide +kernel
theorem dX1_init_27 : decode cX1_init 27 = .ok (.putfield 20, 3) := by decide +kernel
theorem dX1_init_30 : decode cX1_init 30 = .ok (.aload_n 0, 1) := by decide +kernel
theorem dX1_init_31 : decode cX1_init 31 = .ok (.new 9, 3) := by decide +kernel
theorem dX1_init_34 : decode cX1_init 34 = .ok (.dup, 1) := by decide +kernel
theorem dX1_init_35 : decode cX1_init 35 = .ok (.bipush 60, 2) := by decide +kernel
theorem dX1_init_37 : decode cX1_init 37 = .ok (.invokespecial 11, 3) := by decide +kernel
theorem dX1_init_40 : decode cX1_init 40 = .ok (.putfield 23, 3) := by decide +kernel
theorem dX1_init_43 : decode cX1_init 43 = .ok (.return_, 1) := by decide +kernel
theorem dX1_clear_0 : decode cX1_clear 0 = .ok (.aload_n 0, 1) := by decide +kernel
theorem dX1_clear_1 : decode cX1_clear 1 = .ok (.iconst 0, 1) := by decide +kernel
theorem dX1_clear_2 : decode cX1_clear 2 = .ok (.putfield 26, 3) := by decide +kernel
theorem dX1_clear_5 : decode cX1_clear 5 = .ok (.return_, 1) := by decide +kernel
set_option maxRecDepth 20000 in
theorem ggX1_insert_X4_insert : GoodIn wsX1_insert wsX4_insert := goodIn_r _ [9, 10, 11, 12, 13, 8, 14, 19] (by decide +kernel) (by decide +kernel)
set_option maxRecDepth 20000 in
theorem gX1_insert_X4_insert : GoodIn wsX1_insert (wsV RX1 30 RX4 yX4_insert wsX4_insert) := goodIn_app (goodIn_of _ (by decide +kernel)) ggX1_insert_X4_insert
theorem dX1_insert_0 : decode cX1_insert 0 = .ok (.aload_n 0, 1) := by decide +kernel
theorem dX1_insert_1 : decode cX1_insert 1 = .ok (.getfield 14, 3) := by decide +kernel
theorem dX1_insert_4 : decode cX1_insert 4 = .ok (.iload_n 1, 1) := by decide +kernel
theorem dX1_insert_5 : decode cX1_insert 5 = .ok (.aload_n 0, 1) := by decide +kernel
theorem dX1_insert_6 : decode cX1_insert 6 = .ok (.getfield 26, 3) := by decide +kernel
theorem dX1_insert_9 : decode cX1_insert 9 = .ok (.dload_n 2, 1) := by decide +kernel
theorem dX1_insert_10 : decode cX1_insert 10 = .ok (.invokevirtual 30, 3) := by decide +kernel
theorem dX1_insert_13 : decode cX1_insert 13 = .ok (.aload_n 0, 1) := by decide +kernel
theorem dX1_insert_14 : decode cX1_insert 14 = .ok (.getfield 20, 3) := by decide +kernel
theorem dX1_insert_17 : decode cX1_insert 17 = .ok (.iload_n 1, 1) := by decide +kernel
theorem dX1_insert_18 : decode cX1_insert 18 = .ok (.aload_n 0, 1) := by decide +kernel
theorem dX1_insert_19 : decode cX1_insert 19 = .ok (.getfield 26, 3) := by decide +kernel
theorem dX1_insert_22 : decode cX1_insert 22 = .ok (.dload 4, 2) := by decide +kernel
theorem dX1_insert_24 : decode cX1_insert 24 = .ok (.invokevirtual 30, 3) := by decide +kernel
theorem dX1_insert_27 : decode cX1_insert 27 = .ok (.aload_n 0, 1) := by decide +kernel
theorem dX1_insert_28 : decode cX1_insert 28 = .ok (.getfield 23, 3) := by decide +kernel
theorem dX1_insert_31 : decode cX1_insert 31 = .ok (.iload_n 1, 1) := by decide +kernel
theorem dX1_insert_32 : decode cX1_insert 32 = .ok (.aload_n 0, 1) := by decide +kernel
theorem dX1_insert_33 : decode cX1_insert 33 = .ok (.getfield 26, 3) := by decide +kernel
theorem dX1_insert_36 : decode cX1_insert 36 = .ok (.dload 6, 2) := by decide +kernel
theorem dX1_insert_38 : decode cX1_insert 38 = .ok (.invokevirtual 30, 3) := by decide +kernel
theorem dX1_insert_41 : decode cX1_insert 41 = .ok (.aload_n 0, 1) := by decide +kernel
theorem dX1_insert_42 : decode cX1_insert 42 = .ok (.dup, 1) := by decide +kernel
theorem dX1_insert_43 : decode cX1_insert 43 = .ok (.getfield 26, 3) := by decide +kernel
theorem dX1_insert_46 : decode cX1_insert 46 = .ok (.iconst 1, 1) := by decide +kernel
theorem dX1_insert_47 : decode cX1_insert 47 = .ok (.iadd, 1) := by decide +kernel
theorem dX1_insert_48 : decode cX1_insert 48 = .ok (.putfield 26, 3) := by decide +kernel
theorem dX1_insert_51 : decode cX1_insert 51 = .ok (.return_, 1) := by decide +kernel
set_option maxRecDepth 20000 in
theorem ggX1_remove_X4_remove : GoodIn wsX1_remove wsX4_remove := goodIn_r _ [9, 10, 15] (by decide +kernel) (by decide +kernel)
set_option maxRecDepth 20000 in
theorem gX1_remove_X4_remove : GoodIn wsX1_remove (wsV RX1 34 RX4 yX4_remove wsX4_remove) := goodIn_app (goodIn_of _ (by decide +kernel)) ggX1_remove_X4_remove
theorem dX1_remove_0 : decode cX1_remove 0 = .ok (.aload_n 0, 1) := by decide +kernel
theorem dX1_remove_1 : decode cX1_remove 1 = .ok (.getfield 14, 3) := by decide +kernel
theorem dX1_remove_4 : decode cX1_remove 4 = .ok (.iload_n 1, 1) := by decide +kernel
theorem dX1_remove_5 : decode cX1_remove 5 = .ok (.aload_n 0, 1) := by decide +kernel
theorem dX1_remove_6 : decode cX1_remove 6 = .ok (.getfield 26, 3) := by decide +kernel
theorem dX1_remove_9 : decode cX1_remove 9 = .ok (.invokevirtual 34, 3) := by decide +kernel
theorem dX1_remove_12 : decode cX1_remove 12 = .ok (.aload_n 0, 1) := by decide +kernel
theorem dX1_remove_13 : decode cX1_remove 13 = .ok (.getfield 20, 3) := by decide +kernel
theorem dX1_remove_16 : decode cX1_remove 16 = .ok (.iload_n 1, 1) := by decide +kernel
theorem dX1_remove_17 : decode cX1_remove 17 = .ok (.aload_n 0, 1) := by decide +kernel
theorem dX1_remove_18 : decode cX1_remove 18 = .ok (.getfield 26, 3) := by decide +kernel
theorem dX1_remove_21 : decode cX1_remove 21 = .ok (.invokevirtual 34, 3) := by decide +kernel
theorem dX1_remove_24 : decode cX1_remove 24 = .ok (.aload_n 0, 1) := by decide +kernel
theorem dX1_remove_25 : decode cX1_remove 25 = .ok (.getfield 23, 3) := by decide +kernel
theorem dX1_remove_28 : decode cX1_remove 28 = .ok (.iload_n 1, 1) := by decide +kernel
theorem dX1_remove_29 : decode cX1_remove 29 = .ok (.aload_n 0, 1) := by decide +kernel
theorem dX1_remove_30 : decode cX1_remove 30 = .ok (.getfield 26, 3) := by decide +kernel
theorem dX1_remove_33 : decode cX1_remove 33 = .ok (.invokevirtual 34, 3) := by decide +kernel
theorem dX1_remove_36 : decode cX1_remove 36 = .ok (.aload_n 0, 1) := by decide +kernel
theorem dX1_remove_37 : decode cX1_remove 37 = .ok (.dup, 1) := by decide +kernel
theorem dX1_remove_38 : decode cX1_remove 38 = .ok (.getfield 26, 3) := by decide +kernel
theorem dX1_remove_41 : decode cX1_remove 41 = .ok (.iconst 1, 1) := by decide +kernel
theorem dX1_remove_42 : decode cX1_remove 42 = .ok (.isub, 1) := by decide +kernel
theorem dX1_remove_43 : decode cX1_remove 43 = .ok (.putfield 26, 3) := by decide +kernel
theorem dX1_remove_46 : decode cX1_remove 46 = .ok (.return_, 1) := by decide +kernel
set_option maxRecDepth 20000 in
theorem ggX1_spansPlace_X4_get : GoodIn wsX1_spansPlace wsX4_get := goodIn_r _ [7, 8, 16] (by decide +kernel) (by decide +kernel)
set_option maxRecDepth 20000 in
theorem gX1_spansPlace_X4_get : GoodIn wsX1_spansPlace (wsV RX1 38 RX4 yX4_get wsX4_get) := goodIn_app (goodIn_of _ (by decide +kernel)) ggX1_spansPlace_X4_get
set_option maxRecDepth 20000 in
theorem ggX1_spansPlace_X6_isFrom : GoodIn wsX1_spansPlace wsX6_isFrom := goodIn_r _ [11] (by decide +kernel) (by decide +kernel)
set_option maxRecDepth 20000 in
theorem gX1_spansPlace_X6_isFrom_n42 : GoodIn wsX1_spansPlace (wsX6_isFrom) := ggX1_spansPlace_X6_isFrom
theorem dX1_spansPlace_0 : decode cX1_spansPlace 0 = .ok (.aload_n 0, 1) := by decide +kernel
theorem dX1_spansPlace_1 : decode cX1_spansPlace 1 = .ok (.getfield 26, 3) := by decide +kernel
theorem dX1_spansPlace_4 : decode cX1_spansPlace 4 = .ok (.ifCond .le 35, 3) := by decide +kernel
theorem dX1_spansPlace_7 : decode cX1_spansPlace 7 = .ok (.aload_n 0, 1) := by decide +kernel
theorem dX1_spansPlace_8 : decode cX1_spansPlace 8 = .ok (.getfield 14, 3) := by decide +kernel
theorem dX1_spansPlace_11 : decode cX1_spansPlace 11 = .ok (.iconst 0, 1) := by decide +kernel
theorem dX1_spansPlace_12 : decode cX1_spansPlace 12 = .ok (.invokevirtual 38, 3) := by decide +kernel
theorem dX1_spansPlace_15 : decode cX1_spansPlace 15 = .ok (.aload_n 0, 1) := by decide +kernel
theorem dX1_spansPlace_16 : decode cX1_spansPlace 16 = .ok (.getfield 14, 3) := by decide +kernel
theorem dX1_spansPlace_19 : decode cX1_spansPlace 19 = .ok (.aload_n 0, 1) := by decide +kernel
theorem dX1_spansPlace_20 : decode cX1_spansPlace 20 = .ok (.getfield 26, 3) := by decide +kernel
theorem dX1_spansPlace_23 : decode cX1_spansPlace 23 = .ok (.iconst 1, 1) := by decide +kernel
theorem dX1_spansPlace_24 : decode cX1_spansPlace 24 = .ok (.isub, 1) := by decide +kernel
theorem dX1_spansPlace_25 : decode cX1_spansPlace 25 = .ok (.invokevirtual 38, 3) := by decide +kernel
theorem dX1_spansPlace_28 : decode cX1_spansPlace 28 = .ok (.dload_n 1, 1) := by decide +kernel
theorem dX1_spansPlace_29 : decode cX1_spansPlace 29 = .ok (.invokestatic 42, 3) := by decide +kernel
theorem dX1_spansPlace_32 : decode cX1_spansPlace 32 = .ok (.ifCond .eq 7, 3) := by decide +kernel
theorem dX1_spansPlace_35 : decode cX1_spansPlace 35 = .ok (.iconst 1, 1) := by decide +kernel
theorem dX1_spansPlace_36 : decode cX1_spansPlace 36 = .ok (.goto 4, 3) := by decide +kernel
theorem dX1_spansPlace_39 : decode cX1_spansPlace 39 = .ok (.iconst 0, 1) := by decide +kernel
theorem dX1_spansPlace_40 : decode cX1_spansPlace 40 = .ok (.ireturn, 1) := by decide +kernel
set_option maxRecDepth 20000 in
theorem ggX1_liesBetweenEnds_X4_get : GoodIn wsX1_liesBetweenEnds wsX4_get := goodIn_r _ [7, 8, 13] (by decide +kernel) (by decide +kernel)
set_option maxRecDepth 20000 in
theorem gX1_liesBetweenEnds_X4_get : GoodIn wsX1_liesBetweenEnds (wsV RX1 38 RX4 yX4_get wsX4_get) := goodIn_app (goodIn_of _ (by decide +kernel)) ggX1_liesBetweenEnds_X4_get
theorem dX1_liesBetweenEnds_0 : decode cX1_liesBetweenEnds 0 = .ok (.aload_n 0, 1) := by decide +kernel
theorem dX1_liesBetweenEnds_1 : decode cX1_liesBetweenEnds 1 = .ok (.getfield 26, 3) := by decide +kernel
theorem dX1_liesBetweenEnds_4 : decode cX1_liesBetweenEnds 4 = .ok (.ifCond .le 38, 3) := by decide +kernel
theorem dX1_liesBetweenEnds_7 : decode cX1_liesBetweenEnds 7 = .ok (.dload_n 1, 1) := by decide +kernel
theorem dX1_liesBetweenEnds_8 : decode cX1_liesBetweenEnds 8 = .ok (.aload_n 0, 1) := by decide +kernel
theorem dX1_liesBetweenEnds_9 : decode cX1_liesBetweenEnds 9 = .ok (.getfield 14, 3) := by decide +kernel
theorem dX1_liesBetweenEnds_12 : decode cX1_liesBetweenEnds 12 = .ok (.iconst 0, 1) := by decide +kernel
theorem dX1_liesBetweenEnds_13 : decode cX1_liesBetweenEnds 13 = .ok (.invokevirtual 38, 3) := by decide +kernel
theorem dX1_liesBetweenEnds_16 : decode cX1_liesBetweenEnds 16 = .ok (.dcmp .l, 1) := by decide +kernel
theorem dX1_liesBetweenEnds_17 : decode cX1_liesBetweenEnds 17 = .ok (.ifCond .le 25, 3) := by decide +kernel
theorem dX1_liesBetweenEnds_20 : decode cX1_liesBetweenEnds 20 = .ok (.dload_n 1, 1) := by decide +kernel
theorem dX1_liesBetweenEnds_21 : decode cX1_liesBetweenEnds 21 = .ok (.aload_n 0, 1) := by decide +kernel
theorem dX1_liesBetweenEnds_22 : decode cX1_liesBetweenEnds 22 = .ok (.getfield 14, 3) := by decide +kernel
theorem dX1_liesBetweenEnds_25 : decode cX1_liesBetweenEnds 25 = .ok (.aload_n 0, 1) := by decide +kernel
theorem dX1_liesBetweenEnds_26 : decode cX1_liesBetweenEnds 26 = .ok (.getfield 26, 3) := by decide +kernel
theorem dX1_liesBetweenEnds_29 : decode cX1_liesBetweenEnds 29 = .ok (.iconst 1, 1) := by decide +kernel
theorem dX1_liesBetweenEnds_30 : decode cX1_liesBetweenEnds 30 = .ok (.isub, 1) := by decide +kernel
theorem dX1_liesBetweenEnds_31 : decode cX1_liesBetweenEnds 31 = .ok (.invokevirtual 38, 3) := by decide +kernel
theorem dX1_liesBetweenEnds_34 : decode cX1_liesBetweenEnds 34 = .ok (.dcmp .g, 1) := by decide +kernel
theorem dX1_liesBetweenEnds_35 : decode cX1_liesBetweenEnds 35 = .ok (.ifCond .ge 7, 3) := by decide +kernel
theorem dX1_liesBetweenEnds_38 : decode cX1_liesBetweenEnds 38 = .ok (.iconst 1, 1) := by decide +kernel
theorem dX1_liesBetweenEnds_39 : decode cX1_liesBetweenEnds 39 = .ok (.goto 4, 3) := by decide +kernel
theorem dX1_liesBetweenEnds_42 : decode cX1_liesBetweenEnds 42 = .ok (.iconst 0, 1) := by decide +kernel
theorem dX1_liesBetweenEnds_43 : decode cX1_liesBetweenEnds 43 = .ok (.ireturn, 1) := by decide +kernel
set_option maxRecDepth 20000 in
theorem ggX1_pieceAt_X4_get : GoodIn wsX1_pieceAt wsX4_get := goodIn_r _ [7, 8, 13] (by decide +kernel) (by decide +kernel)
set_option maxRecDepth 20000 in
theorem gX1_pieceAt_X4_get : GoodIn wsX1_pieceAt (wsV RX1 38 RX4 yX4_get wsX4_get) := goodIn_app (goodIn_of _ (by decide +kernel)) ggX1_pieceAt_X4_get
theorem dX1_pieceAt_0 : decode cX1_pieceAt 0 = .ok (.iconst 0, 1) := by decide +kernel
theorem dX1_pieceAt_1 : decode cX1_pieceAt 1 = .ok (.istore_n 3, 1) := by decide +kernel
theorem dX1_pieceAt_2 : decode cX1_pieceAt 2 = .ok (.iload_n 3, 1) := by decide +kernel
theorem dX1_pieceAt_3 : decode cX1_pieceAt 3 = .ok (.aload_n 0, 1) := by decide +kernel
theorem dX1_pieceAt_4 : decode cX1_pieceAt 4 = .ok (.getfield 26, 3) := by decide +kernel
theorem dX1_pieceAt_7 : decode cX1_pieceAt 7 = .ok (.iconst 2, 1) := by decide +kernel
theorem dX1_pieceAt_8 : decode cX1_pieceAt 8 = .ok (.isub, 1) := by decide +kernel
theorem dX1_pieceAt_9 : decode cX1_pieceAt 9 = .ok (.if_icmp .ge 24, 3) := by decide +kernel
theorem dX1_pieceAt_12 : decode cX1_pieceAt 12 = .ok (.aload_n 0, 1) := by decide +kernel
theorem dX1_pieceAt_13 : decode cX1_pieceAt 13 = .ok (.getfield 14, 3) := by decide +kernel
theorem dX1_pieceAt_16 : decode cX1_pieceAt 16 = .ok (.iload_n 3, 1) := by decide +kernel
theorem dX1_pieceAt_17 : decode cX1_pieceAt 17 = .ok (.iconst 1, 1) := by decide +kernel
theorem dX1_pieceAt_18 : decode cX1_pieceAt 18 = .ok (.iadd, 1) := by decide +kernel
theorem dX1_pieceAt_19 : decode cX1_pieceAt 19 = .ok (.invokevirtual 38, 3) := by decide +kernel
theorem dX1_pieceAt_22 : decode cX1_pieceAt 22 = .ok (.dload_n 1, 1) := by decide +kernel
theorem dX1_pieceAt_23 : decode cX1_pieceAt 23 = .ok (.dcmp .g, 1) := by decide +kernel
theorem dX1_pieceAt_24 : decode cX1_pieceAt 24 = .ok (.ifCond .gt 9, 3) := by decide +kernel
theorem dX1_pieceAt_27 : decode cX1_pieceAt 27 = .ok (.iinc 3 1, 3) := by decide +kernel
theorem dX1_pieceAt_30 : decode cX1_pieceAt 30 = .ok (.goto (-28), 3) := by decide +kernel
theorem dX1_pieceAt_33 : decode cX1_pieceAt 33 = .ok (.iload_n 3, 1) := by decide +kernel
theorem dX1_pieceAt_34 : decode cX1_pieceAt 34 = .ok (.ireturn, 1) := by decide +kernel
set_option maxRecDepth 20000 in
theorem ggX1_widthOf_X4_get : GoodIn wsX1_widthOf wsX4_get := goodIn_r _ [6, 7, 12] (by decide +kernel) (by decide +kernel)
set_option maxRecDepth 20000 in
theorem gX1_widthOf_X4_get : GoodIn wsX1_widthOf (wsV RX1 38 RX4 yX4_get wsX4_get) := goodIn_app (goodIn_of _ (by decide +kernel)) ggX1_widthOf_X4_get
theorem dX1_widthOf_0 : decode cX1_widthOf 0 = .ok (.aload_n 0, 1) := by decide +kernel
theorem dX1_widthOf_1 : decode cX1_widthOf 1 = .ok (.getfield 14, 3) := by decide +kernel
theorem dX1_widthOf_4 : decode cX1_widthOf 4 = .ok (.iload_n 1, 1) := by decide +kernel
theorem dX1_widthOf_5 : decode cX1_widthOf 5 = .ok (.iconst 1, 1) := by decide +kernel
theorem dX1_widthOf_6 : decode cX1_widthOf 6 = .ok (.iadd, 1) := by decide +kernel
theorem dX1_widthOf_7 : decode cX1_widthOf 7 = .ok (.invokevirtual 38, 3) := by decide +kernel
theorem dX1_widthOf_10 : decode cX1_widthOf 10 = .ok (.aload_n 0, 1) := by decide +kernel
theorem dX1_widthOf_11 : decode cX1_widthOf 11 = .ok (.getfield 14, 3) := by decide +kernel
theorem dX1_widthOf_14 : decode cX1_widthOf 14 = .ok (.iload_n 1, 1) := by decide +kernel
theorem dX1_widthOf_15 : decode cX1_widthOf 15 = .ok (.invokevirtual 38, 3) := by decide +kernel
theorem dX1_widthOf_18 : decode cX1_widthOf 18 = .ok (.dsub, 1) := by decide +kernel
theorem dX1_widthOf_19 : decode cX1_widthOf 19 = .ok (.dreturn, 1) := by decide +kernel
set_option maxRecDepth 20000 in
theorem ggX1_riseOf_X4_get : GoodIn wsX1_riseOf wsX4_get := goodIn_r _ [6, 7, 21] (by decide +kernel) (by decide +kernel)
set_option maxRecDepth 20000 in
theorem gX1_riseOf_X4_get : GoodIn wsX1_riseOf (wsV RX1 38 RX4 yX4_get wsX4_get) := goodIn_app (goodIn_of _ (by decide +kernel)) ggX1_riseOf_X4_get
set_option maxRecDepth 20000 in
theorem ggX1_riseOf_X1_widthOf : GoodIn wsX1_riseOf wsX1_widthOf := goodIn_r _ [12, 13, 2, 3, 4, 5, 6, 7, 17, 18, 19, 20, 21] (by decide +kernel) (by decide +kernel)
set_option maxRecDepth 20000 in
theorem gX1_riseOf_X1_widthOf : GoodIn wsX1_riseOf (wsV RX1 46 RX1 yX1_widthOf wsX1_widthOf) := goodIn_app (goodIn_of _ (by decide +kernel)) ggX1_riseOf_X1_widthOf
set_option maxRecDepth 20000 in
theorem ggX1_riseOf_X6_ratio : GoodIn wsX1_riseOf wsX6_ratio := goodIn_r _ [16] (by decide +kernel) (by decide +kernel)
set_option maxRecDepth 20000 in
theorem gX1_riseOf_X6_ratio_n49 : GoodIn wsX1_riseOf (wsX6_ratio) := ggX1_riseOf_X6_ratio
theorem dX1_riseOf_0 : decode cX1_riseOf 0 = .ok (.aload_n 0, 1) := by decide +kernel
theorem dX1_riseOf_1 : decode cX1_riseOf 1 = .ok (.getfield 20, 3) := by decide +kernel
theorem dX1_riseOf_4 : decode cX1_riseOf 4 = .ok (.iload_n 1, 1) := by decide +kernel
theorem dX1_riseOf_5 : decode cX1_riseOf 5 = .ok (.iconst 1, 1) := by decide +kernel
theorem dX1_riseOf_6 : decode cX1_riseOf 6 = .ok (.iadd, 1) := by decide +kernel
theorem dX1_riseOf_7 : decode cX1_riseOf 7 = .ok (.invokevirtual 38, 3) := by decide +kernel
theorem dX1_riseOf_10 : decode cX1_riseOf 10 = .ok (.aload_n 0, 1) := by decide +kernel
theorem dX1_riseOf_11 : decode cX1_riseOf 11 = .ok (.getfield 20, 3) := by decide +kernel
theorem dX1_riseOf_14 : decode cX1_riseOf 14 = .ok (.iload_n 1, 1) := by decide +kernel
theorem dX1_riseOf_15 : decode cX1_riseOf 15 = .ok (.invokevirtual 38, 3) := by decide +kernel
theorem dX1_riseOf_18 : decode cX1_riseOf 18 = .ok (.dsub, 1) := by decide +kernel
theorem dX1_riseOf_19 : decode cX1_riseOf 19 = .ok (.aload_n 0, 1) := by decide +kernel
theorem dX1_riseOf_20 : decode cX1_riseOf 20 = .ok (.iload_n 1, 1) := by decide +kernel
theorem dX1_riseOf_21 : decode cX1_riseOf 21 = .ok (.invokevirtual 46, 3) := by decide +kernel
theorem dX1_riseOf_24 : decode cX1_riseOf 24 = .ok (.invokestatic 49, 3) := by decide +kernel
theorem dX1_riseOf_27 : decode cX1_riseOf 27 = .ok (.dreturn, 1) := by decide +kernel
set_option maxRecDepth 20000 in
theorem ggX1_hasFixedSlope_X4_get : GoodIn wsX1_hasFixedSlope wsX4_get := goodIn_r _ [6, 7, 12] (by decide +kernel) (by decide +kernel)
set_option maxRecDepth 20000 in
theorem gX1_hasFixedSlope_X4_get : GoodIn wsX1_hasFixedSlope (wsV RX1 38 RX4 yX4_get wsX4_get) := goodIn_app (goodIn_of _ (by decide +kernel)) ggX1_hasFixedSlope_X4_get
theorem dX1_hasFixedSlope_0 : decode cX1_hasFixedSlope 0 = .ok (.aload_n 0, 1) := by decide +kernel
theorem dX1_hasFixedSlope_1 : decode cX1_hasFixedSlope 1 = .ok (.getfield 23, 3) := by decide +kernel
theorem dX1_hasFixedSlope_4 : decode cX1_hasFixedSlope 4 = .ok (.iload_n 1, 1) := by decide +kernel
theorem dX1_hasFixedSlope_5 : decode cX1_hasFixedSlope 5 = .ok (.invokevirtual 38, 3) := by decide +kernel
theorem dX1_hasFixedSlope_8 : decode cX1_hasFixedSlope 8 = .ok (.dconst 0, 1) := by decide +kernel
theorem dX1_hasFixedSlope_9 : decode cX1_hasFixedSlope 9 = .ok (.dcmp .l, 1) := by decide +kernel
theorem dX1_hasFixedSlope_10 : decode cX1_hasFixedSlope 10 = .ok (.ifCond .lt 7, 3) := by decide +kernel
theorem dX1_hasFixedSlope_13 : decode cX1_hasFixedSlope 13 = .ok (.iconst 1, 1) := by decide +kernel
theorem dX1_hasFixedSlope_14 : decode cX1_hasFixedSlope 14 = .ok (.goto 4, 3) := by decide +kernel
theorem dX1_hasFixedSlope_17 : decode cX1_hasFixedSlope 17 = .ok (.iconst 0, 1) := by decide +kernel
theorem dX1_hasFixedSlope_18 : decode cX1_hasFixedSlope 18 = .ok (.ireturn, 1) := by decide +kernel
set_option maxRecDepth 20000 in
theorem ggX1_slopeOf_X1_riseOf : GoodIn wsX1_slopeOf wsX1_riseOf := goodIn_r _ [8, 9, 10, 11, 12, 13, 14, 15, 16, 17, 18, 7, 19, 20, 21, 22, 23, 33, 34, 35, 36, 37] (by decide +kernel) (by decide +kernel)
set_option maxRecDepth 20000 in
theorem gX1_slopeOf_X1_riseOf : GoodIn wsX1_slopeOf (wsV RX1 53 RX1 yX1_riseOf wsX1_riseOf) := goodIn_app (goodIn_of _ (by decide +kernel)) ggX1_slopeOf_X1_riseOf
set_option maxRecDepth 20000 in
theorem ggX1_slopeOf_X1_hasFixedSlope : GoodIn wsX1_slopeOf wsX1_hasFixedSlope := goodIn_r _ [27, 3, 10, 11, 12, 13, 14, 15, 33, 34, 35, 36, 37] (by decide +kernel) (by decide +kernel)
set_option maxRecDepth 20000 in
theorem gX1_slopeOf_X1_hasFixedSlope : GoodIn wsX1_slopeOf (wsV RX1 58 RX1 yX1_hasFixedSlope wsX1_hasFixedSlope) := goodIn_app (goodIn_of _ (by decide +kernel)) ggX1_slopeOf_X1_hasFixedSlope
set_option maxRecDepth 20000 in
theorem ggX1_slopeOf_X4_get : GoodIn wsX1_slopeOf wsX4_get := goodIn_r _ [14, 15, 37] (by decide +kernel) (by decide +kernel)
set_option maxRecDepth 20000 in
theorem gX1_slopeOf_X4_get : GoodIn wsX1_slopeOf (wsV RX1 38 RX4 yX4_get wsX4_get) := goodIn_app (goodIn_of _ (by decide +kernel)) ggX1_slopeOf_X4_get
set_option maxRecDepth 20000 in
theorem ggX1_slopeOf_X1_unfixedSlopeOf : GoodIn wsX1_slopeOf wsX1_unfixedSlopeOf := goodIn_r _ [31, 1, 32, 16, 17, 18, 7, 19, 20, 10, 11, 12, 13, 14, 15, 21, 22, 23, 33, 34, 35, 36, 37] (by decide +kernel) (by decide +kernel)
set_option maxRecDepth 20000 in
theorem gX1_slopeOf_X1_unfixedSlopeOf : GoodIn wsX1_slopeOf (wsV RX1 62 RX1 yX1_unfixedSlopeOf wsX1_unfixedSlopeOf) := goodIn_app (goodIn_of _ (by decide +kernel)) ggX1_slopeOf_X1_unfixedSlopeOf
theorem dX1_slopeOf_0 : decode cX1_slopeOf 0 = .ok (.aload_n 0, 1) := by decide +kernel
theorem dX1_slopeOf_1 : decode cX1_slopeOf 1 = .ok (.iload_n 1, 1) := by decide +kernel
theorem dX1_slopeOf_2 : decode cX1_slopeOf 2 = .ok (.ifCond .le 9, 3) := by decide +kernel
theorem dX1_slopeOf_5 : decode cX1_slopeOf 5 = .ok (.iload_n 1, 1) := by decide +kernel
theorem dX1_slopeOf_6 : decode cX1_slopeOf 6 = .ok (.iconst 1, 1) := by decide +kernel
theorem dX1_slopeOf_7 : decode cX1_slopeOf 7 = .ok (.isub, 1) := by decide +kernel
theorem dX1_slopeOf_8 : decode cX1_slopeOf 8 = .ok (.goto 4, 3) := by decide +kernel
theorem dX1_slopeOf_11 : decode cX1_slopeOf 11 = .ok (.iconst 0, 1) := by decide +kernel
theorem dX1_slopeOf_12 : decode cX1_slopeOf 12 = .ok (.invokevirtual 53, 3) := by decide +kernel
theorem dX1_slopeOf_15 : decode cX1_slopeOf 15 = .ok (.dstore_n 2, 1) := by decide +kernel
theorem dX1_slopeOf_16 : decode cX1_slopeOf 16 = .ok (.aload_n 0, 1) := by decide +kernel
theorem dX1_slopeOf_17 : decode cX1_slopeOf 17 = .ok (.iload_n 1, 1) := by decide +kernel
theorem dX1_slopeOf_18 : decode cX1_slopeOf 18 = .ok (.aload_n 0, 1) := by decide +kernel
theorem dX1_slopeOf_19 : decode cX1_slopeOf 19 = .ok (.getfield 26, 3) := by decide +kernel
theorem dX1_slopeOf_22 : decode cX1_slopeOf 22 = .ok (.iconst 1, 1) := by decide +kernel
theorem dX1_slopeOf_23 : decode cX1_slopeOf 23 = .ok (.isub, 1) := by decide +kernel
theorem dX1_slopeOf_24 : decode cX1_slopeOf 24 = .ok (.if_icmp .ge 7, 3) := by decide +kernel
theorem dX1_slopeOf_27 : decode cX1_slopeOf 27 = .ok (.iload_n 1, 1) := by decide +kernel
theorem dX1_slopeOf_28 : decode cX1_slopeOf 28 = .ok (.goto 9, 3) := by decide +kernel
theorem dX1_slopeOf_31 : decode cX1_slopeOf 31 = .ok (.aload_n 0, 1) := by decide +kernel
theorem dX1_slopeOf_32 : decode cX1_slopeOf 32 = .ok (.getfield 26, 3) := by decide +kernel
theorem dX1_slopeOf_35 : decode cX1_slopeOf 35 = .ok (.iconst 2, 1) := by decide +kernel
theorem dX1_slopeOf_36 : decode cX1_slopeOf 36 = .ok (.isub, 1) := by decide +kernel
theorem dX1_slopeOf_37 : decode cX1_slopeOf 37 = .ok (.invokevirtual 53, 3) := by decide +kernel
theorem dX1_slopeOf_40 : decode cX1_slopeOf 40 = .ok (.dstore 4, 2) := by decide +kernel
theorem dX1_slopeOf_42 : decode cX1_slopeOf 42 = .ok (.ldc2_w 56, 3) := by decide +kernel
theorem dX1_slopeOf_45 : decode cX1_slopeOf 45 = .ok (.dload_n 2, 1) := by decide +kernel
theorem dX1_slopeOf_46 : decode cX1_slopeOf 46 = .ok (.dload 4, 2) := by decide +kernel
theorem dX1_slopeOf_48 : decode cX1_slopeOf 48 = .ok (.dcmp .g, 1) := by decide +kernel
theorem dX1_slopeOf_49 : decode cX1_slopeOf 49 = .ok (.ifCond .ge 7, 3) := by decide +kernel
theorem dX1_slopeOf_52 : decode cX1_slopeOf 52 = .ok (.dload_n 2, 1) := by decide +kernel
theorem dX1_slopeOf_53 : decode cX1_slopeOf 53 = .ok (.goto 5, 3) := by decide +kernel
theorem dX1_slopeOf_56 : decode cX1_slopeOf 56 = .ok (.dload 4, 2) := by decide +kernel
theorem dX1_slopeOf_58 : decode cX1_slopeOf 58 = .ok (.dmul, 1) := by decide +kernel
theorem dX1_slopeOf_59 : decode cX1_slopeOf 59 = .ok (.dstore 6, 2) := by decide +kernel
theorem dX1_slopeOf_61 : decode cX1_slopeOf 61 = .ok (.aload_n 0, 1) := by decide +kernel
theorem dX1_slopeOf_62 : decode cX1_slopeOf 62 = .ok (.iload_n 1, 1) := by decide +kernel
theorem dX1_slopeOf_63 : decode cX1_slopeOf 63 = .ok (.invokevirtual 58, 3) := by decide +kernel
theorem dX1_slopeOf_66 : decode cX1_slopeOf 66 = .ok (.ifCond .eq 14, 3) := by decide +kernel
theorem dX1_slopeOf_69 : decode cX1_slopeOf 69 = .ok (.aload_n 0, 1) := by decide +kernel
theorem dX1_slopeOf_70 : decode cX1_slopeOf 70 = .ok (.getfield 23, 3) := by decide +kernel
theorem dX1_slopeOf_73 : decode cX1_slopeOf 73 = .ok (.iload_n 1, 1) := by decide +kernel
theorem dX1_slopeOf_74 : decode cX1_slopeOf 74 = .ok (.invokevirtual 38, 3) := by decide +kernel
theorem dX1_slopeOf_77 : decode cX1_slopeOf 77 = .ok (.goto 11, 3) := by decide +kernel
theorem dX1_slopeOf_80 : decode cX1_slopeOf 80 = .ok (.aload_n 0, 1) := by decide +kernel
theorem dX1_slopeOf_81 : decode cX1_slopeOf 81 = .ok (.iload_n 1, 1) := by decide +kernel
theorem dX1_slopeOf_82 : decode cX1_slopeOf 82 = .ok (.dload_n 2, 1) := by decide +kernel
theorem dX1_slopeOf_83 : decode cX1_slopeOf 83 = .ok (.dload 4, 2) := by decide +kernel
theorem dX1_slopeOf_85 : decode cX1_slopeOf 85 = .ok (.invokevirtual 62, 3) := by decide +kernel
theorem dX1_slopeOf_88 : decode cX1_slopeOf 88 = .ok (.dstore 8, 2) := by decide +kernel
theorem dX1_slopeOf_90 : decode cX1_slopeOf 90 = .ok (.dload 8, 2) := by decide +kernel
theorem dX1_slopeOf_92 : decode cX1_slopeOf 92 = .ok (.dload 6, 2) := by decide +kernel
theorem dX1_slopeOf_94 : decode cX1_slopeOf 94 = .ok (.dcmp .l, 1) := by decide +kernel
theorem dX1_slopeOf_95 : decode cX1_slopeOf 95 = .ok (.ifCond .le 8, 3) := by decide +kernel
theorem dX1_slopeOf_98 : decode cX1_slopeOf 98 = .ok (.dload 6, 2) := by decide +kernel
theorem dX1_slopeOf_100 : decode cX1_slopeOf 100 = .ok (.goto 5, 3) := by decide +kernel
theorem dX1_slopeOf_103 : decode cX1_slopeOf 103 = .ok (.dload 8, 2) := by decide +kernel
theorem dX1_slopeOf_105 : decode cX1_slopeOf 105 = .ok (.dreturn, 1) := by decide +kernel
set_option maxRecDepth 20000 in
theorem ggX1_unfixedSlopeOf_X1_widthOf : GoodIn wsX1_unfixedSlopeOf wsX1_widthOf := goodIn_r _ [7, 8, 9, 10, 11, 12, 13, 14, 18, 19, 20, 21, 22] (by decide +kernel) (by decide +kernel)
set_option maxRecDepth 20000 in
theorem gX1_unfixedSlopeOf_X1_widthOf : GoodIn wsX1_unfixedSlopeOf (wsV RX1 46 RX1 yX1_widthOf wsX1_widthOf) := goodIn_app (goodIn_of _ (by decide +kernel)) ggX1_unfixedSlopeOf_X1_widthOf
set_option maxRecDepth 20000 in
theorem ggX1_unfixedSlopeOf_X6_ratio : GoodIn wsX1_unfixedSlopeOf wsX6_ratio := goodIn_r _ [17] (by decide +kernel) (by decide +kernel)
set_option maxRecDepth 20000 in
theorem gX1_unfixedSlopeOf_X6_ratio_n49 : GoodIn wsX1_unfixedSlopeOf (wsX6_ratio) := ggX1_unfixedSlopeOf_X6_ratio
theorem dX1_unfixedSlopeOf_0 : decode cX1_unfixedSlopeOf 0 = .ok (.iload_n 1, 1) := by decide +kernel
theorem dX1_unfixedSlopeOf_1 : decode cX1_unfixedSlopeOf 1 = .ok (.ifCond .le 13, 3) := by decide +kernel
theorem dX1_unfixedSlopeOf_4 : decode cX1_unfixedSlopeOf 4 = .ok (.iload_n 1, 1) := by decide +kernel
theorem dX1_unfixedSlopeOf_5 : decode cX1_unfixedSlopeOf 5 = .ok (.aload_n 0, 1) := by decide +kernel
theorem dX1_unfixedSlopeOf_6 : decode cX1_unfixedSlopeOf 6 = .ok (.getfield 26, 3) := by decide +kernel
theorem dX1_unfixedSlopeOf_9 : decode cX1_unfixedSlopeOf 9 = .ok (.iconst 1, 1) := by decide +kernel
theorem dX1_unfixedSlopeOf_10 : decode cX1_unfixedSlopeOf 10 = .ok (.isub, 1) := by decide +kernel
theorem dX1_unfixedSlopeOf_11 : decode cX1_unfixedSlopeOf 11 = .ok (.if_icmp .lt 5, 3) := by decide +kernel
theorem dX1_unfixedSlopeOf_14 : decode cX1_unfixedSlopeOf 14 = .ok (.dload_n 2, 1) := by decide +kernel
theorem dX1_unfixedSlopeOf_15 : decode cX1_unfixedSlopeOf 15 = .ok (.dreturn, 1) := by decide +kernel
theorem dX1_unfixedSlopeOf_16 : decode cX1_unfixedSlopeOf 16 = .ok (.dload_n 2, 1) := by decide +kernel
theorem dX1_unfixedSlopeOf_17 : decode cX1_unfixedSlopeOf 17 = .ok (.dconst 0, 1) := by decide +kernel
theorem dX1_unfixedSlopeOf_18 : decode cX1_unfixedSlopeOf 18 = .ok (.dcmp .l, 1) := by decide +kernel
theorem dX1_unfixedSlopeOf_19 : decode cX1_unfixedSlopeOf 19 = .ok (.ifCond .eq 10, 3) := by decide +kernel
theorem dX1_unfixedSlopeOf_22 : decode cX1_unfixedSlopeOf 22 = .ok (.dload 4, 2) := by decide +kernel
theorem dX1_unfixedSlopeOf_24 : decode cX1_unfixedSlopeOf 24 = .ok (.dconst 0, 1) := by decide +kernel
theorem dX1_unfixedSlopeOf_25 : decode cX1_unfixedSlopeOf 25 = .ok (.dcmp .l, 1) := by decide +kernel
theorem dX1_unfixedSlopeOf_26 : decode cX1_unfixedSlopeOf 26 = .ok (.ifCond .ne 5, 3) := by decide +kernel
theorem dX1_unfixedSlopeOf_29 : decode cX1_unfixedSlopeOf 29 = .ok (.dconst 0, 1) := by decide +kernel
theorem dX1_unfixedSlopeOf_30 : decode cX1_unfixedSlopeOf 30 = .ok (.dreturn, 1) := by decide +kernel
theorem dX1_unfixedSlopeOf_31 : decode cX1_unfixedSlopeOf 31 = .ok (.ldc2_w 66, 3) := by decide +kernel
theorem dX1_unfixedSlopeOf_34 : decode cX1_unfixedSlopeOf 34 = .ok (.aload_n 0, 1) := by decide +kernel
theorem dX1_unfixedSlopeOf_35 : decode cX1_unfixedSlopeOf 35 = .ok (.iload_n 1, 1) := by decide +kernel
theorem dX1_unfixedSlopeOf_36 : decode cX1_unfixedSlopeOf 36 = .ok (.invokevirtual 46, 3) := by decide +kernel
theorem dX1_unfixedSlopeOf_39 : decode cX1_unfixedSlopeOf 39 = .ok (.dmul, 1) := by decide +kernel
theorem dX1_unfixedSlopeOf_40 : decode cX1_unfixedSlopeOf 40 = .ok (.aload_n 0, 1) := by decide +kernel
theorem dX1_unfixedSlopeOf_41 : decode cX1_unfixedSlopeOf 41 = .ok (.iload_n 1, 1) := by decide +kernel
theorem dX1_unfixedSlopeOf_42 : decode cX1_unfixedSlopeOf 42 = .ok (.iconst 1, 1) := by decide +kernel
theorem dX1_unfixedSlopeOf_43 : decode cX1_unfixedSlopeOf 43 = .ok (.isub, 1) := by decide +kernel
theorem dX1_unfixedSlopeOf_44 : decode cX1_unfixedSlopeOf 44 = .ok (.invokevirtual 46, 3) := by decide +kernel
theorem dX1_unfixedSlopeOf_47 : decode cX1_unfixedSlopeOf 47 = .ok (.dadd, 1) := by decide +kernel
theorem dX1_unfixedSlopeOf_48 : decode cX1_unfixedSlopeOf 48 = .ok (.dstore 6, 2) := by decide +kernel
theorem dX1_unfixedSlopeOf_50 : decode cX1_unfixedSlopeOf 50 = .ok (.aload_n 0, 1) := by decide +kernel
theorem dX1_unfixedSlopeOf_51 : decode cX1_unfixedSlopeOf 51 = .ok (.iload_n 1, 1) := by decide +kernel
theorem dX1_unfixedSlopeOf_52 : decode cX1_unfixedSlopeOf 52 = .ok (.invokevirtual 46, 3) := by decide +kernel
theorem dX1_unfixedSlopeOf_55 : decode cX1_unfixedSlopeOf 55 = .ok (.ldc2_w 66, 3) := by decide +kernel
theorem dX1_unfixedSlopeOf_58 : decode cX1_unfixedSlopeOf 58 = .ok (.aload_n 0, 1) := by decide +kernel
theorem dX1_unfixedSlopeOf_59 : decode cX1_unfixedSlopeOf 59 = .ok (.iload_n 1, 1) := by decide +kernel
theorem dX1_unfixedSlopeOf_60 : decode cX1_unfixedSlopeOf 60 = .ok (.iconst 1, 1) := by decide +kernel
theorem dX1_unfixedSlopeOf_61 : decode cX1_unfixedSlopeOf 61 = .ok (.isub, 1) := by decide +kernel
theorem dX1_unfixedSlopeOf_62 : decode cX1_unfixedSlopeOf 62 = .ok (.invokevirtual 46, 3) := by decide +kernel
theorem dX1_unfixedSlopeOf_65 : decode cX1_unfixedSlopeOf 65 = .ok (.dmul, 1) := by decide +kernel
theorem dX1_unfixedSlopeOf_66 : decode cX1_unfixedSlopeOf 66 = .ok (.dadd, 1) := by decide +kernel
theorem dX1_unfixedSlopeOf_67 : decode cX1_unfixedSlopeOf 67 = .ok (.dstore 8, 2) := by decide +kernel
theorem dX1_unfixedSlopeOf_69 : decode cX1_unfixedSlopeOf 69 = .ok (.dload 6, 2) := by decide +kernel
theorem dX1_unfixedSlopeOf_71 : decode cX1_unfixedSlopeOf 71 = .ok (.dload 8, 2) := by decide +kernel
theorem dX1_unfixedSlopeOf_73 : decode cX1_unfixedSlopeOf 73 = .ok (.dadd, 1) := by decide +kernel
theorem dX1_unfixedSlopeOf_74 : decode cX1_unfixedSlopeOf 74 = .ok (.dload 6, 2) := by decide +kernel
theorem dX1_unfixedSlopeOf_76 : decode cX1_unfixedSlopeOf 76 = .ok (.dload_n 2, 1) := by decide +kernel
theorem dX1_unfixedSlopeOf_77 : decode cX1_unfixedSlopeOf 77 = .ok (.ddiv, 1) := by decide +kernel
theorem dX1_unfixedSlopeOf_78 : decode cX1_unfixedSlopeOf 78 = .ok (.dload 8, 2) := by decide +kernel
theorem dX1_unfixedSlopeOf_80 : decode cX1_unfixedSlopeOf 80 = .ok (.dload 4, 2) := by decide +kernel
theorem dX1_unfixedSlopeOf_82 : decode cX1_unfixedSlopeOf 82 = .ok (.ddiv, 1) := by decide +kernel
theorem dX1_unfixedSlopeOf_83 : decode cX1_unfixedSlopeOf 83 = .ok (.dadd, 1) := by decide +kernel
theorem dX1_unfixedSlopeOf_84 : decode cX1_unfixedSlopeOf 84 = .ok (.invokestatic 49, 3) := by decide +kernel
theorem dX1_unfixedSlopeOf_87 : decode cX1_unfixedSlopeOf 87 = .ok (.dreturn, 1) := by decide +kernel
theorem dX2_init_0 : decode cX2_init 0 = .ok (.aload_n 0, 1) := by decide +kernel
theorem dX2_init_1 : decode cX2_init 1 = .ok (.invokespecial 1, 3) := by decide +kernel
theorem dX2_init_4 : decode cX2_init 4 = .ok (.return_, 1) := by decide +kernel
theorem dX2_startAt_0 : decode cX2_startAt 0 = .ok (.aload_n 0, 1) := by decide +kernel
theorem dX2_startAt_1 : decode cX2_startAt 1 = .ok (.dload_n 1, 1) := by decide +kernel
theorem dX2_startAt_2 : decode cX2_startAt 2 = .ok (.putfield 7, 3) := by decide +kernel
theorem dX2_startAt_5 : decode cX2_startAt 5 = .ok (.aload_n 0, 1) := by decide +kernel
theorem dX2_startAt_6 : decode cX2_startAt 6 = .ok (.dload_n 3, 1) := by decide +kernel
theorem dX2_startAt_7 : decode cX2_startAt 7 = .ok (.putfield 13, 3) := by decide +kernel
theorem dX2_startAt_10 : decode cX2_startAt 10 = .ok (.return_, 1) := by decide +kernel
set_option maxRecDepth 20000 in
theorem ggX2_bend_X6_ratio : GoodIn wsX2_bend wsX6_ratio := goodIn_r _ [8] (by decide +kernel) (by decide +kernel)
set_option maxRecDepth 20000 in
theorem gX2_bend_X6_ratio_n23 : GoodIn wsX2_bend (wsX6_ratio) := ggX2_bend_X6_ratio
theorem dX2_bend_0 : decode cX2_bend 0 = .ok (.aload_n 0, 1) := by decide +kernel
theorem dX2_bend_1 : decode cX2_bend 1 = .ok (.dload 5, 2) := by decide +kernel
theorem dX2_bend_3 : decode cX2_bend 3 = .ok (.putfield 16, 3) := by decide +kernel
theorem dX2_bend_6 : decode cX2_bend 6 = .ok (.dload 7, 2) := by decide +kernel
theorem dX2_bend_8 : decode cX2_bend 8 = .ok (.dstore 9, 2) := by decide +kernel
theorem dX2_bend_10 : decode cX2_bend 10 = .ok (.aload_n 0, 1) := by decide +kernel
theorem dX2_bend_11 : decode cX2_bend 11 = .ok (.ldc2_w 19, 3) := by decide +kernel
theorem dX2_bend_14 : decode cX2_bend 14 = .ok (.dload_n 3, 1) := by decide +kernel
theorem dX2_bend_15 : decode cX2_bend 15 = .ok (.dmul, 1) := by decide +kernel
theorem dX2_bend_16 : decode cX2_bend 16 = .ok (.ldc2_w 21, 3) := by decide +kernel
theorem dX2_bend_19 : decode cX2_bend 19 = .ok (.aload_n 0, 1) := by decide +kernel
theorem dX2_bend_20 : decode cX2_bend 20 = .ok (.getfield 16, 3) := by decide +kernel
theorem dX2_bend_23 : decode cX2_bend 23 = .ok (.dmul, 1) := by decide +kernel
theorem dX2_bend_24 : decode cX2_bend 24 = .ok (.dsub, 1) := by decide +kernel
theorem dX2_bend_25 : decode cX2_bend 25 = .ok (.dload 9, 2) := by decide +kernel
theorem dX2_bend_27 : decode cX2_bend 27 = .ok (.dsub, 1) := by decide +kernel
theorem dX2_bend_28 : decode cX2_bend 28 = .ok (.dload_n 1, 1) := by decide +kernel
theorem dX2_bend_29 : decode cX2_bend 29 = .ok (.invokestatic 23, 3) := by decide +kernel
theorem dX2_bend_32 : decode cX2_bend 32 = .ok (.putfield 29, 3) := by decide +kernel
theorem dX2_bend_35 : decode cX2_bend 35 = .ok (.aload_n 0, 1) := by decide +kernel
theorem dX2_bend_36 : decode cX2_bend 36 = .ok (.aload_n 0, 1) := by decide +kernel
theorem dX2_bend_37 : decode cX2_bend 37 = .ok (.getfield 16, 3) := by decide +kernel
theorem dX2_bend_40 : decode cX2_bend 40 = .ok (.dload 9, 2) := by decide +kernel
theorem dX2_bend_42 : decode cX2_bend 42 = .ok (.dadd, 1) := by decide +kernel
theorem dX2_bend_43 : decode cX2_bend 43 = .ok (.ldc2_w 21, 3) := by decide +kernel
theorem dX2_bend_46 : decode cX2_bend 46 = .ok (.dload_n 3, 1) := by decide +kernel
theorem dX2_bend_47 : decode cX2_bend 47 = .ok (.dmul, 1) := by decide +kernel
theorem dX2_bend_48 : decode cX2_bend 48 = .ok (.dsub, 1) := by decide +kernel
theorem dX2_bend_49 : decode cX2_bend 49 = .ok (.dload_n 1, 1) := by decide +kernel
theorem dX2_bend_50 : decode cX2_bend 50 = .ok (.dload_n 1, 1) := by decide +kernel
theorem dX2_bend_51 : decode cX2_bend 51 = .ok (.dmul, 1) := by decide +kernel
theorem dX2_bend_52 : decode cX2_bend 52 = .ok (.invokestatic 23, 3) := by decide +kernel
theorem dX2_bend_55 : decode cX2_bend 55 = .ok (.putfield 32, 3) := by decide +kernel
theorem dX2_bend_58 : decode cX2_bend 58 = .ok (.return_, 1) := by decide +kernel
theorem dX2_heightAt_0 : decode cX2_heightAt 0 = .ok (.dload_n 1, 1) := by decide +kernel
theorem dX2_heightAt_1 : decode cX2_heightAt 1 = .ok (.aload_n 0, 1) := by decide +kernel
theorem dX2_heightAt_2 : decode cX2_heightAt 2 = .ok (.getfield 7, 3) := by decide +kernel
theorem dX2_heightAt_5 : decode cX2_heightAt 5 = .ok (.dsub, 1) := by decide +kernel
theorem dX2_heightAt_6 : decode cX2_heightAt 6 = .ok (.dstore_n 3, 1) := by decide +kernel
theorem dX2_heightAt_7 : decode cX2_heightAt 7 = .ok (.aload_n 0, 1) := by decide +kernel
theorem dX2_heightAt_8 : decode cX2_heightAt 8 = .ok (.getfield 13, 3) := by decide +kernel
theorem dX2_heightAt_11 : decode cX2_heightAt 11 = .ok (.dload_n 3, 1) := by decide +kernel
theorem dX2_heightAt_12 : decode cX2_heightAt 12 = .ok (.aload_n 0, 1) := by decide +kernel
theorem dX2_heightAt_13 : decode cX2_heightAt 13 = .ok (.getfield 16, 3) := by decide +kernel
theorem dX2_heightAt_16 : decode cX2_heightAt 16 = .ok (.dload_n 3, 1) := by decide +kernel
theorem dX2_heightAt_17 : decode cX2_heightAt 17 = .ok (.aload_n 0, 1) := by decide +kernel
theorem dX2_heightAt_18 : decode cX2_heightAt 18 = .ok (.getfield 29, 3) := by decide +kernel
theorem dX2_heightAt_21 : decode cX2_heightAt 21 = .ok (.dload_n 3, 1) := by decide +kernel
theorem dX2_heightAt_22 : decode cX2_heightAt 22 = .ok (.aload_n 0, 1) := by decide +kernel
theorem dX2_heightAt_23 : decode cX2_heightAt 23 = .ok (.getfield 32, 3) := by decide +kernel
theorem dX2_heightAt_26 : decode cX2_heightAt 26 = .ok (.dmul, 1) := by decide +kernel
theorem dX2_heightAt_27 : decode cX2_heightAt 27 = .ok (.dadd, 1) := by decide +kernel
theorem dX2_heightAt_28 : decode cX2_heightAt 28 = .ok (.dmul, 1) := by decide +kernel
theorem dX2_heightAt_29 : decode cX2_heightAt 29 = .ok (.dadd, 1) := by decide +kernel
theorem dX2_heightAt_30 : decode cX2_heightAt 30 = .ok (.dmul, 1) := by decide +kernel
theorem dX2_heightAt_31 : decode cX2_heightAt 31 = .ok (.dadd, 1) := by decide +kernel
theorem dX2_heightAt_32 : decode cX2_heightAt 32 = .ok (.dreturn, 1) := by decide +kernel
theorem dX2_steepnessAt_0 : decode cX2_steepnessAt 0 = .ok (.dload_n 1, 1) := by decide +kernel
theorem dX2_steepnessAt_1 : decode cX2_steepnessAt 1 = .ok (.aload_n 0, 1) := by decide +kernel
theorem dX2_steepnessAt_2 : decode cX2_steepnessAt 2 = .ok (.getfield 7, 3) := by decide +kernel
theorem dX2_steepnessAt_5 : decode cX2_steepnessAt 5 = .ok (.dsub, 1) := by decide +kernel
theorem dX2_steepnessAt_6 : decode cX2_steepnessAt 6 = .ok (.dstore_n 3, 1) := by decide +kernel
theorem dX2_steepnessAt_7 : decode cX2_steepnessAt 7 = .ok (.aload_n 0, 1) := by decide +kernel
theorem dX2_steepnessAt_8 : decode cX2_steepnessAt 8 = .ok (.getfield 16, 3) := by decide +kernel
theorem dX2_steepnessAt_11 : decode cX2_steepnessAt 11 = .ok (.dload_n 3, 1) := by decide +kernel
theorem dX2_steepnessAt_12 : decode cX2_steepnessAt 12 = .ok (.ldc2_w 21, 3) := by decide +kernel
theorem dX2_steepnessAt_15 : decode cX2_steepnessAt 15 = .ok (.aload_n 0, 1) := by decide +kernel
theorem dX2_steepnessAt_16 : decode cX2_steepnessAt 16 = .ok (.getfield 29, 3) := by decide +kernel
theorem dX2_steepnessAt_19 : decode cX2_steepnessAt 19 = .ok (.dmul, 1) := by decide +kernel
theorem dX2_steepnessAt_20 : decode cX2_steepnessAt 20 = .ok (.dload_n 3, 1) := by decide +kernel
theorem dX2_steepnessAt_21 : decode cX2_steepnessAt 21 = .ok (.ldc2_w 19, 3) := by decide +kernel
theorem dX2_steepnessAt_24 : decode cX2_steepnessAt 24 = .ok (.aload_n 0, 1) := by decide +kernel
theorem dX2_steepnessAt_25 : decode cX2_steepnessAt 25 = .ok (.getfield 32, 3) := by decide +kernel
theorem dX2_steepnessAt_28 : decode cX2_steepnessAt 28 = .ok (.dmul, 1) := by decide +kernel
theorem dX2_steepnessAt_29 : decode cX2_steepnessAt 29 = .ok (.dmul, 1) := by decide +kernel
theorem dX2_steepnessAt_30 : decode cX2_steepnessAt 30 = .ok (.dadd, 1) := by decide +kernel
theorem dX2_steepnessAt_31 : decode cX2_steepnessAt 31 = .ok (.dmul, 1) := by decide +kernel
theorem dX2_steepnessAt_32 : decode cX2_steepnessAt 32 = .ok (.dadd, 1) := by decide +kernel
theorem dX2_steepnessAt_33 : decode cX2_steepnessAt 33 = .ok (.dreturn, 1) := by decide +kernel
theorem dX2_partUpTo_0 : decode cX2_partUpTo 0 = .ok (.dload_n 1, 1) := by decide +kernel
theorem dX2_partUpTo_1 : decode cX2_partUpTo 1 = .ok (.aload_n 0, 1) := by decide +kernel
theorem dX2_partUpTo_2 : decode cX2_partUpTo 2 = .ok (.getfield 7, 3) := by decide +kernel
theorem dX2_partUpTo_5 : decode cX2_partUpTo 5 = .ok (.dsub, 1) := by decide +kernel
theorem dX2_partUpTo_6 : decode cX2_partUpTo 6 = .ok (.dstore_n 3, 1) := by decide +kernel
theorem dX2_partUpTo_7 : decode cX2_partUpTo 7 = .ok (.dload_n 3, 1) := by decide +kernel
theorem dX2_partUpTo_8 : decode cX2_partUpTo 8 = .ok (.aload_n 0, 1) := by decide +kernel
theorem dX2_partUpTo_9 : decode cX2_partUpTo 9 = .ok (.getfield 13, 3) := by decide +kernel
theorem dX2_partUpTo_12 : decode cX2_partUpTo 12 = .ok (.dload_n 3, 1) := by decide +kernel
theorem dX2_partUpTo_13 : decode cX2_partUpTo 13 = .ok (.aload_n 0, 1) := by decide +kernel
theorem dX2_partUpTo_14 : decode cX2_partUpTo 14 = .ok (.getfield 16, 3) := by decide +kernel
theorem dX2_partUpTo_17 : decode cX2_partUpTo 17 = .ok (.ldc2_w 21, 3) := by decide +kernel
theorem dX2_partUpTo_20 : decode cX2_partUpTo 20 = .ok (.ddiv, 1) := by decide +kernel
theorem dX2_partUpTo_21 : decode cX2_partUpTo 21 = .ok (.dload_n 3, 1) := by decide +kernel
theorem dX2_partUpTo_22 : decode cX2_partUpTo 22 = .ok (.aload_n 0, 1) := by decide +kernel
theorem dX2_partUpTo_23 : decode cX2_partUpTo 23 = .ok (.getfield 29, 3) := by decide +kernel
theorem dX2_partUpTo_26 : decode cX2_partUpTo 26 = .ok (.ldc2_w 19, 3) := by decide +kernel
theorem dX2_partUpTo_29 : decode cX2_partUpTo 29 = .ok (.ddiv, 1) := by decide +kernel
theorem dX2_partUpTo_30 : decode cX2_partUpTo 30 = .ok (.dload_n 3, 1) := by decide +kernel
theorem dX2_partUpTo_31 : decode cX2_partUpTo 31 = .ok (.aload_n 0, 1) := by decide +kernel
theorem dX2_partUpTo_32 : decode cX2_partUpTo 32 = .ok (.getfield 32, 3) := by decide +kernel
theorem dX2_partUpTo_35 : decode cX2_partUpTo 35 = .ok (.ldc2_w 35, 3) := by decide +kernel
theorem dX2_partUpTo_38 : decode cX2_partUpTo 38 = .ok (.ddiv, 1) := by decide +kernel
theorem dX2_partUpTo_39 : decode cX2_partUpTo 39 = .ok (.dmul, 1) := by decide +kernel
theorem dX2_partUpTo_40 : decode cX2_partUpTo 40 = .ok (.dadd, 1) := by decide +kernel
theorem dX2_partUpTo_41 : decode cX2_partUpTo 41 = .ok (.dmul, 1) := by decide +kernel
theorem dX2_partUpTo_42 : decode cX2_partUpTo 42 = .ok (.dadd, 1) := by decide +kernel
theorem dX2_partUpTo_43 : decode cX2_partUpTo 43 = .ok (.dmul, 1) := by decide +kernel
theorem dX2_partUpTo_44 : decode cX2_partUpTo 44 = .ok (.dadd, 1) := by decide +kernel
theorem dX2_partUpTo_45 : decode cX2_partUpTo 45 = .ok (.dmul, 1) := by decide +kernel
theorem dX2_partUpTo_46 : decode cX2_partUpTo 46 = .ok (.dreturn, 1) := by decide +kernel
set_option maxRecDepth 20000 in
theorem ggX3_init_X4_init : GoodIn wsX3_init wsX4_init := goodIn_r _ [12, 13, 2, 3, 14, 15, 16] (by decide +kernel) (by decide +kernel)
set_option maxRecDepth 20000 in
theorem gX3_init_X4_init : GoodIn wsX3_init (wsX4_init) := ggX3_init_X4_init
theorem dX3_init_0 : decode cX3_init 0 = .ok (.aload_n 0, 1) := by decide +kernel
theorem dX3_init_1 : decode cX3_init 1 = .ok (.invokespecial 3, 3) := by decide +kernel
theorem dX3_init_4 : decode cX3_init 4 = .ok (.aload_n 0, 1) := by decide +kernel
theorem dX3_init_5 : decode cX3_init 5 = .ok (.new 9, 3) := by decide +kernel
theorem dX3_init_8 : decode cX3_init 8 = .ok (.dup, 1) := by decide +kernel
theorem dX3_init_9 : decode cX3_init 9 = .ok (.bipush 40, 2) := by decide +kernel
theorem dX3_init_11 : decode cX3_init 11 = .ok (.invokespecial 11, 3) := by decide +kernel
theorem dX3_init_14 : decode cX3_init 14 = .ok (.putfield 14, 3) := by decide +kernel
theorem dX3_init_17 : decode cX3_init 17 = .ok (.aload_n 0, 1) := by decide +kernel
theorem dX3_init_18 : decode cX3_init 18 = .ok (.new 9, 3) := by decide +kernel
theorem dX3_init_21 : decode cX3_init 21 = .ok (.dup, 1) := by decide +kernel
theorem dX3_init_22 : decode cX3_init 22 = .ok (.bipush 40, 2) := by decide +kernel
theorem dX3_init_24 : decode cX3_init 24 = .ok (.invokespecial 11, 3) := by decide +kernel
theorem dX3_init_27 : decode cX3_init 27 = .ok (.putfield 20, 3) := by decide +kernel
theorem dX3_init_30 : decode cX3_init 30 = .ok (.aload_n 0, 1) := by decide +kernel
theorem dX3_init_31 : decode cX3_init 31 = .ok (.new 9, 3) := by decide +kernel
theorem dX3_init_34 : decode cX3_init 34 = .ok (.dup, 1) := by decide +kernel
theorem dX3_init_35 : decode cX3_init 35 = .ok (.bipush 40, 2) := by decide +kernel
theorem dX3_init_37 : decode cX3_init 37 = .ok (.invokespecial 11, 3) := by decide +kernel
theorem dX3_init_40 : decode cX3_init 40 = .ok (.putfield 23, 3) := by decide +kernel
theorem dX3_init_43 : decode cX3_init 43 = .ok (.return_, 1) := by decide +kernel
set_option maxRecDepth 20000 in
theorem ggX3_isCrowdedAt_X4_get : GoodIn wsX3_isCrowdedAt wsX4_get := goodIn_r _ [8, 9, 17] (by decide +kernel) (by decide +kernel)
set_option maxRecDepth 20000 in
theorem gX3_isCrowdedAt_X4_get : GoodIn wsX3_isCrowdedAt (wsV RX3 30 RX4 yX4_get wsX4_get) := goodIn_app (goodIn_of _ (by decide +kernel)) ggX3_isCrowdedAt_X4_get
set_option maxRecDepth 20000 in
theorem ggX3_isCrowdedAt_X6_magnitude : GoodIn wsX3_isCrowdedAt wsX6_magnitude := goodIn_r _ [12] (by decide +kernel) (by decide +kernel)
set_option maxRecDepth 20000 in
theorem gX3_isCrowdedAt_X6_magnitude_n34 : GoodIn wsX3_isCrowdedAt (wsX6_magnitude) := ggX3_isCrowdedAt_X6_magnitude
theorem dX3_isCrowdedAt_0 : decode cX3_isCrowdedAt 0 = .ok (.iconst 0, 1) := by decide +kernel
theorem dX3_isCrowdedAt_1 : decode cX3_isCrowdedAt 1 = .ok (.istore_n 3, 1) := by decide +kernel
theorem dX3_isCrowdedAt_2 : decode cX3_isCrowdedAt 2 = .ok (.iload_n 3, 1) := by decide +kernel
theorem dX3_isCrowdedAt_3 : decode cX3_isCrowdedAt 3 = .ok (.aload_n 0, 1) := by decide +kernel
theorem dX3_isCrowdedAt_4 : decode cX3_isCrowdedAt 4 = .ok (.getfield 26, 3) := by decide +kernel
theorem dX3_isCrowdedAt_7 : decode cX3_isCrowdedAt 7 = .ok (.if_icmp .ge 31, 3) := by decide +kernel
theorem dX3_isCrowdedAt_10 : decode cX3_isCrowdedAt 10 = .ok (.aload_n 0, 1) := by decide +kernel
theorem dX3_isCrowdedAt_11 : decode cX3_isCrowdedAt 11 = .ok (.getfield 14, 3) := by decide +kernel
theorem dX3_isCrowdedAt_14 : decode cX3_isCrowdedAt 14 = .ok (.iload_n 3, 1) := by decide +kernel
theorem dX3_isCrowdedAt_15 : decode cX3_isCrowdedAt 15 = .ok (.invokevirtual 30, 3) := by decide +kernel
theorem dX3_isCrowdedAt_18 : decode cX3_isCrowdedAt 18 = .ok (.dload_n 1, 1) := by decide +kernel
theorem dX3_isCrowdedAt_19 : decode cX3_isCrowdedAt 19 = .ok (.dsub, 1) := by decide +kernel
theorem dX3_isCrowdedAt_20 : decode cX3_isCrowdedAt 20 = .ok (.invokestatic 34, 3) := by decide +kernel
theorem dX3_isCrowdedAt_23 : decode cX3_isCrowdedAt 23 = .ok (.ldc2_w 38, 3) := by decide +kernel
theorem dX3_isCrowdedAt_26 : decode cX3_isCrowdedAt 26 = .ok (.dcmp .g, 1) := by decide +kernel
theorem dX3_isCrowdedAt_27 : decode cX3_isCrowdedAt 27 = .ok (.ifCond .ge 5, 3) := by decide +kernel
theorem dX3_isCrowdedAt_30 : decode cX3_isCrowdedAt 30 = .ok (.iconst 1, 1) := by decide +kernel
theorem dX3_isCrowdedAt_31 : decode cX3_isCrowdedAt 31 = .ok (.ireturn, 1) := by decide +kernel
theorem dX3_isCrowdedAt_32 : decode cX3_isCrowdedAt 32 = .ok (.iinc 3 1, 3) := by decide +kernel
theorem dX3_isCrowdedAt_35 : decode cX3_isCrowdedAt 35 = .ok (.goto (-33), 3) := by decide +kernel
theorem dX3_isCrowdedAt_38 : decode cX3_isCrowdedAt 38 = .ok (.iconst 0, 1) := by decide +kernel
theorem dX3_isCrowdedAt_39 : decode cX3_isCrowdedAt 39 = .ok (.ireturn, 1) := by decide +kernel
set_option maxRecDepth 20000 in
theorem ggX3_add_X4_get : GoodIn wsX3_add wsX4_get := goodIn_r _ [9, 10, 23] (by decide +kernel) (by decide +kernel)
set_option maxRecDepth 20000 in
theorem gX3_add_X4_get : GoodIn wsX3_add (wsV RX3 30 RX4 yX4_get wsX4_get) := goodIn_app (goodIn_of _ (by decide +kernel)) ggX3_add_X4_get
set_option maxRecDepth 20000 in
theorem ggX3_add_X4_insert : GoodIn wsX3_add wsX4_insert := goodIn_r _ [14, 10, 15, 16, 17, 8, 18, 23] (by decide +kernel) (by decide +kernel)
set_option maxRecDepth 20000 in
theorem gX3_add_X4_insert : GoodIn wsX3_add (wsV RX3 40 RX4 yX4_insert wsX4_insert) := goodIn_app (goodIn_of _ (by decide +kernel)) ggX3_add_X4_insert
theorem dX3_add_0 : decode cX3_add 0 = .ok (.iconst 0, 1) := by decide +kernel
theorem dX3_add_1 : decode cX3_add 1 = .ok (.istore 7, 2) := by decide +kernel
theorem dX3_add_3 : decode cX3_add 3 = .ok (.iload 7, 2) := by decide +kernel
theorem dX3_add_5 : decode cX3_add 5 = .ok (.aload_n 0, 1) := by decide +kernel
theorem dX3_add_6 : decode cX3_add 6 = .ok (.getfield 26, 3) := by decide +kernel
theorem dX3_add_9 : decode cX3_add 9 = .ok (.if_icmp .ge 23, 3) := by decide +kernel
theorem dX3_add_12 : decode cX3_add 12 = .ok (.aload_n 0, 1) := by decide +kernel
theorem dX3_add_13 : decode cX3_add 13 = .ok (.getfield 14, 3) := by decide +kernel
theorem dX3_add_16 : decode cX3_add 16 = .ok (.iload 7, 2) := by decide +kernel
theorem dX3_add_18 : decode cX3_add 18 = .ok (.invokevirtual 30, 3) := by decide +kernel
theorem dX3_add_21 : decode cX3_add 21 = .ok (.dload_n 1, 1) := by decide +kernel
theorem dX3_add_22 : decode cX3_add 22 = .ok (.dcmp .g, 1) := by decide +kernel
theorem dX3_add_23 : decode cX3_add 23 = .ok (.ifCond .ge 9, 3) := by decide +kernel
theorem dX3_add_26 : decode cX3_add 26 = .ok (.iinc 7 1, 3) := by decide +kernel
theorem dX3_add_29 : decode cX3_add 29 = .ok (.goto (-26), 3) := by decide +kernel
theorem dX3_add_32 : decode cX3_add 32 = .ok (.aload_n 0, 1) := by decide +kernel
theorem dX3_add_33 : decode cX3_add 33 = .ok (.getfield 14, 3) := by decide +kernel
theorem dX3_add_36 : decode cX3_add 36 = .ok (.iload 7, 2) := by decide +kernel
theorem dX3_add_38 : decode cX3_add 38 = .ok (.aload_n 0, 1) := by decide +kernel
theorem dX3_add_39 : decode cX3_add 39 = .ok (.getfield 26, 3) := by decide +kernel
theorem dX3_add_42 : decode cX3_add 42 = .ok (.dload_n 1, 1) := by decide +kernel
theorem dX3_add_43 : decode cX3_add 43 = .ok (.invokevirtual 40, 3) := by decide +kernel
theorem dX3_add_46 : decode cX3_add 46 = .ok (.aload_n 0, 1) := by decide +kernel
theorem dX3_add_47 : decode cX3_add 47 = .ok (.getfield 20, 3) := by decide +kernel
theorem dX3_add_50 : decode cX3_add 50 = .ok (.iload 7, 2) := by decide +kernel
theorem dX3_add_52 : decode cX3_add 52 = .ok (.aload_n 0, 1) := by decide +kernel
theorem dX3_add_53 : decode cX3_add 53 = .ok (.getfield 26, 3) := by decide +kernel
theorem dX3_add_56 : decode cX3_add 56 = .ok (.dload_n 3, 1) := by decide +kernel
theorem dX3_add_57 : decode cX3_add 57 = .ok (.invokevirtual 40, 3) := by decide +kernel
theorem dX3_add_60 : decode cX3_add 60 = .ok (.aload_n 0, 1) := by decide +kernel
theorem dX3_add_61 : decode cX3_add 61 = .ok (.getfield 23, 3) := by decide +kernel
theorem dX3_add_64 : decode cX3_add 64 = .ok (.iload 7, 2) := by decide +kernel
theorem dX3_add_66 : decode cX3_add 66 = .ok (.aload_n 0, 1) := by decide +kernel
theorem dX3_add_67 : decode cX3_add 67 = .ok (.getfield 26, 3) := by decide +kernel
theorem dX3_add_70 : decode cX3_add 70 = .ok (.dload 5, 2) := by decide +kernel
theorem dX3_add_72 : decode cX3_add 72 = .ok (.invokevirtual 40, 3) := by decide +kernel
theorem dX3_add_75 : decode cX3_add 75 = .ok (.aload_n 0, 1) := by decide +kernel
theorem dX3_add_76 : decode cX3_add 76 = .ok (.dup, 1) := by decide +kernel
theorem dX3_add_77 : decode cX3_add 77 = .ok (.getfield 26, 3) := by decide +kernel
theorem dX3_add_80 : decode cX3_add 80 = .ok (.iconst 1, 1) := by decide +kernel
theorem dX3_add_81 : decode cX3_add 81 = .ok (.iadd, 1) := by decide +kernel
theorem dX3_add_82 : decode cX3_add 82 = .ok (.putfield 26, 3) := by decide +kernel
theorem dX3_add_85 : decode cX3_add 85 = .ok (.iload 7, 2) := by decide +kernel
theorem dX3_add_87 : decode cX3_add 87 = .ok (.ireturn, 1) := by decide +kernel
theorem dX4_init_0 : decode cX4_init 0 = .ok (.aload_n 0, 1) := by decide +kernel
theorem dX4_init_1 : decode cX4_init 1 = .ok (.invokespecial 1, 3) := by decide +kernel
theorem dX4_init_4 : decode cX4_init 4 = .ok (.aload_n 0, 1) := by decide +kernel
theorem dX4_init_5 : decode cX4_init 5 = .ok (.iload_n 1, 1) := by decide +kernel
theorem dX4_init_6 : decode cX4_init 6 = .ok (.ifCond .ge 7, 3) := by decide +kernel
theorem dX4_init_9 : decode cX4_init 9 = .ok (.iconst 0, 1) := by decide +kernel
theorem dX4_init_10 : decode cX4_init 10 = .ok (.goto 4, 3) := by decide +kernel
theorem dX4_init_13 : decode cX4_init 13 = .ok (.iload_n 1, 1) := by decide +kernel
theorem dX4_init_14 : decode cX4_init 14 = .ok (.newarray .double, 2) := by decide +kernel
theorem dX4_init_16 : decode cX4_init 16 = .ok (.putfield 7, 3) := by decide +kernel
theorem dX4_init_19 : decode cX4_init 19 = .ok (.return_, 1) := by decide +kernel
theorem dX4_get_0 : decode cX4_get 0 = .ok (.iload_n 1, 1) := by decide +kernel
theorem dX4_get_1 : decode cX4_get 1 = .ok (.ifCond .lt 21, 3) := by decide +kernel
theorem dX4_get_4 : decode cX4_get 4 = .ok (.iload_n 1, 1) := by decide +kernel
theorem dX4_get_5 : decode cX4_get 5 = .ok (.aload_n 0, 1) := by decide +kernel
theorem dX4_get_6 : decode cX4_get 6 = .ok (.getfield 7, 3) := by decide +kernel
theorem dX4_get_9 : decode cX4_get 9 = .ok (.arraylength, 1) := by decide +kernel
theorem dX4_get_10 : decode cX4_get 10 = .ok (.if_icmp .ge 12, 3) := by decide +kernel
theorem dX4_get_13 : decode cX4_get 13 = .ok (.aload_n 0, 1) := by decide +kernel
theorem dX4_get_14 : decode cX4_get 14 = .ok (.getfield 7, 3) := by decide +kernel
theorem dX4_get_17 : decode cX4_get 17 = .ok (.iload_n 1, 1) := by decide +kernel
theorem dX4_get_18 : decode cX4_get 18 = .ok (.daload, 1) := by decide +kernel
theorem dX4_get_19 : decode cX4_get 19 = .ok (.goto 4, 3) := by decide +kernel
theorem dX4_get_22 : decode cX4_get 22 = .ok (.dconst 0, 1) := by decide +kernel
theorem dX4_get_23 : decode cX4_get 23 = .ok (.dreturn, 1) := by decide +kernel
theorem dX4_set_0 : decode cX4_set 0 = .ok (.iload_n 1, 1) := by decide +kernel
theorem dX4_set_1 : decode cX4_set 1 = .ok (.ifCond .lt 19, 3) := by decide +kernel
theorem dX4_set_4 : decode cX4_set 4 = .ok (.iload_n 1, 1) := by decide +kernel
theorem dX4_set_5 : decode cX4_set 5 = .ok (.aload_n 0, 1) := by decide +kernel
theorem dX4_set_6 : decode cX4_set 6 = .ok (.getfield 7, 3) := by decide +kernel
theorem dX4_set_9 : decode cX4_set 9 = .ok (.arraylength, 1) := by decide +kernel
theorem dX4_set_10 : decode cX4_set 10 = .ok (.if_icmp .ge 10, 3) := by decide +kernel
theorem dX4_set_13 : decode cX4_set 13 = .ok (.aload_n 0, 1) := by decide +kernel
theorem dX4_set_14 : decode cX4_set 14 = .ok (.getfield 7, 3) := by decide +kernel
theorem dX4_set_17 : decode cX4_set 17 = .ok (.iload_n 1, 1) := by decide +kernel
theorem dX4_set_18 : decode cX4_set 18 = .ok (.dload_n 2, 1) := by decide +kernel
theorem dX4_set_19 : decode cX4_set 19 = .ok (.dastore, 1) := by decide +kernel
theorem dX4_set_20 : decode cX4_set 20 = .ok (.return_, 1) := by decide +kernel
set_option maxRecDepth 20000 in
theorem ggX4_insert_X4_set : GoodIn wsX4_insert wsX4_set := goodIn_r _ [6, 1, 7] (by decide +kernel) (by decide +kernel)
set_option maxRecDepth 20000 in
theorem gX4_insert_X4_set : GoodIn wsX4_insert (wsV RX4 13 RX4 yX4_set wsX4_set) := goodIn_app (goodIn_of _ (by decide +kernel)) ggX4_insert_X4_set
theorem dX4_insert_0 : decode cX4_insert 0 = .ok (.iload_n 2, 1) := by decide +kernel
theorem dX4_insert_1 : decode cX4_insert 1 = .ok (.aload_n 0, 1) := by decide +kernel
theorem dX4_insert_2 : decode cX4_insert 2 = .ok (.getfield 7, 3) := by decide +kernel
theorem dX4_insert_5 : decode cX4_insert 5 = .ok (.arraylength, 1) := by decide +kernel
theorem dX4_insert_6 : decode cX4_insert 6 = .ok (.if_icmp .ge 7, 3) := by decide +kernel
theorem dX4_insert_9 : decode cX4_insert 9 = .ok (.iload_n 2, 1) := by decide +kernel
theorem dX4_insert_10 : decode cX4_insert 10 = .ok (.goto 10, 3) := by decide +kernel
theorem dX4_insert_13 : decode cX4_insert 13 = .ok (.aload_n 0, 1) := by decide +kernel
theorem dX4_insert_14 : decode cX4_insert 14 = .ok (.getfield 7, 3) := by decide +kernel
theorem dX4_insert_17 : decode cX4_insert 17 = .ok (.arraylength, 1) := by decide +kernel
theorem dX4_insert_18 : decode cX4_insert 18 = .ok (.iconst 1, 1) := by decide +kernel
theorem dX4_insert_19 : decode cX4_insert 19 = .ok (.isub, 1) := by decide +kernel
theorem dX4_insert_20 : decode cX4_insert 20 = .ok (.istore 5, 2) := by decide +kernel
theorem dX4_insert_22 : decode cX4_insert 22 = .ok (.iload 5, 2) := by decide +kernel
theorem dX4_insert_24 : decode cX4_insert 24 = .ok (.iload_n 1, 1) := by decide +kernel
theorem dX4_insert_25 : decode cX4_insert 25 = .ok (.if_icmp .le 30, 3) := by decide +kernel
theorem dX4_insert_28 : decode cX4_insert 28 = .ok (.iload 5, 2) := by decide +kernel
theorem dX4_insert_30 : decode cX4_insert 30 = .ok (.ifCond .le 25, 3) := by decide +kernel
theorem dX4_insert_33 : decode cX4_insert 33 = .ok (.aload_n 0, 1) := by decide +kernel
theorem dX4_insert_34 : decode cX4_insert 34 = .ok (.getfield 7, 3) := by decide +kernel
theorem dX4_insert_37 : decode cX4_insert 37 = .ok (.iload 5, 2) := by decide +kernel
theorem dX4_insert_39 : decode cX4_insert 39 = .ok (.aload_n 0, 1) := by decide +kernel
theorem dX4_insert_40 : decode cX4_insert 40 = .ok (.getfield 7, 3) := by decide +kernel
theorem dX4_insert_43 : decode cX4_insert 43 = .ok (.iload 5, 2) := by decide +kernel
theorem dX4_insert_45 : decode cX4_insert 45 = .ok (.iconst 1, 1) := by decide +kernel
theorem dX4_insert_46 : decode cX4_insert 46 = .ok (.isub, 1) := by decide +kernel
theorem dX4_insert_47 : decode cX4_insert 47 = .ok (.daload, 1) := by decide +kernel
theorem dX4_insert_48 : decode cX4_insert 48 = .ok (.dastore, 1) := by decide +kernel
theorem dX4_insert_49 : decode cX4_insert 49 = .ok (.iinc 5 (-1), 3) := by decide +kernel
theorem dX4_insert_52 : decode cX4_insert 52 = .ok (.goto (-30), 3) := by decide +kernel
theorem dX4_insert_55 : decode cX4_insert 55 = .ok (.aload_n 0, 1) := by decide +kernel
theorem dX4_insert_56 : decode cX4_insert 56 = .ok (.iload_n 1, 1) := by decide +kernel
theorem dX4_insert_57 : decode cX4_insert 57 = .ok (.dload_n 3, 1) := by decide +kernel
theorem dX4_insert_58 : decode cX4_insert 58 = .ok (.invokevirtual 13, 3) := by decide +kernel
theorem dX4_insert_61 : decode cX4_insert 61 = .ok (.return_, 1) := by decide +kernel
theorem dX4_remove_0 : decode cX4_remove 0 = .ok (.iload_n 1, 1) := by decide +kernel
theorem dX4_remove_1 : decode cX4_remove 1 = .ok (.ifCond .ge 7, 3) := by decide +kernel
theorem dX4_remove_4 : decode cX4_remove 4 = .ok (.iconst 0, 1) := by decide +kernel
theorem dX4_remove_5 : decode cX4_remove 5 = .ok (.goto 4, 3) := by decide +kernel
theorem dX4_remove_8 : decode cX4_remove 8 = .ok (.iload_n 1, 1) := by decide +kernel
theorem dX4_remove_9 : decode cX4_remove 9 = .ok (.istore_n 3, 1) := by decide +kernel
theorem dX4_remove_10 : decode cX4_remove 10 = .ok (.iload_n 3, 1) := by decide +kernel
theorem dX4_remove_11 : decode cX4_remove 11 = .ok (.iload_n 2, 1) := by decide +kernel
theorem dX4_remove_12 : decode cX4_remove 12 = .ok (.iconst 1, 1) := by decide +kernel
theorem dX4_remove_13 : decode cX4_remove 13 = .ok (.isub, 1) := by decide +kernel
theorem dX4_remove_14 : decode cX4_remove 14 = .ok (.if_icmp .ge 34, 3) := by decide +kernel
theorem dX4_remove_17 : decode cX4_remove 17 = .ok (.iload_n 3, 1) := by decide +kernel
theorem dX4_remove_18 : decode cX4_remove 18 = .ok (.aload_n 0, 1) := by decide +kernel
theorem dX4_remove_19 : decode cX4_remove 19 = .ok (.getfield 7, 3) := by decide +kernel
theorem dX4_remove_22 : decode cX4_remove 22 = .ok (.arraylength, 1) := by decide +kernel
theorem dX4_remove_23 : decode cX4_remove 23 = .ok (.iconst 1, 1) := by decide +kernel
theorem dX4_remove_24 : decode cX4_remove 24 = .ok (.isub, 1) := by decide +kernel
theorem dX4_remove_25 : decode cX4_remove 25 = .ok (.if_icmp .ge 23, 3) := by decide +kernel
theorem dX4_remove_28 : decode cX4_remove 28 = .ok (.aload_n 0, 1) := by decide +kernel
theorem dX4_remove_29 : decode cX4_remove 29 = .ok (.getfield 7, 3) := by decide +kernel
theorem dX4_remove_32 : decode cX4_remove 32 = .ok (.iload_n 3, 1) := by decide +kernel
theorem dX4_remove_33 : decode cX4_remove 33 = .ok (.aload_n 0, 1) := by decide +kernel
theorem dX4_remove_34 : decode cX4_remove 34 = .ok (.getfield 7, 3) := by decide +kernel
theorem dX4_remove_37 : decode cX4_remove 37 = .ok (.iload_n 3, 1) := by decide +kernel
theorem dX4_remove_38 : decode cX4_remove 38 = .ok (.iconst 1, 1) := by decide +kernel
theorem dX4_remove_39 : decode cX4_remove 39 = .ok (.iadd, 1) := by decide +kernel
theorem dX4_remove_40 : decode cX4_remove 40 = .ok (.daload, 1) := by decide +kernel
theorem dX4_remove_41 : decode cX4_remove 41 = .ok (.dastore, 1) := by decide +kernel
theorem dX4_remove_42 : decode cX4_remove 42 = .ok (.iinc 3 1, 3) := by decide +kernel
theorem dX4_remove_45 : decode cX4_remove 45 = .ok (.goto (-35), 3) := by decide +kernel
theorem dX4_remove_48 : decode cX4_remove 48 = .ok (.return_, 1) := by decide +kernel
theorem dX5_init_0 : decode cX5_init 0 = .ok (.aload_n 0, 1) := by decide +kernel
theorem dX5_init_1 : decode cX5_init 1 = .ok (.invokespecial 3, 3) := by decide +kernel
theorem dX5_init_4 : decode cX5_init 4 = .ok (.aload_n 0, 1) := by decide +kernel
theorem dX5_init_5 : decode cX5_init 5 = .ok (.iload_n 1, 1) := by decide +kernel
theorem dX5_init_6 : decode cX5_init 6 = .ok (.putfield 9, 3) := by decide +kernel
theorem dX5_init_9 : decode cX5_init 9 = .ok (.return_, 1) := by decide +kernel
set_option maxRecDepth 20000 in
theorem ggX6_init_X3_init : GoodIn wsX6_init wsX3_init := goodIn_r _ [26, 27, 2, 3, 28, 29, 30, 31, 32, 33, 34, 35, 36, 37, 38, 39, 91, 65, 66, 67, 68] (by decide +kernel) (by decide +kernel)
set_option maxRecDepth 20000 in
theorem gX6_init_X3_init_n9 : GoodIn wsX6_init (wsX3_init) := ggX6_init_X3_init
set_option maxRecDepth 20000 in
theorem ggX6_init_X0_init : GoodIn wsX6_init wsX0_init := goodIn_r _ [41, 42, 2, 3, 43, 29, 30, 44, 45, 46, 47, 48, 35, 36, 37, 38, 39, 91, 75, 76, 77, 78] (by decide +kernel) (by decide +kernel)
set_option maxRecDepth 20000 in
theorem gX6_init_X0_init_n18 : GoodIn wsX6_init (wsX0_init) := ggX6_init_X0_init
set_option maxRecDepth 20000 in
theorem ggX6_init_X1_init : GoodIn wsX6_init wsX1_init := goodIn_r _ [50, 51, 2, 3, 52, 29, 30, 53, 54, 55, 56, 35, 36, 37, 38, 39, 91, 79, 80, 81, 82] (by decide +kernel) (by decide +kernel)
set_option maxRecDepth 20000 in
theorem gX6_init_X1_init_n25 : GoodIn wsX6_init (wsX1_init) := ggX6_init_X1_init
set_option maxRecDepth 20000 in
theorem ggX6_init_X2_init : GoodIn wsX6_init wsX2_init := goodIn_r _ [58, 59, 2, 3] (by decide +kernel) (by decide +kernel)
set_option maxRecDepth 20000 in
theorem gX6_init_X2_init_n32 : GoodIn wsX6_init (wsX2_init) := ggX6_init_X2_init
set_option maxRecDepth 20000 in
theorem ggX6_init_X5_init : GoodIn wsX6_init wsX5_init := goodIn_r _ [62, 63, 2, 3, 64, 88, 89, 90] (by decide +kernel) (by decide +kernel)
set_option maxRecDepth 20000 in
theorem gX6_init_X5_init : GoodIn wsX6_init (wsX5_init) := ggX6_init_X5_init
theorem dX6_init_0 : decode cX6_init 0 = .ok (.aload_n 0, 1) := by decide +kernel
theorem dX6_init_1 : decode cX6_init 1 = .ok (.invokespecial 1, 3) := by decide +kernel
theorem dX6_init_4 : decode cX6_init 4 = .ok (.aload_n 0, 1) := by decide +kernel
theorem dX6_init_5 : decode cX6_init 5 = .ok (.new 7, 3) := by decide +kernel
theorem dX6_init_8 : decode cX6_init 8 = .ok (.dup, 1) := by decide +kernel
theorem dX6_init_9 : decode cX6_init 9 = .ok (.invokespecial 9, 3) := by decide +kernel
theorem dX6_init_12 : decode cX6_init 12 = .ok (.putfield 10, 3) := by decide +kernel
theorem dX6_init_15 : decode cX6_init 15 = .ok (.aload_n 0, 1) := by decide +kernel
theorem dX6_init_16 : decode cX6_init 16 = .ok (.new 16, 3) := by decide +kernel
theorem dX6_init_19 : decode cX6_init 19 = .ok (.dup, 1) := by decide +kernel
theorem dX6_init_20 : decode cX6_init 20 = .ok (.invokespecial 18, 3) := by decide +kernel
theorem dX6_init_23 : decode cX6_init 23 = .ok (.putfield 19, 3) := by decide +kernel
theorem dX6_init_26 : decode cX6_init 26 = .ok (.aload_n 0, 1) := by decide +kernel
theorem dX6_init_27 : decode cX6_init 27 = .ok (.new 23, 3) := by decide +kernel
theorem dX6_init_30 : decode cX6_init 30 = .ok (.dup, 1) := by decide +kernel
theorem dX6_init_31 : decode cX6_init 31 = .ok (.invokespecial 25, 3) := by decide +kernel
theorem dX6_init_34 : decode cX6_init 34 = .ok (.putfield 26, 3) := by decide +kernel
theorem dX6_init_37 : decode cX6_init 37 = .ok (.aload_n 0, 1) := by decide +kernel
theorem dX6_init_38 : decode cX6_init 38 = .ok (.new 30, 3) := by decide +kernel
theorem dX6_init_41 : decode cX6_init 41 = .ok (.dup, 1) := by decide +kernel
theorem dX6_init_42 : decode cX6_init 42 = .ok (.invokespecial 32, 3) := by decide +kernel
theorem dX6_init_45 : decode cX6_init 45 = .ok (.putfield 33, 3) := by decide +kernel
theorem dX6_init_48 : decode cX6_init 48 = .ok (.aload_n 0, 1) := by decide +kernel
theorem dX6_init_49 : decode cX6_init 49 = .ok (.new 37, 3) := by decide +kernel
theorem dX6_init_52 : decode cX6_init 52 = .ok (.dup, 1) := by decide +kernel
theorem dX6_init_53 : decode cX6_init 53 = .ok (.iconst 1, 1) := by decide +kernel
theorem dX6_init_54 : decode cX6_init 54 = .ok (.invokespecial 39, 3) := by decide +kernel
theorem dX6_init_57 : decode cX6_init 57 = .ok (.putfield 42, 3) := by decide +kernel
theorem dX6_init_60 : decode cX6_init 60 = .ok (.aload_n 0, 1) := by decide +kernel
theorem dX6_init_61 : decode cX6_init 61 = .ok (.new 37, 3) := by decide +kernel
theorem dX6_init_64 : decode cX6_init 64 = .ok (.dup, 1) := by decide +kernel
theorem dX6_init_65 : decode cX6_init 65 = .ok (.iconst 0, 1) := by decide +kernel
theorem dX6_init_66 : decode cX6_init 66 = .ok (.invokespecial 39, 3) := by decide +kernel
theorem dX6_init_69 : decode cX6_init 69 = .ok (.putfield 46, 3) := by decide +kernel
theorem dX6_init_72 : decode cX6_init 72 = .ok (.return_, 1) := by decide +kernel
set_option maxRecDepth 20000 in
theorem ggX6_addPoint_X6_settled : GoodIn wsX6_addPoint wsX6_settled := goodIn_r _ [13, 14, 15, 16, 12, 17] (by decide +kernel) (by decide +kernel)
set_option maxRecDepth 20000 in
theorem gX6_addPoint_X6_settled : GoodIn wsX6_addPoint (va_wsS RX6 49 yX6_settled wsX6_settled) := goodIn_app (goodIn_of _ (by decide +kernel)) ggX6_addPoint_X6_settled
set_option maxRecDepth 20000 in
theorem ggX6_addPoint_X6_isFrom : GoodIn wsX6_addPoint wsX6_isFrom := goodIn_r _ [20] (by decide +kernel) (by decide +kernel)
set_option maxRecDepth 20000 in
theorem gX6_addPoint_X6_isFrom : GoodIn wsX6_addPoint (va_wsS RX6 57 yX6_isFrom wsX6_isFrom) := goodIn_app (goodIn_of _ (by decide +kernel)) ggX6_addPoint_X6_isFrom
set_option maxRecDepth 20000 in
theorem ggX6_addPoint_X3_isCrowdedAt : GoodIn wsX6_addPoint wsX3_isCrowdedAt := goodIn_r _ [25, 26, 27, 28, 29, 30, 31, 32, 33, 34, 16, 12, 17, 55, 56, 57, 58, 59] (by decide +kernel) (by decide +kernel)
set_option maxRecDepth 20000 in
theorem gX6_addPoint_X3_isCrowdedAt : GoodIn wsX6_addPoint (wsV RX6 74 RX3 yX3_isCrowdedAt wsX3_isCrowdedAt) := goodIn_app (goodIn_of _ (by decide +kernel)) ggX6_addPoint_X3_isCrowdedAt
set_option maxRecDepth 20000 in
theorem ggX6_addPoint_X3_add : GoodIn wsX6_addPoint wsX3_add := goodIn_r _ [38, 26, 27, 39, 40, 29, 30, 31, 32, 33, 34, 41, 42, 43, 44, 45, 46, 47, 48, 55, 56, 57, 58, 59] (by decide +kernel) (by decide +kernel)
set_option maxRecDepth 20000 in
theorem gX6_addPoint_X3_add : GoodIn wsX6_addPoint (wsV RX6 89 RX3 yX3_add wsX3_add) := goodIn_app (goodIn_of _ (by decide +kernel)) ggX6_addPoint_X3_add
theorem dX6_addPoint_0 : decode cX6_addPoint 0 = .ok (.dload_n 1, 1) := by decide +kernel
theorem dX6_addPoint_1 : decode cX6_addPoint 1 = .ok (.invokestatic 49, 3) := by decide +kernel
theorem dX6_addPoint_4 : decode cX6_addPoint 4 = .ok (.dstore 7, 2) := by decide +kernel
theorem dX6_addPoint_6 : decode cX6_addPoint 6 = .ok (.dload_n 3, 1) := by decide +kernel
theorem dX6_addPoint_7 : decode cX6_addPoint 7 = .ok (.invokestatic 49, 3) := by decide +kernel
theorem dX6_addPoint_10 : decode cX6_addPoint 10 = .ok (.dstore 9, 2) := by decide +kernel
theorem dX6_addPoint_12 : decode cX6_addPoint 12 = .ok (.ldc2_w 53, 3) := by decide +kernel
theorem dX6_addPoint_15 : decode cX6_addPoint 15 = .ok (.ldc2_w 55, 3) := by decide +kernel
theorem dX6_addPoint_18 : decode cX6_addPoint 18 = .ok (.dload 7, 2) := by decide +kernel
theorem dX6_addPoint_20 : decode cX6_addPoint 20 = .ok (.invokestatic 57, 3) := by decide +kernel
theorem dX6_addPoint_23 : decode cX6_addPoint 23 = .ok (.ifCond .eq 17, 3) := by decide +kernel
theorem dX6_addPoint_26 : decode cX6_addPoint 26 = .ok (.ldc2_w 53, 3) := by decide +kernel
theorem dX6_addPoint_29 : decode cX6_addPoint 29 = .ok (.ldc2_w 55, 3) := by decide +kernel
theorem dX6_addPoint_32 : decode cX6_addPoint 32 = .ok (.dload 9, 2) := by decide +kernel
theorem dX6_addPoint_34 : decode cX6_addPoint 34 = .ok (.invokestatic 57, 3) := by decide +kernel
theorem dX6_addPoint_37 : decode cX6_addPoint 37 = .ok (.ifCond .ne 13, 3) := by decide +kernel
theorem dX6_addPoint_40 : decode cX6_addPoint 40 = .ok (.new 61, 3) := by decide +kernel
theorem dX6_addPoint_43 : decode cX6_addPoint 43 = .ok (.dup, 1) := by decide +kernel
theorem dX6_addPoint_44 : decode cX6_addPoint 44 = .ok (.ldc 63, 2) := by decide +kernel
theorem dX6_addPoint_46 : decode cX6_addPoint 46 = .ok (.invokespecial 65, 3) := by decide +kernel
theorem dX6_addPoint_49 : decode cX6_addPoint 49 = .ok (.athrow, 1) := by decide +kernel
