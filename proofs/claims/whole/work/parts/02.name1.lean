theorem dX4_copy_76 : decode cX4_copy 76 = .ok (.goto (-34), 3) := by decide +kernel
theorem dX4_copy_79 : decode cX4_copy 79 = .ok (.aload_n 0, 1) := by decide +kernel
theorem dX4_copy_80 : decode cX4_copy 80 = .ok (.iconst 1, 1) := by decide +kernel
theorem dX4_copy_81 : decode cX4_copy 81 = .ok (.putfield 24, 3) := by decide +kernel
theorem dX4_copy_84 : decode cX4_copy 84 = .ok (.return_, 1) := by decide +kernel
theorem dX4_isKept_0 : decode cX4_isKept 0 = .ok (.aload_n 0, 1) := by decide +kernel
theorem dX4_isKept_1 : decode cX4_isKept 1 = .ok (.getfield 24, 3) := by decide +kernel
theorem dX4_isKept_4 : decode cX4_isKept 4 = .ok (.ireturn, 1) := by decide +kernel
theorem dX5_init_0 : decode cX5_init 0 = .ok (.aload_n 0, 1) := by decide +kernel
theorem dX5_init_1 : decode cX5_init 1 = .ok (.invokespecial 3, 3) := by decide +kernel
theorem dX5_init_4 : decode cX5_init 4 = .ok (.aload_n 0, 1) := by decide +kernel
theorem dX5_init_5 : decode cX5_init 5 = .ok (.iconst 0, 1) := by decide +kernel
theorem dX5_init_6 : decode cX5_init 6 = .ok (.putfield 9, 3) := by decide +kernel
theorem dX5_init_9 : decode cX5_init 9 = .ok (.aload_n 0, 1) := by decide +kernel
theorem dX5_init_10 : decode cX5_init 10 = .ok (.iconst 0, 1) := by decide +kernel
theorem dX5_init_11 : decode cX5_init 11 = .ok (.putfield 15, 3) := by decide +kernel
theorem dX5_init_14 : decode cX5_init 14 = .ok (.aload_n 0, 1) := by decide +kernel
theorem dX5_init_15 : decode cX5_init 15 = .ok (.iconst 0, 1) := by decide +kernel
theorem dX5_init_16 : decode cX5_init 16 = .ok (.putfield 18, 3) := by decide +kernel
theorem dX5_init_19 : decode cX5_init 19 = .ok (.aload_n 0, 1) := by decide +kernel
theorem dX5_init_20 : decode cX5_init 20 = .ok (.bipush (-6), 2) := by decide +kernel
theorem dX5_init_22 : decode cX5_init 22 = .ok (.putfield 21, 3) := by decide +kernel
theorem dX5_init_25 : decode cX5_init 25 = .ok (.aload_n 0, 1) := by decide +kernel
theorem dX5_init_26 : decode cX5_init 26 = .ok (.aload_n 1, 1) := by decide +kernel
theorem dX5_init_27 : decode cX5_init 27 = .ok (.putfield 24, 3) := by decide +kernel
theorem dX5_init_30 : decode cX5_init 30 = .ok (.return_, 1) := by decide +kernel
set_option maxRecDepth 20000 in
theorem ggX5_search_X5_walk : GoodIn wsX5_search wsX5_walk := goodIn_r _ [9, 10, 1, 3, 2, 4, 11, 12, 13, 14, 15, 16, 17, 18, 19, 20, 5, 6, 7, 8, 21, 22, 23, 24, 25, 26, 27, 28, 29, 30] (by decide +kernel) (by decide +kernel)
set_option maxRecDepth 20000 in
theorem gX5_search_X5_walk : GoodIn wsX5_search (wsV RX5 28 RX5 yX5_walk wsX5_walk) := goodIn_app (goodIn_of _ (by decide +kernel)) ggX5_search_X5_walk
theorem dX5_search_0 : decode cX5_search 0 = .ok (.aload_n 0, 1) := by decide +kernel
theorem dX5_search_1 : decode cX5_search 1 = .ok (.iload_n 2, 1) := by decide +kernel
theorem dX5_search_2 : decode cX5_search 2 = .ok (.putfield 9, 3) := by decide +kernel
theorem dX5_search_5 : decode cX5_search 5 = .ok (.aload_n 0, 1) := by decide +kernel
theorem dX5_search_6 : decode cX5_search 6 = .ok (.iload 4, 2) := by decide +kernel
theorem dX5_search_8 : decode cX5_search 8 = .ok (.putfield 15, 3) := by decide +kernel
theorem dX5_search_11 : decode cX5_search 11 = .ok (.aload_n 0, 1) := by decide +kernel
theorem dX5_search_12 : decode cX5_search 12 = .ok (.iconst 0, 1) := by decide +kernel
theorem dX5_search_13 : decode cX5_search 13 = .ok (.putfield 18, 3) := by decide +kernel
theorem dX5_search_16 : decode cX5_search 16 = .ok (.aload_n 0, 1) := by decide +kernel
theorem dX5_search_17 : decode cX5_search 17 = .ok (.bipush (-6), 2) := by decide +kernel
theorem dX5_search_19 : decode cX5_search 19 = .ok (.putfield 21, 3) := by decide +kernel
theorem dX5_search_22 : decode cX5_search 22 = .ok (.aload_n 0, 1) := by decide +kernel
theorem dX5_search_23 : decode cX5_search 23 = .ok (.iload_n 1, 1) := by decide +kernel
theorem dX5_search_24 : decode cX5_search 24 = .ok (.iconst 1, 1) := by decide +kernel
theorem dX5_search_25 : decode cX5_search 25 = .ok (.iload_n 1, 1) := by decide +kernel
theorem dX5_search_26 : decode cX5_search 26 = .ok (.ishl, 1) := by decide +kernel
theorem dX5_search_27 : decode cX5_search 27 = .ok (.iconst 1, 1) := by decide +kernel
theorem dX5_search_28 : decode cX5_search 28 = .ok (.iload_n 2, 1) := by decide +kernel
theorem dX5_search_29 : decode cX5_search 29 = .ok (.ishl, 1) := by decide +kernel
theorem dX5_search_30 : decode cX5_search 30 = .ok (.ior, 1) := by decide +kernel
theorem dX5_search_31 : decode cX5_search 31 = .ok (.iload_n 3, 1) := by decide +kernel
theorem dX5_search_32 : decode cX5_search 32 = .ok (.iconst 1, 1) := by decide +kernel
theorem dX5_search_33 : decode cX5_search 33 = .ok (.invokevirtual 28, 3) := by decide +kernel
theorem dX5_search_36 : decode cX5_search 36 = .ok (.return_, 1) := by decide +kernel
set_option maxRecDepth 20000 in
theorem ggX5_walk_X4_worseThan : GoodIn wsX5_walk wsX4_worseThan := goodIn_r _ [9, 10, 11, 12, 13, 25, 26, 27, 28, 29] (by decide +kernel) (by decide +kernel)
set_option maxRecDepth 20000 in
theorem gX5_walk_X4_worseThan_n32 : GoodIn wsX5_walk (wsX4_worseThan) := ggX5_walk_X4_worseThan
set_option maxRecDepth 20000 in
theorem ggX5_walk_X6_has : GoodIn wsX5_walk wsX6_has := goodIn_r _ [15] (by decide +kernel) (by decide +kernel)
set_option maxRecDepth 20000 in
theorem gX5_walk_X6_has_n38 : GoodIn wsX5_walk (wsX6_has) := ggX5_walk_X6_has
set_option maxRecDepth 20000 in
theorem ggX5_walk_X5_walk : GoodIn wsX5_walk wsX5_walk := goodIn_r _ [0, 1, 2, 3, 4, 5, 6, 7, 8, 9, 10, 11, 12, 13, 14, 15, 16, 17, 18, 19, 20, 21, 22, 23, 24, 25, 26, 27, 28, 29] (by decide +kernel) (by decide +kernel)
set_option maxRecDepth 20000 in
theorem gX5_walk_X5_walk : GoodIn wsX5_walk (wsV RX5 28 RX5 yX5_walk wsX5_walk) := goodIn_app (goodIn_of _ (by decide +kernel)) ggX5_walk_X5_walk
theorem dX5_walk_0 : decode cX5_walk 0 = .ok (.iload_n 3, 1) := by decide +kernel
theorem dX5_walk_1 : decode cX5_walk 1 = .ok (.ifCond .gt 50, 3) := by decide +kernel
theorem dX5_walk_4 : decode cX5_walk 4 = .ok (.aload_n 0, 1) := by decide +kernel
theorem dX5_walk_5 : decode cX5_walk 5 = .ok (.getfield 24, 3) := by decide +kernel
theorem dX5_walk_8 : decode cX5_walk 8 = .ok (.iload_n 1, 1) := by decide +kernel
theorem dX5_walk_9 : decode cX5_walk 9 = .ok (.invokevirtual 32, 3) := by decide +kernel
theorem dX5_walk_12 : decode cX5_walk 12 = .ok (.aload_n 0, 1) := by decide +kernel
theorem dX5_walk_13 : decode cX5_walk 13 = .ok (.getfield 9, 3) := by decide +kernel
theorem dX5_walk_16 : decode cX5_walk 16 = .ok (.invokestatic 38, 3) := by decide +kernel
theorem dX5_walk_19 : decode cX5_walk 19 = .ok (.ifCond .ne 4, 3) := by decide +kernel
theorem dX5_walk_22 : decode cX5_walk 22 = .ok (.return_, 1) := by decide +kernel
theorem dX5_walk_23 : decode cX5_walk 23 = .ok (.aload_n 0, 1) := by decide +kernel
theorem dX5_walk_24 : decode cX5_walk 24 = .ok (.getfield 18, 3) := by decide +kernel
theorem dX5_walk_27 : decode cX5_walk 27 = .ok (.aload_n 0, 1) := by decide +kernel
theorem dX5_walk_28 : decode cX5_walk 28 = .ok (.getfield 15, 3) := by decide +kernel
theorem dX5_walk_31 : decode cX5_walk 31 = .ok (.if_icmp .ne 9, 3) := by decide +kernel
theorem dX5_walk_34 : decode cX5_walk 34 = .ok (.aload_n 0, 1) := by decide +kernel
theorem dX5_walk_35 : decode cX5_walk 35 = .ok (.iload 4, 2) := by decide +kernel
theorem dX5_walk_37 : decode cX5_walk 37 = .ok (.putfield 21, 3) := by decide +kernel
theorem dX5_walk_40 : decode cX5_walk 40 = .ok (.aload_n 0, 1) := by decide +kernel
theorem dX5_walk_41 : decode cX5_walk 41 = .ok (.dup, 1) := by decide +kernel
theorem dX5_walk_42 : decode cX5_walk 42 = .ok (.getfield 18, 3) := by decide +kernel
theorem dX5_walk_45 : decode cX5_walk 45 = .ok (.iconst 1, 1) := by decide +kernel
theorem dX5_walk_46 : decode cX5_walk 46 = .ok (.iadd, 1) := by decide +kernel
theorem dX5_walk_47 : decode cX5_walk 47 = .ok (.putfield 18, 3) := by decide +kernel
theorem dX5_walk_50 : decode cX5_walk 50 = .ok (.return_, 1) := by decide +kernel
theorem dX5_walk_51 : decode cX5_walk 51 = .ok (.iconst 0, 1) := by decide +kernel
theorem dX5_walk_52 : decode cX5_walk 52 = .ok (.istore 5, 2) := by decide +kernel
theorem dX5_walk_54 : decode cX5_walk 54 = .ok (.iload 5, 2) := by decide +kernel
theorem dX5_walk_56 : decode cX5_walk 56 = .ok (.bipush 10, 2) := by decide +kernel
theorem dX5_walk_58 : decode cX5_walk 58 = .ok (.if_icmp .ge 55, 3) := by decide +kernel
theorem dX5_walk_61 : decode cX5_walk 61 = .ok (.aload_n 0, 1) := by decide +kernel
theorem dX5_walk_62 : decode cX5_walk 62 = .ok (.getfield 24, 3) := by decide +kernel
theorem dX5_walk_65 : decode cX5_walk 65 = .ok (.iload_n 1, 1) := by decide +kernel
theorem dX5_walk_66 : decode cX5_walk 66 = .ok (.invokevirtual 32, 3) := by decide +kernel
theorem dX5_walk_69 : decode cX5_walk 69 = .ok (.iload_n 2, 1) := by decide +kernel
theorem dX5_walk_70 : decode cX5_walk 70 = .ok (.iconst (-1), 1) := by decide +kernel
theorem dX5_walk_71 : decode cX5_walk 71 = .ok (.ixor, 1) := by decide +kernel
theorem dX5_walk_72 : decode cX5_walk 72 = .ok (.iand, 1) := by decide +kernel
theorem dX5_walk_73 : decode cX5_walk 73 = .ok (.iload 5, 2) := by decide +kernel
theorem dX5_walk_75 : decode cX5_walk 75 = .ok (.invokestatic 38, 3) := by decide +kernel
theorem dX5_walk_78 : decode cX5_walk 78 = .ok (.ifCond .ne 6, 3) := by decide +kernel
theorem dX5_walk_81 : decode cX5_walk 81 = .ok (.goto 26, 3) := by decide +kernel
theorem dX5_walk_84 : decode cX5_walk 84 = .ok (.aload_n 0, 1) := by decide +kernel
theorem dX5_walk_85 : decode cX5_walk 85 = .ok (.iload 5, 2) := by decide +kernel
theorem dX5_walk_87 : decode cX5_walk 87 = .ok (.iload_n 2, 1) := by decide +kernel
theorem dX5_walk_88 : decode cX5_walk 88 = .ok (.iconst 1, 1) := by decide +kernel
theorem dX5_walk_89 : decode cX5_walk 89 = .ok (.iload 5, 2) := by decide +kernel
theorem dX5_walk_91 : decode cX5_walk 91 = .ok (.ishl, 1) := by decide +kernel
theorem dX5_walk_92 : decode cX5_walk 92 = .ok (.ior, 1) := by decide +kernel
theorem dX5_walk_93 : decode cX5_walk 93 = .ok (.iload_n 3, 1) := by decide +kernel
theorem dX5_walk_94 : decode cX5_walk 94 = .ok (.iconst 1, 1) := by decide +kernel
theorem dX5_walk_95 : decode cX5_walk 95 = .ok (.isub, 1) := by decide +kernel
theorem dX5_walk_96 : decode cX5_walk 96 = .ok (.iload 4, 2) := by decide +kernel
theorem dX5_walk_98 : decode cX5_walk 98 = .ok (.bipush 10, 2) := by decide +kernel
theorem dX5_walk_100 : decode cX5_walk 100 = .ok (.imul, 1) := by decide +kernel
theorem dX5_walk_101 : decode cX5_walk 101 = .ok (.iload 5, 2) := by decide +kernel
theorem dX5_walk_103 : decode cX5_walk 103 = .ok (.iadd, 1) := by decide +kernel
theorem dX5_walk_104 : decode cX5_walk 104 = .ok (.invokevirtual 28, 3) := by decide +kernel
theorem dX5_walk_107 : decode cX5_walk 107 = .ok (.iinc 5 1, 3) := by decide +kernel
theorem dX5_walk_110 : decode cX5_walk 110 = .ok (.goto (-56), 3) := by decide +kernel
theorem dX5_walk_113 : decode cX5_walk 113 = .ok (.return_, 1) := by decide +kernel
theorem dX5_count_0 : decode cX5_count 0 = .ok (.aload_n 0, 1) := by decide +kernel
theorem dX5_count_1 : decode cX5_count 1 = .ok (.getfield 18, 3) := by decide +kernel
theorem dX5_count_4 : decode cX5_count 4 = .ok (.ireturn, 1) := by decide +kernel
theorem dX5_wanted_0 : decode cX5_wanted 0 = .ok (.aload_n 0, 1) := by decide +kernel
theorem dX5_wanted_1 : decode cX5_wanted 1 = .ok (.getfield 21, 3) := by decide +kernel
theorem dX5_wanted_4 : decode cX5_wanted 4 = .ok (.ireturn, 1) := by decide +kernel
set_option maxRecDepth 20000 in
theorem ggX6_init_X3_init : GoodIn wsX6_init wsX3_init := goodIn_r _ [31, 32, 2, 3, 33, 34, 35, 83, 84] (by decide +kernel) (by decide +kernel)
set_option maxRecDepth 20000 in
theorem gX6_init_X3_init_n9 : GoodIn wsX6_init (wsX3_init) := ggX6_init_X3_init
set_option maxRecDepth 20000 in
theorem ggX6_init_X4_init : GoodIn wsX6_init wsX4_init := goodIn_r _ [37, 38, 2, 3, 33, 39, 40, 41, 42, 43, 44, 45, 46, 93, 94, 95, 96, 97] (by decide +kernel) (by decide +kernel)
set_option maxRecDepth 20000 in
theorem gX6_init_X4_init_n18 : GoodIn wsX6_init (wsX4_init) := ggX6_init_X4_init
set_option maxRecDepth 20000 in
theorem ggX6_init_X0_init : GoodIn wsX6_init wsX0_init := goodIn_r _ [48, 49, 2, 3, 33, 50, 51, 52, 53, 54, 55, 56, 98, 99, 100, 101, 102, 103, 104] (by decide +kernel) (by decide +kernel)
set_option maxRecDepth 20000 in
theorem gX6_init_X0_init_n31 : GoodIn wsX6_init (wsX0_init) := ggX6_init_X0_init
set_option maxRecDepth 20000 in
theorem ggX6_init_X1_init : GoodIn wsX6_init wsX1_init := goodIn_r _ [58, 59, 2, 3, 33, 60, 61, 62, 63, 64, 65, 105, 106, 107, 108, 109] (by decide +kernel) (by decide +kernel)
set_option maxRecDepth 20000 in
theorem gX6_init_X1_init_n40 : GoodIn wsX6_init (wsX1_init) := ggX6_init_X1_init
set_option maxRecDepth 20000 in
theorem ggX6_init_X2_init : GoodIn wsX6_init wsX2_init := goodIn_r _ [67, 68, 2, 3, 33, 69, 70, 71, 72, 73, 74, 110, 111, 112, 113, 114, 115] (by decide +kernel) (by decide +kernel)
set_option maxRecDepth 20000 in
theorem gX6_init_X2_init_n47 : GoodIn wsX6_init (wsX2_init) := ggX6_init_X2_init
set_option maxRecDepth 20000 in
theorem ggX6_init_X5_init : GoodIn wsX6_init wsX5_init := goodIn_r _ [76, 77, 2, 3, 78, 79, 80, 81, 82, 116, 117, 118, 119, 120] (by decide +kernel) (by decide +kernel)
set_option maxRecDepth 20000 in
theorem gX6_init_X5_init_n54 : GoodIn wsX6_init (wsX5_init) := ggX6_init_X5_init
theorem dX6_init_0 : decode cX6_init 0 = .ok (.aload_n 0, 1) := by decide +kernel
theorem dX6_init_1 : decode cX6_init 1 = .ok (.invokespecial 1, 3) := by decide +kernel
theorem dX6_init_4 : decode cX6_init 4 = .ok (.aload_n 0, 1) := by decide +kernel
theorem dX6_init_5 : decode cX6_init 5 = .ok (.new 7, 3) := by decide +kernel
theorem dX6_init_8 : decode cX6_init 8 = .ok (.dup, 1) := by decide +kernel
theorem dX6_init_9 : decode cX6_init 9 = .ok (.invokespecial 9, 3) := by decide +kernel
theorem dX6_init_12 : decode cX6_init 12 = .ok (.putfield 10, 3) := by decide +kernel
theorem dX6_init_15 : decode cX6_init 15 = .ok (.aload_n 0, 1) := by decide +kernel
theorem dX6_init_16 : decode cX6_init 16 = .ok (.new 16, 3) := by decide +kernel
theorem dX6_init_19 : decode cX6_init 19 = .ok (.dup, 1) := by decide +kernel
theorem dX6_init_20 : decode cX6_init 20 = .ok (.invokespecial 18, 3) := by decide +kernel
theorem dX6_init_23 : decode cX6_init 23 = .ok (.putfield 19, 3) := by decide +kernel
theorem dX6_init_26 : decode cX6_init 26 = .ok (.aload_n 0, 1) := by decide +kernel
theorem dX6_init_27 : decode cX6_init 27 = .ok (.new 16, 3) := by decide +kernel
theorem dX6_init_30 : decode cX6_init 30 = .ok (.dup, 1) := by decide +kernel
theorem dX6_init_31 : decode cX6_init 31 = .ok (.invokespecial 18, 3) := by decide +kernel
theorem dX6_init_34 : decode cX6_init 34 = .ok (.putfield 23, 3) := by decide +kernel
theorem dX6_init_37 : decode cX6_init 37 = .ok (.aload_n 0, 1) := by decide +kernel
theorem dX6_init_38 : decode cX6_init 38 = .ok (.new 16, 3) := by decide +kernel
theorem dX6_init_41 : decode cX6_init 41 = .ok (.dup, 1) := by decide +kernel
theorem dX6_init_42 : decode cX6_init 42 = .ok (.invokespecial 18, 3) := by decide +kernel
theorem dX6_init_45 : decode cX6_init 45 = .ok (.putfield 26, 3) := by decide +kernel
theorem dX6_init_48 : decode cX6_init 48 = .ok (.aload_n 0, 1) := by decide +kernel
theorem dX6_init_49 : decode cX6_init 49 = .ok (.new 29, 3) := by decide +kernel
theorem dX6_init_52 : decode cX6_init 52 = .ok (.dup, 1) := by decide +kernel
theorem dX6_init_53 : decode cX6_init 53 = .ok (.aload_n 0, 1) := by decide +kernel
theorem dX6_init_54 : decode cX6_init 54 = .ok (.getfield 19, 3) := by decide +kernel
theorem dX6_init_57 : decode cX6_init 57 = .ok (.invokespecial 31, 3) := by decide +kernel
theorem dX6_init_60 : decode cX6_init 60 = .ok (.putfield 34, 3) := by decide +kernel
theorem dX6_init_63 : decode cX6_init 63 = .ok (.aload_n 0, 1) := by decide +kernel
theorem dX6_init_64 : decode cX6_init 64 = .ok (.new 38, 3) := by decide +kernel
theorem dX6_init_67 : decode cX6_init 67 = .ok (.dup, 1) := by decide +kernel
theorem dX6_init_68 : decode cX6_init 68 = .ok (.aload_n 0, 1) := by decide +kernel
theorem dX6_init_69 : decode cX6_init 69 = .ok (.getfield 19, 3) := by decide +kernel
theorem dX6_init_72 : decode cX6_init 72 = .ok (.invokespecial 40, 3) := by decide +kernel
theorem dX6_init_75 : decode cX6_init 75 = .ok (.putfield 41, 3) := by decide +kernel
theorem dX6_init_78 : decode cX6_init 78 = .ok (.aload_n 0, 1) := by decide +kernel
theorem dX6_init_79 : decode cX6_init 79 = .ok (.new 45, 3) := by decide +kernel
theorem dX6_init_82 : decode cX6_init 82 = .ok (.dup, 1) := by decide +kernel
theorem dX6_init_83 : decode cX6_init 83 = .ok (.aload_n 0, 1) := by decide +kernel
theorem dX6_init_84 : decode cX6_init 84 = .ok (.getfield 19, 3) := by decide +kernel
theorem dX6_init_87 : decode cX6_init 87 = .ok (.invokespecial 47, 3) := by decide +kernel
theorem dX6_init_90 : decode cX6_init 90 = .ok (.putfield 48, 3) := by decide +kernel
theorem dX6_init_93 : decode cX6_init 93 = .ok (.aload_n 0, 1) := by decide +kernel
theorem dX6_init_94 : decode cX6_init 94 = .ok (.new 52, 3) := by decide +kernel
theorem dX6_init_97 : decode cX6_init 97 = .ok (.dup, 1) := by decide +kernel
theorem dX6_init_98 : decode cX6_init 98 = .ok (.aload_n 0, 1) := by decide +kernel
theorem dX6_init_99 : decode cX6_init 99 = .ok (.getfield 19, 3) := by decide +kernel
theorem dX6_init_102 : decode cX6_init 102 = .ok (.invokespecial 54, 3) := by decide +kernel
theorem dX6_init_105 : decode cX6_init 105 = .ok (.putfield 55, 3) := by decide +kernel
theorem dX6_init_108 : decode cX6_init 108 = .ok (.return_, 1) := by decide +kernel
set_option maxRecDepth 20000 in
theorem ggX6_say_X6_within : GoodIn wsX6_say wsX6_within := goodIn_r _ [5] (by decide +kernel) (by decide +kernel)
set_option maxRecDepth 20000 in
theorem gX6_say_X6_within : GoodIn wsX6_say (va_wsS RX6 59 yX6_within wsX6_within) := goodIn_app (goodIn_of _ (by decide +kernel)) ggX6_say_X6_within
set_option maxRecDepth 20000 in
theorem ggX6_say_X3_isFull : GoodIn wsX6_say wsX3_isFull := goodIn_r _ [9, 10, 26, 27] (by decide +kernel) (by decide +kernel)
set_option maxRecDepth 20000 in
theorem gX6_say_X3_isFull_n63 : GoodIn wsX6_say (wsX3_isFull) := ggX6_say_X3_isFull
set_option maxRecDepth 20000 in
theorem ggX6_say_X3_put : GoodIn wsX6_say wsX3_put := goodIn_r _ [13, 10, 14, 26, 27] (by decide +kernel) (by decide +kernel)
set_option maxRecDepth 20000 in
theorem gX6_say_X3_put_n67 : GoodIn wsX6_say (wsX3_put) := ggX6_say_X3_put
set_option maxRecDepth 20000 in
theorem ggX6_say_X3_size : GoodIn wsX6_say wsX3_size := goodIn_r _ [17, 10, 26, 27] (by decide +kernel) (by decide +kernel)
set_option maxRecDepth 20000 in
theorem gX6_say_X3_size_n71 : GoodIn wsX6_say (wsX3_size) := ggX6_say_X3_size
theorem dX6_say_0 : decode cX6_say 0 = .ok (.iload_n 1, 1) := by decide +kernel
theorem dX6_say_1 : decode cX6_say 1 = .ok (.bipush 33, 2) := by decide +kernel
theorem dX6_say_3 : decode cX6_say 3 = .ok (.bipush 126, 2) := by decide +kernel
theorem dX6_say_5 : decode cX6_say 5 = .ok (.invokestatic 59, 3) := by decide +kernel
theorem dX6_say_8 : decode cX6_say 8 = .ok (.ifCond .ne 6, 3) := by decide +kernel
theorem dX6_say_11 : decode cX6_say 11 = .ok (.bipush (-2), 2) := by decide +kernel
theorem dX6_say_13 : decode cX6_say 13 = .ok (.ireturn, 1) := by decide +kernel
theorem dX6_say_14 : decode cX6_say 14 = .ok (.aload_n 0, 1) := by decide +kernel
theorem dX6_say_15 : decode cX6_say 15 = .ok (.getfield 10, 3) := by decide +kernel
theorem dX6_say_18 : decode cX6_say 18 = .ok (.invokevirtual 63, 3) := by decide +kernel
theorem dX6_say_21 : decode cX6_say 21 = .ok (.ifCond .eq 6, 3) := by decide +kernel
theorem dX6_say_24 : decode cX6_say 24 = .ok (.bipush (-4), 2) := by decide +kernel
theorem dX6_say_26 : decode cX6_say 26 = .ok (.ireturn, 1) := by decide +kernel
theorem dX6_say_27 : decode cX6_say 27 = .ok (.aload_n 0, 1) := by decide +kernel
theorem dX6_say_28 : decode cX6_say 28 = .ok (.getfield 10, 3) := by decide +kernel
theorem dX6_say_31 : decode cX6_say 31 = .ok (.iload_n 1, 1) := by decide +kernel
theorem dX6_say_32 : decode cX6_say 32 = .ok (.invokevirtual 67, 3) := by decide +kernel
theorem dX6_say_35 : decode cX6_say 35 = .ok (.aload_n 0, 1) := by decide +kernel
theorem dX6_say_36 : decode cX6_say 36 = .ok (.getfield 10, 3) := by decide +kernel
theorem dX6_say_39 : decode cX6_say 39 = .ok (.invokevirtual 71, 3) := by decide +kernel
theorem dX6_say_42 : decode cX6_say 42 = .ok (.ireturn, 1) := by decide +kernel
set_option maxRecDepth 20000 in
theorem ggX6_wipe_X3_size : GoodIn wsX6_wipe wsX3_size := goodIn_r _ [5, 6, 18, 19] (by decide +kernel) (by decide +kernel)
set_option maxRecDepth 20000 in
theorem gX6_wipe_X3_size_n71 : GoodIn wsX6_wipe (wsX3_size) := ggX6_wipe_X3_size
set_option maxRecDepth 20000 in
theorem ggX6_wipe_X3_clear : GoodIn wsX6_wipe wsX3_clear := goodIn_r _ [9, 6, 18, 19] (by decide +kernel) (by decide +kernel)
set_option maxRecDepth 20000 in
theorem gX6_wipe_X3_clear_n75 : GoodIn wsX6_wipe (wsX3_clear) := ggX6_wipe_X3_clear
theorem dX6_wipe_0 : decode cX6_wipe 0 = .ok (.aload_n 0, 1) := by decide +kernel
theorem dX6_wipe_1 : decode cX6_wipe 1 = .ok (.getfield 10, 3) := by decide +kernel
theorem dX6_wipe_4 : decode cX6_wipe 4 = .ok (.invokevirtual 71, 3) := by decide +kernel
theorem dX6_wipe_7 : decode cX6_wipe 7 = .ok (.istore_n 1, 1) := by decide +kernel
theorem dX6_wipe_8 : decode cX6_wipe 8 = .ok (.aload_n 0, 1) := by decide +kernel
theorem dX6_wipe_9 : decode cX6_wipe 9 = .ok (.getfield 10, 3) := by decide +kernel
theorem dX6_wipe_12 : decode cX6_wipe 12 = .ok (.invokevirtual 75, 3) := by decide +kernel
theorem dX6_wipe_15 : decode cX6_wipe 15 = .ok (.iload_n 1, 1) := by decide +kernel
theorem dX6_wipe_16 : decode cX6_wipe 16 = .ok (.ireturn, 1) := by decide +kernel
set_option maxRecDepth 20000 in
theorem ggX6_fault_X6_within : GoodIn wsX6_fault wsX6_within := goodIn_r _ [5] (by decide +kernel) (by decide +kernel)
set_option maxRecDepth 20000 in
theorem gX6_fault_X6_within : GoodIn wsX6_fault (va_wsS RX6 59 yX6_within wsX6_within) := goodIn_app (goodIn_of _ (by decide +kernel)) ggX6_fault_X6_within
set_option maxRecDepth 20000 in
theorem ggX6_fault_X3_faultAsSteps : GoodIn wsX6_fault wsX3_faultAsSteps := goodIn_r _ [9, 10, 11, 12, 13, 7, 14, 15, 16, 17, 18, 19, 20, 21, 22, 23, 24, 4, 25, 26, 27, 2, 3, 5, 49, 50] (by decide +kernel) (by decide +kernel)
set_option maxRecDepth 20000 in
theorem gX6_fault_X3_faultAsSteps_n78 : GoodIn wsX6_fault (wsX3_faultAsSteps) := ggX6_fault_X3_faultAsSteps
set_option maxRecDepth 20000 in
theorem ggX6_fault_X3_faultAsQuarrel : GoodIn wsX6_fault wsX3_faultAsQuarrel := goodIn_r _ [30, 10, 31, 32, 33, 7, 34, 15, 16, 17, 18, 19, 20, 21, 22, 23, 24, 4, 25, 26, 27, 2, 3, 5, 35, 36, 37, 38, 39, 40, 49, 50] (by decide +kernel) (by decide +kernel)
set_option maxRecDepth 20000 in
theorem gX6_fault_X3_faultAsQuarrel_n81 : GoodIn wsX6_fault (wsX3_faultAsQuarrel) := ggX6_fault_X3_faultAsQuarrel
theorem dX6_fault_0 : decode cX6_fault 0 = .ok (.iload_n 1, 1) := by decide +kernel
theorem dX6_fault_1 : decode cX6_fault 1 = .ok (.iconst 0, 1) := by decide +kernel
theorem dX6_fault_2 : decode cX6_fault 2 = .ok (.iconst 1, 1) := by decide +kernel
theorem dX6_fault_3 : decode cX6_fault 3 = .ok (.invokestatic 59, 3) := by decide +kernel
theorem dX6_fault_6 : decode cX6_fault 6 = .ok (.ifCond .ne 6, 3) := by decide +kernel
theorem dX6_fault_9 : decode cX6_fault 9 = .ok (.bipush (-2), 2) := by decide +kernel
theorem dX6_fault_11 : decode cX6_fault 11 = .ok (.ireturn, 1) := by decide +kernel
theorem dX6_fault_12 : decode cX6_fault 12 = .ok (.iload_n 1, 1) := by decide +kernel
theorem dX6_fault_13 : decode cX6_fault 13 = .ok (.ifCond .ne 13, 3) := by decide +kernel
theorem dX6_fault_16 : decode cX6_fault 16 = .ok (.aload_n 0, 1) := by decide +kernel
theorem dX6_fault_17 : decode cX6_fault 17 = .ok (.getfield 10, 3) := by decide +kernel
theorem dX6_fault_20 : decode cX6_fault 20 = .ok (.invokevirtual 78, 3) := by decide +kernel
theorem dX6_fault_23 : decode cX6_fault 23 = .ok (.goto 10, 3) := by decide +kernel
theorem dX6_fault_26 : decode cX6_fault 26 = .ok (.aload_n 0, 1) := by decide +kernel
theorem dX6_fault_27 : decode cX6_fault 27 = .ok (.getfield 10, 3) := by decide +kernel
theorem dX6_fault_30 : decode cX6_fault 30 = .ok (.invokevirtual 81, 3) := by decide +kernel
theorem dX6_fault_33 : decode cX6_fault 33 = .ok (.ireturn, 1) := by decide +kernel
set_option maxRecDepth 20000 in
theorem ggX6_steps_X3_faultAsSteps : GoodIn wsX6_steps wsX3_faultAsSteps := goodIn_r _ [6, 7, 8, 9, 10, 4, 11, 12, 13, 14, 15, 16, 17, 18, 19, 20, 21, 22, 23, 24, 25, 26, 27, 28, 64, 65] (by decide +kernel) (by decide +kernel)
set_option maxRecDepth 20000 in
theorem gX6_steps_X3_faultAsSteps_n78 : GoodIn wsX6_steps (wsX3_faultAsSteps) := ggX6_steps_X3_faultAsSteps
set_option maxRecDepth 20000 in
theorem ggX6_steps_X3_size : GoodIn wsX6_steps wsX3_size := goodIn_r _ [31, 7, 64, 65] (by decide +kernel) (by decide +kernel)
set_option maxRecDepth 20000 in
theorem gX6_steps_X3_size_n71 : GoodIn wsX6_steps (wsX3_size) := ggX6_steps_X3_size
set_option maxRecDepth 20000 in
theorem ggX6_steps_X3_signAt : GoodIn wsX6_steps wsX3_signAt := goodIn_r _ [19, 7, 20, 21, 22, 23, 64, 65] (by decide +kernel) (by decide +kernel)
set_option maxRecDepth 20000 in
theorem gX6_steps_X3_signAt_n84 : GoodIn wsX6_steps (wsX3_signAt) := ggX6_steps_X3_signAt
set_option maxRecDepth 20000 in
theorem ggX6_steps_X3_insultAt : GoodIn wsX6_steps wsX3_insultAt := goodIn_r _ [15, 16, 17, 18, 4, 19, 7, 20, 21, 22, 23, 24, 25, 26, 27, 28, 64, 65] (by decide +kernel) (by decide +kernel)
set_option maxRecDepth 20000 in
theorem gX6_steps_X3_insultAt_n88 : GoodIn wsX6_steps (wsX3_insultAt) := ggX6_steps_X3_insultAt
set_option maxRecDepth 20000 in
theorem ggX6_steps_X4_setStep : GoodIn wsX6_steps wsX4_setStep := goodIn_r _ [35, 36, 24, 22, 25, 26, 27, 28, 37, 38, 39, 33, 40, 21, 23, 41, 42, 66, 67, 68, 69, 70] (by decide +kernel) (by decide +kernel)
set_option maxRecDepth 20000 in
theorem gX6_steps_X4_setStep_n91 : GoodIn wsX6_steps (wsX4_setStep) := ggX6_steps_X4_setStep
set_option maxRecDepth 20000 in
theorem ggX6_steps_X3_clear : GoodIn wsX6_steps wsX3_clear := goodIn_r _ [45, 7, 64, 65] (by decide +kernel) (by decide +kernel)
set_option maxRecDepth 20000 in
theorem gX6_steps_X3_clear_n75 : GoodIn wsX6_steps (wsX3_clear) := ggX6_steps_X3_clear
set_option maxRecDepth 20000 in
theorem ggX6_steps_X4_countSteps : GoodIn wsX6_steps wsX4_countSteps := goodIn_r _ [48, 37, 38, 39, 33, 40, 36, 21, 22, 23, 49, 50, 51, 52, 53, 54, 55, 66, 67, 68, 69, 70] (by decide +kernel) (by decide +kernel)
set_option maxRecDepth 20000 in
theorem gX6_steps_X4_countSteps_n95 : GoodIn wsX6_steps (wsX4_countSteps) := ggX6_steps_X4_countSteps
theorem dX6_steps_0 : decode cX6_steps 0 = .ok (.aload_n 0, 1) := by decide +kernel
theorem dX6_steps_1 : decode cX6_steps 1 = .ok (.getfield 10, 3) := by decide +kernel
theorem dX6_steps_4 : decode cX6_steps 4 = .ok (.invokevirtual 78, 3) := by decide +kernel
theorem dX6_steps_7 : decode cX6_steps 7 = .ok (.bipush (-6), 2) := by decide +kernel
theorem dX6_steps_9 : decode cX6_steps 9 = .ok (.if_icmp .eq 6, 3) := by decide +kernel
theorem dX6_steps_12 : decode cX6_steps 12 = .ok (.bipush (-5), 2) := by decide +kernel
theorem dX6_steps_14 : decode cX6_steps 14 = .ok (.ireturn, 1) := by decide +kernel
theorem dX6_steps_15 : decode cX6_steps 15 = .ok (.iconst 2, 1) := by decide +kernel
theorem dX6_steps_16 : decode cX6_steps 16 = .ok (.istore_n 1, 1) := by decide +kernel
theorem dX6_steps_17 : decode cX6_steps 17 = .ok (.iload_n 1, 1) := by decide +kernel
theorem dX6_steps_18 : decode cX6_steps 18 = .ok (.aload_n 0, 1) := by decide +kernel
theorem dX6_steps_19 : decode cX6_steps 19 = .ok (.getfield 10, 3) := by decide +kernel
theorem dX6_steps_22 : decode cX6_steps 22 = .ok (.invokevirtual 71, 3) := by decide +kernel
theorem dX6_steps_25 : decode cX6_steps 25 = .ok (.if_icmp .ge 50, 3) := by decide +kernel
theorem dX6_steps_28 : decode cX6_steps 28 = .ok (.aload_n 0, 1) := by decide +kernel
theorem dX6_steps_29 : decode cX6_steps 29 = .ok (.getfield 10, 3) := by decide +kernel
theorem dX6_steps_32 : decode cX6_steps 32 = .ok (.iload_n 1, 1) := by decide +kernel
theorem dX6_steps_33 : decode cX6_steps 33 = .ok (.iconst 1, 1) := by decide +kernel
theorem dX6_steps_34 : decode cX6_steps 34 = .ok (.isub, 1) := by decide +kernel
theorem dX6_steps_35 : decode cX6_steps 35 = .ok (.invokevirtual 84, 3) := by decide +kernel
theorem dX6_steps_38 : decode cX6_steps 38 = .ok (.bipush 62, 2) := by decide +kernel
theorem dX6_steps_40 : decode cX6_steps 40 = .ok (.if_icmp .ne 29, 3) := by decide +kernel
theorem dX6_steps_43 : decode cX6_steps 43 = .ok (.aload_n 0, 1) := by decide +kernel
theorem dX6_steps_44 : decode cX6_steps 44 = .ok (.getfield 19, 3) := by decide +kernel
theorem dX6_steps_47 : decode cX6_steps 47 = .ok (.aload_n 0, 1) := by decide +kernel
theorem dX6_steps_48 : decode cX6_steps 48 = .ok (.getfield 10, 3) := by decide +kernel
theorem dX6_steps_51 : decode cX6_steps 51 = .ok (.iload_n 1, 1) := by decide +kernel
theorem dX6_steps_52 : decode cX6_steps 52 = .ok (.iconst 2, 1) := by decide +kernel
theorem dX6_steps_53 : decode cX6_steps 53 = .ok (.isub, 1) := by decide +kernel
theorem dX6_steps_54 : decode cX6_steps 54 = .ok (.invokevirtual 88, 3) := by decide +kernel
theorem dX6_steps_57 : decode cX6_steps 57 = .ok (.aload_n 0, 1) := by decide +kernel
theorem dX6_steps_58 : decode cX6_steps 58 = .ok (.getfield 10, 3) := by decide +kernel
theorem dX6_steps_61 : decode cX6_steps 61 = .ok (.iload_n 1, 1) := by decide +kernel
theorem dX6_steps_62 : decode cX6_steps 62 = .ok (.invokevirtual 88, 3) := by decide +kernel
theorem dX6_steps_65 : decode cX6_steps 65 = .ok (.iconst 1, 1) := by decide +kernel
theorem dX6_steps_66 : decode cX6_steps 66 = .ok (.invokevirtual 91, 3) := by decide +kernel
theorem dX6_steps_69 : decode cX6_steps 69 = .ok (.iinc 1 2, 3) := by decide +kernel
theorem dX6_steps_72 : decode cX6_steps 72 = .ok (.goto (-55), 3) := by decide +kernel
theorem dX6_steps_75 : decode cX6_steps 75 = .ok (.aload_n 0, 1) := by decide +kernel
theorem dX6_steps_76 : decode cX6_steps 76 = .ok (.getfield 10, 3) := by decide +kernel
theorem dX6_steps_79 : decode cX6_steps 79 = .ok (.invokevirtual 75, 3) := by decide +kernel
theorem dX6_steps_82 : decode cX6_steps 82 = .ok (.aload_n 0, 1) := by decide +kernel
theorem dX6_steps_83 : decode cX6_steps 83 = .ok (.getfield 19, 3) := by decide +kernel
theorem dX6_steps_86 : decode cX6_steps 86 = .ok (.invokevirtual 95, 3) := by decide +kernel
theorem dX6_steps_89 : decode cX6_steps 89 = .ok (.ireturn, 1) := by decide +kernel
set_option maxRecDepth 20000 in
theorem ggX6_step_X6_isInsult : GoodIn wsX6_step wsX6_isInsult := goodIn_r _ [5, 6, 7, 4, 8] (by decide +kernel) (by decide +kernel)
set_option maxRecDepth 20000 in
theorem gX6_step_X6_isInsult : GoodIn wsX6_step (va_wsS RX6 98 yX6_isInsult wsX6_isInsult) := goodIn_app (goodIn_of _ (by decide +kernel)) ggX6_step_X6_isInsult
set_option maxRecDepth 20000 in
theorem ggX6_step_X4_worseThan : GoodIn wsX6_step wsX4_worseThan := goodIn_r _ [12, 13, 14, 4, 15, 33, 34, 35, 36, 37] (by decide +kernel) (by decide +kernel)
set_option maxRecDepth 20000 in
theorem gX6_step_X4_worseThan_n102 : GoodIn wsX6_step (wsX4_worseThan) := ggX6_step_X4_worseThan
set_option maxRecDepth 20000 in
theorem ggX6_step_X6_has : GoodIn wsX6_step wsX6_has := goodIn_r _ [18] (by decide +kernel) (by decide +kernel)
set_option maxRecDepth 20000 in
theorem gX6_step_X6_has : GoodIn wsX6_step (va_wsS RX6 105 yX6_has wsX6_has) := goodIn_app (goodIn_of _ (by decide +kernel)) ggX6_step_X6_has
set_option maxRecDepth 20000 in
theorem ggX6_step_X4_setStep : GoodIn wsX6_step wsX4_setStep := goodIn_r _ [21, 13, 3, 4, 5, 6, 7, 8, 22, 9, 11, 10, 12, 14, 15, 23, 24, 33, 34, 35, 36, 37] (by decide +kernel) (by decide +kernel)
set_option maxRecDepth 20000 in
theorem gX6_step_X4_setStep_n91 : GoodIn wsX6_step (wsX4_setStep) := ggX6_step_X4_setStep
theorem dX6_step_0 : decode cX6_step 0 = .ok (.iload_n 1, 1) := by decide +kernel
theorem dX6_step_1 : decode cX6_step 1 = .ok (.invokestatic 98, 3) := by decide +kernel
theorem dX6_step_4 : decode cX6_step 4 = .ok (.ifCond .eq 15, 3) := by decide +kernel
theorem dX6_step_7 : decode cX6_step 7 = .ok (.iload_n 2, 1) := by decide +kernel
theorem dX6_step_8 : decode cX6_step 8 = .ok (.invokestatic 98, 3) := by decide +kernel
theorem dX6_step_11 : decode cX6_step 11 = .ok (.ifCond .eq 8, 3) := by decide +kernel
theorem dX6_step_14 : decode cX6_step 14 = .ok (.iload_n 1, 1) := by decide +kernel
theorem dX6_step_15 : decode cX6_step 15 = .ok (.iload_n 2, 1) := by decide +kernel
theorem dX6_step_16 : decode cX6_step 16 = .ok (.if_icmp .ne 5, 3) := by decide +kernel
theorem dX6_step_19 : decode cX6_step 19 = .ok (.iconst (-1), 1) := by decide +kernel
theorem dX6_step_20 : decode cX6_step 20 = .ok (.ireturn, 1) := by decide +kernel
theorem dX6_step_21 : decode cX6_step 21 = .ok (.aload_n 0, 1) := by decide +kernel
theorem dX6_step_22 : decode cX6_step 22 = .ok (.getfield 19, 3) := by decide +kernel
theorem dX6_step_25 : decode cX6_step 25 = .ok (.iload_n 1, 1) := by decide +kernel
theorem dX6_step_26 : decode cX6_step 26 = .ok (.invokevirtual 102, 3) := by decide +kernel
theorem dX6_step_29 : decode cX6_step 29 = .ok (.iload_n 2, 1) := by decide +kernel
theorem dX6_step_30 : decode cX6_step 30 = .ok (.invokestatic 105, 3) := by decide +kernel
theorem dX6_step_33 : decode cX6_step 33 = .ok (.ifCond .eq 7, 3) := by decide +kernel
theorem dX6_step_36 : decode cX6_step 36 = .ok (.iconst 1, 1) := by decide +kernel
theorem dX6_step_37 : decode cX6_step 37 = .ok (.goto 4, 3) := by decide +kernel
theorem dX6_step_40 : decode cX6_step 40 = .ok (.iconst 0, 1) := by decide +kernel
theorem dX6_step_41 : decode cX6_step 41 = .ok (.istore 4, 2) := by decide +kernel
theorem dX6_step_43 : decode cX6_step 43 = .ok (.aload_n 0, 1) := by decide +kernel
theorem dX6_step_44 : decode cX6_step 44 = .ok (.getfield 19, 3) := by decide +kernel
theorem dX6_step_47 : decode cX6_step 47 = .ok (.iload_n 1, 1) := by decide +kernel
theorem dX6_step_48 : decode cX6_step 48 = .ok (.iload_n 2, 1) := by decide +kernel
theorem dX6_step_49 : decode cX6_step 49 = .ok (.iload_n 3, 1) := by decide +kernel
theorem dX6_step_50 : decode cX6_step 50 = .ok (.invokevirtual 91, 3) := by decide +kernel
theorem dX6_step_53 : decode cX6_step 53 = .ok (.iload 4, 2) := by decide +kernel
theorem dX6_step_55 : decode cX6_step 55 = .ok (.ireturn, 1) := by decide +kernel
set_option maxRecDepth 20000 in
theorem ggX6_needs_X6_isInsult : GoodIn wsX6_needs wsX6_isInsult := goodIn_r _ [5, 6, 7, 4, 8] (by decide +kernel) (by decide +kernel)
set_option maxRecDepth 20000 in
theorem gX6_needs_X6_isInsult : GoodIn wsX6_needs (va_wsS RX6 98 yX6_isInsult wsX6_isInsult) := goodIn_app (goodIn_of _ (by decide +kernel)) ggX6_needs_X6_isInsult
set_option maxRecDepth 20000 in
theorem ggX6_needs_X6_within : GoodIn wsX6_needs wsX6_within := goodIn_r _ [8] (by decide +kernel) (by decide +kernel)
set_option maxRecDepth 20000 in
theorem gX6_needs_X6_within : GoodIn wsX6_needs (va_wsS RX6 59 yX6_within wsX6_within) := goodIn_app (goodIn_of _ (by decide +kernel)) ggX6_needs_X6_within
set_option maxRecDepth 20000 in
theorem ggX6_needs_X4_neededBy : GoodIn wsX6_needs wsX4_neededBy := goodIn_r _ [12, 13, 14, 4, 15, 29, 30, 31, 32, 33] (by decide +kernel) (by decide +kernel)
set_option maxRecDepth 20000 in
theorem gX6_needs_X4_neededBy_n109 : GoodIn wsX6_needs (wsX4_neededBy) := ggX6_needs_X4_neededBy
set_option maxRecDepth 20000 in
theorem ggX6_needs_X4_setNeeded : GoodIn wsX6_needs wsX4_setNeeded := goodIn_r _ [18, 13, 19, 4, 20, 29, 30, 31, 32, 33] (by decide +kernel) (by decide +kernel)
set_option maxRecDepth 20000 in
theorem gX6_needs_X4_setNeeded_n112 : GoodIn wsX6_needs (wsX4_setNeeded) := ggX6_needs_X4_setNeeded
theorem dX6_needs_0 : decode cX6_needs 0 = .ok (.iload_n 1, 1) := by decide +kernel
theorem dX6_needs_1 : decode cX6_needs 1 = .ok (.invokestatic 98, 3) := by decide +kernel
theorem dX6_needs_4 : decode cX6_needs 4 = .ok (.ifCond .ne 5, 3) := by decide +kernel
theorem dX6_needs_7 : decode cX6_needs 7 = .ok (.iconst (-1), 1) := by decide +kernel
theorem dX6_needs_8 : decode cX6_needs 8 = .ok (.ireturn, 1) := by decide +kernel
theorem dX6_needs_9 : decode cX6_needs 9 = .ok (.iload_n 2, 1) := by decide +kernel
theorem dX6_needs_10 : decode cX6_needs 10 = .ok (.iconst 0, 1) := by decide +kernel
theorem dX6_needs_11 : decode cX6_needs 11 = .ok (.bipush 63, 2) := by decide +kernel
theorem dX6_needs_13 : decode cX6_needs 13 = .ok (.invokestatic 59, 3) := by decide +kernel
theorem dX6_needs_16 : decode cX6_needs 16 = .ok (.ifCond .ne 6, 3) := by decide +kernel
theorem dX6_needs_19 : decode cX6_needs 19 = .ok (.bipush (-2), 2) := by decide +kernel
theorem dX6_needs_21 : decode cX6_needs 21 = .ok (.ireturn, 1) := by decide +kernel
theorem dX6_needs_22 : decode cX6_needs 22 = .ok (.aload_n 0, 1) := by decide +kernel
theorem dX6_needs_23 : decode cX6_needs 23 = .ok (.getfield 19, 3) := by decide +kernel
theorem dX6_needs_26 : decode cX6_needs 26 = .ok (.iload_n 1, 1) := by decide +kernel
theorem dX6_needs_27 : decode cX6_needs 27 = .ok (.invokevirtual 109, 3) := by decide +kernel
theorem dX6_needs_30 : decode cX6_needs 30 = .ok (.istore_n 3, 1) := by decide +kernel
theorem dX6_needs_31 : decode cX6_needs 31 = .ok (.aload_n 0, 1) := by decide +kernel
theorem dX6_needs_32 : decode cX6_needs 32 = .ok (.getfield 19, 3) := by decide +kernel
theorem dX6_needs_35 : decode cX6_needs 35 = .ok (.iload_n 1, 1) := by decide +kernel
theorem dX6_needs_36 : decode cX6_needs 36 = .ok (.iload_n 2, 1) := by decide +kernel
theorem dX6_needs_37 : decode cX6_needs 37 = .ok (.invokevirtual 112, 3) := by decide +kernel
theorem dX6_needs_40 : decode cX6_needs 40 = .ok (.iload_n 3, 1) := by decide +kernel
theorem dX6_needs_41 : decode cX6_needs 41 = .ok (.ireturn, 1) := by decide +kernel
set_option maxRecDepth 20000 in
theorem ggX6_man_X6_isMan : GoodIn wsX6_man wsX6_isMan := goodIn_r _ [5, 6, 7, 4, 8] (by decide +kernel) (by decide +kernel)
set_option maxRecDepth 20000 in
theorem gX6_man_X6_isMan : GoodIn wsX6_man (va_wsS RX6 116 yX6_isMan wsX6_isMan) := goodIn_app (goodIn_of _ (by decide +kernel)) ggX6_man_X6_isMan
set_option maxRecDepth 20000 in
theorem ggX6_man_X6_within : GoodIn wsX6_man wsX6_within := goodIn_r _ [8] (by decide +kernel) (by decide +kernel)
set_option maxRecDepth 20000 in
theorem gX6_man_X6_within : GoodIn wsX6_man (va_wsS RX6 59 yX6_within wsX6_within) := goodIn_app (goodIn_of _ (by decide +kernel)) ggX6_man_X6_within
set_option maxRecDepth 20000 in
theorem ggX6_man_X4_traitsOf : GoodIn wsX6_man wsX4_traitsOf := goodIn_r _ [12, 13, 14, 4, 15, 36, 37, 38, 39, 40] (by decide +kernel) (by decide +kernel)
set_option maxRecDepth 20000 in
theorem gX6_man_X4_traitsOf_n119 : GoodIn wsX6_man (wsX4_traitsOf) := ggX6_man_X4_traitsOf
set_option maxRecDepth 20000 in
theorem ggX6_man_X4_setTraits : GoodIn wsX6_man wsX4_setTraits := goodIn_r _ [18, 13, 19, 4, 20, 36, 37, 38, 39, 40] (by decide +kernel) (by decide +kernel)
set_option maxRecDepth 20000 in
theorem gX6_man_X4_setTraits_n122 : GoodIn wsX6_man (wsX4_setTraits) := ggX6_man_X4_setTraits
set_option maxRecDepth 20000 in
theorem ggX6_man_X4_knownTo : GoodIn wsX6_man wsX4_knownTo := goodIn_r _ [23, 24, 14, 4, 15, 36, 37, 38, 39, 40] (by decide +kernel) (by decide +kernel)
set_option maxRecDepth 20000 in
theorem gX6_man_X4_knownTo_n125 : GoodIn wsX6_man (wsX4_knownTo) := ggX6_man_X4_knownTo
set_option maxRecDepth 20000 in
theorem ggX6_man_X4_setKnown : GoodIn wsX6_man wsX4_setKnown := goodIn_r _ [27, 24, 19, 4, 20, 36, 37, 38, 39, 40] (by decide +kernel) (by decide +kernel)
set_option maxRecDepth 20000 in
theorem gX6_man_X4_setKnown_n128 : GoodIn wsX6_man (wsX4_setKnown) := ggX6_man_X4_setKnown
theorem dX6_man_0 : decode cX6_man 0 = .ok (.iload_n 1, 1) := by decide +kernel
theorem dX6_man_1 : decode cX6_man 1 = .ok (.invokestatic 116, 3) := by decide +kernel
theorem dX6_man_4 : decode cX6_man 4 = .ok (.ifCond .ne 5, 3) := by decide +kernel
theorem dX6_man_7 : decode cX6_man 7 = .ok (.iconst (-1), 1) := by decide +kernel
theorem dX6_man_8 : decode cX6_man 8 = .ok (.ireturn, 1) := by decide +kernel
theorem dX6_man_9 : decode cX6_man 9 = .ok (.iload_n 2, 1) := by decide +kernel
theorem dX6_man_10 : decode cX6_man 10 = .ok (.iconst 0, 1) := by decide +kernel
theorem dX6_man_11 : decode cX6_man 11 = .ok (.iconst 1, 1) := by decide +kernel
theorem dX6_man_12 : decode cX6_man 12 = .ok (.invokestatic 59, 3) := by decide +kernel
theorem dX6_man_15 : decode cX6_man 15 = .ok (.ifCond .ne 6, 3) := by decide +kernel
theorem dX6_man_18 : decode cX6_man 18 = .ok (.bipush (-2), 2) := by decide +kernel
theorem dX6_man_20 : decode cX6_man 20 = .ok (.ireturn, 1) := by decide +kernel
theorem dX6_man_21 : decode cX6_man 21 = .ok (.iload_n 3, 1) := by decide +kernel
theorem dX6_man_22 : decode cX6_man 22 = .ok (.iconst 0, 1) := by decide +kernel
theorem dX6_man_23 : decode cX6_man 23 = .ok (.iload_n 2, 1) := by decide +kernel
theorem dX6_man_24 : decode cX6_man 24 = .ok (.ifCond .ne 8, 3) := by decide +kernel
theorem dX6_man_27 : decode cX6_man 27 = .ok (.bipush 63, 2) := by decide +kernel
theorem dX6_man_29 : decode cX6_man 29 = .ok (.goto 6, 3) := by decide +kernel
theorem dX6_man_32 : decode cX6_man 32 = .ok (.sipush 1023, 3) := by decide +kernel
theorem dX6_man_35 : decode cX6_man 35 = .ok (.invokestatic 59, 3) := by decide +kernel
theorem dX6_man_38 : decode cX6_man 38 = .ok (.ifCond .ne 6, 3) := by decide +kernel
theorem dX6_man_41 : decode cX6_man 41 = .ok (.bipush (-2), 2) := by decide +kernel
theorem dX6_man_43 : decode cX6_man 43 = .ok (.ireturn, 1) := by decide +kernel
theorem dX6_man_44 : decode cX6_man 44 = .ok (.iload_n 2, 1) := by decide +kernel
theorem dX6_man_45 : decode cX6_man 45 = .ok (.ifCond .ne 25, 3) := by decide +kernel
theorem dX6_man_48 : decode cX6_man 48 = .ok (.aload_n 0, 1) := by decide +kernel
theorem dX6_man_49 : decode cX6_man 49 = .ok (.getfield 19, 3) := by decide +kernel
theorem dX6_man_52 : decode cX6_man 52 = .ok (.iload_n 1, 1) := by decide +kernel
theorem dX6_man_53 : decode cX6_man 53 = .ok (.invokevirtual 119, 3) := by decide +kernel
theorem dX6_man_56 : decode cX6_man 56 = .ok (.istore 4, 2) := by decide +kernel
theorem dX6_man_58 : decode cX6_man 58 = .ok (.aload_n 0, 1) := by decide +kernel
theorem dX6_man_59 : decode cX6_man 59 = .ok (.getfield 19, 3) := by decide +kernel
theorem dX6_man_62 : decode cX6_man 62 = .ok (.iload_n 1, 1) := by decide +kernel
theorem dX6_man_63 : decode cX6_man 63 = .ok (.iload_n 3, 1) := by decide +kernel
theorem dX6_man_64 : decode cX6_man 64 = .ok (.invokevirtual 122, 3) := by decide +kernel
theorem dX6_man_67 : decode cX6_man 67 = .ok (.goto 22, 3) := by decide +kernel
theorem dX6_man_70 : decode cX6_man 70 = .ok (.aload_n 0, 1) := by decide +kernel
theorem dX6_man_71 : decode cX6_man 71 = .ok (.getfield 19, 3) := by decide +kernel
theorem dX6_man_74 : decode cX6_man 74 = .ok (.iload_n 1, 1) := by decide +kernel
theorem dX6_man_75 : decode cX6_man 75 = .ok (.invokevirtual 125, 3) := by decide +kernel
theorem dX6_man_78 : decode cX6_man 78 = .ok (.istore 4, 2) := by decide +kernel
theorem dX6_man_80 : decode cX6_man 80 = .ok (.aload_n 0, 1) := by decide +kernel
theorem dX6_man_81 : decode cX6_man 81 = .ok (.getfield 19, 3) := by decide +kernel
theorem dX6_man_84 : decode cX6_man 84 = .ok (.iload_n 1, 1) := by decide +kernel
theorem dX6_man_85 : decode cX6_man 85 = .ok (.iload_n 3, 1) := by decide +kernel
theorem dX6_man_86 : decode cX6_man 86 = .ok (.invokevirtual 128, 3) := by decide +kernel
theorem dX6_man_89 : decode cX6_man 89 = .ok (.iload 4, 2) := by decide +kernel
theorem dX6_man_91 : decode cX6_man 91 = .ok (.ireturn, 1) := by decide +kernel
set_option maxRecDepth 20000 in
theorem ggX6_fit_X6_isMan : GoodIn wsX6_fit wsX6_isMan := goodIn_r _ [5, 6, 7, 4, 8] (by decide +kernel) (by decide +kernel)
set_option maxRecDepth 20000 in
theorem gX6_fit_X6_isMan : GoodIn wsX6_fit (va_wsS RX6 116 yX6_isMan wsX6_isMan) := goodIn_app (goodIn_of _ (by decide +kernel)) ggX6_fit_X6_isMan
set_option maxRecDepth 20000 in
theorem ggX6_fit_X4_fitting : GoodIn wsX6_fit wsX4_fitting := goodIn_r _ [12, 13, 14, 15, 10, 16, 17, 18, 4, 19, 20, 21, 22, 23, 24, 33, 34, 35, 36, 37] (by decide +kernel) (by decide +kernel)
set_option maxRecDepth 20000 in
theorem gX6_fit_X4_fitting_n131 : GoodIn wsX6_fit (wsX4_fitting) := ggX6_fit_X4_fitting
theorem dX6_fit_0 : decode cX6_fit 0 = .ok (.iload_n 1, 1) := by decide +kernel
theorem dX6_fit_1 : decode cX6_fit 1 = .ok (.invokestatic 116, 3) := by decide +kernel
theorem dX6_fit_4 : decode cX6_fit 4 = .ok (.ifCond .ne 5, 3) := by decide +kernel
theorem dX6_fit_7 : decode cX6_fit 7 = .ok (.iconst (-1), 1) := by decide +kernel
theorem dX6_fit_8 : decode cX6_fit 8 = .ok (.ireturn, 1) := by decide +kernel
theorem dX6_fit_9 : decode cX6_fit 9 = .ok (.aload_n 0, 1) := by decide +kernel
theorem dX6_fit_10 : decode cX6_fit 10 = .ok (.getfield 19, 3) := by decide +kernel
theorem dX6_fit_13 : decode cX6_fit 13 = .ok (.iload_n 1, 1) := by decide +kernel
theorem dX6_fit_14 : decode cX6_fit 14 = .ok (.invokevirtual 131, 3) := by decide +kernel
theorem dX6_fit_17 : decode cX6_fit 17 = .ok (.ireturn, 1) := by decide +kernel
set_option maxRecDepth 20000 in
theorem ggX6_judge_X6_within : GoodIn wsX6_judge wsX6_within := goodIn_r _ [5] (by decide +kernel) (by decide +kernel)
set_option maxRecDepth 20000 in
theorem gX6_judge_X6_within : GoodIn wsX6_judge (va_wsS RX6 59 yX6_within wsX6_within) := goodIn_app (goodIn_of _ (by decide +kernel)) ggX6_judge_X6_within
set_option maxRecDepth 20000 in
theorem ggX6_judge_X3_faultAsQuarrel : GoodIn wsX6_judge wsX3_faultAsQuarrel := goodIn_r _ [9, 10, 11, 12, 13, 7, 14, 15, 16, 17, 18, 19, 20, 21, 22, 23, 24, 4, 25, 26, 27, 2, 3, 5, 28, 29, 30, 31, 32, 33, 76, 77] (by decide +kernel) (by decide +kernel)
set_option maxRecDepth 20000 in
theorem gX6_judge_X3_faultAsQuarrel_n81 : GoodIn wsX6_judge (wsX3_faultAsQuarrel) := ggX6_judge_X3_faultAsQuarrel
set_option maxRecDepth 20000 in
theorem ggX6_judge_X3_size : GoodIn wsX6_judge wsX3_size := goodIn_r _ [36, 10, 76, 77] (by decide +kernel) (by decide +kernel)
set_option maxRecDepth 20000 in
theorem gX6_judge_X3_size_n71 : GoodIn wsX6_judge (wsX3_size) := ggX6_judge_X3_size
set_option maxRecDepth 20000 in
theorem ggX6_judge_X6_whyNone : GoodIn wsX6_judge wsX6_whyNone := goodIn_r _ [40, 1, 41, 29, 7, 30, 31, 19, 20, 21, 22, 10, 23, 24, 4, 25, 32, 33, 2, 3, 5, 16, 17, 18, 26, 27, 42, 43, 44, 45, 46, 47, 48, 49, 50, 51, 52, 53, 54, 55, 56, 57, 58, 59, 60, 61, 62, 63, 64, 65, 66, 67, 68, 69, 70, 71, 72, 73, 74, 75, 76, 77, 78, 79, 80, 81, 82] (by decide +kernel) (by decide +kernel)
set_option maxRecDepth 20000 in
theorem gX6_judge_X6_whyNone : GoodIn wsX6_judge (wsV RX6 134 RX6 yX6_whyNone wsX6_whyNone) := goodIn_app (goodIn_of _ (by decide +kernel)) ggX6_judge_X6_whyNone
theorem dX6_judge_0 : decode cX6_judge 0 = .ok (.iload_n 1, 1) := by decide +kernel
theorem dX6_judge_1 : decode cX6_judge 1 = .ok (.iconst 0, 1) := by decide +kernel
theorem dX6_judge_2 : decode cX6_judge 2 = .ok (.iconst 1, 1) := by decide +kernel
theorem dX6_judge_3 : decode cX6_judge 3 = .ok (.invokestatic 59, 3) := by decide +kernel
theorem dX6_judge_6 : decode cX6_judge 6 = .ok (.ifCond .ne 6, 3) := by decide +kernel
theorem dX6_judge_9 : decode cX6_judge 9 = .ok (.bipush (-2), 2) := by decide +kernel
theorem dX6_judge_11 : decode cX6_judge 11 = .ok (.ireturn, 1) := by decide +kernel
theorem dX6_judge_12 : decode cX6_judge 12 = .ok (.aload_n 0, 1) := by decide +kernel
theorem dX6_judge_13 : decode cX6_judge 13 = .ok (.getfield 10, 3) := by decide +kernel
theorem dX6_judge_16 : decode cX6_judge 16 = .ok (.invokevirtual 81, 3) := by decide +kernel
theorem dX6_judge_19 : decode cX6_judge 19 = .ok (.bipush (-6), 2) := by decide +kernel
theorem dX6_judge_21 : decode cX6_judge 21 = .ok (.if_icmp .eq 6, 3) := by decide +kernel
theorem dX6_judge_24 : decode cX6_judge 24 = .ok (.bipush (-5), 2) := by decide +kernel
theorem dX6_judge_26 : decode cX6_judge 26 = .ok (.ireturn, 1) := by decide +kernel
theorem dX6_judge_27 : decode cX6_judge 27 = .ok (.aload_n 0, 1) := by decide +kernel
theorem dX6_judge_28 : decode cX6_judge 28 = .ok (.getfield 10, 3) := by decide +kernel
theorem dX6_judge_31 : decode cX6_judge 31 = .ok (.invokevirtual 71, 3) := by decide +kernel
theorem dX6_judge_34 : decode cX6_judge 34 = .ok (.iconst 2, 1) := by decide +kernel
theorem dX6_judge_35 : decode cX6_judge 35 = .ok (.idiv, 1) := by decide +kernel
theorem dX6_judge_36 : decode cX6_judge 36 = .ok (.istore_n 2, 1) := by decide +kernel
theorem dX6_judge_37 : decode cX6_judge 37 = .ok (.iconst 0, 1) := by decide +kernel
theorem dX6_judge_38 : decode cX6_judge 38 = .ok (.istore_n 3, 1) := by decide +kernel
theorem dX6_judge_39 : decode cX6_judge 39 = .ok (.iload_n 3, 1) := by decide +kernel
theorem dX6_judge_40 : decode cX6_judge 40 = .ok (.iload_n 2, 1) := by decide +kernel
theorem dX6_judge_41 : decode cX6_judge 41 = .ok (.if_icmp .ge 32, 3) := by decide +kernel
theorem dX6_judge_44 : decode cX6_judge 44 = .ok (.aload_n 0, 1) := by decide +kernel
theorem dX6_judge_45 : decode cX6_judge 45 = .ok (.iload_n 3, 1) := by decide +kernel
theorem dX6_judge_46 : decode cX6_judge 46 = .ok (.invokevirtual 134, 3) := by decide +kernel
theorem dX6_judge_49 : decode cX6_judge 49 = .ok (.istore 4, 2) := by decide +kernel
theorem dX6_judge_51 : decode cX6_judge 51 = .ok (.iload 4, 2) := by decide +kernel
theorem dX6_judge_53 : decode cX6_judge 53 = .ok (.ifCond .eq 14, 3) := by decide +kernel
theorem dX6_judge_56 : decode cX6_judge 56 = .ok (.iload_n 1, 1) := by decide +kernel
theorem dX6_judge_57 : decode cX6_judge 57 = .ok (.ifCond .ne 7, 3) := by decide +kernel
theorem dX6_judge_60 : decode cX6_judge 60 = .ok (.iload_n 3, 1) := by decide +kernel
theorem dX6_judge_61 : decode cX6_judge 61 = .ok (.goto 5, 3) := by decide +kernel
theorem dX6_judge_64 : decode cX6_judge 64 = .ok (.iload 4, 2) := by decide +kernel
theorem dX6_judge_66 : decode cX6_judge 66 = .ok (.ireturn, 1) := by decide +kernel
theorem dX6_judge_67 : decode cX6_judge 67 = .ok (.iinc 3 1, 3) := by decide +kernel
theorem dX6_judge_70 : decode cX6_judge 70 = .ok (.goto (-31), 3) := by decide +kernel
theorem dX6_judge_73 : decode cX6_judge 73 = .ok (.bipush (-6), 2) := by decide +kernel
theorem dX6_judge_75 : decode cX6_judge 75 = .ok (.ireturn, 1) := by decide +kernel
set_option maxRecDepth 20000 in
theorem ggX6_match_X6_areTwo : GoodIn wsX6_match wsX6_areTwo := goodIn_r _ [6, 7, 8, 5, 9, 10, 11, 12] (by decide +kernel) (by decide +kernel)
set_option maxRecDepth 20000 in
theorem gX6_match_X6_areTwo : GoodIn wsX6_match (va_wsS RX6 137 yX6_areTwo wsX6_areTwo) := goodIn_app (goodIn_of _ (by decide +kernel)) ggX6_match_X6_areTwo
set_option maxRecDepth 20000 in
theorem ggX6_match_X6_within : GoodIn wsX6_match wsX6_within := goodIn_r _ [12] (by decide +kernel) (by decide +kernel)
set_option maxRecDepth 20000 in
theorem gX6_match_X6_within : GoodIn wsX6_match (va_wsS RX6 59 yX6_within wsX6_within) := goodIn_app (goodIn_of _ (by decide +kernel)) ggX6_match_X6_within
set_option maxRecDepth 20000 in
theorem ggX6_match_X4_sayable : GoodIn wsX6_match wsX4_sayable := goodIn_r _ [16, 17, 18, 19, 14, 20, 21, 22, 5, 23, 24, 25, 26, 27, 28, 29, 30, 31, 32, 33, 34, 35, 36, 37, 101, 102, 103, 104, 105] (by decide +kernel) (by decide +kernel)
set_option maxRecDepth 20000 in
theorem gX6_match_X4_sayable_n140 : GoodIn wsX6_match (wsX4_sayable) := ggX6_match_X4_sayable
set_option maxRecDepth 20000 in
theorem ggX6_match_X0_fight : GoodIn wsX6_match wsX0_fight := goodIn_r _ [41, 42, 43, 44, 45, 46, 47, 39, 48, 49, 50, 51, 52, 53, 54, 55, 56, 57, 58, 59, 60, 61, 62, 5, 63, 64, 65, 66, 67, 68, 69, 70, 71, 72, 73, 22, 23, 74, 14, 75, 76, 77, 78, 79, 106, 107, 108, 109, 110, 111, 112, 101, 102, 103, 104, 105] (by decide +kernel) (by decide +kernel)
set_option maxRecDepth 20000 in
theorem gX6_match_X0_fight_n144 : GoodIn wsX6_match (wsX0_fight) := ggX6_match_X0_fight
set_option maxRecDepth 20000 in
theorem ggX6_match_X6_outcome : GoodIn wsX6_match wsX6_outcome := goodIn_r _ [83, 2, 84, 39, 85, 86, 44, 87, 88, 89, 90, 91, 92, 50, 93, 94, 95, 96, 97, 98, 99, 100, 106, 107, 108, 109, 110, 111, 112] (by decide +kernel) (by decide +kernel)
set_option maxRecDepth 20000 in
theorem gX6_match_X6_outcome : GoodIn wsX6_match (wsV RX6 148 RX6 yX6_outcome wsX6_outcome) := goodIn_app (goodIn_of _ (by decide +kernel)) ggX6_match_X6_outcome
theorem dX6_match_0 : decode cX6_match 0 = .ok (.iload_n 1, 1) := by decide +kernel
theorem dX6_match_1 : decode cX6_match 1 = .ok (.iload_n 2, 1) := by decide +kernel
theorem dX6_match_2 : decode cX6_match 2 = .ok (.invokestatic 137, 3) := by decide +kernel
theorem dX6_match_5 : decode cX6_match 5 = .ok (.ifCond .ne 5, 3) := by decide +kernel
theorem dX6_match_8 : decode cX6_match 8 = .ok (.iconst (-1), 1) := by decide +kernel
theorem dX6_match_9 : decode cX6_match 9 = .ok (.ireturn, 1) := by decide +kernel
theorem dX6_match_10 : decode cX6_match 10 = .ok (.iload_n 3, 1) := by decide +kernel
theorem dX6_match_11 : decode cX6_match 11 = .ok (.iconst 0, 1) := by decide +kernel
theorem dX6_match_12 : decode cX6_match 12 = .ok (.iconst 2, 1) := by decide +kernel
theorem dX6_match_13 : decode cX6_match 13 = .ok (.invokestatic 59, 3) := by decide +kernel
theorem dX6_match_16 : decode cX6_match 16 = .ok (.ifCond .ne 6, 3) := by decide +kernel
theorem dX6_match_19 : decode cX6_match 19 = .ok (.bipush (-2), 2) := by decide +kernel
theorem dX6_match_21 : decode cX6_match 21 = .ok (.ireturn, 1) := by decide +kernel
theorem dX6_match_22 : decode cX6_match 22 = .ok (.aload_n 0, 1) := by decide +kernel
theorem dX6_match_23 : decode cX6_match 23 = .ok (.getfield 19, 3) := by decide +kernel
theorem dX6_match_26 : decode cX6_match 26 = .ok (.iload_n 1, 1) := by decide +kernel
theorem dX6_match_27 : decode cX6_match 27 = .ok (.iload_n 2, 1) := by decide +kernel
theorem dX6_match_28 : decode cX6_match 28 = .ok (.invokevirtual 140, 3) := by decide +kernel
theorem dX6_match_31 : decode cX6_match 31 = .ok (.istore 4, 2) := by decide +kernel
theorem dX6_match_33 : decode cX6_match 33 = .ok (.aload_n 0, 1) := by decide +kernel
theorem dX6_match_34 : decode cX6_match 34 = .ok (.getfield 34, 3) := by decide +kernel
theorem dX6_match_37 : decode cX6_match 37 = .ok (.iload 4, 2) := by decide +kernel
theorem dX6_match_39 : decode cX6_match 39 = .ok (.iconst 0, 1) := by decide +kernel
theorem dX6_match_40 : decode cX6_match 40 = .ok (.iload 4, 2) := by decide +kernel
theorem dX6_match_42 : decode cX6_match 42 = .ok (.aload_n 0, 1) := by decide +kernel
theorem dX6_match_43 : decode cX6_match 43 = .ok (.getfield 19, 3) := by decide +kernel
theorem dX6_match_46 : decode cX6_match 46 = .ok (.iload_n 2, 1) := by decide +kernel
theorem dX6_match_47 : decode cX6_match 47 = .ok (.iload_n 1, 1) := by decide +kernel
theorem dX6_match_48 : decode cX6_match 48 = .ok (.invokevirtual 140, 3) := by decide +kernel
theorem dX6_match_51 : decode cX6_match 51 = .ok (.iload_n 3, 1) := by decide +kernel
theorem dX6_match_52 : decode cX6_match 52 = .ok (.ifCond .ne 7, 3) := by decide +kernel
theorem dX6_match_55 : decode cX6_match 55 = .ok (.iconst 1, 1) := by decide +kernel
theorem dX6_match_56 : decode cX6_match 56 = .ok (.goto 4, 3) := by decide +kernel
theorem dX6_match_59 : decode cX6_match 59 = .ok (.iconst 0, 1) := by decide +kernel
theorem dX6_match_60 : decode cX6_match 60 = .ok (.invokevirtual 144, 3) := by decide +kernel
theorem dX6_match_63 : decode cX6_match 63 = .ok (.aload_n 0, 1) := by decide +kernel
theorem dX6_match_64 : decode cX6_match 64 = .ok (.iload_n 1, 1) := by decide +kernel
theorem dX6_match_65 : decode cX6_match 65 = .ok (.iload_n 2, 1) := by decide +kernel
theorem dX6_match_66 : decode cX6_match 66 = .ok (.iload_n 3, 1) := by decide +kernel
theorem dX6_match_67 : decode cX6_match 67 = .ok (.invokevirtual 148, 3) := by decide +kernel
theorem dX6_match_70 : decode cX6_match 70 = .ok (.ireturn, 1) := by decide +kernel
set_option maxRecDepth 20000 in
theorem ggX6_middle_X6_areTwo : GoodIn wsX6_middle wsX6_areTwo := goodIn_r _ [6, 7, 8, 5, 9, 10, 11, 12] (by decide +kernel) (by decide +kernel)
set_option maxRecDepth 20000 in
theorem gX6_middle_X6_areTwo : GoodIn wsX6_middle (va_wsS RX6 137 yX6_areTwo wsX6_areTwo) := goodIn_app (goodIn_of _ (by decide +kernel)) ggX6_middle_X6_areTwo
set_option maxRecDepth 20000 in
theorem ggX6_middle_X6_isInsult : GoodIn wsX6_middle wsX6_isInsult := goodIn_r _ [15, 10, 11, 5, 12] (by decide +kernel) (by decide +kernel)
set_option maxRecDepth 20000 in
theorem gX6_middle_X6_isInsult : GoodIn wsX6_middle (va_wsS RX6 98 yX6_isInsult wsX6_isInsult) := goodIn_app (goodIn_of _ (by decide +kernel)) ggX6_middle_X6_isInsult
set_option maxRecDepth 20000 in
theorem ggX6_middle_X6_within : GoodIn wsX6_middle wsX6_within := goodIn_r _ [12] (by decide +kernel) (by decide +kernel)
set_option maxRecDepth 20000 in
theorem gX6_middle_X6_within : GoodIn wsX6_middle (va_wsS RX6 59 yX6_within wsX6_within) := goodIn_app (goodIn_of _ (by decide +kernel)) ggX6_middle_X6_within
set_option maxRecDepth 20000 in
theorem ggX6_middle_X6_has : GoodIn wsX6_middle wsX6_has := goodIn_r _ [18] (by decide +kernel) (by decide +kernel)
set_option maxRecDepth 20000 in
theorem gX6_middle_X6_has : GoodIn wsX6_middle (va_wsS RX6 105 yX6_has wsX6_has) := goodIn_app (goodIn_of _ (by decide +kernel)) ggX6_middle_X6_has
set_option maxRecDepth 20000 in
theorem ggX6_middle_X4_sayable : GoodIn wsX6_middle wsX4_sayable := goodIn_r _ [22, 23, 24, 25, 20, 26, 27, 28, 5, 29, 30, 31, 32, 33, 34, 35, 36, 37, 38, 39, 40, 41, 42, 43, 105, 106, 107, 108, 109] (by decide +kernel) (by decide +kernel)
set_option maxRecDepth 20000 in
theorem gX6_middle_X4_sayable_n140 : GoodIn wsX6_middle (wsX4_sayable) := ggX6_middle_X4_sayable
set_option maxRecDepth 20000 in
theorem ggX6_middle_X4_worseThan : GoodIn wsX6_middle wsX4_worseThan := goodIn_r _ [46, 47, 28, 5, 29, 105, 106, 107, 108, 109] (by decide +kernel) (by decide +kernel)
set_option maxRecDepth 20000 in
theorem gX6_middle_X4_worseThan_n102 : GoodIn wsX6_middle (wsX4_worseThan) := ggX6_middle_X4_worseThan
set_option maxRecDepth 20000 in
theorem ggX6_middle_X0_fight : GoodIn wsX6_middle wsX0_fight := goodIn_r _ [51, 52, 53, 54, 55, 56, 57, 49, 58, 59, 60, 61, 62, 63, 64, 65, 66, 67, 68, 69, 70, 71, 17, 5, 18, 72, 73, 74, 75, 76, 77, 78, 79, 80, 81, 28, 29, 44, 20, 45, 46, 47, 82, 83, 110, 111, 112, 113, 114, 115, 116, 105, 106, 107, 108, 109] (by decide +kernel) (by decide +kernel)
set_option maxRecDepth 20000 in
theorem gX6_middle_X0_fight_n144 : GoodIn wsX6_middle (wsX0_fight) := ggX6_middle_X0_fight
set_option maxRecDepth 20000 in
theorem ggX6_middle_X6_outcome : GoodIn wsX6_middle wsX6_outcome := goodIn_r _ [87, 2, 88, 49, 89, 90, 54, 91, 92, 93, 94, 95, 96, 60, 97, 98, 99, 100, 101, 102, 103, 104, 110, 111, 112, 113, 114, 115, 116] (by decide +kernel) (by decide +kernel)
set_option maxRecDepth 20000 in
theorem gX6_middle_X6_outcome : GoodIn wsX6_middle (wsV RX6 148 RX6 yX6_outcome wsX6_outcome) := goodIn_app (goodIn_of _ (by decide +kernel)) ggX6_middle_X6_outcome
theorem dX6_middle_0 : decode cX6_middle 0 = .ok (.iload_n 1, 1) := by decide +kernel
theorem dX6_middle_1 : decode cX6_middle 1 = .ok (.iload_n 2, 1) := by decide +kernel
theorem dX6_middle_2 : decode cX6_middle 2 = .ok (.invokestatic 137, 3) := by decide +kernel
theorem dX6_middle_5 : decode cX6_middle 5 = .ok (.ifCond .eq 10, 3) := by decide +kernel
theorem dX6_middle_8 : decode cX6_middle 8 = .ok (.iload_n 3, 1) := by decide +kernel
theorem dX6_middle_9 : decode cX6_middle 9 = .ok (.invokestatic 98, 3) := by decide +kernel
theorem dX6_middle_12 : decode cX6_middle 12 = .ok (.ifCond .ne 5, 3) := by decide +kernel
theorem dX6_middle_15 : decode cX6_middle 15 = .ok (.iconst (-1), 1) := by decide +kernel
theorem dX6_middle_16 : decode cX6_middle 16 = .ok (.ireturn, 1) := by decide +kernel
theorem dX6_middle_17 : decode cX6_middle 17 = .ok (.iload 4, 2) := by decide +kernel
theorem dX6_middle_19 : decode cX6_middle 19 = .ok (.iconst 0, 1) := by decide +kernel
theorem dX6_middle_20 : decode cX6_middle 20 = .ok (.sipush 1023, 3) := by decide +kernel
theorem dX6_middle_23 : decode cX6_middle 23 = .ok (.invokestatic 59, 3) := by decide +kernel
theorem dX6_middle_26 : decode cX6_middle 26 = .ok (.ifCond .eq 12, 3) := by decide +kernel
theorem dX6_middle_29 : decode cX6_middle 29 = .ok (.iload 4, 2) := by decide +kernel
theorem dX6_middle_31 : decode cX6_middle 31 = .ok (.iload_n 3, 1) := by decide +kernel
theorem dX6_middle_32 : decode cX6_middle 32 = .ok (.invokestatic 105, 3) := by decide +kernel
theorem dX6_middle_35 : decode cX6_middle 35 = .ok (.ifCond .ne 6, 3) := by decide +kernel
theorem dX6_middle_38 : decode cX6_middle 38 = .ok (.bipush (-2), 2) := by decide +kernel
theorem dX6_middle_40 : decode cX6_middle 40 = .ok (.ireturn, 1) := by decide +kernel
theorem dX6_middle_41 : decode cX6_middle 41 = .ok (.iload 5, 2) := by decide +kernel
theorem dX6_middle_43 : decode cX6_middle 43 = .ok (.iconst 0, 1) := by decide +kernel
theorem dX6_middle_44 : decode cX6_middle 44 = .ok (.iconst 2, 1) := by decide +kernel
theorem dX6_middle_45 : decode cX6_middle 45 = .ok (.invokestatic 59, 3) := by decide +kernel
theorem dX6_middle_48 : decode cX6_middle 48 = .ok (.ifCond .ne 6, 3) := by decide +kernel
theorem dX6_middle_51 : decode cX6_middle 51 = .ok (.bipush (-2), 2) := by decide +kernel
theorem dX6_middle_53 : decode cX6_middle 53 = .ok (.ireturn, 1) := by decide +kernel
theorem dX6_middle_54 : decode cX6_middle 54 = .ok (.aload_n 0, 1) := by decide +kernel
theorem dX6_middle_55 : decode cX6_middle 55 = .ok (.getfield 19, 3) := by decide +kernel
theorem dX6_middle_58 : decode cX6_middle 58 = .ok (.iload_n 1, 1) := by decide +kernel
theorem dX6_middle_59 : decode cX6_middle 59 = .ok (.iload_n 2, 1) := by decide +kernel
theorem dX6_middle_60 : decode cX6_middle 60 = .ok (.invokevirtual 140, 3) := by decide +kernel
theorem dX6_middle_63 : decode cX6_middle 63 = .ok (.istore 6, 2) := by decide +kernel
theorem dX6_middle_65 : decode cX6_middle 65 = .ok (.iload 6, 2) := by decide +kernel
theorem dX6_middle_67 : decode cX6_middle 67 = .ok (.aload_n 0, 1) := by decide +kernel
theorem dX6_middle_68 : decode cX6_middle 68 = .ok (.getfield 19, 3) := by decide +kernel
theorem dX6_middle_71 : decode cX6_middle 71 = .ok (.iload_n 3, 1) := by decide +kernel
theorem dX6_middle_72 : decode cX6_middle 72 = .ok (.invokevirtual 102, 3) := by decide +kernel
theorem dX6_middle_75 : decode cX6_middle 75 = .ok (.iand, 1) := by decide +kernel
theorem dX6_middle_76 : decode cX6_middle 76 = .ok (.iload 4, 2) := by decide +kernel
theorem dX6_middle_78 : decode cX6_middle 78 = .ok (.iconst (-1), 1) := by decide +kernel
theorem dX6_middle_79 : decode cX6_middle 79 = .ok (.ixor, 1) := by decide +kernel
theorem dX6_middle_80 : decode cX6_middle 80 = .ok (.iand, 1) := by decide +kernel
theorem dX6_middle_81 : decode cX6_middle 81 = .ok (.istore 7, 2) := by decide +kernel
theorem dX6_middle_83 : decode cX6_middle 83 = .ok (.aload_n 0, 1) := by decide +kernel
theorem dX6_middle_84 : decode cX6_middle 84 = .ok (.getfield 34, 3) := by decide +kernel
theorem dX6_middle_87 : decode cX6_middle 87 = .ok (.iload 7, 2) := by decide +kernel
theorem dX6_middle_89 : decode cX6_middle 89 = .ok (.iload 4, 2) := by decide +kernel
theorem dX6_middle_91 : decode cX6_middle 91 = .ok (.iload 6, 2) := by decide +kernel
theorem dX6_middle_93 : decode cX6_middle 93 = .ok (.aload_n 0, 1) := by decide +kernel
theorem dX6_middle_94 : decode cX6_middle 94 = .ok (.getfield 19, 3) := by decide +kernel
theorem dX6_middle_97 : decode cX6_middle 97 = .ok (.iload_n 2, 1) := by decide +kernel
theorem dX6_middle_98 : decode cX6_middle 98 = .ok (.iload_n 1, 1) := by decide +kernel
theorem dX6_middle_99 : decode cX6_middle 99 = .ok (.invokevirtual 140, 3) := by decide +kernel
theorem dX6_middle_102 : decode cX6_middle 102 = .ok (.iload 5, 2) := by decide +kernel
theorem dX6_middle_104 : decode cX6_middle 104 = .ok (.ifCond .ne 7, 3) := by decide +kernel
theorem dX6_middle_107 : decode cX6_middle 107 = .ok (.iconst 1, 1) := by decide +kernel
theorem dX6_middle_108 : decode cX6_middle 108 = .ok (.goto 4, 3) := by decide +kernel
theorem dX6_middle_111 : decode cX6_middle 111 = .ok (.iconst 0, 1) := by decide +kernel
theorem dX6_middle_112 : decode cX6_middle 112 = .ok (.invokevirtual 144, 3) := by decide +kernel
theorem dX6_middle_115 : decode cX6_middle 115 = .ok (.aload_n 0, 1) := by decide +kernel
theorem dX6_middle_116 : decode cX6_middle 116 = .ok (.iload_n 1, 1) := by decide +kernel
theorem dX6_middle_117 : decode cX6_middle 117 = .ok (.iload_n 2, 1) := by decide +kernel
theorem dX6_middle_118 : decode cX6_middle 118 = .ok (.iload 5, 2) := by decide +kernel
theorem dX6_middle_120 : decode cX6_middle 120 = .ok (.invokevirtual 148, 3) := by decide +kernel
theorem dX6_middle_123 : decode cX6_middle 123 = .ok (.ireturn, 1) := by decide +kernel
set_option maxRecDepth 20000 in
theorem ggX6_last_X6_areTwo : GoodIn wsX6_last wsX6_areTwo := goodIn_r _ [6, 7, 8, 5, 9, 10, 11, 12] (by decide +kernel) (by decide +kernel)
set_option maxRecDepth 20000 in
theorem gX6_last_X6_areTwo : GoodIn wsX6_last (va_wsS RX6 137 yX6_areTwo wsX6_areTwo) := goodIn_app (goodIn_of _ (by decide +kernel)) ggX6_last_X6_areTwo
set_option maxRecDepth 20000 in
theorem ggX6_last_X6_within : GoodIn wsX6_last wsX6_within := goodIn_r _ [12] (by decide +kernel) (by decide +kernel)
set_option maxRecDepth 20000 in
theorem gX6_last_X6_within : GoodIn wsX6_last (va_wsS RX6 59 yX6_within wsX6_within) := goodIn_app (goodIn_of _ (by decide +kernel)) ggX6_last_X6_within
set_option maxRecDepth 20000 in
theorem ggX6_last_X4_sayable : GoodIn wsX6_last wsX4_sayable := goodIn_r _ [16, 17, 18, 19, 14, 20, 21, 22, 5, 23, 24, 25, 26, 27, 28, 29, 30, 31, 32, 33, 34, 35, 36, 37, 94, 95, 96, 97, 98] (by decide +kernel) (by decide +kernel)
set_option maxRecDepth 20000 in
theorem gX6_last_X4_sayable_n140 : GoodIn wsX6_last (wsX4_sayable) := ggX6_last_X4_sayable
set_option maxRecDepth 20000 in
theorem ggX6_last_X0_spin : GoodIn wsX6_last wsX0_spin := goodIn_r _ [41, 42, 43, 44, 45, 46, 39, 47, 48, 49, 50, 51, 52, 53, 54, 55, 56, 57, 58, 59, 60, 61, 62, 5, 63, 64, 65, 66, 67, 68, 69, 70, 71, 72, 73, 22, 23, 74, 14, 75, 76, 77, 78, 79, 99, 100, 101, 102, 103, 104, 105, 94, 95, 96, 97, 98] (by decide +kernel) (by decide +kernel)
set_option maxRecDepth 20000 in
theorem gX6_last_X0_spin_n152 : GoodIn wsX6_last (wsX0_spin) := ggX6_last_X0_spin
set_option maxRecDepth 20000 in
theorem ggX6_last_X0_spun : GoodIn wsX6_last wsX0_spun := goodIn_r _ [82, 43, 99, 100, 101, 102, 103, 104, 105] (by decide +kernel) (by decide +kernel)
set_option maxRecDepth 20000 in
theorem gX6_last_X0_spun_n156 : GoodIn wsX6_last (wsX0_spun) := ggX6_last_X0_spun
set_option maxRecDepth 20000 in
theorem ggX6_last_X0_firstMove : GoodIn wsX6_last wsX0_firstMove := goodIn_r _ [85, 49, 99, 100, 101, 102, 103, 104, 105] (by decide +kernel) (by decide +kernel)
set_option maxRecDepth 20000 in
theorem gX6_last_X0_firstMove_n159 : GoodIn wsX6_last (wsX0_firstMove) := ggX6_last_X0_firstMove
theorem dX6_last_0 : decode cX6_last 0 = .ok (.iload_n 1, 1) := by decide +kernel
theorem dX6_last_1 : decode cX6_last 1 = .ok (.iload_n 2, 1) := by decide +kernel
theorem dX6_last_2 : decode cX6_last 2 = .ok (.invokestatic 137, 3) := by decide +kernel
theorem dX6_last_5 : decode cX6_last 5 = .ok (.ifCond .ne 5, 3) := by decide +kernel
theorem dX6_last_8 : decode cX6_last 8 = .ok (.iconst (-1), 1) := by decide +kernel
theorem dX6_last_9 : decode cX6_last 9 = .ok (.ireturn, 1) := by decide +kernel
theorem dX6_last_10 : decode cX6_last 10 = .ok (.iload_n 3, 1) := by decide +kernel
theorem dX6_last_11 : decode cX6_last 11 = .ok (.iconst 0, 1) := by decide +kernel
theorem dX6_last_12 : decode cX6_last 12 = .ok (.iconst 1, 1) := by decide +kernel
theorem dX6_last_13 : decode cX6_last 13 = .ok (.invokestatic 59, 3) := by decide +kernel
theorem dX6_last_16 : decode cX6_last 16 = .ok (.ifCond .ne 6, 3) := by decide +kernel
theorem dX6_last_19 : decode cX6_last 19 = .ok (.bipush (-2), 2) := by decide +kernel
theorem dX6_last_21 : decode cX6_last 21 = .ok (.ireturn, 1) := by decide +kernel
theorem dX6_last_22 : decode cX6_last 22 = .ok (.aload_n 0, 1) := by decide +kernel
theorem dX6_last_23 : decode cX6_last 23 = .ok (.getfield 19, 3) := by decide +kernel
theorem dX6_last_26 : decode cX6_last 26 = .ok (.iload_n 1, 1) := by decide +kernel
theorem dX6_last_27 : decode cX6_last 27 = .ok (.iload_n 2, 1) := by decide +kernel
theorem dX6_last_28 : decode cX6_last 28 = .ok (.invokevirtual 140, 3) := by decide +kernel
theorem dX6_last_31 : decode cX6_last 31 = .ok (.istore 4, 2) := by decide +kernel
theorem dX6_last_33 : decode cX6_last 33 = .ok (.aload_n 0, 1) := by decide +kernel
theorem dX6_last_34 : decode cX6_last 34 = .ok (.getfield 34, 3) := by decide +kernel
theorem dX6_last_37 : decode cX6_last 37 = .ok (.iload 4, 2) := by decide +kernel
theorem dX6_last_39 : decode cX6_last 39 = .ok (.iconst 0, 1) := by decide +kernel
theorem dX6_last_40 : decode cX6_last 40 = .ok (.iload 4, 2) := by decide +kernel
theorem dX6_last_42 : decode cX6_last 42 = .ok (.aload_n 0, 1) := by decide +kernel
theorem dX6_last_43 : decode cX6_last 43 = .ok (.getfield 19, 3) := by decide +kernel
theorem dX6_last_46 : decode cX6_last 46 = .ok (.iload_n 2, 1) := by decide +kernel
theorem dX6_last_47 : decode cX6_last 47 = .ok (.iload_n 1, 1) := by decide +kernel
theorem dX6_last_48 : decode cX6_last 48 = .ok (.invokevirtual 140, 3) := by decide +kernel
theorem dX6_last_51 : decode cX6_last 51 = .ok (.invokevirtual 152, 3) := by decide +kernel
theorem dX6_last_54 : decode cX6_last 54 = .ok (.iload_n 3, 1) := by decide +kernel
theorem dX6_last_55 : decode cX6_last 55 = .ok (.ifCond .ne 13, 3) := by decide +kernel
theorem dX6_last_58 : decode cX6_last 58 = .ok (.aload_n 0, 1) := by decide +kernel
theorem dX6_last_59 : decode cX6_last 59 = .ok (.getfield 34, 3) := by decide +kernel
theorem dX6_last_62 : decode cX6_last 62 = .ok (.invokevirtual 156, 3) := by decide +kernel
theorem dX6_last_65 : decode cX6_last 65 = .ok (.goto 10, 3) := by decide +kernel
theorem dX6_last_68 : decode cX6_last 68 = .ok (.aload_n 0, 1) := by decide +kernel
theorem dX6_last_69 : decode cX6_last 69 = .ok (.getfield 34, 3) := by decide +kernel
theorem dX6_last_72 : decode cX6_last 72 = .ok (.invokevirtual 159, 3) := by decide +kernel
theorem dX6_last_75 : decode cX6_last 75 = .ok (.ireturn, 1) := by decide +kernel
set_option maxRecDepth 20000 in
theorem ggX6_sent_X6_isMan : GoodIn wsX6_sent wsX6_isMan := goodIn_r _ [5, 6, 7, 4, 8] (by decide +kernel) (by decide +kernel)
set_option maxRecDepth 20000 in
theorem gX6_sent_X6_isMan : GoodIn wsX6_sent (va_wsS RX6 116 yX6_isMan wsX6_isMan) := goodIn_app (goodIn_of _ (by decide +kernel)) ggX6_sent_X6_isMan
set_option maxRecDepth 20000 in
theorem ggX6_sent_X4_knownTo : GoodIn wsX6_sent wsX4_knownTo := goodIn_r _ [12, 13, 14, 4, 15, 92, 93, 94, 95, 96] (by decide +kernel) (by decide +kernel)
set_option maxRecDepth 20000 in
theorem gX6_sent_X4_knownTo_n125 : GoodIn wsX6_sent (wsX4_knownTo) := ggX6_sent_X4_knownTo
set_option maxRecDepth 20000 in
theorem ggX6_sent_X6_comesOff : GoodIn wsX6_sent wsX6_comesOff := goodIn_r _ [19, 1, 20, 21, 10, 22, 23, 24, 25, 26, 27, 28, 14, 4, 15, 29, 30, 31, 32, 33, 34, 35, 36, 37, 9, 11, 12, 13, 38, 39, 40, 41, 42, 43, 44, 45, 46, 47, 48, 49, 50, 51, 52, 53, 54, 55, 56, 57, 58, 59, 60, 61, 62, 63, 64, 65, 66, 67, 68, 69, 70, 71, 72, 73, 74, 75, 76, 77, 78, 79, 80, 81, 82, 83, 84, 85, 86, 87, 88, 89, 90, 91, 92, 93, 94, 95, 96, 97, 98, 99, 100, 101, 102, 103] (by decide +kernel) (by decide +kernel)
set_option maxRecDepth 20000 in
theorem gX6_sent_X6_comesOff : GoodIn wsX6_sent (wsV RX6 162 RX6 yX6_comesOff wsX6_comesOff) := goodIn_app (goodIn_of _ (by decide +kernel)) ggX6_sent_X6_comesOff
theorem dX6_sent_0 : decode cX6_sent 0 = .ok (.iload_n 1, 1) := by decide +kernel
theorem dX6_sent_1 : decode cX6_sent 1 = .ok (.invokestatic 116, 3) := by decide +kernel
theorem dX6_sent_4 : decode cX6_sent 4 = .ok (.ifCond .ne 5, 3) := by decide +kernel
theorem dX6_sent_7 : decode cX6_sent 7 = .ok (.iconst (-1), 1) := by decide +kernel
theorem dX6_sent_8 : decode cX6_sent 8 = .ok (.ireturn, 1) := by decide +kernel
theorem dX6_sent_9 : decode cX6_sent 9 = .ok (.iconst 0, 1) := by decide +kernel
theorem dX6_sent_10 : decode cX6_sent 10 = .ok (.istore_n 3, 1) := by decide +kernel
theorem dX6_sent_11 : decode cX6_sent 11 = .ok (.iconst 0, 1) := by decide +kernel
theorem dX6_sent_12 : decode cX6_sent 12 = .ok (.istore 4, 2) := by decide +kernel
theorem dX6_sent_14 : decode cX6_sent 14 = .ok (.iload 4, 2) := by decide +kernel
theorem dX6_sent_16 : decode cX6_sent 16 = .ok (.iconst 5, 1) := by decide +kernel
theorem dX6_sent_17 : decode cX6_sent 17 = .ok (.if_icmp .ge 42, 3) := by decide +kernel
theorem dX6_sent_20 : decode cX6_sent 20 = .ok (.iload 4, 2) := by decide +kernel
theorem dX6_sent_22 : decode cX6_sent 22 = .ok (.iload_n 1, 1) := by decide +kernel
theorem dX6_sent_23 : decode cX6_sent 23 = .ok (.if_icmp .eq 30, 3) := by decide +kernel
theorem dX6_sent_26 : decode cX6_sent 26 = .ok (.aload_n 0, 1) := by decide +kernel
theorem dX6_sent_27 : decode cX6_sent 27 = .ok (.iload 4, 2) := by decide +kernel
theorem dX6_sent_29 : decode cX6_sent 29 = .ok (.aload_n 0, 1) := by decide +kernel
theorem dX6_sent_30 : decode cX6_sent 30 = .ok (.getfield 19, 3) := by decide +kernel
theorem dX6_sent_33 : decode cX6_sent 33 = .ok (.iload 4, 2) := by decide +kernel
theorem dX6_sent_35 : decode cX6_sent 35 = .ok (.invokevirtual 125, 3) := by decide +kernel
theorem dX6_sent_38 : decode cX6_sent 38 = .ok (.iload_n 1, 1) := by decide +kernel
theorem dX6_sent_39 : decode cX6_sent 39 = .ok (.iload_n 2, 1) := by decide +kernel
theorem dX6_sent_40 : decode cX6_sent 40 = .ok (.invokevirtual 162, 3) := by decide +kernel
theorem dX6_sent_43 : decode cX6_sent 43 = .ok (.ifCond .eq 10, 3) := by decide +kernel
theorem dX6_sent_46 : decode cX6_sent 46 = .ok (.iload_n 3, 1) := by decide +kernel
theorem dX6_sent_47 : decode cX6_sent 47 = .ok (.iconst 1, 1) := by decide +kernel
theorem dX6_sent_48 : decode cX6_sent 48 = .ok (.iload 4, 2) := by decide +kernel
theorem dX6_sent_50 : decode cX6_sent 50 = .ok (.ishl, 1) := by decide +kernel
theorem dX6_sent_51 : decode cX6_sent 51 = .ok (.ior, 1) := by decide +kernel
theorem dX6_sent_52 : decode cX6_sent 52 = .ok (.istore_n 3, 1) := by decide +kernel
theorem dX6_sent_53 : decode cX6_sent 53 = .ok (.iinc 4 1, 3) := by decide +kernel
theorem dX6_sent_56 : decode cX6_sent 56 = .ok (.goto (-42), 3) := by decide +kernel
theorem dX6_sent_59 : decode cX6_sent 59 = .ok (.iload_n 3, 1) := by decide +kernel
theorem dX6_sent_60 : decode cX6_sent 60 = .ok (.ireturn, 1) := by decide +kernel
set_option maxRecDepth 20000 in
theorem ggX6_safe_X6_isMan : GoodIn wsX6_safe wsX6_isMan := goodIn_r _ [5, 6, 7, 4, 8] (by decide +kernel) (by decide +kernel)
set_option maxRecDepth 20000 in
theorem gX6_safe_X6_isMan : GoodIn wsX6_safe (va_wsS RX6 116 yX6_isMan wsX6_isMan) := goodIn_app (goodIn_of _ (by decide +kernel)) ggX6_safe_X6_isMan
set_option maxRecDepth 20000 in
theorem ggX6_safe_X4_sayable : GoodIn wsX6_safe wsX4_sayable := goodIn_r _ [12, 13, 14, 15, 10, 16, 17, 18, 4, 19, 20, 21, 22, 23, 24, 25, 26, 27, 28, 29, 30, 31, 32, 33, 42, 43, 44, 45, 46] (by decide +kernel) (by decide +kernel)
set_option maxRecDepth 20000 in
theorem gX6_safe_X4_sayable_n140 : GoodIn wsX6_safe (wsX4_sayable) := ggX6_safe_X4_sayable
theorem dX6_safe_0 : decode cX6_safe 0 = .ok (.iload_n 1, 1) := by decide +kernel
theorem dX6_safe_1 : decode cX6_safe 1 = .ok (.invokestatic 116, 3) := by decide +kernel
theorem dX6_safe_4 : decode cX6_safe 4 = .ok (.ifCond .ne 5, 3) := by decide +kernel
theorem dX6_safe_7 : decode cX6_safe 7 = .ok (.iconst (-1), 1) := by decide +kernel
theorem dX6_safe_8 : decode cX6_safe 8 = .ok (.ireturn, 1) := by decide +kernel
theorem dX6_safe_9 : decode cX6_safe 9 = .ok (.iconst 0, 1) := by decide +kernel
theorem dX6_safe_10 : decode cX6_safe 10 = .ok (.istore_n 2, 1) := by decide +kernel
theorem dX6_safe_11 : decode cX6_safe 11 = .ok (.iconst 0, 1) := by decide +kernel
theorem dX6_safe_12 : decode cX6_safe 12 = .ok (.istore_n 3, 1) := by decide +kernel
theorem dX6_safe_13 : decode cX6_safe 13 = .ok (.iload_n 3, 1) := by decide +kernel
theorem dX6_safe_14 : decode cX6_safe 14 = .ok (.iconst 5, 1) := by decide +kernel
theorem dX6_safe_15 : decode cX6_safe 15 = .ok (.if_icmp .ge 26, 3) := by decide +kernel
theorem dX6_safe_18 : decode cX6_safe 18 = .ok (.iload_n 3, 1) := by decide +kernel
theorem dX6_safe_19 : decode cX6_safe 19 = .ok (.iload_n 1, 1) := by decide +kernel
theorem dX6_safe_20 : decode cX6_safe 20 = .ok (.if_icmp .eq 15, 3) := by decide +kernel
theorem dX6_safe_23 : decode cX6_safe 23 = .ok (.iload_n 2, 1) := by decide +kernel
theorem dX6_safe_24 : decode cX6_safe 24 = .ok (.aload_n 0, 1) := by decide +kernel
theorem dX6_safe_25 : decode cX6_safe 25 = .ok (.getfield 19, 3) := by decide +kernel
theorem dX6_safe_28 : decode cX6_safe 28 = .ok (.iload_n 3, 1) := by decide +kernel
theorem dX6_safe_29 : decode cX6_safe 29 = .ok (.iload_n 1, 1) := by decide +kernel
theorem dX6_safe_30 : decode cX6_safe 30 = .ok (.invokevirtual 140, 3) := by decide +kernel
theorem dX6_safe_33 : decode cX6_safe 33 = .ok (.ior, 1) := by decide +kernel
theorem dX6_safe_34 : decode cX6_safe 34 = .ok (.istore_n 2, 1) := by decide +kernel
theorem dX6_safe_35 : decode cX6_safe 35 = .ok (.iinc 3 1, 3) := by decide +kernel
theorem dX6_safe_38 : decode cX6_safe 38 = .ok (.goto (-25), 3) := by decide +kernel
theorem dX6_safe_41 : decode cX6_safe 41 = .ok (.iload_n 2, 1) := by decide +kernel
theorem dX6_safe_42 : decode cX6_safe 42 = .ok (.ifCond .ne 7, 3) := by decide +kernel
theorem dX6_safe_45 : decode cX6_safe 45 = .ok (.iconst 1, 1) := by decide +kernel
theorem dX6_safe_46 : decode cX6_safe 46 = .ok (.goto 4, 3) := by decide +kernel
theorem dX6_safe_49 : decode cX6_safe 49 = .ok (.iconst 0, 1) := by decide +kernel
theorem dX6_safe_50 : decode cX6_safe 50 = .ok (.ireturn, 1) := by decide +kernel
set_option maxRecDepth 20000 in
theorem ggX6_worth_X6_isInsult : GoodIn wsX6_worth wsX6_isInsult := goodIn_r _ [5, 6, 7, 4, 8] (by decide +kernel) (by decide +kernel)
set_option maxRecDepth 20000 in
theorem gX6_worth_X6_isInsult : GoodIn wsX6_worth (va_wsS RX6 98 yX6_isInsult wsX6_isInsult) := goodIn_app (goodIn_of _ (by decide +kernel)) ggX6_worth_X6_isInsult
set_option maxRecDepth 20000 in
theorem ggX6_worth_X6_isMan : GoodIn wsX6_worth wsX6_isMan := goodIn_r _ [11, 6, 7, 4, 8] (by decide +kernel) (by decide +kernel)
set_option maxRecDepth 20000 in
theorem gX6_worth_X6_isMan : GoodIn wsX6_worth (va_wsS RX6 116 yX6_isMan wsX6_isMan) := goodIn_app (goodIn_of _ (by decide +kernel)) ggX6_worth_X6_isMan
set_option maxRecDepth 20000 in
theorem ggX6_worth_X4_knownTo : GoodIn wsX6_worth wsX4_knownTo := goodIn_r _ [15, 16, 17, 4, 18, 100, 101, 102, 103, 104] (by decide +kernel) (by decide +kernel)
set_option maxRecDepth 20000 in
theorem gX6_worth_X4_knownTo_n125 : GoodIn wsX6_worth (wsX4_knownTo) := ggX6_worth_X4_knownTo
set_option maxRecDepth 20000 in
theorem ggX6_worth_X6_has : GoodIn wsX6_worth wsX6_has := goodIn_r _ [21] (by decide +kernel) (by decide +kernel)
set_option maxRecDepth 20000 in
theorem gX6_worth_X6_has : GoodIn wsX6_worth (va_wsS RX6 105 yX6_has wsX6_has) := goodIn_app (goodIn_of _ (by decide +kernel)) ggX6_worth_X6_has
set_option maxRecDepth 20000 in
theorem ggX6_worth_X6_goodMatches : GoodIn wsX6_worth wsX6_goodMatches := goodIn_r _ [25, 26, 27, 28, 4, 29, 1, 30, 31, 13, 32, 33, 34, 35, 36, 37, 38, 17, 18, 39, 40, 41, 42, 43, 44, 45, 46, 47, 12, 14, 15, 16, 48, 49, 50, 51, 52, 53, 54, 55, 56, 57, 58, 59, 60, 61, 62, 63, 64, 65, 66, 67, 68, 69, 70, 71, 72, 20, 21, 73, 74, 75, 76, 77, 78, 79, 80, 81, 82, 83, 84, 85, 86, 87, 88, 89, 90, 91, 92, 93, 94, 95, 96, 97, 98, 99, 100, 101, 102, 103, 104, 105, 106, 107, 108, 109, 110, 111] (by decide +kernel) (by decide +kernel)
set_option maxRecDepth 20000 in
theorem gX6_worth_X6_goodMatches : GoodIn wsX6_worth (wsV RX6 166 RX6 yX6_goodMatches wsX6_goodMatches) := goodIn_app (goodIn_of _ (by decide +kernel)) ggX6_worth_X6_goodMatches
theorem dX6_worth_0 : decode cX6_worth 0 = .ok (.iload_n 1, 1) := by decide +kernel
theorem dX6_worth_1 : decode cX6_worth 1 = .ok (.invokestatic 98, 3) := by decide +kernel
theorem dX6_worth_4 : decode cX6_worth 4 = .ok (.ifCond .eq 10, 3) := by decide +kernel
theorem dX6_worth_7 : decode cX6_worth 7 = .ok (.iload_n 2, 1) := by decide +kernel
theorem dX6_worth_8 : decode cX6_worth 8 = .ok (.invokestatic 116, 3) := by decide +kernel
theorem dX6_worth_11 : decode cX6_worth 11 = .ok (.ifCond .ne 5, 3) := by decide +kernel
theorem dX6_worth_14 : decode cX6_worth 14 = .ok (.iconst (-1), 1) := by decide +kernel
theorem dX6_worth_15 : decode cX6_worth 15 = .ok (.ireturn, 1) := by decide +kernel
theorem dX6_worth_16 : decode cX6_worth 16 = .ok (.aload_n 0, 1) := by decide +kernel
theorem dX6_worth_17 : decode cX6_worth 17 = .ok (.getfield 19, 3) := by decide +kernel
theorem dX6_worth_20 : decode cX6_worth 20 = .ok (.iload_n 2, 1) := by decide +kernel
theorem dX6_worth_21 : decode cX6_worth 21 = .ok (.invokevirtual 125, 3) := by decide +kernel
theorem dX6_worth_24 : decode cX6_worth 24 = .ok (.istore_n 3, 1) := by decide +kernel
theorem dX6_worth_25 : decode cX6_worth 25 = .ok (.iload_n 3, 1) := by decide +kernel
theorem dX6_worth_26 : decode cX6_worth 26 = .ok (.iload_n 1, 1) := by decide +kernel
theorem dX6_worth_27 : decode cX6_worth 27 = .ok (.invokestatic 105, 3) := by decide +kernel
theorem dX6_worth_30 : decode cX6_worth 30 = .ok (.ifCond .eq 6, 3) := by decide +kernel
theorem dX6_worth_33 : decode cX6_worth 33 = .ok (.bipush (-3), 2) := by decide +kernel
theorem dX6_worth_35 : decode cX6_worth 35 = .ok (.ireturn, 1) := by decide +kernel
theorem dX6_worth_36 : decode cX6_worth 36 = .ok (.aload_n 0, 1) := by decide +kernel
theorem dX6_worth_37 : decode cX6_worth 37 = .ok (.iload_n 2, 1) := by decide +kernel
theorem dX6_worth_38 : decode cX6_worth 38 = .ok (.iload_n 3, 1) := by decide +kernel
theorem dX6_worth_39 : decode cX6_worth 39 = .ok (.iconst 1, 1) := by decide +kernel
theorem dX6_worth_40 : decode cX6_worth 40 = .ok (.iload_n 1, 1) := by decide +kernel
theorem dX6_worth_41 : decode cX6_worth 41 = .ok (.ishl, 1) := by decide +kernel
theorem dX6_worth_42 : decode cX6_worth 42 = .ok (.ior, 1) := by decide +kernel
theorem dX6_worth_43 : decode cX6_worth 43 = .ok (.invokevirtual 166, 3) := by decide +kernel
theorem dX6_worth_46 : decode cX6_worth 46 = .ok (.aload_n 0, 1) := by decide +kernel
theorem dX6_worth_47 : decode cX6_worth 47 = .ok (.iload_n 2, 1) := by decide +kernel
theorem dX6_worth_48 : decode cX6_worth 48 = .ok (.iload_n 3, 1) := by decide +kernel
theorem dX6_worth_49 : decode cX6_worth 49 = .ok (.invokevirtual 166, 3) := by decide +kernel
theorem dX6_worth_52 : decode cX6_worth 52 = .ok (.isub, 1) := by decide +kernel
theorem dX6_worth_53 : decode cX6_worth 53 = .ok (.istore 4, 2) := by decide +kernel
theorem dX6_worth_55 : decode cX6_worth 55 = .ok (.bipush 100, 2) := by decide +kernel
theorem dX6_worth_57 : decode cX6_worth 57 = .ok (.iload 4, 2) := by decide +kernel
theorem dX6_worth_59 : decode cX6_worth 59 = .ok (.iadd, 1) := by decide +kernel
theorem dX6_worth_60 : decode cX6_worth 60 = .ok (.ireturn, 1) := by decide +kernel
set_option maxRecDepth 20000 in
theorem ggX6_crowd_X6_within : GoodIn wsX6_crowd wsX6_within := goodIn_r _ [5] (by decide +kernel) (by decide +kernel)
set_option maxRecDepth 20000 in
theorem gX6_crowd_X6_within : GoodIn wsX6_crowd (va_wsS RX6 59 yX6_within wsX6_within) := goodIn_app (goodIn_of _ (by decide +kernel)) ggX6_crowd_X6_within
set_option maxRecDepth 20000 in
theorem ggX6_crowd_X1_fewestDays : GoodIn wsX6_crowd wsX1_fewestDays := goodIn_r _ [9, 10, 11, 12, 13, 14, 7, 15, 16, 17, 18, 19, 20, 21, 22, 23, 24, 25, 26, 27, 4, 28, 29, 30, 31, 32, 33, 34, 35, 36, 37, 38, 39, 40, 41, 42, 43, 44, 45, 46, 47, 48, 49, 50, 51, 52, 53, 54, 55, 56, 57, 58, 59, 60, 61, 62, 63, 64, 65, 66, 67, 68, 69, 70, 71, 72, 73, 74, 86, 87, 88, 89, 90, 91, 92, 93, 94, 95] (by decide +kernel) (by decide +kernel)
set_option maxRecDepth 20000 in
theorem gX6_crowd_X1_fewestDays_n169 : GoodIn wsX6_crowd (wsX1_fewestDays) := ggX6_crowd_X1_fewestDays
set_option maxRecDepth 20000 in
theorem ggX6_crowd_X1_isOneDayEnough : GoodIn wsX6_crowd wsX1_isOneDayEnough := goodIn_r _ [77, 12, 13, 14, 7, 15, 16, 17, 18, 19, 20, 21, 22, 23, 24, 25, 26, 27, 4, 28, 29, 30, 31, 32, 33, 34, 35, 36, 37, 38, 39, 40, 41, 42, 43, 44, 45, 46, 47, 48, 49, 50, 51, 52, 53, 54, 55, 56, 57, 58, 59, 60, 61, 62, 63, 64, 65, 66, 67, 68, 69, 70, 86, 87, 88, 89, 90, 91, 92, 93, 94, 95] (by decide +kernel) (by decide +kernel)
set_option maxRecDepth 20000 in
theorem gX6_crowd_X1_isOneDayEnough_n172 : GoodIn wsX6_crowd (wsX1_isOneDayEnough) := ggX6_crowd_X1_isOneDayEnough
theorem dX6_crowd_0 : decode cX6_crowd 0 = .ok (.iload_n 1, 1) := by decide +kernel
theorem dX6_crowd_1 : decode cX6_crowd 1 = .ok (.iconst 0, 1) := by decide +kernel
theorem dX6_crowd_2 : decode cX6_crowd 2 = .ok (.bipush 31, 2) := by decide +kernel
theorem dX6_crowd_4 : decode cX6_crowd 4 = .ok (.invokestatic 59, 3) := by decide +kernel
theorem dX6_crowd_7 : decode cX6_crowd 7 = .ok (.ifCond .eq 12, 3) := by decide +kernel
theorem dX6_crowd_10 : decode cX6_crowd 10 = .ok (.iload_n 2, 1) := by decide +kernel
theorem dX6_crowd_11 : decode cX6_crowd 11 = .ok (.iconst 0, 1) := by decide +kernel
theorem dX6_crowd_12 : decode cX6_crowd 12 = .ok (.iconst 1, 1) := by decide +kernel
theorem dX6_crowd_13 : decode cX6_crowd 13 = .ok (.invokestatic 59, 3) := by decide +kernel
theorem dX6_crowd_16 : decode cX6_crowd 16 = .ok (.ifCond .ne 6, 3) := by decide +kernel
theorem dX6_crowd_19 : decode cX6_crowd 19 = .ok (.bipush (-2), 2) := by decide +kernel
theorem dX6_crowd_21 : decode cX6_crowd 21 = .ok (.ireturn, 1) := by decide +kernel
theorem dX6_crowd_22 : decode cX6_crowd 22 = .ok (.iload_n 2, 1) := by decide +kernel
theorem dX6_crowd_23 : decode cX6_crowd 23 = .ok (.iconst 1, 1) := by decide +kernel
theorem dX6_crowd_24 : decode cX6_crowd 24 = .ok (.if_icmp .ne 12, 3) := by decide +kernel
theorem dX6_crowd_27 : decode cX6_crowd 27 = .ok (.aload_n 0, 1) := by decide +kernel
theorem dX6_crowd_28 : decode cX6_crowd 28 = .ok (.getfield 41, 3) := by decide +kernel
theorem dX6_crowd_31 : decode cX6_crowd 31 = .ok (.iload_n 1, 1) := by decide +kernel
theorem dX6_crowd_32 : decode cX6_crowd 32 = .ok (.invokevirtual 169, 3) := by decide +kernel
theorem dX6_crowd_35 : decode cX6_crowd 35 = .ok (.ireturn, 1) := by decide +kernel
theorem dX6_crowd_36 : decode cX6_crowd 36 = .ok (.aload_n 0, 1) := by decide +kernel
theorem dX6_crowd_37 : decode cX6_crowd 37 = .ok (.getfield 41, 3) := by decide +kernel
theorem dX6_crowd_40 : decode cX6_crowd 40 = .ok (.iload_n 1, 1) := by decide +kernel
theorem dX6_crowd_41 : decode cX6_crowd 41 = .ok (.invokevirtual 172, 3) := by decide +kernel
theorem dX6_crowd_44 : decode cX6_crowd 44 = .ok (.ifCond .eq 7, 3) := by decide +kernel
theorem dX6_crowd_47 : decode cX6_crowd 47 = .ok (.iconst 1, 1) := by decide +kernel
theorem dX6_crowd_48 : decode cX6_crowd 48 = .ok (.goto 4, 3) := by decide +kernel
theorem dX6_crowd_51 : decode cX6_crowd 51 = .ok (.iconst 0, 1) := by decide +kernel
theorem dX6_crowd_52 : decode cX6_crowd 52 = .ok (.ireturn, 1) := by decide +kernel
set_option maxRecDepth 20000 in
theorem ggX6_rings_X6_within : GoodIn wsX6_rings wsX6_within := goodIn_r _ [5] (by decide +kernel) (by decide +kernel)
set_option maxRecDepth 20000 in
theorem gX6_rings_X6_within : GoodIn wsX6_rings (va_wsS RX6 59 yX6_within wsX6_within) := goodIn_app (goodIn_of _ (by decide +kernel)) ggX6_rings_X6_within
set_option maxRecDepth 20000 in
theorem ggX6_rings_X2_inRings : GoodIn wsX6_rings wsX2_inRings := goodIn_r _ [9, 10, 11, 12, 13, 14, 15, 16, 17, 4, 18, 19, 20, 21, 22, 34, 35, 36, 37, 38, 39, 40, 41, 42, 43, 44] (by decide +kernel) (by decide +kernel)
set_option maxRecDepth 20000 in
theorem gX6_rings_X2_inRings_n175 : GoodIn wsX6_rings (wsX2_inRings) := ggX6_rings_X2_inRings
set_option maxRecDepth 20000 in
theorem ggX6_rings_X2_tops : GoodIn wsX6_rings wsX2_tops := goodIn_r _ [25, 11, 12, 13, 14, 15, 16, 17, 4, 18, 34, 35, 36, 37, 38, 39, 40, 41, 42, 43, 44] (by decide +kernel) (by decide +kernel)
set_option maxRecDepth 20000 in
theorem gX6_rings_X2_tops_n178 : GoodIn wsX6_rings (wsX2_tops) := ggX6_rings_X2_tops
theorem dX6_rings_0 : decode cX6_rings 0 = .ok (.iload_n 1, 1) := by decide +kernel
theorem dX6_rings_1 : decode cX6_rings 1 = .ok (.iconst 0, 1) := by decide +kernel
theorem dX6_rings_2 : decode cX6_rings 2 = .ok (.iconst 1, 1) := by decide +kernel
theorem dX6_rings_3 : decode cX6_rings 3 = .ok (.invokestatic 59, 3) := by decide +kernel
theorem dX6_rings_6 : decode cX6_rings 6 = .ok (.ifCond .ne 6, 3) := by decide +kernel
theorem dX6_rings_9 : decode cX6_rings 9 = .ok (.bipush (-2), 2) := by decide +kernel
theorem dX6_rings_11 : decode cX6_rings 11 = .ok (.ireturn, 1) := by decide +kernel
theorem dX6_rings_12 : decode cX6_rings 12 = .ok (.iload_n 1, 1) := by decide +kernel
theorem dX6_rings_13 : decode cX6_rings 13 = .ok (.ifCond .ne 13, 3) := by decide +kernel
theorem dX6_rings_16 : decode cX6_rings 16 = .ok (.aload_n 0, 1) := by decide +kernel
theorem dX6_rings_17 : decode cX6_rings 17 = .ok (.getfield 48, 3) := by decide +kernel
theorem dX6_rings_20 : decode cX6_rings 20 = .ok (.invokevirtual 175, 3) := by decide +kernel
theorem dX6_rings_23 : decode cX6_rings 23 = .ok (.goto 10, 3) := by decide +kernel
theorem dX6_rings_26 : decode cX6_rings 26 = .ok (.aload_n 0, 1) := by decide +kernel
theorem dX6_rings_27 : decode cX6_rings 27 = .ok (.getfield 48, 3) := by decide +kernel
theorem dX6_rings_30 : decode cX6_rings 30 = .ok (.invokevirtual 178, 3) := by decide +kernel
theorem dX6_rings_33 : decode cX6_rings 33 = .ok (.ireturn, 1) := by decide +kernel
set_option maxRecDepth 20000 in
theorem ggX6_ladder_X2_arrange : GoodIn wsX6_ladder wsX2_arrange := goodIn_r _ [5, 6, 7, 8, 9, 10, 11, 12, 13, 3, 14, 15, 16, 17, 18, 19, 20, 21, 22, 23, 24, 25, 26, 27, 28, 29, 30, 31, 32, 33, 34, 35, 36, 37, 38, 39, 40, 41, 56, 57, 58, 59, 60, 61, 62, 63, 64, 65, 66] (by decide +kernel) (by decide +kernel)
set_option maxRecDepth 20000 in
theorem gX6_ladder_X2_arrange_n181 : GoodIn wsX6_ladder (wsX2_arrange) := ggX6_ladder_X2_arrange
set_option maxRecDepth 20000 in
theorem ggX6_ladder_X2_countStruck : GoodIn wsX6_ladder wsX2_countStruck := goodIn_r _ [44, 7, 15, 16, 17, 56, 57, 58, 59, 60, 61] (by decide +kernel) (by decide +kernel)
set_option maxRecDepth 20000 in
theorem gX6_ladder_X2_countStruck_n184 : GoodIn wsX6_ladder (wsX2_countStruck) := ggX6_ladder_X2_countStruck
set_option maxRecDepth 20000 in
theorem ggX6_ladder_X2_struck : GoodIn wsX6_ladder wsX2_struck := goodIn_r _ [47, 10, 8, 18, 19, 20, 21, 22, 15, 16, 17, 29, 30, 56, 57, 58, 59, 60, 61, 62, 63, 64, 65, 66] (by decide +kernel) (by decide +kernel)
set_option maxRecDepth 20000 in
theorem gX6_ladder_X2_struck_n187 : GoodIn wsX6_ladder (wsX2_struck) := ggX6_ladder_X2_struck
theorem dX6_ladder_0 : decode cX6_ladder 0 = .ok (.aload_n 0, 1) := by decide +kernel
theorem dX6_ladder_1 : decode cX6_ladder 1 = .ok (.getfield 48, 3) := by decide +kernel
theorem dX6_ladder_4 : decode cX6_ladder 4 = .ok (.invokevirtual 181, 3) := by decide +kernel
theorem dX6_ladder_7 : decode cX6_ladder 7 = .ok (.iload_n 1, 1) := by decide +kernel
theorem dX6_ladder_8 : decode cX6_ladder 8 = .ok (.iconst (-1), 1) := by decide +kernel
theorem dX6_ladder_9 : decode cX6_ladder 9 = .ok (.if_icmp .ne 13, 3) := by decide +kernel
theorem dX6_ladder_12 : decode cX6_ladder 12 = .ok (.aload_n 0, 1) := by decide +kernel
theorem dX6_ladder_13 : decode cX6_ladder 13 = .ok (.getfield 48, 3) := by decide +kernel
theorem dX6_ladder_16 : decode cX6_ladder 16 = .ok (.invokevirtual 184, 3) := by decide +kernel
theorem dX6_ladder_19 : decode cX6_ladder 19 = .ok (.goto 11, 3) := by decide +kernel
theorem dX6_ladder_22 : decode cX6_ladder 22 = .ok (.aload_n 0, 1) := by decide +kernel
theorem dX6_ladder_23 : decode cX6_ladder 23 = .ok (.getfield 48, 3) := by decide +kernel
theorem dX6_ladder_26 : decode cX6_ladder 26 = .ok (.iload_n 1, 1) := by decide +kernel
theorem dX6_ladder_27 : decode cX6_ladder 27 = .ok (.invokevirtual 187, 3) := by decide +kernel
theorem dX6_ladder_30 : decode cX6_ladder 30 = .ok (.ireturn, 1) := by decide +kernel
set_option maxRecDepth 20000 in
theorem ggX6_between_X6_isInsult : GoodIn wsX6_between wsX6_isInsult := goodIn_r _ [5, 6, 7, 4, 8] (by decide +kernel) (by decide +kernel)
set_option maxRecDepth 20000 in
theorem gX6_between_X6_isInsult : GoodIn wsX6_between (va_wsS RX6 98 yX6_isInsult wsX6_isInsult) := goodIn_app (goodIn_of _ (by decide +kernel)) ggX6_between_X6_isInsult
set_option maxRecDepth 20000 in
theorem ggX6_between_X6_within : GoodIn wsX6_between wsX6_within := goodIn_r _ [8] (by decide +kernel) (by decide +kernel)
set_option maxRecDepth 20000 in
theorem gX6_between_X6_within : GoodIn wsX6_between (va_wsS RX6 59 yX6_within wsX6_within) := goodIn_app (goodIn_of _ (by decide +kernel)) ggX6_between_X6_within
set_option maxRecDepth 20000 in
theorem ggX6_between_X5_search : GoodIn wsX6_between wsX5_search := goodIn_r _ [12, 13, 14, 15, 16, 17, 18, 19, 10, 20, 21, 22, 23, 24, 25, 26, 27, 4, 28, 29, 30, 45, 46, 47, 48, 49, 50, 51, 52, 53, 54] (by decide +kernel) (by decide +kernel)
set_option maxRecDepth 20000 in
theorem gX6_between_X5_search_n190 : GoodIn wsX6_between (wsX5_search) := ggX6_between_X5_search
set_option maxRecDepth 20000 in
theorem ggX6_between_X5_count : GoodIn wsX6_between wsX5_count := goodIn_r _ [33, 15, 45, 46, 47, 48, 49] (by decide +kernel) (by decide +kernel)
set_option maxRecDepth 20000 in
theorem gX6_between_X5_count_n193 : GoodIn wsX6_between (wsX5_count) := ggX6_between_X5_count
set_option maxRecDepth 20000 in
theorem ggX6_between_X5_wanted : GoodIn wsX6_between wsX5_wanted := goodIn_r _ [36, 16, 45, 46, 47, 48, 49] (by decide +kernel) (by decide +kernel)
set_option maxRecDepth 20000 in
theorem gX6_between_X5_wanted_n196 : GoodIn wsX6_between (wsX5_wanted) := ggX6_between_X5_wanted
theorem dX6_between_0 : decode cX6_between 0 = .ok (.iload_n 1, 1) := by decide +kernel
theorem dX6_between_1 : decode cX6_between 1 = .ok (.invokestatic 98, 3) := by decide +kernel
theorem dX6_between_4 : decode cX6_between 4 = .ok (.ifCond .eq 15, 3) := by decide +kernel
theorem dX6_between_7 : decode cX6_between 7 = .ok (.iload_n 2, 1) := by decide +kernel
theorem dX6_between_8 : decode cX6_between 8 = .ok (.invokestatic 98, 3) := by decide +kernel
theorem dX6_between_11 : decode cX6_between 11 = .ok (.ifCond .eq 8, 3) := by decide +kernel
theorem dX6_between_14 : decode cX6_between 14 = .ok (.iload_n 1, 1) := by decide +kernel
theorem dX6_between_15 : decode cX6_between 15 = .ok (.iload_n 2, 1) := by decide +kernel
theorem dX6_between_16 : decode cX6_between 16 = .ok (.if_icmp .ne 5, 3) := by decide +kernel
theorem dX6_between_19 : decode cX6_between 19 = .ok (.iconst (-1), 1) := by decide +kernel
theorem dX6_between_20 : decode cX6_between 20 = .ok (.ireturn, 1) := by decide +kernel
theorem dX6_between_21 : decode cX6_between 21 = .ok (.iload_n 3, 1) := by decide +kernel
theorem dX6_between_22 : decode cX6_between 22 = .ok (.iconst 0, 1) := by decide +kernel
theorem dX6_between_23 : decode cX6_between 23 = .ok (.iconst 4, 1) := by decide +kernel
theorem dX6_between_24 : decode cX6_between 24 = .ok (.invokestatic 59, 3) := by decide +kernel
theorem dX6_between_27 : decode cX6_between 27 = .ok (.ifCond .ne 6, 3) := by decide +kernel
theorem dX6_between_30 : decode cX6_between 30 = .ok (.bipush (-2), 2) := by decide +kernel
theorem dX6_between_32 : decode cX6_between 32 = .ok (.ireturn, 1) := by decide +kernel
theorem dX6_between_33 : decode cX6_between 33 = .ok (.aload_n 0, 1) := by decide +kernel
theorem dX6_between_34 : decode cX6_between 34 = .ok (.getfield 55, 3) := by decide +kernel
theorem dX6_between_37 : decode cX6_between 37 = .ok (.iload_n 1, 1) := by decide +kernel
theorem dX6_between_38 : decode cX6_between 38 = .ok (.iload_n 2, 1) := by decide +kernel
theorem dX6_between_39 : decode cX6_between 39 = .ok (.iload_n 3, 1) := by decide +kernel
theorem dX6_between_40 : decode cX6_between 40 = .ok (.iload 4, 2) := by decide +kernel
theorem dX6_between_42 : decode cX6_between 42 = .ok (.invokevirtual 190, 3) := by decide +kernel
theorem dX6_between_45 : decode cX6_between 45 = .ok (.iload 4, 2) := by decide +kernel
theorem dX6_between_47 : decode cX6_between 47 = .ok (.iconst (-1), 1) := by decide +kernel
theorem dX6_between_48 : decode cX6_between 48 = .ok (.if_icmp .ne 13, 3) := by decide +kernel
theorem dX6_between_51 : decode cX6_between 51 = .ok (.aload_n 0, 1) := by decide +kernel
theorem dX6_between_52 : decode cX6_between 52 = .ok (.getfield 55, 3) := by decide +kernel
theorem dX6_between_55 : decode cX6_between 55 = .ok (.invokevirtual 193, 3) := by decide +kernel
theorem dX6_between_58 : decode cX6_between 58 = .ok (.goto 10, 3) := by decide +kernel
theorem dX6_between_61 : decode cX6_between 61 = .ok (.aload_n 0, 1) := by decide +kernel
theorem dX6_between_62 : decode cX6_between 62 = .ok (.getfield 55, 3) := by decide +kernel
theorem dX6_between_65 : decode cX6_between 65 = .ok (.invokevirtual 196, 3) := by decide +kernel
theorem dX6_between_68 : decode cX6_between 68 = .ok (.ireturn, 1) := by decide +kernel
set_option maxRecDepth 20000 in
theorem ggX6_high_X6_isInsult : GoodIn wsX6_high wsX6_isInsult := goodIn_r _ [6, 7, 8, 5, 9] (by decide +kernel) (by decide +kernel)
set_option maxRecDepth 20000 in
theorem gX6_high_X6_isInsult : GoodIn wsX6_high (va_wsS RX6 98 yX6_isInsult wsX6_isInsult) := goodIn_app (goodIn_of _ (by decide +kernel)) ggX6_high_X6_isInsult
set_option maxRecDepth 20000 in
theorem ggX6_high_X4_worseThan : GoodIn wsX6_high wsX4_worseThan := goodIn_r _ [13, 14, 15, 5, 16, 66, 67, 68, 69, 70] (by decide +kernel) (by decide +kernel)
set_option maxRecDepth 20000 in
theorem gX6_high_X4_worseThan_n102 : GoodIn wsX6_high (wsX4_worseThan) := ggX6_high_X4_worseThan
set_option maxRecDepth 20000 in
theorem ggX6_high_X0_spin : GoodIn wsX6_high wsX0_spin := goodIn_r _ [20, 21, 22, 23, 24, 25, 18, 26, 27, 28, 29, 30, 31, 32, 33, 34, 35, 36, 37, 38, 39, 40, 41, 5, 42, 43, 44, 45, 46, 47, 48, 49, 50, 51, 52, 15, 16, 10, 11, 12, 13, 14, 53, 54, 71, 72, 73, 74, 75, 76, 77, 66, 67, 68, 69, 70] (by decide +kernel) (by decide +kernel)
set_option maxRecDepth 20000 in
theorem gX6_high_X0_spin_n152 : GoodIn wsX6_high (wsX0_spin) := ggX6_high_X0_spin
set_option maxRecDepth 20000 in
theorem ggX6_high_X0_spun : GoodIn wsX6_high wsX0_spun := goodIn_r _ [57, 22, 71, 72, 73, 74, 75, 76, 77] (by decide +kernel) (by decide +kernel)
set_option maxRecDepth 20000 in
theorem gX6_high_X0_spun_n156 : GoodIn wsX6_high (wsX0_spun) := ggX6_high_X0_spun
theorem dX6_high_0 : decode cX6_high 0 = .ok (.iload_n 1, 1) := by decide +kernel
theorem dX6_high_1 : decode cX6_high 1 = .ok (.invokestatic 98, 3) := by decide +kernel
theorem dX6_high_4 : decode cX6_high 4 = .ok (.ifCond .ne 5, 3) := by decide +kernel
theorem dX6_high_7 : decode cX6_high 7 = .ok (.iconst (-1), 1) := by decide +kernel
theorem dX6_high_8 : decode cX6_high 8 = .ok (.ireturn, 1) := by decide +kernel
theorem dX6_high_9 : decode cX6_high 9 = .ok (.aload_n 0, 1) := by decide +kernel
theorem dX6_high_10 : decode cX6_high 10 = .ok (.getfield 34, 3) := by decide +kernel
theorem dX6_high_13 : decode cX6_high 13 = .ok (.aload_n 0, 1) := by decide +kernel
theorem dX6_high_14 : decode cX6_high 14 = .ok (.getfield 19, 3) := by decide +kernel
theorem dX6_high_17 : decode cX6_high 17 = .ok (.iload_n 1, 1) := by decide +kernel
theorem dX6_high_18 : decode cX6_high 18 = .ok (.invokevirtual 102, 3) := by decide +kernel
theorem dX6_high_21 : decode cX6_high 21 = .ok (.iconst 1, 1) := by decide +kernel
theorem dX6_high_22 : decode cX6_high 22 = .ok (.iload_n 1, 1) := by decide +kernel
theorem dX6_high_23 : decode cX6_high 23 = .ok (.ishl, 1) := by decide +kernel
theorem dX6_high_24 : decode cX6_high 24 = .ok (.sipush 1023, 3) := by decide +kernel
theorem dX6_high_27 : decode cX6_high 27 = .ok (.sipush 1023, 3) := by decide +kernel
theorem dX6_high_30 : decode cX6_high 30 = .ok (.invokevirtual 152, 3) := by decide +kernel
theorem dX6_high_33 : decode cX6_high 33 = .ok (.aload_n 0, 1) := by decide +kernel
theorem dX6_high_34 : decode cX6_high 34 = .ok (.getfield 34, 3) := by decide +kernel
theorem dX6_high_37 : decode cX6_high 37 = .ok (.invokevirtual 156, 3) := by decide +kernel
theorem dX6_high_40 : decode cX6_high 40 = .ok (.ireturn, 1) := by decide +kernel
set_option maxRecDepth 20000 in
theorem ggX6_image_X6_isImage : GoodIn wsX6_image wsX6_isImage := goodIn_r _ [5, 6, 7, 4, 8] (by decide +kernel) (by decide +kernel)
set_option maxRecDepth 20000 in
theorem gX6_image_X6_isImage : GoodIn wsX6_image (va_wsS RX6 199 yX6_isImage wsX6_isImage) := goodIn_app (goodIn_of _ (by decide +kernel)) ggX6_image_X6_isImage
set_option maxRecDepth 20000 in
theorem ggX6_image_X6_imageOf : GoodIn wsX6_image wsX6_imageOf := goodIn_r _ [12, 13, 14, 44, 45, 46, 47, 48, 49, 50, 51] (by decide +kernel) (by decide +kernel)
set_option maxRecDepth 20000 in
theorem gX6_image_X6_imageOf : GoodIn wsX6_image (wsV RX6 202 RX6 yX6_imageOf wsX6_imageOf) := goodIn_app (goodIn_of _ (by decide +kernel)) ggX6_image_X6_imageOf
set_option maxRecDepth 20000 in
theorem ggX6_image_X4_copy : GoodIn wsX6_image wsX4_copy := goodIn_r _ [18, 19, 20, 21, 22, 23, 24, 25, 26, 16, 27, 28, 4, 29, 30, 31, 32, 33, 34, 35, 36, 37, 38, 39, 40, 41, 42, 43, 52, 53, 54, 55, 56] (by decide +kernel) (by decide +kernel)
set_option maxRecDepth 20000 in
theorem gX6_image_X4_copy_n206 : GoodIn wsX6_image (wsX4_copy) := ggX6_image_X4_copy
theorem dX6_image_0 : decode cX6_image 0 = .ok (.iload_n 1, 1) := by decide +kernel
theorem dX6_image_1 : decode cX6_image 1 = .ok (.invokestatic 199, 3) := by decide +kernel
theorem dX6_image_4 : decode cX6_image 4 = .ok (.ifCond .ne 6, 3) := by decide +kernel
theorem dX6_image_7 : decode cX6_image 7 = .ok (.bipush (-2), 2) := by decide +kernel
theorem dX6_image_9 : decode cX6_image 9 = .ok (.ireturn, 1) := by decide +kernel
theorem dX6_image_10 : decode cX6_image 10 = .ok (.aload_n 0, 1) := by decide +kernel
theorem dX6_image_11 : decode cX6_image 11 = .ok (.iload_n 1, 1) := by decide +kernel
theorem dX6_image_12 : decode cX6_image 12 = .ok (.invokevirtual 202, 3) := by decide +kernel
theorem dX6_image_15 : decode cX6_image 15 = .ok (.aload_n 0, 1) := by decide +kernel
theorem dX6_image_16 : decode cX6_image 16 = .ok (.getfield 19, 3) := by decide +kernel
theorem dX6_image_19 : decode cX6_image 19 = .ok (.invokevirtual 206, 3) := by decide +kernel
theorem dX6_image_22 : decode cX6_image 22 = .ok (.iconst 1, 1) := by decide +kernel
theorem dX6_image_23 : decode cX6_image 23 = .ok (.ireturn, 1) := by decide +kernel
set_option maxRecDepth 20000 in
theorem ggX6_restore_X6_isImage : GoodIn wsX6_restore wsX6_isImage := goodIn_r _ [5, 6, 7, 4, 8] (by decide +kernel) (by decide +kernel)
set_option maxRecDepth 20000 in
theorem gX6_restore_X6_isImage : GoodIn wsX6_restore (va_wsS RX6 199 yX6_isImage wsX6_isImage) := goodIn_app (goodIn_of _ (by decide +kernel)) ggX6_restore_X6_isImage
set_option maxRecDepth 20000 in
theorem ggX6_restore_X6_imageOf : GoodIn wsX6_restore wsX6_imageOf := goodIn_r _ [12, 13, 14, 47, 48, 49, 50, 51, 52, 53, 54] (by decide +kernel) (by decide +kernel)
set_option maxRecDepth 20000 in
theorem gX6_restore_X6_imageOf : GoodIn wsX6_restore (wsV RX6 202 RX6 yX6_imageOf wsX6_imageOf) := goodIn_app (goodIn_of _ (by decide +kernel)) ggX6_restore_X6_imageOf
set_option maxRecDepth 20000 in
theorem ggX6_restore_X4_isKept : GoodIn wsX6_restore wsX4_isKept := goodIn_r _ [18, 19, 55, 56, 57, 58, 59] (by decide +kernel) (by decide +kernel)
set_option maxRecDepth 20000 in
theorem gX6_restore_X4_isKept_n209 : GoodIn wsX6_restore (wsX4_isKept) := ggX6_restore_X4_isKept
set_option maxRecDepth 20000 in
theorem ggX6_restore_X4_copy : GoodIn wsX6_restore wsX4_copy := goodIn_r _ [22, 23, 24, 25, 26, 19, 27, 28, 29, 16, 30, 31, 4, 32, 33, 34, 35, 36, 37, 38, 39, 40, 41, 42, 43, 44, 45, 46, 55, 56, 57, 58, 59] (by decide +kernel) (by decide +kernel)
set_option maxRecDepth 20000 in
theorem gX6_restore_X4_copy_n206 : GoodIn wsX6_restore (wsX4_copy) := ggX6_restore_X4_copy
theorem dX6_restore_0 : decode cX6_restore 0 = .ok (.iload_n 1, 1) := by decide +kernel
theorem dX6_restore_1 : decode cX6_restore 1 = .ok (.invokestatic 199, 3) := by decide +kernel
theorem dX6_restore_4 : decode cX6_restore 4 = .ok (.ifCond .ne 6, 3) := by decide +kernel
theorem dX6_restore_7 : decode cX6_restore 7 = .ok (.bipush (-2), 2) := by decide +kernel
theorem dX6_restore_9 : decode cX6_restore 9 = .ok (.ireturn, 1) := by decide +kernel
theorem dX6_restore_10 : decode cX6_restore 10 = .ok (.aload_n 0, 1) := by decide +kernel
theorem dX6_restore_11 : decode cX6_restore 11 = .ok (.iload_n 1, 1) := by decide +kernel
theorem dX6_restore_12 : decode cX6_restore 12 = .ok (.invokevirtual 202, 3) := by decide +kernel
theorem dX6_restore_15 : decode cX6_restore 15 = .ok (.invokevirtual 209, 3) := by decide +kernel
theorem dX6_restore_18 : decode cX6_restore 18 = .ok (.ifCond .ne 6, 3) := by decide +kernel
theorem dX6_restore_21 : decode cX6_restore 21 = .ok (.bipush (-3), 2) := by decide +kernel
theorem dX6_restore_23 : decode cX6_restore 23 = .ok (.ireturn, 1) := by decide +kernel
theorem dX6_restore_24 : decode cX6_restore 24 = .ok (.aload_n 0, 1) := by decide +kernel
theorem dX6_restore_25 : decode cX6_restore 25 = .ok (.getfield 19, 3) := by decide +kernel
theorem dX6_restore_28 : decode cX6_restore 28 = .ok (.aload_n 0, 1) := by decide +kernel
theorem dX6_restore_29 : decode cX6_restore 29 = .ok (.iload_n 1, 1) := by decide +kernel
theorem dX6_restore_30 : decode cX6_restore 30 = .ok (.invokevirtual 202, 3) := by decide +kernel
theorem dX6_restore_33 : decode cX6_restore 33 = .ok (.invokevirtual 206, 3) := by decide +kernel
theorem dX6_restore_36 : decode cX6_restore 36 = .ok (.iconst 1, 1) := by decide +kernel
theorem dX6_restore_37 : decode cX6_restore 37 = .ok (.ireturn, 1) := by decide +kernel
set_option maxRecDepth 20000 in
theorem ggX6_join_X6_isImage : GoodIn wsX6_join wsX6_isImage := goodIn_r _ [5, 6, 7, 4, 8] (by decide +kernel) (by decide +kernel)
set_option maxRecDepth 20000 in
theorem gX6_join_X6_isImage : GoodIn wsX6_join (va_wsS RX6 199 yX6_isImage wsX6_isImage) := goodIn_app (goodIn_of _ (by decide +kernel)) ggX6_join_X6_isImage
set_option maxRecDepth 20000 in
theorem ggX6_join_X6_imageOf : GoodIn wsX6_join wsX6_imageOf := goodIn_r _ [12, 13, 14, 42, 43, 44, 45, 46, 47, 48, 49] (by decide +kernel) (by decide +kernel)
set_option maxRecDepth 20000 in
theorem gX6_join_X6_imageOf : GoodIn wsX6_join (wsV RX6 202 RX6 yX6_imageOf wsX6_imageOf) := goodIn_app (goodIn_of _ (by decide +kernel)) ggX6_join_X6_imageOf
set_option maxRecDepth 20000 in
theorem ggX6_join_X4_isKept : GoodIn wsX6_join wsX4_isKept := goodIn_r _ [18, 19, 50, 51, 52, 53, 54] (by decide +kernel) (by decide +kernel)
set_option maxRecDepth 20000 in
theorem gX6_join_X4_isKept_n209 : GoodIn wsX6_join (wsX4_isKept) := ggX6_join_X4_isKept
set_option maxRecDepth 20000 in
theorem ggX6_join_X4_addSteps : GoodIn wsX6_join wsX4_addSteps := goodIn_r _ [22, 23, 24, 25, 26, 16, 27, 28, 4, 29, 30, 31, 50, 51, 52, 53, 54] (by decide +kernel) (by decide +kernel)
set_option maxRecDepth 20000 in
theorem gX6_join_X4_addSteps_n212 : GoodIn wsX6_join (wsX4_addSteps) := ggX6_join_X4_addSteps
set_option maxRecDepth 20000 in
theorem ggX6_join_X4_countSteps : GoodIn wsX6_join wsX4_countSteps := goodIn_r _ [34, 24, 25, 26, 16, 27, 23, 28, 4, 29, 35, 36, 37, 38, 39, 40, 41, 50, 51, 52, 53, 54] (by decide +kernel) (by decide +kernel)
set_option maxRecDepth 20000 in
theorem gX6_join_X4_countSteps_n95 : GoodIn wsX6_join (wsX4_countSteps) := ggX6_join_X4_countSteps
theorem dX6_join_0 : decode cX6_join 0 = .ok (.iload_n 1, 1) := by decide +kernel
theorem dX6_join_1 : decode cX6_join 1 = .ok (.invokestatic 199, 3) := by decide +kernel
theorem dX6_join_4 : decode cX6_join 4 = .ok (.ifCond .ne 6, 3) := by decide +kernel
theorem dX6_join_7 : decode cX6_join 7 = .ok (.bipush (-2), 2) := by decide +kernel
theorem dX6_join_9 : decode cX6_join 9 = .ok (.ireturn, 1) := by decide +kernel
theorem dX6_join_10 : decode cX6_join 10 = .ok (.aload_n 0, 1) := by decide +kernel
theorem dX6_join_11 : decode cX6_join 11 = .ok (.iload_n 1, 1) := by decide +kernel
theorem dX6_join_12 : decode cX6_join 12 = .ok (.invokevirtual 202, 3) := by decide +kernel
theorem dX6_join_15 : decode cX6_join 15 = .ok (.invokevirtual 209, 3) := by decide +kernel
theorem dX6_join_18 : decode cX6_join 18 = .ok (.ifCond .ne 6, 3) := by decide +kernel
theorem dX6_join_21 : decode cX6_join 21 = .ok (.bipush (-3), 2) := by decide +kernel
theorem dX6_join_23 : decode cX6_join 23 = .ok (.ireturn, 1) := by decide +kernel
theorem dX6_join_24 : decode cX6_join 24 = .ok (.aload_n 0, 1) := by decide +kernel
theorem dX6_join_25 : decode cX6_join 25 = .ok (.getfield 19, 3) := by decide +kernel
theorem dX6_join_28 : decode cX6_join 28 = .ok (.aload_n 0, 1) := by decide +kernel
theorem dX6_join_29 : decode cX6_join 29 = .ok (.iload_n 1, 1) := by decide +kernel
theorem dX6_join_30 : decode cX6_join 30 = .ok (.invokevirtual 202, 3) := by decide +kernel
theorem dX6_join_33 : decode cX6_join 33 = .ok (.invokevirtual 212, 3) := by decide +kernel
theorem dX6_join_36 : decode cX6_join 36 = .ok (.aload_n 0, 1) := by decide +kernel
theorem dX6_join_37 : decode cX6_join 37 = .ok (.getfield 19, 3) := by decide +kernel
theorem dX6_join_40 : decode cX6_join 40 = .ok (.invokevirtual 95, 3) := by decide +kernel
theorem dX6_join_43 : decode cX6_join 43 = .ok (.ireturn, 1) := by decide +kernel
set_option maxRecDepth 20000 in
theorem ggX6_told_X3_size : GoodIn wsX6_told wsX3_size := goodIn_r _ [6, 7, 50, 51] (by decide +kernel) (by decide +kernel)
set_option maxRecDepth 20000 in
theorem gX6_told_X3_size_n71 : GoodIn wsX6_told (wsX3_size) := ggX6_told_X3_size
set_option maxRecDepth 20000 in
theorem ggX6_told_X4_countSteps : GoodIn wsX6_told wsX4_countSteps := goodIn_r _ [11, 12, 13, 14, 9, 15, 16, 17, 18, 19, 20, 21, 22, 23, 24, 25, 26, 52, 53, 54, 55, 56] (by decide +kernel) (by decide +kernel)
set_option maxRecDepth 20000 in
theorem gX6_told_X4_countSteps_n95 : GoodIn wsX6_told (wsX4_countSteps) := ggX6_told_X4_countSteps
set_option maxRecDepth 20000 in
theorem ggX6_told_X6_within : GoodIn wsX6_told wsX6_within := goodIn_r _ [29] (by decide +kernel) (by decide +kernel)
set_option maxRecDepth 20000 in
theorem gX6_told_X6_within : GoodIn wsX6_told (va_wsS RX6 59 yX6_within wsX6_within) := goodIn_app (goodIn_of _ (by decide +kernel)) ggX6_told_X6_within
set_option maxRecDepth 20000 in
theorem ggX6_told_X4_neededBy : GoodIn wsX6_told wsX4_neededBy := goodIn_r _ [32, 33, 17, 18, 19, 52, 53, 54, 55, 56] (by decide +kernel) (by decide +kernel)
set_option maxRecDepth 20000 in
theorem gX6_told_X4_neededBy_n109 : GoodIn wsX6_told (wsX4_neededBy) := ggX6_told_X4_neededBy
set_option maxRecDepth 20000 in
theorem ggX6_told_X4_traitsOf : GoodIn wsX6_told wsX4_traitsOf := goodIn_r _ [36, 37, 17, 18, 19, 52, 53, 54, 55, 56] (by decide +kernel) (by decide +kernel)
set_option maxRecDepth 20000 in
theorem gX6_told_X4_traitsOf_n119 : GoodIn wsX6_told (wsX4_traitsOf) := ggX6_told_X4_traitsOf
set_option maxRecDepth 20000 in
theorem ggX6_told_X4_knownTo : GoodIn wsX6_told wsX4_knownTo := goodIn_r _ [40, 41, 17, 18, 19, 52, 53, 54, 55, 56] (by decide +kernel) (by decide +kernel)
set_option maxRecDepth 20000 in
theorem gX6_told_X4_knownTo_n125 : GoodIn wsX6_told (wsX4_knownTo) := ggX6_told_X4_knownTo
set_option maxRecDepth 20000 in
theorem ggX6_told_X4_worseThan : GoodIn wsX6_told wsX4_worseThan := goodIn_r _ [15, 16, 17, 18, 19, 52, 53, 54, 55, 56] (by decide +kernel) (by decide +kernel)
set_option maxRecDepth 20000 in
theorem gX6_told_X4_worseThan_n102 : GoodIn wsX6_told (wsX4_worseThan) := ggX6_told_X4_worseThan
theorem dX6_told_0 : decode cX6_told 0 = .ok (.iload_n 1, 1) := by decide +kernel
theorem dX6_told_1 : decode cX6_told 1 = .ok (.ifCond .ne 11, 3) := by decide +kernel
theorem dX6_told_4 : decode cX6_told 4 = .ok (.aload_n 0, 1) := by decide +kernel
theorem dX6_told_5 : decode cX6_told 5 = .ok (.getfield 10, 3) := by decide +kernel
theorem dX6_told_8 : decode cX6_told 8 = .ok (.invokevirtual 71, 3) := by decide +kernel
theorem dX6_told_11 : decode cX6_told 11 = .ok (.ireturn, 1) := by decide +kernel
theorem dX6_told_12 : decode cX6_told 12 = .ok (.iload_n 1, 1) := by decide +kernel
theorem dX6_told_13 : decode cX6_told 13 = .ok (.iconst 1, 1) := by decide +kernel
theorem dX6_told_14 : decode cX6_told 14 = .ok (.if_icmp .ne 11, 3) := by decide +kernel
theorem dX6_told_17 : decode cX6_told 17 = .ok (.aload_n 0, 1) := by decide +kernel
theorem dX6_told_18 : decode cX6_told 18 = .ok (.getfield 19, 3) := by decide +kernel
theorem dX6_told_21 : decode cX6_told 21 = .ok (.invokevirtual 95, 3) := by decide +kernel
theorem dX6_told_24 : decode cX6_told 24 = .ok (.ireturn, 1) := by decide +kernel
theorem dX6_told_25 : decode cX6_told 25 = .ok (.iload_n 1, 1) := by decide +kernel
theorem dX6_told_26 : decode cX6_told 26 = .ok (.bipush 10, 2) := by decide +kernel
theorem dX6_told_28 : decode cX6_told 28 = .ok (.bipush 19, 2) := by decide +kernel
theorem dX6_told_30 : decode cX6_told 30 = .ok (.invokestatic 59, 3) := by decide +kernel
theorem dX6_told_33 : decode cX6_told 33 = .ok (.ifCond .eq 15, 3) := by decide +kernel
theorem dX6_told_36 : decode cX6_told 36 = .ok (.aload_n 0, 1) := by decide +kernel
theorem dX6_told_37 : decode cX6_told 37 = .ok (.getfield 19, 3) := by decide +kernel
theorem dX6_told_40 : decode cX6_told 40 = .ok (.iload_n 1, 1) := by decide +kernel
theorem dX6_told_41 : decode cX6_told 41 = .ok (.bipush 10, 2) := by decide +kernel
theorem dX6_told_43 : decode cX6_told 43 = .ok (.isub, 1) := by decide +kernel
theorem dX6_told_44 : decode cX6_told 44 = .ok (.invokevirtual 109, 3) := by decide +kernel
theorem dX6_told_47 : decode cX6_told 47 = .ok (.ireturn, 1) := by decide +kernel
theorem dX6_told_48 : decode cX6_told 48 = .ok (.iload_n 1, 1) := by decide +kernel
theorem dX6_told_49 : decode cX6_told 49 = .ok (.bipush 20, 2) := by decide +kernel
theorem dX6_told_51 : decode cX6_told 51 = .ok (.bipush 24, 2) := by decide +kernel
theorem dX6_told_53 : decode cX6_told 53 = .ok (.invokestatic 59, 3) := by decide +kernel
theorem dX6_told_56 : decode cX6_told 56 = .ok (.ifCond .eq 15, 3) := by decide +kernel
theorem dX6_told_59 : decode cX6_told 59 = .ok (.aload_n 0, 1) := by decide +kernel
theorem dX6_told_60 : decode cX6_told 60 = .ok (.getfield 19, 3) := by decide +kernel
theorem dX6_told_63 : decode cX6_told 63 = .ok (.iload_n 1, 1) := by decide +kernel
theorem dX6_told_64 : decode cX6_told 64 = .ok (.bipush 20, 2) := by decide +kernel
theorem dX6_told_66 : decode cX6_told 66 = .ok (.isub, 1) := by decide +kernel
theorem dX6_told_67 : decode cX6_told 67 = .ok (.invokevirtual 119, 3) := by decide +kernel
theorem dX6_told_70 : decode cX6_told 70 = .ok (.ireturn, 1) := by decide +kernel
theorem dX6_told_71 : decode cX6_told 71 = .ok (.iload_n 1, 1) := by decide +kernel
theorem dX6_told_72 : decode cX6_told 72 = .ok (.bipush 30, 2) := by decide +kernel
theorem dX6_told_74 : decode cX6_told 74 = .ok (.bipush 34, 2) := by decide +kernel
theorem dX6_told_76 : decode cX6_told 76 = .ok (.invokestatic 59, 3) := by decide +kernel
theorem dX6_told_79 : decode cX6_told 79 = .ok (.ifCond .eq 15, 3) := by decide +kernel
theorem dX6_told_82 : decode cX6_told 82 = .ok (.aload_n 0, 1) := by decide +kernel
theorem dX6_told_83 : decode cX6_told 83 = .ok (.getfield 19, 3) := by decide +kernel
theorem dX6_told_86 : decode cX6_told 86 = .ok (.iload_n 1, 1) := by decide +kernel
theorem dX6_told_87 : decode cX6_told 87 = .ok (.bipush 30, 2) := by decide +kernel
theorem dX6_told_89 : decode cX6_told 89 = .ok (.isub, 1) := by decide +kernel
theorem dX6_told_90 : decode cX6_told 90 = .ok (.invokevirtual 125, 3) := by decide +kernel
theorem dX6_told_93 : decode cX6_told 93 = .ok (.ireturn, 1) := by decide +kernel
theorem dX6_told_94 : decode cX6_told 94 = .ok (.iload_n 1, 1) := by decide +kernel
theorem dX6_told_95 : decode cX6_told 95 = .ok (.bipush 40, 2) := by decide +kernel
theorem dX6_told_97 : decode cX6_told 97 = .ok (.bipush 49, 2) := by decide +kernel
theorem dX6_told_99 : decode cX6_told 99 = .ok (.invokestatic 59, 3) := by decide +kernel
theorem dX6_told_102 : decode cX6_told 102 = .ok (.ifCond .eq 15, 3) := by decide +kernel
theorem dX6_told_105 : decode cX6_told 105 = .ok (.aload_n 0, 1) := by decide +kernel
theorem dX6_told_106 : decode cX6_told 106 = .ok (.getfield 19, 3) := by decide +kernel
theorem dX6_told_109 : decode cX6_told 109 = .ok (.iload_n 1, 1) := by decide +kernel
theorem dX6_told_110 : decode cX6_told 110 = .ok (.bipush 40, 2) := by decide +kernel
theorem dX6_told_112 : decode cX6_told 112 = .ok (.isub, 1) := by decide +kernel
theorem dX6_told_113 : decode cX6_told 113 = .ok (.invokevirtual 102, 3) := by decide +kernel
theorem dX6_told_116 : decode cX6_told 116 = .ok (.ireturn, 1) := by decide +kernel
theorem dX6_told_117 : decode cX6_told 117 = .ok (.bipush (-2), 2) := by decide +kernel
theorem dX6_told_119 : decode cX6_told 119 = .ok (.ireturn, 1) := by decide +kernel
theorem dX6_within_0 : decode cX6_within 0 = .ok (.iload_n 0, 1) := by decide +kernel
theorem dX6_within_1 : decode cX6_within 1 = .ok (.iload_n 1, 1) := by decide +kernel
theorem dX6_within_2 : decode cX6_within 2 = .ok (.if_icmp .lt 12, 3) := by decide +kernel
theorem dX6_within_5 : decode cX6_within 5 = .ok (.iload_n 0, 1) := by decide +kernel
theorem dX6_within_6 : decode cX6_within 6 = .ok (.iload_n 2, 1) := by decide +kernel
theorem dX6_within_7 : decode cX6_within 7 = .ok (.if_icmp .gt 7, 3) := by decide +kernel
theorem dX6_within_10 : decode cX6_within 10 = .ok (.iconst 1, 1) := by decide +kernel
theorem dX6_within_11 : decode cX6_within 11 = .ok (.goto 4, 3) := by decide +kernel
theorem dX6_within_14 : decode cX6_within 14 = .ok (.iconst 0, 1) := by decide +kernel
theorem dX6_within_15 : decode cX6_within 15 = .ok (.ireturn, 1) := by decide +kernel
set_option maxRecDepth 20000 in
theorem ggX6_isInsult_X6_within : GoodIn wsX6_isInsult wsX6_within := goodIn_r _ [4] (by decide +kernel) (by decide +kernel)
set_option maxRecDepth 20000 in
theorem gX6_isInsult_X6_within : GoodIn wsX6_isInsult (va_wsS RX6 59 yX6_within wsX6_within) := goodIn_app (goodIn_of _ (by decide +kernel)) ggX6_isInsult_X6_within
theorem dX6_isInsult_0 : decode cX6_isInsult 0 = .ok (.iload_n 0, 1) := by decide +kernel
theorem dX6_isInsult_1 : decode cX6_isInsult 1 = .ok (.iconst 0, 1) := by decide +kernel
theorem dX6_isInsult_2 : decode cX6_isInsult 2 = .ok (.bipush 9, 2) := by decide +kernel
theorem dX6_isInsult_4 : decode cX6_isInsult 4 = .ok (.invokestatic 59, 3) := by decide +kernel
theorem dX6_isInsult_7 : decode cX6_isInsult 7 = .ok (.ireturn, 1) := by decide +kernel
set_option maxRecDepth 20000 in
theorem ggX6_isMan_X6_within : GoodIn wsX6_isMan wsX6_within := goodIn_r _ [4] (by decide +kernel) (by decide +kernel)
set_option maxRecDepth 20000 in
theorem gX6_isMan_X6_within : GoodIn wsX6_isMan (va_wsS RX6 59 yX6_within wsX6_within) := goodIn_app (goodIn_of _ (by decide +kernel)) ggX6_isMan_X6_within
theorem dX6_isMan_0 : decode cX6_isMan 0 = .ok (.iload_n 0, 1) := by decide +kernel
theorem dX6_isMan_1 : decode cX6_isMan 1 = .ok (.iconst 0, 1) := by decide +kernel
theorem dX6_isMan_2 : decode cX6_isMan 2 = .ok (.iconst 4, 1) := by decide +kernel
theorem dX6_isMan_3 : decode cX6_isMan 3 = .ok (.invokestatic 59, 3) := by decide +kernel
theorem dX6_isMan_6 : decode cX6_isMan 6 = .ok (.ireturn, 1) := by decide +kernel
set_option maxRecDepth 20000 in
theorem ggX6_areTwo_X6_isMan : GoodIn wsX6_areTwo wsX6_isMan := goodIn_r _ [4, 5, 6, 3, 7] (by decide +kernel) (by decide +kernel)
set_option maxRecDepth 20000 in
theorem gX6_areTwo_X6_isMan : GoodIn wsX6_areTwo (va_wsS RX6 116 yX6_isMan wsX6_isMan) := goodIn_app (goodIn_of _ (by decide +kernel)) ggX6_areTwo_X6_isMan
theorem dX6_areTwo_0 : decode cX6_areTwo 0 = .ok (.iload_n 0, 1) := by decide +kernel
theorem dX6_areTwo_1 : decode cX6_areTwo 1 = .ok (.invokestatic 116, 3) := by decide +kernel
theorem dX6_areTwo_4 : decode cX6_areTwo 4 = .ok (.ifCond .eq 19, 3) := by decide +kernel
theorem dX6_areTwo_7 : decode cX6_areTwo 7 = .ok (.iload_n 1, 1) := by decide +kernel
theorem dX6_areTwo_8 : decode cX6_areTwo 8 = .ok (.invokestatic 116, 3) := by decide +kernel
theorem dX6_areTwo_11 : decode cX6_areTwo 11 = .ok (.ifCond .eq 12, 3) := by decide +kernel
theorem dX6_areTwo_14 : decode cX6_areTwo 14 = .ok (.iload_n 0, 1) := by decide +kernel
theorem dX6_areTwo_15 : decode cX6_areTwo 15 = .ok (.iload_n 1, 1) := by decide +kernel
theorem dX6_areTwo_16 : decode cX6_areTwo 16 = .ok (.if_icmp .eq 7, 3) := by decide +kernel
theorem dX6_areTwo_19 : decode cX6_areTwo 19 = .ok (.iconst 1, 1) := by decide +kernel
theorem dX6_areTwo_20 : decode cX6_areTwo 20 = .ok (.goto 4, 3) := by decide +kernel
theorem dX6_areTwo_23 : decode cX6_areTwo 23 = .ok (.iconst 0, 1) := by decide +kernel
theorem dX6_areTwo_24 : decode cX6_areTwo 24 = .ok (.ireturn, 1) := by decide +kernel
set_option maxRecDepth 20000 in
theorem ggX6_isImage_X6_within : GoodIn wsX6_isImage wsX6_within := goodIn_r _ [4] (by decide +kernel) (by decide +kernel)
set_option maxRecDepth 20000 in
theorem gX6_isImage_X6_within : GoodIn wsX6_isImage (va_wsS RX6 59 yX6_within wsX6_within) := goodIn_app (goodIn_of _ (by decide +kernel)) ggX6_isImage_X6_within
theorem dX6_isImage_0 : decode cX6_isImage 0 = .ok (.iload_n 0, 1) := by decide +kernel
theorem dX6_isImage_1 : decode cX6_isImage 1 = .ok (.iconst 0, 1) := by decide +kernel
theorem dX6_isImage_2 : decode cX6_isImage 2 = .ok (.iconst 1, 1) := by decide +kernel
theorem dX6_isImage_3 : decode cX6_isImage 3 = .ok (.invokestatic 59, 3) := by decide +kernel
theorem dX6_isImage_6 : decode cX6_isImage 6 = .ok (.ireturn, 1) := by decide +kernel
theorem dX6_has_0 : decode cX6_has 0 = .ok (.iload_n 0, 1) := by decide +kernel
theorem dX6_has_1 : decode cX6_has 1 = .ok (.iload_n 1, 1) := by decide +kernel
theorem dX6_has_2 : decode cX6_has 2 = .ok (.ishr, 1) := by decide +kernel
theorem dX6_has_3 : decode cX6_has 3 = .ok (.iconst 1, 1) := by decide +kernel
theorem dX6_has_4 : decode cX6_has 4 = .ok (.iand, 1) := by decide +kernel
theorem dX6_has_5 : decode cX6_has 5 = .ok (.iconst 1, 1) := by decide +kernel
theorem dX6_has_6 : decode cX6_has 6 = .ok (.if_icmp .ne 7, 3) := by decide +kernel
theorem dX6_has_9 : decode cX6_has 9 = .ok (.iconst 1, 1) := by decide +kernel
theorem dX6_has_10 : decode cX6_has 10 = .ok (.goto 4, 3) := by decide +kernel
theorem dX6_has_13 : decode cX6_has 13 = .ok (.iconst 0, 1) := by decide +kernel
theorem dX6_has_14 : decode cX6_has 14 = .ok (.ireturn, 1) := by decide +kernel
theorem dX6_at_0 : decode cX6_at 0 = .ok (.iload_n 1, 1) := by decide +kernel
theorem dX6_at_1 : decode cX6_at 1 = .ok (.ifCond .lt 15, 3) := by decide +kernel
theorem dX6_at_4 : decode cX6_at 4 = .ok (.iload_n 1, 1) := by decide +kernel
theorem dX6_at_5 : decode cX6_at 5 = .ok (.aload_n 0, 1) := by decide +kernel
theorem dX6_at_6 : decode cX6_at 6 = .ok (.arraylength, 1) := by decide +kernel
theorem dX6_at_7 : decode cX6_at 7 = .ok (.if_icmp .ge 9, 3) := by decide +kernel
theorem dX6_at_10 : decode cX6_at 10 = .ok (.aload_n 0, 1) := by decide +kernel
theorem dX6_at_11 : decode cX6_at 11 = .ok (.iload_n 1, 1) := by decide +kernel
theorem dX6_at_12 : decode cX6_at 12 = .ok (.iaload, 1) := by decide +kernel
theorem dX6_at_13 : decode cX6_at 13 = .ok (.goto 4, 3) := by decide +kernel
theorem dX6_at_16 : decode cX6_at 16 = .ok (.iconst 0, 1) := by decide +kernel
theorem dX6_at_17 : decode cX6_at 17 = .ok (.ireturn, 1) := by decide +kernel
theorem dX6_store_0 : decode cX6_store 0 = .ok (.iload_n 1, 1) := by decide +kernel
theorem dX6_store_1 : decode cX6_store 1 = .ok (.ifCond .lt 13, 3) := by decide +kernel
theorem dX6_store_4 : decode cX6_store 4 = .ok (.iload_n 1, 1) := by decide +kernel
theorem dX6_store_5 : decode cX6_store 5 = .ok (.aload_n 0, 1) := by decide +kernel
theorem dX6_store_6 : decode cX6_store 6 = .ok (.arraylength, 1) := by decide +kernel
theorem dX6_store_7 : decode cX6_store 7 = .ok (.if_icmp .ge 7, 3) := by decide +kernel
theorem dX6_store_10 : decode cX6_store 10 = .ok (.aload_n 0, 1) := by decide +kernel
theorem dX6_store_11 : decode cX6_store 11 = .ok (.iload_n 1, 1) := by decide +kernel
theorem dX6_store_12 : decode cX6_store 12 = .ok (.iload_n 2, 1) := by decide +kernel
theorem dX6_store_13 : decode cX6_store 13 = .ok (.iastore, 1) := by decide +kernel
theorem dX6_store_14 : decode cX6_store 14 = .ok (.return_, 1) := by decide +kernel
theorem dX6_imageOf_0 : decode cX6_imageOf 0 = .ok (.iload_n 1, 1) := by decide +kernel
theorem dX6_imageOf_1 : decode cX6_imageOf 1 = .ok (.ifCond .ne 10, 3) := by decide +kernel
theorem dX6_imageOf_4 : decode cX6_imageOf 4 = .ok (.aload_n 0, 1) := by decide +kernel
theorem dX6_imageOf_5 : decode cX6_imageOf 5 = .ok (.getfield 23, 3) := by decide +kernel
theorem dX6_imageOf_8 : decode cX6_imageOf 8 = .ok (.goto 7, 3) := by decide +kernel
theorem dX6_imageOf_11 : decode cX6_imageOf 11 = .ok (.aload_n 0, 1) := by decide +kernel
theorem dX6_imageOf_12 : decode cX6_imageOf 12 = .ok (.getfield 26, 3) := by decide +kernel
theorem dX6_imageOf_15 : decode cX6_imageOf 15 = .ok (.areturn, 1) := by decide +kernel
set_option maxRecDepth 20000 in
theorem ggX6_whyNone_X3_manAt : GoodIn wsX6_whyNone wsX3_manAt := goodIn_r _ [6, 7, 8, 9, 4, 10, 11, 12, 13, 14, 15, 16, 17, 18, 19, 20, 60, 61] (by decide +kernel) (by decide +kernel)
set_option maxRecDepth 20000 in
theorem gX6_whyNone_X3_manAt_n215 : GoodIn wsX6_whyNone (wsX3_manAt) := ggX6_whyNone_X3_manAt
set_option maxRecDepth 20000 in
theorem ggX6_whyNone_X3_insultAt : GoodIn wsX6_whyNone wsX3_insultAt := goodIn_r _ [23, 7, 8, 9, 4, 10, 11, 12, 13, 14, 15, 24, 25, 18, 19, 20, 60, 61] (by decide +kernel) (by decide +kernel)
set_option maxRecDepth 20000 in
theorem gX6_whyNone_X3_insultAt_n88 : GoodIn wsX6_whyNone (wsX3_insultAt) := ggX6_whyNone_X3_insultAt
set_option maxRecDepth 20000 in
theorem ggX6_whyNone_X4_worseThan : GoodIn wsX6_whyNone wsX4_worseThan := goodIn_r _ [29, 30, 13, 14, 15, 62, 63, 64, 65, 66] (by decide +kernel) (by decide +kernel)
set_option maxRecDepth 20000 in
theorem gX6_whyNone_X4_worseThan_n102 : GoodIn wsX6_whyNone (wsX4_worseThan) := ggX6_whyNone_X4_worseThan
set_option maxRecDepth 20000 in
theorem ggX6_whyNone_X6_has : GoodIn wsX6_whyNone wsX6_has := goodIn_r _ [33] (by decide +kernel) (by decide +kernel)
set_option maxRecDepth 20000 in
theorem gX6_whyNone_X6_has : GoodIn wsX6_whyNone (va_wsS RX6 105 yX6_has wsX6_has) := goodIn_app (goodIn_of _ (by decide +kernel)) ggX6_whyNone_X6_has
set_option maxRecDepth 20000 in
theorem ggX6_whyNone_X6_isMan : GoodIn wsX6_whyNone wsX6_isMan := goodIn_r _ [17, 18, 19, 14, 20] (by decide +kernel) (by decide +kernel)
set_option maxRecDepth 20000 in
theorem gX6_whyNone_X6_isMan : GoodIn wsX6_whyNone (va_wsS RX6 116 yX6_isMan wsX6_isMan) := goodIn_app (goodIn_of _ (by decide +kernel)) ggX6_whyNone_X6_isMan
set_option maxRecDepth 20000 in
theorem ggX6_whyNone_X4_fitting : GoodIn wsX6_whyNone wsX4_fitting := goodIn_r _ [37, 38, 39, 40, 27, 41, 42, 13, 14, 15, 43, 44, 45, 46, 47, 62, 63, 64, 65, 66] (by decide +kernel) (by decide +kernel)
set_option maxRecDepth 20000 in
theorem gX6_whyNone_X4_fitting_n131 : GoodIn wsX6_whyNone (wsX4_fitting) := ggX6_whyNone_X4_fitting
set_option maxRecDepth 20000 in
theorem ggX6_whyNone_X4_knownTo : GoodIn wsX6_whyNone wsX4_knownTo := goodIn_r _ [50, 51, 13, 14, 15, 62, 63, 64, 65, 66] (by decide +kernel) (by decide +kernel)
set_option maxRecDepth 20000 in
theorem gX6_whyNone_X4_knownTo_n125 : GoodIn wsX6_whyNone (wsX4_knownTo) := ggX6_whyNone_X4_knownTo
theorem dX6_whyNone_0 : decode cX6_whyNone 0 = .ok (.aload_n 0, 1) := by decide +kernel
theorem dX6_whyNone_1 : decode cX6_whyNone 1 = .ok (.getfield 10, 3) := by decide +kernel
theorem dX6_whyNone_4 : decode cX6_whyNone 4 = .ok (.iconst 2, 1) := by decide +kernel
theorem dX6_whyNone_5 : decode cX6_whyNone 5 = .ok (.iload_n 1, 1) := by decide +kernel
theorem dX6_whyNone_6 : decode cX6_whyNone 6 = .ok (.imul, 1) := by decide +kernel
theorem dX6_whyNone_7 : decode cX6_whyNone 7 = .ok (.invokevirtual 215, 3) := by decide +kernel
theorem dX6_whyNone_10 : decode cX6_whyNone 10 = .ok (.istore_n 2, 1) := by decide +kernel
theorem dX6_whyNone_11 : decode cX6_whyNone 11 = .ok (.aload_n 0, 1) := by decide +kernel
theorem dX6_whyNone_12 : decode cX6_whyNone 12 = .ok (.getfield 10, 3) := by decide +kernel
theorem dX6_whyNone_15 : decode cX6_whyNone 15 = .ok (.iconst 2, 1) := by decide +kernel
theorem dX6_whyNone_16 : decode cX6_whyNone 16 = .ok (.iload_n 1, 1) := by decide +kernel
theorem dX6_whyNone_17 : decode cX6_whyNone 17 = .ok (.imul, 1) := by decide +kernel
theorem dX6_whyNone_18 : decode cX6_whyNone 18 = .ok (.iconst 1, 1) := by decide +kernel
theorem dX6_whyNone_19 : decode cX6_whyNone 19 = .ok (.iadd, 1) := by decide +kernel
theorem dX6_whyNone_20 : decode cX6_whyNone 20 = .ok (.invokevirtual 88, 3) := by decide +kernel
theorem dX6_whyNone_23 : decode cX6_whyNone 23 = .ok (.istore_n 3, 1) := by decide +kernel
theorem dX6_whyNone_24 : decode cX6_whyNone 24 = .ok (.iload_n 1, 1) := by decide +kernel
theorem dX6_whyNone_25 : decode cX6_whyNone 25 = .ok (.ifCond .le 31, 3) := by decide +kernel
theorem dX6_whyNone_28 : decode cX6_whyNone 28 = .ok (.aload_n 0, 1) := by decide +kernel
theorem dX6_whyNone_29 : decode cX6_whyNone 29 = .ok (.getfield 19, 3) := by decide +kernel
theorem dX6_whyNone_32 : decode cX6_whyNone 32 = .ok (.aload_n 0, 1) := by decide +kernel
theorem dX6_whyNone_33 : decode cX6_whyNone 33 = .ok (.getfield 10, 3) := by decide +kernel
theorem dX6_whyNone_36 : decode cX6_whyNone 36 = .ok (.iconst 2, 1) := by decide +kernel
theorem dX6_whyNone_37 : decode cX6_whyNone 37 = .ok (.iload_n 1, 1) := by decide +kernel
theorem dX6_whyNone_38 : decode cX6_whyNone 38 = .ok (.imul, 1) := by decide +kernel
theorem dX6_whyNone_39 : decode cX6_whyNone 39 = .ok (.iconst 1, 1) := by decide +kernel
theorem dX6_whyNone_40 : decode cX6_whyNone 40 = .ok (.isub, 1) := by decide +kernel
theorem dX6_whyNone_41 : decode cX6_whyNone 41 = .ok (.invokevirtual 88, 3) := by decide +kernel
theorem dX6_whyNone_44 : decode cX6_whyNone 44 = .ok (.invokevirtual 102, 3) := by decide +kernel
theorem dX6_whyNone_47 : decode cX6_whyNone 47 = .ok (.iload_n 3, 1) := by decide +kernel
theorem dX6_whyNone_48 : decode cX6_whyNone 48 = .ok (.invokestatic 105, 3) := by decide +kernel
theorem dX6_whyNone_51 : decode cX6_whyNone 51 = .ok (.ifCond .ne 5, 3) := by decide +kernel
theorem dX6_whyNone_54 : decode cX6_whyNone 54 = .ok (.iconst 1, 1) := by decide +kernel
theorem dX6_whyNone_55 : decode cX6_whyNone 55 = .ok (.ireturn, 1) := by decide +kernel
theorem dX6_whyNone_56 : decode cX6_whyNone 56 = .ok (.iconst 0, 1) := by decide +kernel
theorem dX6_whyNone_57 : decode cX6_whyNone 57 = .ok (.istore 4, 2) := by decide +kernel
theorem dX6_whyNone_59 : decode cX6_whyNone 59 = .ok (.iload 4, 2) := by decide +kernel
theorem dX6_whyNone_61 : decode cX6_whyNone 61 = .ok (.iload_n 1, 1) := by decide +kernel
theorem dX6_whyNone_62 : decode cX6_whyNone 62 = .ok (.if_icmp .ge 28, 3) := by decide +kernel
theorem dX6_whyNone_65 : decode cX6_whyNone 65 = .ok (.aload_n 0, 1) := by decide +kernel
theorem dX6_whyNone_66 : decode cX6_whyNone 66 = .ok (.getfield 10, 3) := by decide +kernel
theorem dX6_whyNone_69 : decode cX6_whyNone 69 = .ok (.iconst 2, 1) := by decide +kernel
theorem dX6_whyNone_70 : decode cX6_whyNone 70 = .ok (.iload 4, 2) := by decide +kernel
theorem dX6_whyNone_72 : decode cX6_whyNone 72 = .ok (.imul, 1) := by decide +kernel
theorem dX6_whyNone_73 : decode cX6_whyNone 73 = .ok (.iconst 1, 1) := by decide +kernel
theorem dX6_whyNone_74 : decode cX6_whyNone 74 = .ok (.iadd, 1) := by decide +kernel
theorem dX6_whyNone_75 : decode cX6_whyNone 75 = .ok (.invokevirtual 88, 3) := by decide +kernel
theorem dX6_whyNone_78 : decode cX6_whyNone 78 = .ok (.iload_n 3, 1) := by decide +kernel
theorem dX6_whyNone_79 : decode cX6_whyNone 79 = .ok (.if_icmp .ne 5, 3) := by decide +kernel
theorem dX6_whyNone_82 : decode cX6_whyNone 82 = .ok (.iconst 2, 1) := by decide +kernel
theorem dX6_whyNone_83 : decode cX6_whyNone 83 = .ok (.ireturn, 1) := by decide +kernel
theorem dX6_whyNone_84 : decode cX6_whyNone 84 = .ok (.iinc 4 1, 3) := by decide +kernel
theorem dX6_whyNone_87 : decode cX6_whyNone 87 = .ok (.goto (-28), 3) := by decide +kernel
theorem dX6_whyNone_90 : decode cX6_whyNone 90 = .ok (.iload_n 1, 1) := by decide +kernel
theorem dX6_whyNone_91 : decode cX6_whyNone 91 = .ok (.ifCond .le 18, 3) := by decide +kernel
theorem dX6_whyNone_94 : decode cX6_whyNone 94 = .ok (.aload_n 0, 1) := by decide +kernel
theorem dX6_whyNone_95 : decode cX6_whyNone 95 = .ok (.getfield 10, 3) := by decide +kernel
theorem dX6_whyNone_98 : decode cX6_whyNone 98 = .ok (.iconst 2, 1) := by decide +kernel
theorem dX6_whyNone_99 : decode cX6_whyNone 99 = .ok (.iload_n 1, 1) := by decide +kernel
theorem dX6_whyNone_100 : decode cX6_whyNone 100 = .ok (.imul, 1) := by decide +kernel
theorem dX6_whyNone_101 : decode cX6_whyNone 101 = .ok (.iconst 2, 1) := by decide +kernel
theorem dX6_whyNone_102 : decode cX6_whyNone 102 = .ok (.isub, 1) := by decide +kernel
theorem dX6_whyNone_103 : decode cX6_whyNone 103 = .ok (.invokevirtual 215, 3) := by decide +kernel
theorem dX6_whyNone_106 : decode cX6_whyNone 106 = .ok (.goto 11, 3) := by decide +kernel
theorem dX6_whyNone_109 : decode cX6_whyNone 109 = .ok (.aload_n 0, 1) := by decide +kernel
theorem dX6_whyNone_110 : decode cX6_whyNone 110 = .ok (.getfield 10, 3) := by decide +kernel
theorem dX6_whyNone_113 : decode cX6_whyNone 113 = .ok (.iconst 2, 1) := by decide +kernel
theorem dX6_whyNone_114 : decode cX6_whyNone 114 = .ok (.invokevirtual 215, 3) := by decide +kernel
theorem dX6_whyNone_117 : decode cX6_whyNone 117 = .ok (.istore 4, 2) := by decide +kernel
theorem dX6_whyNone_119 : decode cX6_whyNone 119 = .ok (.iload 4, 2) := by decide +kernel
theorem dX6_whyNone_121 : decode cX6_whyNone 121 = .ok (.invokestatic 116, 3) := by decide +kernel
theorem dX6_whyNone_124 : decode cX6_whyNone 124 = .ok (.ifCond .eq 21, 3) := by decide +kernel
theorem dX6_whyNone_127 : decode cX6_whyNone 127 = .ok (.aload_n 0, 1) := by decide +kernel
theorem dX6_whyNone_128 : decode cX6_whyNone 128 = .ok (.getfield 19, 3) := by decide +kernel
theorem dX6_whyNone_131 : decode cX6_whyNone 131 = .ok (.iload 4, 2) := by decide +kernel
theorem dX6_whyNone_133 : decode cX6_whyNone 133 = .ok (.invokevirtual 131, 3) := by decide +kernel
theorem dX6_whyNone_136 : decode cX6_whyNone 136 = .ok (.iload_n 3, 1) := by decide +kernel
theorem dX6_whyNone_137 : decode cX6_whyNone 137 = .ok (.invokestatic 105, 3) := by decide +kernel
theorem dX6_whyNone_140 : decode cX6_whyNone 140 = .ok (.ifCond .ne 5, 3) := by decide +kernel
theorem dX6_whyNone_143 : decode cX6_whyNone 143 = .ok (.iconst 3, 1) := by decide +kernel
theorem dX6_whyNone_144 : decode cX6_whyNone 144 = .ok (.ireturn, 1) := by decide +kernel
theorem dX6_whyNone_145 : decode cX6_whyNone 145 = .ok (.aload_n 0, 1) := by decide +kernel
theorem dX6_whyNone_146 : decode cX6_whyNone 146 = .ok (.getfield 19, 3) := by decide +kernel
theorem dX6_whyNone_149 : decode cX6_whyNone 149 = .ok (.iload_n 2, 1) := by decide +kernel
theorem dX6_whyNone_150 : decode cX6_whyNone 150 = .ok (.invokevirtual 125, 3) := by decide +kernel
theorem dX6_whyNone_153 : decode cX6_whyNone 153 = .ok (.iload_n 3, 1) := by decide +kernel
theorem dX6_whyNone_154 : decode cX6_whyNone 154 = .ok (.invokestatic 105, 3) := by decide +kernel
theorem dX6_whyNone_157 : decode cX6_whyNone 157 = .ok (.ifCond .eq 7, 3) := by decide +kernel
theorem dX6_whyNone_160 : decode cX6_whyNone 160 = .ok (.iconst 0, 1) := by decide +kernel
theorem dX6_whyNone_161 : decode cX6_whyNone 161 = .ok (.goto 4, 3) := by decide +kernel
theorem dX6_whyNone_164 : decode cX6_whyNone 164 = .ok (.iconst 4, 1) := by decide +kernel
theorem dX6_whyNone_165 : decode cX6_whyNone 165 = .ok (.ireturn, 1) := by decide +kernel
set_option maxRecDepth 20000 in
theorem ggX6_outcome_X0_moverPays : GoodIn wsX6_outcome wsX0_moverPays := goodIn_r _ [5, 6, 22, 23, 24, 25, 26, 27, 28] (by decide +kernel) (by decide +kernel)
set_option maxRecDepth 20000 in
theorem gX6_outcome_X0_moverPays_n218 : GoodIn wsX6_outcome (wsX0_moverPays) := ggX6_outcome_X0_moverPays
set_option maxRecDepth 20000 in
theorem ggX6_outcome_X0_howMany : GoodIn wsX6_outcome wsX0_howMany := goodIn_r _ [9, 6, 22, 23, 24, 25, 26, 27, 28] (by decide +kernel) (by decide +kernel)
set_option maxRecDepth 20000 in
theorem gX6_outcome_X0_howMany_n221 : GoodIn wsX6_outcome (wsX0_howMany) := ggX6_outcome_X0_howMany
set_option maxRecDepth 20000 in
theorem ggX6_outcome_X0_firstMove : GoodIn wsX6_outcome wsX0_firstMove := goodIn_r _ [12, 13, 22, 23, 24, 25, 26, 27, 28] (by decide +kernel) (by decide +kernel)
set_option maxRecDepth 20000 in
theorem gX6_outcome_X0_firstMove_n159 : GoodIn wsX6_outcome (wsX0_firstMove) := ggX6_outcome_X0_firstMove
theorem dX6_outcome_0 : decode cX6_outcome 0 = .ok (.iload_n 3, 1) := by decide +kernel
theorem dX6_outcome_1 : decode cX6_outcome 1 = .ok (.ifCond .ne 19, 3) := by decide +kernel
theorem dX6_outcome_4 : decode cX6_outcome 4 = .ok (.aload_n 0, 1) := by decide +kernel
theorem dX6_outcome_5 : decode cX6_outcome 5 = .ok (.getfield 34, 3) := by decide +kernel
theorem dX6_outcome_8 : decode cX6_outcome 8 = .ok (.invokevirtual 218, 3) := by decide +kernel
theorem dX6_outcome_11 : decode cX6_outcome 11 = .ok (.ifCond .eq 7, 3) := by decide +kernel
theorem dX6_outcome_14 : decode cX6_outcome 14 = .ok (.iload_n 1, 1) := by decide +kernel
theorem dX6_outcome_15 : decode cX6_outcome 15 = .ok (.goto 4, 3) := by decide +kernel
theorem dX6_outcome_18 : decode cX6_outcome 18 = .ok (.iload_n 2, 1) := by decide +kernel
theorem dX6_outcome_19 : decode cX6_outcome 19 = .ok (.ireturn, 1) := by decide +kernel
theorem dX6_outcome_20 : decode cX6_outcome 20 = .ok (.iload_n 3, 1) := by decide +kernel
theorem dX6_outcome_21 : decode cX6_outcome 21 = .ok (.iconst 1, 1) := by decide +kernel
theorem dX6_outcome_22 : decode cX6_outcome 22 = .ok (.if_icmp .ne 13, 3) := by decide +kernel
theorem dX6_outcome_25 : decode cX6_outcome 25 = .ok (.aload_n 0, 1) := by decide +kernel
theorem dX6_outcome_26 : decode cX6_outcome 26 = .ok (.getfield 34, 3) := by decide +kernel
theorem dX6_outcome_29 : decode cX6_outcome 29 = .ok (.invokevirtual 221, 3) := by decide +kernel
theorem dX6_outcome_32 : decode cX6_outcome 32 = .ok (.goto 10, 3) := by decide +kernel
theorem dX6_outcome_35 : decode cX6_outcome 35 = .ok (.aload_n 0, 1) := by decide +kernel
theorem dX6_outcome_36 : decode cX6_outcome 36 = .ok (.getfield 34, 3) := by decide +kernel
theorem dX6_outcome_39 : decode cX6_outcome 39 = .ok (.invokevirtual 159, 3) := by decide +kernel
theorem dX6_outcome_42 : decode cX6_outcome 42 = .ok (.ireturn, 1) := by decide +kernel
set_option maxRecDepth 20000 in
theorem ggX6_comesOff_X4_fitting : GoodIn wsX6_comesOff wsX4_fitting := goodIn_r _ [6, 7, 8, 9, 4, 10, 11, 12, 13, 14, 15, 16, 17, 18, 19, 82, 83, 84, 85, 86] (by decide +kernel) (by decide +kernel)
set_option maxRecDepth 20000 in
theorem gX6_comesOff_X4_fitting_n131 : GoodIn wsX6_comesOff (wsX4_fitting) := ggX6_comesOff_X4_fitting
set_option maxRecDepth 20000 in
theorem ggX6_comesOff_X4_sayable : GoodIn wsX6_comesOff wsX4_sayable := goodIn_r _ [22, 23, 24, 25, 4, 26, 27, 12, 13, 14, 28, 3, 5, 6, 7, 8, 9, 10, 11, 15, 16, 17, 18, 19, 82, 83, 84, 85, 86] (by decide +kernel) (by decide +kernel)
set_option maxRecDepth 20000 in
theorem gX6_comesOff_X4_sayable_n140 : GoodIn wsX6_comesOff (wsX4_sayable) := ggX6_comesOff_X4_sayable
set_option maxRecDepth 20000 in
theorem ggX6_comesOff_X0_fight : GoodIn wsX6_comesOff wsX0_fight := goodIn_r _ [32, 33, 34, 35, 36, 37, 38, 30, 39, 40, 41, 42, 43, 44, 45, 46, 47, 48, 49, 50, 51, 52, 53, 13, 54, 55, 56, 57, 58, 59, 60, 61, 62, 63, 64, 12, 14, 65, 4, 66, 67, 68, 69, 70, 87, 88, 89, 90, 91, 92, 93, 82, 83, 84, 85, 86] (by decide +kernel) (by decide +kernel)
set_option maxRecDepth 20000 in
theorem gX6_comesOff_X0_fight_n144 : GoodIn wsX6_comesOff (wsX0_fight) := ggX6_comesOff_X0_fight
set_option maxRecDepth 20000 in
theorem ggX6_comesOff_X0_moverPays : GoodIn wsX6_comesOff wsX0_moverPays := goodIn_r _ [73, 35, 87, 88, 89, 90, 91, 92, 93] (by decide +kernel) (by decide +kernel)
set_option maxRecDepth 20000 in
theorem gX6_comesOff_X0_moverPays_n218 : GoodIn wsX6_comesOff (wsX0_moverPays) := ggX6_comesOff_X0_moverPays
theorem dX6_comesOff_0 : decode cX6_comesOff 0 = .ok (.iload_n 2, 1) := by decide +kernel
theorem dX6_comesOff_1 : decode cX6_comesOff 1 = .ok (.aload_n 0, 1) := by decide +kernel
theorem dX6_comesOff_2 : decode cX6_comesOff 2 = .ok (.getfield 19, 3) := by decide +kernel
theorem dX6_comesOff_5 : decode cX6_comesOff 5 = .ok (.iload_n 3, 1) := by decide +kernel
theorem dX6_comesOff_6 : decode cX6_comesOff 6 = .ok (.invokevirtual 131, 3) := by decide +kernel
theorem dX6_comesOff_9 : decode cX6_comesOff 9 = .ok (.iand, 1) := by decide +kernel
theorem dX6_comesOff_10 : decode cX6_comesOff 10 = .ok (.istore 5, 2) := by decide +kernel
theorem dX6_comesOff_12 : decode cX6_comesOff 12 = .ok (.aload_n 0, 1) := by decide +kernel
theorem dX6_comesOff_13 : decode cX6_comesOff 13 = .ok (.getfield 19, 3) := by decide +kernel
theorem dX6_comesOff_16 : decode cX6_comesOff 16 = .ok (.iload_n 3, 1) := by decide +kernel
theorem dX6_comesOff_17 : decode cX6_comesOff 17 = .ok (.iload_n 1, 1) := by decide +kernel
theorem dX6_comesOff_18 : decode cX6_comesOff 18 = .ok (.invokevirtual 140, 3) := by decide +kernel
theorem dX6_comesOff_21 : decode cX6_comesOff 21 = .ok (.istore 6, 2) := by decide +kernel
theorem dX6_comesOff_23 : decode cX6_comesOff 23 = .ok (.iload 4, 2) := by decide +kernel
theorem dX6_comesOff_25 : decode cX6_comesOff 25 = .ok (.ifCond .eq 34, 3) := by decide +kernel
theorem dX6_comesOff_28 : decode cX6_comesOff 28 = .ok (.aload_n 0, 1) := by decide +kernel
theorem dX6_comesOff_29 : decode cX6_comesOff 29 = .ok (.getfield 34, 3) := by decide +kernel
theorem dX6_comesOff_32 : decode cX6_comesOff 32 = .ok (.iload 5, 2) := by decide +kernel
theorem dX6_comesOff_34 : decode cX6_comesOff 34 = .ok (.iconst 0, 1) := by decide +kernel
theorem dX6_comesOff_35 : decode cX6_comesOff 35 = .ok (.iload 5, 2) := by decide +kernel
theorem dX6_comesOff_37 : decode cX6_comesOff 37 = .ok (.iload 6, 2) := by decide +kernel
theorem dX6_comesOff_39 : decode cX6_comesOff 39 = .ok (.iconst 1, 1) := by decide +kernel
theorem dX6_comesOff_40 : decode cX6_comesOff 40 = .ok (.invokevirtual 144, 3) := by decide +kernel
theorem dX6_comesOff_43 : decode cX6_comesOff 43 = .ok (.aload_n 0, 1) := by decide +kernel
theorem dX6_comesOff_44 : decode cX6_comesOff 44 = .ok (.getfield 34, 3) := by decide +kernel
theorem dX6_comesOff_47 : decode cX6_comesOff 47 = .ok (.invokevirtual 218, 3) := by decide +kernel
theorem dX6_comesOff_50 : decode cX6_comesOff 50 = .ok (.ifCond .ne 7, 3) := by decide +kernel
theorem dX6_comesOff_53 : decode cX6_comesOff 53 = .ok (.iconst 1, 1) := by decide +kernel
theorem dX6_comesOff_54 : decode cX6_comesOff 54 = .ok (.goto 4, 3) := by decide +kernel
theorem dX6_comesOff_57 : decode cX6_comesOff 57 = .ok (.iconst 0, 1) := by decide +kernel
theorem dX6_comesOff_58 : decode cX6_comesOff 58 = .ok (.ireturn, 1) := by decide +kernel
theorem dX6_comesOff_59 : decode cX6_comesOff 59 = .ok (.aload_n 0, 1) := by decide +kernel
theorem dX6_comesOff_60 : decode cX6_comesOff 60 = .ok (.getfield 34, 3) := by decide +kernel
theorem dX6_comesOff_63 : decode cX6_comesOff 63 = .ok (.iload 6, 2) := by decide +kernel
theorem dX6_comesOff_65 : decode cX6_comesOff 65 = .ok (.iconst 0, 1) := by decide +kernel
theorem dX6_comesOff_66 : decode cX6_comesOff 66 = .ok (.iload 6, 2) := by decide +kernel
theorem dX6_comesOff_68 : decode cX6_comesOff 68 = .ok (.iload 5, 2) := by decide +kernel
theorem dX6_comesOff_70 : decode cX6_comesOff 70 = .ok (.iconst 1, 1) := by decide +kernel
theorem dX6_comesOff_71 : decode cX6_comesOff 71 = .ok (.invokevirtual 144, 3) := by decide +kernel
theorem dX6_comesOff_74 : decode cX6_comesOff 74 = .ok (.aload_n 0, 1) := by decide +kernel
theorem dX6_comesOff_75 : decode cX6_comesOff 75 = .ok (.getfield 34, 3) := by decide +kernel
theorem dX6_comesOff_78 : decode cX6_comesOff 78 = .ok (.invokevirtual 218, 3) := by decide +kernel
theorem dX6_comesOff_81 : decode cX6_comesOff 81 = .ok (.ireturn, 1) := by decide +kernel
set_option maxRecDepth 20000 in
theorem ggX6_goodMatches_X6_comesOff : GoodIn wsX6_goodMatches wsX6_comesOff := goodIn_r _ [5, 6, 7, 8, 9, 10, 11, 12, 13, 14, 15, 16, 17, 4, 18, 19, 20, 21, 22, 23, 24, 25, 26, 27, 28, 29, 30, 31, 32, 33, 34, 35, 36, 37, 38, 39, 40, 41, 42, 43, 44, 45, 46, 47, 48, 49, 50, 51, 52, 53, 54, 55, 56, 57, 58, 59, 60, 61, 62, 63, 64, 65, 66, 67, 68, 69, 70, 71, 72, 73, 74, 75, 76, 77, 78, 79, 80, 81, 82, 83, 84, 85, 86, 87, 88, 89, 90, 91, 92, 93, 94, 95, 96, 97] (by decide +kernel) (by decide +kernel)
set_option maxRecDepth 20000 in
theorem gX6_goodMatches_X6_comesOff : GoodIn wsX6_goodMatches (wsV RX6 162 RX6 yX6_comesOff wsX6_comesOff) := goodIn_app (goodIn_of _ (by decide +kernel)) ggX6_goodMatches_X6_comesOff
theorem dX6_goodMatches_0 : decode cX6_goodMatches 0 = .ok (.iconst 0, 1) := by decide +kernel
theorem dX6_goodMatches_1 : decode cX6_goodMatches 1 = .ok (.istore_n 3, 1) := by decide +kernel
theorem dX6_goodMatches_2 : decode cX6_goodMatches 2 = .ok (.iconst 0, 1) := by decide +kernel
theorem dX6_goodMatches_3 : decode cX6_goodMatches 3 = .ok (.istore 4, 2) := by decide +kernel
theorem dX6_goodMatches_5 : decode cX6_goodMatches 5 = .ok (.iload 4, 2) := by decide +kernel
theorem dX6_goodMatches_7 : decode cX6_goodMatches 7 = .ok (.iconst 5, 1) := by decide +kernel
theorem dX6_goodMatches_8 : decode cX6_goodMatches 8 = .ok (.if_icmp .ge 48, 3) := by decide +kernel
theorem dX6_goodMatches_11 : decode cX6_goodMatches 11 = .ok (.iload 4, 2) := by decide +kernel
theorem dX6_goodMatches_13 : decode cX6_goodMatches 13 = .ok (.iload_n 1, 1) := by decide +kernel
theorem dX6_goodMatches_14 : decode cX6_goodMatches 14 = .ok (.if_icmp .ne 6, 3) := by decide +kernel
theorem dX6_goodMatches_17 : decode cX6_goodMatches 17 = .ok (.goto 33, 3) := by decide +kernel
theorem dX6_goodMatches_20 : decode cX6_goodMatches 20 = .ok (.aload_n 0, 1) := by decide +kernel
theorem dX6_goodMatches_21 : decode cX6_goodMatches 21 = .ok (.iload_n 1, 1) := by decide +kernel
theorem dX6_goodMatches_22 : decode cX6_goodMatches 22 = .ok (.iload_n 2, 1) := by decide +kernel
theorem dX6_goodMatches_23 : decode cX6_goodMatches 23 = .ok (.iload 4, 2) := by decide +kernel
theorem dX6_goodMatches_25 : decode cX6_goodMatches 25 = .ok (.iconst 1, 1) := by decide +kernel
theorem dX6_goodMatches_26 : decode cX6_goodMatches 26 = .ok (.invokevirtual 162, 3) := by decide +kernel
theorem dX6_goodMatches_29 : decode cX6_goodMatches 29 = .ok (.ifCond .eq 6, 3) := by decide +kernel
theorem dX6_goodMatches_32 : decode cX6_goodMatches 32 = .ok (.iinc 3 1, 3) := by decide +kernel
theorem dX6_goodMatches_35 : decode cX6_goodMatches 35 = .ok (.aload_n 0, 1) := by decide +kernel
theorem dX6_goodMatches_36 : decode cX6_goodMatches 36 = .ok (.iload_n 1, 1) := by decide +kernel
theorem dX6_goodMatches_37 : decode cX6_goodMatches 37 = .ok (.iload_n 2, 1) := by decide +kernel
theorem dX6_goodMatches_38 : decode cX6_goodMatches 38 = .ok (.iload 4, 2) := by decide +kernel
theorem dX6_goodMatches_40 : decode cX6_goodMatches 40 = .ok (.iconst 0, 1) := by decide +kernel
theorem dX6_goodMatches_41 : decode cX6_goodMatches 41 = .ok (.invokevirtual 162, 3) := by decide +kernel
theorem dX6_goodMatches_44 : decode cX6_goodMatches 44 = .ok (.ifCond .eq 6, 3) := by decide +kernel
theorem dX6_goodMatches_47 : decode cX6_goodMatches 47 = .ok (.iinc 3 1, 3) := by decide +kernel
theorem dX6_goodMatches_50 : decode cX6_goodMatches 50 = .ok (.iinc 4 1, 3) := by decide +kernel
theorem dX6_goodMatches_53 : decode cX6_goodMatches 53 = .ok (.goto (-48), 3) := by decide +kernel
theorem dX6_goodMatches_56 : decode cX6_goodMatches 56 = .ok (.iload_n 3, 1) := by decide +kernel
theorem dX6_goodMatches_57 : decode cX6_goodMatches 57 = .ok (.ireturn, 1) := by decide +kernel
theorem dX7_init_0 : decode cX7_init 0 = .ok (.aload_n 0, 1) := by decide +kernel
theorem dX7_init_1 : decode cX7_init 1 = .ok (.invokespecial 1, 3) := by decide +kernel
theorem dX7_init_4 : decode cX7_init 4 = .ok (.aload_n 0, 1) := by decide +kernel
theorem dX7_init_5 : decode cX7_init 5 = .ok (.bipush 40, 2) := by decide +kernel
theorem dX7_init_7 : decode cX7_init 7 = .ok (.newarray .int, 2) := by decide +kernel
theorem dX7_init_9 : decode cX7_init 9 = .ok (.putfield 7, 3) := by decide +kernel
theorem dX7_init_12 : decode cX7_init 12 = .ok (.aload_n 0, 1) := by decide +kernel
theorem dX7_init_13 : decode cX7_init 13 = .ok (.bipush 10, 2) := by decide +kernel
