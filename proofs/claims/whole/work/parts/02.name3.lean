theorem dX7_canSay_18 : decode cX7_canSay 18 = .ok (.aload_n 0, 1) := by decide +kernel
theorem dX7_canSay_19 : decode cX7_canSay 19 = .ok (.getfield 34, 3) := by decide +kernel
theorem dX7_canSay_22 : decode cX7_canSay 22 = .ok (.iload_n 2, 1) := by decide +kernel
theorem dX7_canSay_23 : decode cX7_canSay 23 = .ok (.dup2, 1) := by decide +kernel
theorem dX7_canSay_24 : decode cX7_canSay 24 = .ok (.iaload, 1) := by decide +kernel
theorem dX7_canSay_25 : decode cX7_canSay 25 = .ok (.iconst 1, 1) := by decide +kernel
theorem dX7_canSay_26 : decode cX7_canSay 26 = .ok (.iadd, 1) := by decide +kernel
theorem dX7_canSay_27 : decode cX7_canSay 27 = .ok (.iastore, 1) := by decide +kernel
theorem dX7_canSay_28 : decode cX7_canSay 28 = .ok (.aload_n 0, 1) := by decide +kernel
theorem dX7_canSay_29 : decode cX7_canSay 29 = .ok (.getfield 34, 3) := by decide +kernel
theorem dX7_canSay_32 : decode cX7_canSay 32 = .ok (.iload_n 2, 1) := by decide +kernel
theorem dX7_canSay_33 : decode cX7_canSay 33 = .ok (.iaload, 1) := by decide +kernel
theorem dX7_canSay_34 : decode cX7_canSay 34 = .ok (.bipush 9, 2) := by decide +kernel
theorem dX7_canSay_36 : decode cX7_canSay 36 = .ok (.if_icmp .le 9, 3) := by decide +kernel
theorem dX7_canSay_39 : decode cX7_canSay 39 = .ok (.iinc 2 (-1), 3) := by decide +kernel
theorem dX7_canSay_42 : decode cX7_canSay 42 = .ok (.goto (-33), 3) := by decide +kernel
theorem dX7_canSay_45 : decode cX7_canSay 45 = .ok (.aload_n 0, 1) := by decide +kernel
theorem dX7_canSay_46 : decode cX7_canSay 46 = .ok (.iload_n 2, 1) := by decide +kernel
theorem dX7_canSay_47 : decode cX7_canSay 47 = .ok (.iload_n 1, 1) := by decide +kernel
theorem dX7_canSay_48 : decode cX7_canSay 48 = .ok (.invokevirtual 132, 3) := by decide +kernel
theorem dX7_canSay_51 : decode cX7_canSay 51 = .ok (.ifCond .eq (-42), 3) := by decide +kernel
theorem dX7_canSay_54 : decode cX7_canSay 54 = .ok (.iinc 2 1, 3) := by decide +kernel
theorem dX7_canSay_57 : decode cX7_canSay 57 = .ok (.iload_n 2, 1) := by decide +kernel
theorem dX7_canSay_58 : decode cX7_canSay 58 = .ok (.iload_n 1, 1) := by decide +kernel
theorem dX7_canSay_59 : decode cX7_canSay 59 = .ok (.if_icmp .ge (-50), 3) := by decide +kernel
theorem dX7_canSay_62 : decode cX7_canSay 62 = .ok (.aload_n 0, 1) := by decide +kernel
theorem dX7_canSay_63 : decode cX7_canSay 63 = .ok (.getfield 34, 3) := by decide +kernel
theorem dX7_canSay_66 : decode cX7_canSay 66 = .ok (.iload_n 2, 1) := by decide +kernel
theorem dX7_canSay_67 : decode cX7_canSay 67 = .ok (.iconst (-1), 1) := by decide +kernel
theorem dX7_canSay_68 : decode cX7_canSay 68 = .ok (.iastore, 1) := by decide +kernel
theorem dX7_canSay_69 : decode cX7_canSay 69 = .ok (.goto (-60), 3) := by decide +kernel
theorem dX7_canSay_72 : decode cX7_canSay 72 = .ok (.iload_n 2, 1) := by decide +kernel
theorem dX7_canSay_73 : decode cX7_canSay 73 = .ok (.iload_n 1, 1) := by decide +kernel
theorem dX7_canSay_74 : decode cX7_canSay 74 = .ok (.if_icmp .ne 7, 3) := by decide +kernel
theorem dX7_canSay_77 : decode cX7_canSay 77 = .ok (.iconst 1, 1) := by decide +kernel
theorem dX7_canSay_78 : decode cX7_canSay 78 = .ok (.goto 4, 3) := by decide +kernel
theorem dX7_canSay_81 : decode cX7_canSay 81 = .ok (.iconst 0, 1) := by decide +kernel
theorem dX7_canSay_82 : decode cX7_canSay 82 = .ok (.ireturn, 1) := by decide +kernel
set_option maxRecDepth 20000 in
theorem ggX7_layRow_X7_bits : GoodIn wsX7_layRow wsX7_bits := goodIn_r _ [5] (by decide +kernel) (by decide +kernel)
set_option maxRecDepth 20000 in
theorem gX7_layRow_X7_bits : GoodIn wsX7_layRow (va_wsS RX7 81 yX7_bits wsX7_bits) := goodIn_app (goodIn_of _ (by decide +kernel)) ggX7_layRow_X7_bits
theorem dX7_layRow_0 : decode cX7_layRow 0 = .ok (.iload_n 1, 1) := by decide +kernel
theorem dX7_layRow_1 : decode cX7_layRow 1 = .ok (.istore 4, 2) := by decide +kernel
theorem dX7_layRow_3 : decode cX7_layRow 3 = .ok (.iconst 0, 1) := by decide +kernel
theorem dX7_layRow_4 : decode cX7_layRow 4 = .ok (.istore 5, 2) := by decide +kernel
theorem dX7_layRow_6 : decode cX7_layRow 6 = .ok (.iconst 0, 1) := by decide +kernel
theorem dX7_layRow_7 : decode cX7_layRow 7 = .ok (.istore 6, 2) := by decide +kernel
theorem dX7_layRow_9 : decode cX7_layRow 9 = .ok (.iload 6, 2) := by decide +kernel
theorem dX7_layRow_11 : decode cX7_layRow 11 = .ok (.iload_n 3, 1) := by decide +kernel
theorem dX7_layRow_12 : decode cX7_layRow 12 = .ok (.if_icmp .ge 40, 3) := by decide +kernel
theorem dX7_layRow_15 : decode cX7_layRow 15 = .ok (.aload_n 0, 1) := by decide +kernel
theorem dX7_layRow_16 : decode cX7_layRow 16 = .ok (.getfield 31, 3) := by decide +kernel
theorem dX7_layRow_19 : decode cX7_layRow 19 = .ok (.iload 6, 2) := by decide +kernel
theorem dX7_layRow_21 : decode cX7_layRow 21 = .ok (.iload 4, 2) := by decide +kernel
theorem dX7_layRow_23 : decode cX7_layRow 23 = .ok (.iconst 5, 1) := by decide +kernel
theorem dX7_layRow_24 : decode cX7_layRow 24 = .ok (.irem, 1) := by decide +kernel
theorem dX7_layRow_25 : decode cX7_layRow 25 = .ok (.iastore, 1) := by decide +kernel
theorem dX7_layRow_26 : decode cX7_layRow 26 = .ok (.iload 4, 2) := by decide +kernel
theorem dX7_layRow_28 : decode cX7_layRow 28 = .ok (.iconst 5, 1) := by decide +kernel
theorem dX7_layRow_29 : decode cX7_layRow 29 = .ok (.idiv, 1) := by decide +kernel
theorem dX7_layRow_30 : decode cX7_layRow 30 = .ok (.istore 4, 2) := by decide +kernel
theorem dX7_layRow_32 : decode cX7_layRow 32 = .ok (.iload 5, 2) := by decide +kernel
theorem dX7_layRow_34 : decode cX7_layRow 34 = .ok (.iconst 1, 1) := by decide +kernel
theorem dX7_layRow_35 : decode cX7_layRow 35 = .ok (.aload_n 0, 1) := by decide +kernel
theorem dX7_layRow_36 : decode cX7_layRow 36 = .ok (.getfield 31, 3) := by decide +kernel
theorem dX7_layRow_39 : decode cX7_layRow 39 = .ok (.iload 6, 2) := by decide +kernel
theorem dX7_layRow_41 : decode cX7_layRow 41 = .ok (.iaload, 1) := by decide +kernel
theorem dX7_layRow_42 : decode cX7_layRow 42 = .ok (.ishl, 1) := by decide +kernel
theorem dX7_layRow_43 : decode cX7_layRow 43 = .ok (.ior, 1) := by decide +kernel
theorem dX7_layRow_44 : decode cX7_layRow 44 = .ok (.istore 5, 2) := by decide +kernel
theorem dX7_layRow_46 : decode cX7_layRow 46 = .ok (.iinc 6 1, 3) := by decide +kernel
theorem dX7_layRow_49 : decode cX7_layRow 49 = .ok (.goto (-40), 3) := by decide +kernel
theorem dX7_layRow_52 : decode cX7_layRow 52 = .ok (.iload 5, 2) := by decide +kernel
theorem dX7_layRow_54 : decode cX7_layRow 54 = .ok (.iload_n 2, 1) := by decide +kernel
theorem dX7_layRow_55 : decode cX7_layRow 55 = .ok (.if_icmp .ne 16, 3) := by decide +kernel
theorem dX7_layRow_58 : decode cX7_layRow 58 = .ok (.iload 5, 2) := by decide +kernel
theorem dX7_layRow_60 : decode cX7_layRow 60 = .ok (.invokestatic 81, 3) := by decide +kernel
theorem dX7_layRow_63 : decode cX7_layRow 63 = .ok (.iload_n 3, 1) := by decide +kernel
theorem dX7_layRow_64 : decode cX7_layRow 64 = .ok (.if_icmp .ne 7, 3) := by decide +kernel
theorem dX7_layRow_67 : decode cX7_layRow 67 = .ok (.iconst 1, 1) := by decide +kernel
theorem dX7_layRow_68 : decode cX7_layRow 68 = .ok (.goto 4, 3) := by decide +kernel
theorem dX7_layRow_71 : decode cX7_layRow 71 = .ok (.iconst 0, 1) := by decide +kernel
theorem dX7_layRow_72 : decode cX7_layRow 72 = .ok (.ireturn, 1) := by decide +kernel
set_option maxRecDepth 20000 in
theorem ggX7_layDay_X7_bits : GoodIn wsX7_layDay wsX7_bits := goodIn_r _ [5] (by decide +kernel) (by decide +kernel)
set_option maxRecDepth 20000 in
theorem gX7_layDay_X7_bits : GoodIn wsX7_layDay (va_wsS RX7 81 yX7_bits wsX7_bits) := goodIn_app (goodIn_of _ (by decide +kernel)) ggX7_layDay_X7_bits
set_option maxRecDepth 20000 in
theorem ggX7_layDay_X7_layRow : GoodIn wsX7_layDay wsX7_layRow := goodIn_r _ [9, 10, 2, 3, 4, 5, 31, 32, 33, 34, 35, 36, 37, 38, 39, 40, 41, 42, 43, 44, 45, 46, 47, 48] (by decide +kernel) (by decide +kernel)
set_option maxRecDepth 20000 in
theorem gX7_layDay_X7_layRow : GoodIn wsX7_layDay (wsV RX7 135 RX7 yX7_layRow wsX7_layRow) := goodIn_app (goodIn_of _ (by decide +kernel)) ggX7_layDay_X7_layRow
set_option maxRecDepth 20000 in
theorem ggX7_layDay_X7_canSay : GoodIn wsX7_layDay wsX7_canSay := goodIn_r _ [14, 15, 16, 17, 18, 4, 19, 20, 10, 21, 22, 23, 24, 25, 26, 27, 28, 29, 30, 31, 32, 33, 34, 35, 36, 37, 38, 39, 40, 41, 42, 43, 44, 45, 46, 47, 48] (by decide +kernel) (by decide +kernel)
set_option maxRecDepth 20000 in
theorem gX7_layDay_X7_canSay : GoodIn wsX7_layDay (wsV RX7 138 RX7 yX7_canSay wsX7_canSay) := goodIn_app (goodIn_of _ (by decide +kernel)) ggX7_layDay_X7_canSay
theorem dX7_layDay_0 : decode cX7_layDay 0 = .ok (.iload_n 1, 1) := by decide +kernel
theorem dX7_layDay_1 : decode cX7_layDay 1 = .ok (.invokestatic 81, 3) := by decide +kernel
theorem dX7_layDay_4 : decode cX7_layDay 4 = .ok (.istore_n 2, 1) := by decide +kernel
theorem dX7_layDay_5 : decode cX7_layDay 5 = .ok (.iconst 1, 1) := by decide +kernel
theorem dX7_layDay_6 : decode cX7_layDay 6 = .ok (.istore_n 3, 1) := by decide +kernel
theorem dX7_layDay_7 : decode cX7_layDay 7 = .ok (.iconst 0, 1) := by decide +kernel
theorem dX7_layDay_8 : decode cX7_layDay 8 = .ok (.istore 4, 2) := by decide +kernel
theorem dX7_layDay_10 : decode cX7_layDay 10 = .ok (.iload 4, 2) := by decide +kernel
theorem dX7_layDay_12 : decode cX7_layDay 12 = .ok (.iload_n 2, 1) := by decide +kernel
theorem dX7_layDay_13 : decode cX7_layDay 13 = .ok (.if_icmp .ge 13, 3) := by decide +kernel
theorem dX7_layDay_16 : decode cX7_layDay 16 = .ok (.iload_n 3, 1) := by decide +kernel
theorem dX7_layDay_17 : decode cX7_layDay 17 = .ok (.iconst 5, 1) := by decide +kernel
theorem dX7_layDay_18 : decode cX7_layDay 18 = .ok (.imul, 1) := by decide +kernel
theorem dX7_layDay_19 : decode cX7_layDay 19 = .ok (.istore_n 3, 1) := by decide +kernel
theorem dX7_layDay_20 : decode cX7_layDay 20 = .ok (.iinc 4 1, 3) := by decide +kernel
theorem dX7_layDay_23 : decode cX7_layDay 23 = .ok (.goto (-13), 3) := by decide +kernel
theorem dX7_layDay_26 : decode cX7_layDay 26 = .ok (.aload_n 0, 1) := by decide +kernel
theorem dX7_layDay_27 : decode cX7_layDay 27 = .ok (.getfield 37, 3) := by decide +kernel
theorem dX7_layDay_30 : decode cX7_layDay 30 = .ok (.iload_n 1, 1) := by decide +kernel
theorem dX7_layDay_31 : decode cX7_layDay 31 = .ok (.iload_n 2, 1) := by decide +kernel
theorem dX7_layDay_32 : decode cX7_layDay 32 = .ok (.ifCond .ne 7, 3) := by decide +kernel
theorem dX7_layDay_35 : decode cX7_layDay 35 = .ok (.iconst 1, 1) := by decide +kernel
theorem dX7_layDay_36 : decode cX7_layDay 36 = .ok (.goto 4, 3) := by decide +kernel
theorem dX7_layDay_39 : decode cX7_layDay 39 = .ok (.iconst 0, 1) := by decide +kernel
theorem dX7_layDay_40 : decode cX7_layDay 40 = .ok (.bastore, 1) := by decide +kernel
theorem dX7_layDay_41 : decode cX7_layDay 41 = .ok (.iconst 0, 1) := by decide +kernel
theorem dX7_layDay_42 : decode cX7_layDay 42 = .ok (.istore 4, 2) := by decide +kernel
theorem dX7_layDay_44 : decode cX7_layDay 44 = .ok (.iload 4, 2) := by decide +kernel
theorem dX7_layDay_46 : decode cX7_layDay 46 = .ok (.iload_n 3, 1) := by decide +kernel
theorem dX7_layDay_47 : decode cX7_layDay 47 = .ok (.if_icmp .ge 48, 3) := by decide +kernel
theorem dX7_layDay_50 : decode cX7_layDay 50 = .ok (.aload_n 0, 1) := by decide +kernel
theorem dX7_layDay_51 : decode cX7_layDay 51 = .ok (.getfield 37, 3) := by decide +kernel
theorem dX7_layDay_54 : decode cX7_layDay 54 = .ok (.iload_n 1, 1) := by decide +kernel
theorem dX7_layDay_55 : decode cX7_layDay 55 = .ok (.baload, 1) := by decide +kernel
theorem dX7_layDay_56 : decode cX7_layDay 56 = .ok (.ifCond .ne 39, 3) := by decide +kernel
theorem dX7_layDay_59 : decode cX7_layDay 59 = .ok (.aload_n 0, 1) := by decide +kernel
theorem dX7_layDay_60 : decode cX7_layDay 60 = .ok (.getfield 37, 3) := by decide +kernel
theorem dX7_layDay_63 : decode cX7_layDay 63 = .ok (.iload_n 1, 1) := by decide +kernel
theorem dX7_layDay_64 : decode cX7_layDay 64 = .ok (.aload_n 0, 1) := by decide +kernel
theorem dX7_layDay_65 : decode cX7_layDay 65 = .ok (.iload 4, 2) := by decide +kernel
theorem dX7_layDay_67 : decode cX7_layDay 67 = .ok (.iload_n 1, 1) := by decide +kernel
theorem dX7_layDay_68 : decode cX7_layDay 68 = .ok (.iload_n 2, 1) := by decide +kernel
theorem dX7_layDay_69 : decode cX7_layDay 69 = .ok (.invokevirtual 135, 3) := by decide +kernel
theorem dX7_layDay_72 : decode cX7_layDay 72 = .ok (.ifCond .eq 15, 3) := by decide +kernel
theorem dX7_layDay_75 : decode cX7_layDay 75 = .ok (.aload_n 0, 1) := by decide +kernel
theorem dX7_layDay_76 : decode cX7_layDay 76 = .ok (.iload_n 2, 1) := by decide +kernel
theorem dX7_layDay_77 : decode cX7_layDay 77 = .ok (.invokevirtual 138, 3) := by decide +kernel
theorem dX7_layDay_80 : decode cX7_layDay 80 = .ok (.ifCond .eq 7, 3) := by decide +kernel
theorem dX7_layDay_83 : decode cX7_layDay 83 = .ok (.iconst 1, 1) := by decide +kernel
theorem dX7_layDay_84 : decode cX7_layDay 84 = .ok (.goto 4, 3) := by decide +kernel
theorem dX7_layDay_87 : decode cX7_layDay 87 = .ok (.iconst 0, 1) := by decide +kernel
theorem dX7_layDay_88 : decode cX7_layDay 88 = .ok (.bastore, 1) := by decide +kernel
theorem dX7_layDay_89 : decode cX7_layDay 89 = .ok (.iinc 4 1, 3) := by decide +kernel
theorem dX7_layDay_92 : decode cX7_layDay 92 = .ok (.goto (-48), 3) := by decide +kernel
theorem dX7_layDay_95 : decode cX7_layDay 95 = .ok (.return_, 1) := by decide +kernel
set_option maxRecDepth 20000 in
theorem ggX7_crowd_X7_in : GoodIn wsX7_crowd wsX7_in := goodIn_r _ [6] (by decide +kernel) (by decide +kernel)
set_option maxRecDepth 20000 in
theorem gX7_crowd_X7_in : GoodIn wsX7_crowd (va_wsS RX7 59 yX7_in wsX7_in) := goodIn_app (goodIn_of _ (by decide +kernel)) ggX7_crowd_X7_in
set_option maxRecDepth 20000 in
theorem ggX7_crowd_X7_layDay : GoodIn wsX7_crowd wsX7_layDay := goodIn_r _ [10, 2, 11, 12, 5, 13, 14, 15, 16, 17, 18, 19, 20, 21, 22, 23, 24, 25, 26, 27, 28, 29, 30, 31, 32, 33, 34, 35, 36, 37, 38, 39, 40, 41, 42, 43, 44, 45, 46, 47, 48, 49, 50, 51, 52, 53, 54, 55, 56] (by decide +kernel) (by decide +kernel)
set_option maxRecDepth 20000 in
theorem gX7_crowd_X7_layDay : GoodIn wsX7_crowd (wsV RX7 141 RX7 yX7_layDay wsX7_layDay) := goodIn_app (goodIn_of _ (by decide +kernel)) ggX7_crowd_X7_layDay
theorem dX7_crowd_0 : decode cX7_crowd 0 = .ok (.iload_n 1, 1) := by decide +kernel
theorem dX7_crowd_1 : decode cX7_crowd 1 = .ok (.iconst 0, 1) := by decide +kernel
theorem dX7_crowd_2 : decode cX7_crowd 2 = .ok (.bipush 31, 2) := by decide +kernel
theorem dX7_crowd_4 : decode cX7_crowd 4 = .ok (.invokestatic 59, 3) := by decide +kernel
theorem dX7_crowd_7 : decode cX7_crowd 7 = .ok (.ifCond .eq 12, 3) := by decide +kernel
theorem dX7_crowd_10 : decode cX7_crowd 10 = .ok (.iload_n 2, 1) := by decide +kernel
theorem dX7_crowd_11 : decode cX7_crowd 11 = .ok (.iconst 0, 1) := by decide +kernel
theorem dX7_crowd_12 : decode cX7_crowd 12 = .ok (.iconst 1, 1) := by decide +kernel
theorem dX7_crowd_13 : decode cX7_crowd 13 = .ok (.invokestatic 59, 3) := by decide +kernel
theorem dX7_crowd_16 : decode cX7_crowd 16 = .ok (.ifCond .ne 6, 3) := by decide +kernel
theorem dX7_crowd_19 : decode cX7_crowd 19 = .ok (.bipush (-2), 2) := by decide +kernel
theorem dX7_crowd_21 : decode cX7_crowd 21 = .ok (.ireturn, 1) := by decide +kernel
theorem dX7_crowd_22 : decode cX7_crowd 22 = .ok (.iconst 0, 1) := by decide +kernel
theorem dX7_crowd_23 : decode cX7_crowd 23 = .ok (.istore_n 3, 1) := by decide +kernel
theorem dX7_crowd_24 : decode cX7_crowd 24 = .ok (.iload_n 3, 1) := by decide +kernel
theorem dX7_crowd_25 : decode cX7_crowd 25 = .ok (.bipush 32, 2) := by decide +kernel
theorem dX7_crowd_27 : decode cX7_crowd 27 = .ok (.if_icmp .ge 148, 3) := by decide +kernel
theorem dX7_crowd_30 : decode cX7_crowd 30 = .ok (.iload_n 3, 1) := by decide +kernel
theorem dX7_crowd_31 : decode cX7_crowd 31 = .ok (.iload_n 1, 1) := by decide +kernel
theorem dX7_crowd_32 : decode cX7_crowd 32 = .ok (.iconst (-1), 1) := by decide +kernel
theorem dX7_crowd_33 : decode cX7_crowd 33 = .ok (.ixor, 1) := by decide +kernel
theorem dX7_crowd_34 : decode cX7_crowd 34 = .ok (.iand, 1) := by decide +kernel
theorem dX7_crowd_35 : decode cX7_crowd 35 = .ok (.ifCond .ne 134, 3) := by decide +kernel
theorem dX7_crowd_38 : decode cX7_crowd 38 = .ok (.aload_n 0, 1) := by decide +kernel
theorem dX7_crowd_39 : decode cX7_crowd 39 = .ok (.iload_n 3, 1) := by decide +kernel
theorem dX7_crowd_40 : decode cX7_crowd 40 = .ok (.invokevirtual 141, 3) := by decide +kernel
theorem dX7_crowd_43 : decode cX7_crowd 43 = .ok (.aload_n 0, 1) := by decide +kernel
theorem dX7_crowd_44 : decode cX7_crowd 44 = .ok (.getfield 41, 3) := by decide +kernel
theorem dX7_crowd_47 : decode cX7_crowd 47 = .ok (.iload_n 3, 1) := by decide +kernel
theorem dX7_crowd_48 : decode cX7_crowd 48 = .ok (.iload_n 3, 1) := by decide +kernel
theorem dX7_crowd_49 : decode cX7_crowd 49 = .ok (.ifCond .ne 7, 3) := by decide +kernel
theorem dX7_crowd_52 : decode cX7_crowd 52 = .ok (.iconst 0, 1) := by decide +kernel
theorem dX7_crowd_53 : decode cX7_crowd 53 = .ok (.goto 5, 3) := by decide +kernel
theorem dX7_crowd_56 : decode cX7_crowd 56 = .ok (.bipush (-6), 2) := by decide +kernel
theorem dX7_crowd_58 : decode cX7_crowd 58 = .ok (.iastore, 1) := by decide +kernel
theorem dX7_crowd_59 : decode cX7_crowd 59 = .ok (.iconst 1, 1) := by decide +kernel
theorem dX7_crowd_60 : decode cX7_crowd 60 = .ok (.istore 4, 2) := by decide +kernel
theorem dX7_crowd_62 : decode cX7_crowd 62 = .ok (.iload 4, 2) := by decide +kernel
theorem dX7_crowd_64 : decode cX7_crowd 64 = .ok (.iload_n 3, 1) := by decide +kernel
theorem dX7_crowd_65 : decode cX7_crowd 65 = .ok (.if_icmp .gt 104, 3) := by decide +kernel
theorem dX7_crowd_68 : decode cX7_crowd 68 = .ok (.iload 4, 2) := by decide +kernel
theorem dX7_crowd_70 : decode cX7_crowd 70 = .ok (.iload_n 3, 1) := by decide +kernel
theorem dX7_crowd_71 : decode cX7_crowd 71 = .ok (.iconst (-1), 1) := by decide +kernel
theorem dX7_crowd_72 : decode cX7_crowd 72 = .ok (.ixor, 1) := by decide +kernel
theorem dX7_crowd_73 : decode cX7_crowd 73 = .ok (.iand, 1) := by decide +kernel
theorem dX7_crowd_74 : decode cX7_crowd 74 = .ok (.ifCond .ne 31, 3) := by decide +kernel
theorem dX7_crowd_77 : decode cX7_crowd 77 = .ok (.aload_n 0, 1) := by decide +kernel
theorem dX7_crowd_78 : decode cX7_crowd 78 = .ok (.getfield 37, 3) := by decide +kernel
theorem dX7_crowd_81 : decode cX7_crowd 81 = .ok (.iload 4, 2) := by decide +kernel
theorem dX7_crowd_83 : decode cX7_crowd 83 = .ok (.baload, 1) := by decide +kernel
theorem dX7_crowd_84 : decode cX7_crowd 84 = .ok (.ifCond .eq 21, 3) := by decide +kernel
theorem dX7_crowd_87 : decode cX7_crowd 87 = .ok (.aload_n 0, 1) := by decide +kernel
theorem dX7_crowd_88 : decode cX7_crowd 88 = .ok (.getfield 41, 3) := by decide +kernel
theorem dX7_crowd_91 : decode cX7_crowd 91 = .ok (.iload_n 3, 1) := by decide +kernel
theorem dX7_crowd_92 : decode cX7_crowd 92 = .ok (.iload 4, 2) := by decide +kernel
theorem dX7_crowd_94 : decode cX7_crowd 94 = .ok (.iconst (-1), 1) := by decide +kernel
theorem dX7_crowd_95 : decode cX7_crowd 95 = .ok (.ixor, 1) := by decide +kernel
theorem dX7_crowd_96 : decode cX7_crowd 96 = .ok (.iand, 1) := by decide +kernel
theorem dX7_crowd_97 : decode cX7_crowd 97 = .ok (.iaload, 1) := by decide +kernel
theorem dX7_crowd_98 : decode cX7_crowd 98 = .ok (.ifCond .lt 7, 3) := by decide +kernel
theorem dX7_crowd_101 : decode cX7_crowd 101 = .ok (.iconst 1, 1) := by decide +kernel
theorem dX7_crowd_102 : decode cX7_crowd 102 = .ok (.goto 4, 3) := by decide +kernel
theorem dX7_crowd_105 : decode cX7_crowd 105 = .ok (.iconst 0, 1) := by decide +kernel
theorem dX7_crowd_106 : decode cX7_crowd 106 = .ok (.istore 5, 2) := by decide +kernel
theorem dX7_crowd_108 : decode cX7_crowd 108 = .ok (.iload 5, 2) := by decide +kernel
theorem dX7_crowd_110 : decode cX7_crowd 110 = .ok (.ifCond .eq 53, 3) := by decide +kernel
theorem dX7_crowd_113 : decode cX7_crowd 113 = .ok (.aload_n 0, 1) := by decide +kernel
theorem dX7_crowd_114 : decode cX7_crowd 114 = .ok (.getfield 41, 3) := by decide +kernel
theorem dX7_crowd_117 : decode cX7_crowd 117 = .ok (.iload_n 3, 1) := by decide +kernel
theorem dX7_crowd_118 : decode cX7_crowd 118 = .ok (.iaload, 1) := by decide +kernel
theorem dX7_crowd_119 : decode cX7_crowd 119 = .ok (.ifCond .lt 25, 3) := by decide +kernel
theorem dX7_crowd_122 : decode cX7_crowd 122 = .ok (.aload_n 0, 1) := by decide +kernel
theorem dX7_crowd_123 : decode cX7_crowd 123 = .ok (.getfield 41, 3) := by decide +kernel
theorem dX7_crowd_126 : decode cX7_crowd 126 = .ok (.iload_n 3, 1) := by decide +kernel
theorem dX7_crowd_127 : decode cX7_crowd 127 = .ok (.iload 4, 2) := by decide +kernel
theorem dX7_crowd_129 : decode cX7_crowd 129 = .ok (.iconst (-1), 1) := by decide +kernel
theorem dX7_crowd_130 : decode cX7_crowd 130 = .ok (.ixor, 1) := by decide +kernel
theorem dX7_crowd_131 : decode cX7_crowd 131 = .ok (.iand, 1) := by decide +kernel
theorem dX7_crowd_132 : decode cX7_crowd 132 = .ok (.iaload, 1) := by decide +kernel
theorem dX7_crowd_133 : decode cX7_crowd 133 = .ok (.iconst 1, 1) := by decide +kernel
theorem dX7_crowd_134 : decode cX7_crowd 134 = .ok (.iadd, 1) := by decide +kernel
theorem dX7_crowd_135 : decode cX7_crowd 135 = .ok (.aload_n 0, 1) := by decide +kernel
theorem dX7_crowd_136 : decode cX7_crowd 136 = .ok (.getfield 41, 3) := by decide +kernel
theorem dX7_crowd_139 : decode cX7_crowd 139 = .ok (.iload_n 3, 1) := by decide +kernel
theorem dX7_crowd_140 : decode cX7_crowd 140 = .ok (.iaload, 1) := by decide +kernel
theorem dX7_crowd_141 : decode cX7_crowd 141 = .ok (.if_icmp .ge 22, 3) := by decide +kernel
theorem dX7_crowd_144 : decode cX7_crowd 144 = .ok (.aload_n 0, 1) := by decide +kernel
theorem dX7_crowd_145 : decode cX7_crowd 145 = .ok (.getfield 41, 3) := by decide +kernel
theorem dX7_crowd_148 : decode cX7_crowd 148 = .ok (.iload_n 3, 1) := by decide +kernel
theorem dX7_crowd_149 : decode cX7_crowd 149 = .ok (.aload_n 0, 1) := by decide +kernel
theorem dX7_crowd_150 : decode cX7_crowd 150 = .ok (.getfield 41, 3) := by decide +kernel
theorem dX7_crowd_153 : decode cX7_crowd 153 = .ok (.iload_n 3, 1) := by decide +kernel
theorem dX7_crowd_154 : decode cX7_crowd 154 = .ok (.iload 4, 2) := by decide +kernel
theorem dX7_crowd_156 : decode cX7_crowd 156 = .ok (.iconst (-1), 1) := by decide +kernel
theorem dX7_crowd_157 : decode cX7_crowd 157 = .ok (.ixor, 1) := by decide +kernel
theorem dX7_crowd_158 : decode cX7_crowd 158 = .ok (.iand, 1) := by decide +kernel
theorem dX7_crowd_159 : decode cX7_crowd 159 = .ok (.iaload, 1) := by decide +kernel
theorem dX7_crowd_160 : decode cX7_crowd 160 = .ok (.iconst 1, 1) := by decide +kernel
theorem dX7_crowd_161 : decode cX7_crowd 161 = .ok (.iadd, 1) := by decide +kernel
theorem dX7_crowd_162 : decode cX7_crowd 162 = .ok (.iastore, 1) := by decide +kernel
theorem dX7_crowd_163 : decode cX7_crowd 163 = .ok (.iinc 4 1, 3) := by decide +kernel
theorem dX7_crowd_166 : decode cX7_crowd 166 = .ok (.goto (-104), 3) := by decide +kernel
theorem dX7_crowd_169 : decode cX7_crowd 169 = .ok (.iinc 3 1, 3) := by decide +kernel
theorem dX7_crowd_172 : decode cX7_crowd 172 = .ok (.goto (-148), 3) := by decide +kernel
theorem dX7_crowd_175 : decode cX7_crowd 175 = .ok (.iload_n 2, 1) := by decide +kernel
theorem dX7_crowd_176 : decode cX7_crowd 176 = .ok (.iconst 1, 1) := by decide +kernel
theorem dX7_crowd_177 : decode cX7_crowd 177 = .ok (.if_icmp .ne 12, 3) := by decide +kernel
theorem dX7_crowd_180 : decode cX7_crowd 180 = .ok (.aload_n 0, 1) := by decide +kernel
theorem dX7_crowd_181 : decode cX7_crowd 181 = .ok (.getfield 41, 3) := by decide +kernel
theorem dX7_crowd_184 : decode cX7_crowd 184 = .ok (.iload_n 1, 1) := by decide +kernel
theorem dX7_crowd_185 : decode cX7_crowd 185 = .ok (.iaload, 1) := by decide +kernel
theorem dX7_crowd_186 : decode cX7_crowd 186 = .ok (.goto 17, 3) := by decide +kernel
theorem dX7_crowd_189 : decode cX7_crowd 189 = .ok (.aload_n 0, 1) := by decide +kernel
theorem dX7_crowd_190 : decode cX7_crowd 190 = .ok (.getfield 37, 3) := by decide +kernel
theorem dX7_crowd_193 : decode cX7_crowd 193 = .ok (.iload_n 1, 1) := by decide +kernel
theorem dX7_crowd_194 : decode cX7_crowd 194 = .ok (.baload, 1) := by decide +kernel
theorem dX7_crowd_195 : decode cX7_crowd 195 = .ok (.ifCond .eq 7, 3) := by decide +kernel
theorem dX7_crowd_198 : decode cX7_crowd 198 = .ok (.iconst 1, 1) := by decide +kernel
theorem dX7_crowd_199 : decode cX7_crowd 199 = .ok (.goto 4, 3) := by decide +kernel
theorem dX7_crowd_202 : decode cX7_crowd 202 = .ok (.iconst 0, 1) := by decide +kernel
theorem dX7_crowd_203 : decode cX7_crowd 203 = .ok (.ireturn, 1) := by decide +kernel
set_option maxRecDepth 20000 in
theorem ggX7_reachOf_X7_has : GoodIn wsX7_reachOf wsX7_has := goodIn_r _ [5] (by decide +kernel) (by decide +kernel)
set_option maxRecDepth 20000 in
theorem gX7_reachOf_X7_has : GoodIn wsX7_reachOf (va_wsS RX7 94 yX7_has wsX7_has) := goodIn_app (goodIn_of _ (by decide +kernel)) ggX7_reachOf_X7_has
theorem dX7_reachOf_0 : decode cX7_reachOf 0 = .ok (.aload_n 0, 1) := by decide +kernel
theorem dX7_reachOf_1 : decode cX7_reachOf 1 = .ok (.getfield 13, 3) := by decide +kernel
theorem dX7_reachOf_4 : decode cX7_reachOf 4 = .ok (.iload_n 1, 1) := by decide +kernel
theorem dX7_reachOf_5 : decode cX7_reachOf 5 = .ok (.iaload, 1) := by decide +kernel
theorem dX7_reachOf_6 : decode cX7_reachOf 6 = .ok (.istore_n 2, 1) := by decide +kernel
theorem dX7_reachOf_7 : decode cX7_reachOf 7 = .ok (.iconst 0, 1) := by decide +kernel
theorem dX7_reachOf_8 : decode cX7_reachOf 8 = .ok (.istore_n 3, 1) := by decide +kernel
theorem dX7_reachOf_9 : decode cX7_reachOf 9 = .ok (.iload_n 3, 1) := by decide +kernel
theorem dX7_reachOf_10 : decode cX7_reachOf 10 = .ok (.bipush 10, 2) := by decide +kernel
theorem dX7_reachOf_12 : decode cX7_reachOf 12 = .ok (.if_icmp .ge 48, 3) := by decide +kernel
theorem dX7_reachOf_15 : decode cX7_reachOf 15 = .ok (.iconst 0, 1) := by decide +kernel
theorem dX7_reachOf_16 : decode cX7_reachOf 16 = .ok (.istore 4, 2) := by decide +kernel
theorem dX7_reachOf_18 : decode cX7_reachOf 18 = .ok (.iload 4, 2) := by decide +kernel
theorem dX7_reachOf_20 : decode cX7_reachOf 20 = .ok (.bipush 10, 2) := by decide +kernel
theorem dX7_reachOf_22 : decode cX7_reachOf 22 = .ok (.if_icmp .ge 32, 3) := by decide +kernel
theorem dX7_reachOf_25 : decode cX7_reachOf 25 = .ok (.iload_n 2, 1) := by decide +kernel
theorem dX7_reachOf_26 : decode cX7_reachOf 26 = .ok (.iload_n 2, 1) := by decide +kernel
theorem dX7_reachOf_27 : decode cX7_reachOf 27 = .ok (.iload 4, 2) := by decide +kernel
theorem dX7_reachOf_29 : decode cX7_reachOf 29 = .ok (.invokestatic 94, 3) := by decide +kernel
theorem dX7_reachOf_32 : decode cX7_reachOf 32 = .ok (.ifCond .eq 13, 3) := by decide +kernel
theorem dX7_reachOf_35 : decode cX7_reachOf 35 = .ok (.aload_n 0, 1) := by decide +kernel
theorem dX7_reachOf_36 : decode cX7_reachOf 36 = .ok (.getfield 13, 3) := by decide +kernel
theorem dX7_reachOf_39 : decode cX7_reachOf 39 = .ok (.iload 4, 2) := by decide +kernel
theorem dX7_reachOf_41 : decode cX7_reachOf 41 = .ok (.iaload, 1) := by decide +kernel
theorem dX7_reachOf_42 : decode cX7_reachOf 42 = .ok (.goto 4, 3) := by decide +kernel
theorem dX7_reachOf_45 : decode cX7_reachOf 45 = .ok (.iconst 0, 1) := by decide +kernel
theorem dX7_reachOf_46 : decode cX7_reachOf 46 = .ok (.ior, 1) := by decide +kernel
theorem dX7_reachOf_47 : decode cX7_reachOf 47 = .ok (.istore_n 2, 1) := by decide +kernel
theorem dX7_reachOf_48 : decode cX7_reachOf 48 = .ok (.iinc 4 1, 3) := by decide +kernel
theorem dX7_reachOf_51 : decode cX7_reachOf 51 = .ok (.goto (-33), 3) := by decide +kernel
theorem dX7_reachOf_54 : decode cX7_reachOf 54 = .ok (.iinc 3 1, 3) := by decide +kernel
theorem dX7_reachOf_57 : decode cX7_reachOf 57 = .ok (.goto (-48), 3) := by decide +kernel
theorem dX7_reachOf_60 : decode cX7_reachOf 60 = .ok (.iload_n 2, 1) := by decide +kernel
theorem dX7_reachOf_61 : decode cX7_reachOf 61 = .ok (.ireturn, 1) := by decide +kernel
set_option maxRecDepth 20000 in
theorem ggX7_rings_X7_in : GoodIn wsX7_rings wsX7_in := goodIn_r _ [5] (by decide +kernel) (by decide +kernel)
set_option maxRecDepth 20000 in
theorem gX7_rings_X7_in : GoodIn wsX7_rings (va_wsS RX7 59 yX7_in wsX7_in) := goodIn_app (goodIn_of _ (by decide +kernel)) ggX7_rings_X7_in
set_option maxRecDepth 20000 in
theorem ggX7_rings_X7_reachOf : GoodIn wsX7_rings wsX7_reachOf := goodIn_r _ [9, 1, 10, 11, 4, 12, 13, 14, 15, 16, 17, 18, 19, 20, 21, 22, 23, 24, 25, 26, 27, 28, 29, 30] (by decide +kernel) (by decide +kernel)
set_option maxRecDepth 20000 in
theorem gX7_rings_X7_reachOf : GoodIn wsX7_rings (wsV RX7 145 RX7 yX7_reachOf wsX7_reachOf) := goodIn_app (goodIn_of _ (by decide +kernel)) ggX7_rings_X7_reachOf
set_option maxRecDepth 20000 in
theorem ggX7_rings_X7_has : GoodIn wsX7_rings wsX7_has := goodIn_r _ [12] (by decide +kernel) (by decide +kernel)
set_option maxRecDepth 20000 in
theorem gX7_rings_X7_has : GoodIn wsX7_rings (va_wsS RX7 94 yX7_has wsX7_has) := goodIn_app (goodIn_of _ (by decide +kernel)) ggX7_rings_X7_has
theorem dX7_rings_0 : decode cX7_rings 0 = .ok (.iload_n 1, 1) := by decide +kernel
theorem dX7_rings_1 : decode cX7_rings 1 = .ok (.iconst 0, 1) := by decide +kernel
theorem dX7_rings_2 : decode cX7_rings 2 = .ok (.iconst 1, 1) := by decide +kernel
theorem dX7_rings_3 : decode cX7_rings 3 = .ok (.invokestatic 59, 3) := by decide +kernel
theorem dX7_rings_6 : decode cX7_rings 6 = .ok (.ifCond .ne 6, 3) := by decide +kernel
theorem dX7_rings_9 : decode cX7_rings 9 = .ok (.bipush (-2), 2) := by decide +kernel
theorem dX7_rings_11 : decode cX7_rings 11 = .ok (.ireturn, 1) := by decide +kernel
theorem dX7_rings_12 : decode cX7_rings 12 = .ok (.iconst 0, 1) := by decide +kernel
theorem dX7_rings_13 : decode cX7_rings 13 = .ok (.istore_n 2, 1) := by decide +kernel
theorem dX7_rings_14 : decode cX7_rings 14 = .ok (.iconst 0, 1) := by decide +kernel
theorem dX7_rings_15 : decode cX7_rings 15 = .ok (.istore_n 3, 1) := by decide +kernel
theorem dX7_rings_16 : decode cX7_rings 16 = .ok (.iload_n 3, 1) := by decide +kernel
theorem dX7_rings_17 : decode cX7_rings 17 = .ok (.bipush 10, 2) := by decide +kernel
theorem dX7_rings_19 : decode cX7_rings 19 = .ok (.if_icmp .ge 56, 3) := by decide +kernel
theorem dX7_rings_22 : decode cX7_rings 22 = .ok (.iload_n 1, 1) := by decide +kernel
theorem dX7_rings_23 : decode cX7_rings 23 = .ok (.ifCond .ne 15, 3) := by decide +kernel
theorem dX7_rings_26 : decode cX7_rings 26 = .ok (.aload_n 0, 1) := by decide +kernel
theorem dX7_rings_27 : decode cX7_rings 27 = .ok (.iload_n 3, 1) := by decide +kernel
theorem dX7_rings_28 : decode cX7_rings 28 = .ok (.invokevirtual 145, 3) := by decide +kernel
theorem dX7_rings_31 : decode cX7_rings 31 = .ok (.iload_n 3, 1) := by decide +kernel
theorem dX7_rings_32 : decode cX7_rings 32 = .ok (.invokestatic 94, 3) := by decide +kernel
theorem dX7_rings_35 : decode cX7_rings 35 = .ok (.goto 17, 3) := by decide +kernel
theorem dX7_rings_38 : decode cX7_rings 38 = .ok (.aload_n 0, 1) := by decide +kernel
theorem dX7_rings_39 : decode cX7_rings 39 = .ok (.getfield 13, 3) := by decide +kernel
theorem dX7_rings_42 : decode cX7_rings 42 = .ok (.iload_n 3, 1) := by decide +kernel
theorem dX7_rings_43 : decode cX7_rings 43 = .ok (.iaload, 1) := by decide +kernel
theorem dX7_rings_44 : decode cX7_rings 44 = .ok (.ifCond .ne 7, 3) := by decide +kernel
theorem dX7_rings_47 : decode cX7_rings 47 = .ok (.iconst 1, 1) := by decide +kernel
theorem dX7_rings_48 : decode cX7_rings 48 = .ok (.goto 4, 3) := by decide +kernel
theorem dX7_rings_51 : decode cX7_rings 51 = .ok (.iconst 0, 1) := by decide +kernel
theorem dX7_rings_52 : decode cX7_rings 52 = .ok (.istore 4, 2) := by decide +kernel
theorem dX7_rings_54 : decode cX7_rings 54 = .ok (.iload_n 2, 1) := by decide +kernel
theorem dX7_rings_55 : decode cX7_rings 55 = .ok (.iload 4, 2) := by decide +kernel
theorem dX7_rings_57 : decode cX7_rings 57 = .ok (.ifCond .eq 9, 3) := by decide +kernel
theorem dX7_rings_60 : decode cX7_rings 60 = .ok (.iconst 1, 1) := by decide +kernel
theorem dX7_rings_61 : decode cX7_rings 61 = .ok (.iload_n 3, 1) := by decide +kernel
theorem dX7_rings_62 : decode cX7_rings 62 = .ok (.ishl, 1) := by decide +kernel
theorem dX7_rings_63 : decode cX7_rings 63 = .ok (.goto 4, 3) := by decide +kernel
theorem dX7_rings_66 : decode cX7_rings 66 = .ok (.iconst 0, 1) := by decide +kernel
theorem dX7_rings_67 : decode cX7_rings 67 = .ok (.ior, 1) := by decide +kernel
theorem dX7_rings_68 : decode cX7_rings 68 = .ok (.istore_n 2, 1) := by decide +kernel
theorem dX7_rings_69 : decode cX7_rings 69 = .ok (.iinc 3 1, 3) := by decide +kernel
theorem dX7_rings_72 : decode cX7_rings 72 = .ok (.goto (-56), 3) := by decide +kernel
theorem dX7_rings_75 : decode cX7_rings 75 = .ok (.iload_n 2, 1) := by decide +kernel
theorem dX7_rings_76 : decode cX7_rings 76 = .ok (.ireturn, 1) := by decide +kernel
set_option maxRecDepth 20000 in
theorem ggX7_ladder_X7_has : GoodIn wsX7_ladder wsX7_has := goodIn_r _ [7] (by decide +kernel) (by decide +kernel)
set_option maxRecDepth 20000 in
theorem gX7_ladder_X7_has : GoodIn wsX7_ladder (va_wsS RX7 94 yX7_has wsX7_has) := goodIn_app (goodIn_of _ (by decide +kernel)) ggX7_ladder_X7_has
set_option maxRecDepth 20000 in
theorem ggX7_ladder_X7_bits : GoodIn wsX7_ladder wsX7_bits := goodIn_r _ [10] (by decide +kernel) (by decide +kernel)
set_option maxRecDepth 20000 in
theorem gX7_ladder_X7_bits : GoodIn wsX7_ladder (va_wsS RX7 81 yX7_bits wsX7_bits) := goodIn_app (goodIn_of _ (by decide +kernel)) ggX7_ladder_X7_bits
theorem dX7_ladder_0 : decode cX7_ladder 0 = .ok (.aload_n 0, 1) := by decide +kernel
theorem dX7_ladder_1 : decode cX7_ladder 1 = .ok (.getfield 44, 3) := by decide +kernel
theorem dX7_ladder_4 : decode cX7_ladder 4 = .ok (.sipush 1023, 3) := by decide +kernel
theorem dX7_ladder_7 : decode cX7_ladder 7 = .ok (.iconst 0, 1) := by decide +kernel
theorem dX7_ladder_8 : decode cX7_ladder 8 = .ok (.iastore, 1) := by decide +kernel
theorem dX7_ladder_9 : decode cX7_ladder 9 = .ok (.sipush 1022, 3) := by decide +kernel
theorem dX7_ladder_12 : decode cX7_ladder 12 = .ok (.istore_n 2, 1) := by decide +kernel
theorem dX7_ladder_13 : decode cX7_ladder 13 = .ok (.iload_n 2, 1) := by decide +kernel
theorem dX7_ladder_14 : decode cX7_ladder 14 = .ok (.ifCond .lt 92, 3) := by decide +kernel
theorem dX7_ladder_17 : decode cX7_ladder 17 = .ok (.aload_n 0, 1) := by decide +kernel
theorem dX7_ladder_18 : decode cX7_ladder 18 = .ok (.getfield 44, 3) := by decide +kernel
theorem dX7_ladder_21 : decode cX7_ladder 21 = .ok (.iload_n 2, 1) := by decide +kernel
theorem dX7_ladder_22 : decode cX7_ladder 22 = .ok (.sipush 1000, 3) := by decide +kernel
theorem dX7_ladder_25 : decode cX7_ladder 25 = .ok (.iastore, 1) := by decide +kernel
theorem dX7_ladder_26 : decode cX7_ladder 26 = .ok (.iconst 0, 1) := by decide +kernel
theorem dX7_ladder_27 : decode cX7_ladder 27 = .ok (.istore_n 3, 1) := by decide +kernel
theorem dX7_ladder_28 : decode cX7_ladder 28 = .ok (.iload_n 3, 1) := by decide +kernel
theorem dX7_ladder_29 : decode cX7_ladder 29 = .ok (.bipush 10, 2) := by decide +kernel
theorem dX7_ladder_31 : decode cX7_ladder 31 = .ok (.if_icmp .ge 69, 3) := by decide +kernel
theorem dX7_ladder_34 : decode cX7_ladder 34 = .ok (.iload_n 2, 1) := by decide +kernel
theorem dX7_ladder_35 : decode cX7_ladder 35 = .ok (.iload_n 3, 1) := by decide +kernel
theorem dX7_ladder_36 : decode cX7_ladder 36 = .ok (.invokestatic 94, 3) := by decide +kernel
theorem dX7_ladder_39 : decode cX7_ladder 39 = .ok (.ifCond .ne 55, 3) := by decide +kernel
theorem dX7_ladder_42 : decode cX7_ladder 42 = .ok (.aload_n 0, 1) := by decide +kernel
theorem dX7_ladder_43 : decode cX7_ladder 43 = .ok (.getfield 13, 3) := by decide +kernel
theorem dX7_ladder_46 : decode cX7_ladder 46 = .ok (.iload_n 3, 1) := by decide +kernel
theorem dX7_ladder_47 : decode cX7_ladder 47 = .ok (.iaload, 1) := by decide +kernel
theorem dX7_ladder_48 : decode cX7_ladder 48 = .ok (.iload_n 2, 1) := by decide +kernel
theorem dX7_ladder_49 : decode cX7_ladder 49 = .ok (.iand, 1) := by decide +kernel
theorem dX7_ladder_50 : decode cX7_ladder 50 = .ok (.invokestatic 81, 3) := by decide +kernel
theorem dX7_ladder_53 : decode cX7_ladder 53 = .ok (.aload_n 0, 1) := by decide +kernel
theorem dX7_ladder_54 : decode cX7_ladder 54 = .ok (.getfield 44, 3) := by decide +kernel
theorem dX7_ladder_57 : decode cX7_ladder 57 = .ok (.iload_n 2, 1) := by decide +kernel
theorem dX7_ladder_58 : decode cX7_ladder 58 = .ok (.iconst 1, 1) := by decide +kernel
theorem dX7_ladder_59 : decode cX7_ladder 59 = .ok (.iload_n 3, 1) := by decide +kernel
theorem dX7_ladder_60 : decode cX7_ladder 60 = .ok (.ishl, 1) := by decide +kernel
theorem dX7_ladder_61 : decode cX7_ladder 61 = .ok (.ior, 1) := by decide +kernel
theorem dX7_ladder_62 : decode cX7_ladder 62 = .ok (.iaload, 1) := by decide +kernel
theorem dX7_ladder_63 : decode cX7_ladder 63 = .ok (.iadd, 1) := by decide +kernel
theorem dX7_ladder_64 : decode cX7_ladder 64 = .ok (.istore 4, 2) := by decide +kernel
theorem dX7_ladder_66 : decode cX7_ladder 66 = .ok (.aload_n 0, 1) := by decide +kernel
theorem dX7_ladder_67 : decode cX7_ladder 67 = .ok (.getfield 44, 3) := by decide +kernel
theorem dX7_ladder_70 : decode cX7_ladder 70 = .ok (.iload_n 2, 1) := by decide +kernel
theorem dX7_ladder_71 : decode cX7_ladder 71 = .ok (.iload 4, 2) := by decide +kernel
theorem dX7_ladder_73 : decode cX7_ladder 73 = .ok (.aload_n 0, 1) := by decide +kernel
theorem dX7_ladder_74 : decode cX7_ladder 74 = .ok (.getfield 44, 3) := by decide +kernel
theorem dX7_ladder_77 : decode cX7_ladder 77 = .ok (.iload_n 2, 1) := by decide +kernel
theorem dX7_ladder_78 : decode cX7_ladder 78 = .ok (.iaload, 1) := by decide +kernel
theorem dX7_ladder_79 : decode cX7_ladder 79 = .ok (.if_icmp .ge 8, 3) := by decide +kernel
theorem dX7_ladder_82 : decode cX7_ladder 82 = .ok (.iload 4, 2) := by decide +kernel
theorem dX7_ladder_84 : decode cX7_ladder 84 = .ok (.goto 9, 3) := by decide +kernel
theorem dX7_ladder_87 : decode cX7_ladder 87 = .ok (.aload_n 0, 1) := by decide +kernel
theorem dX7_ladder_88 : decode cX7_ladder 88 = .ok (.getfield 44, 3) := by decide +kernel
theorem dX7_ladder_91 : decode cX7_ladder 91 = .ok (.iload_n 2, 1) := by decide +kernel
theorem dX7_ladder_92 : decode cX7_ladder 92 = .ok (.iaload, 1) := by decide +kernel
theorem dX7_ladder_93 : decode cX7_ladder 93 = .ok (.iastore, 1) := by decide +kernel
theorem dX7_ladder_94 : decode cX7_ladder 94 = .ok (.iinc 3 1, 3) := by decide +kernel
theorem dX7_ladder_97 : decode cX7_ladder 97 = .ok (.goto (-69), 3) := by decide +kernel
theorem dX7_ladder_100 : decode cX7_ladder 100 = .ok (.iinc 2 (-1), 3) := by decide +kernel
theorem dX7_ladder_103 : decode cX7_ladder 103 = .ok (.goto (-90), 3) := by decide +kernel
theorem dX7_ladder_106 : decode cX7_ladder 106 = .ok (.iload_n 1, 1) := by decide +kernel
theorem dX7_ladder_107 : decode cX7_ladder 107 = .ok (.iconst (-1), 1) := by decide +kernel
theorem dX7_ladder_108 : decode cX7_ladder 108 = .ok (.if_icmp .ne 10, 3) := by decide +kernel
theorem dX7_ladder_111 : decode cX7_ladder 111 = .ok (.aload_n 0, 1) := by decide +kernel
theorem dX7_ladder_112 : decode cX7_ladder 112 = .ok (.getfield 44, 3) := by decide +kernel
theorem dX7_ladder_115 : decode cX7_ladder 115 = .ok (.iconst 0, 1) := by decide +kernel
theorem dX7_ladder_116 : decode cX7_ladder 116 = .ok (.iaload, 1) := by decide +kernel
theorem dX7_ladder_117 : decode cX7_ladder 117 = .ok (.ireturn, 1) := by decide +kernel
theorem dX7_ladder_118 : decode cX7_ladder 118 = .ok (.iconst 0, 1) := by decide +kernel
theorem dX7_ladder_119 : decode cX7_ladder 119 = .ok (.istore_n 2, 1) := by decide +kernel
theorem dX7_ladder_120 : decode cX7_ladder 120 = .ok (.iconst 0, 1) := by decide +kernel
theorem dX7_ladder_121 : decode cX7_ladder 121 = .ok (.istore_n 3, 1) := by decide +kernel
theorem dX7_ladder_122 : decode cX7_ladder 122 = .ok (.iload_n 3, 1) := by decide +kernel
theorem dX7_ladder_123 : decode cX7_ladder 123 = .ok (.bipush 10, 2) := by decide +kernel
theorem dX7_ladder_125 : decode cX7_ladder 125 = .ok (.if_icmp .ge 112, 3) := by decide +kernel
theorem dX7_ladder_128 : decode cX7_ladder 128 = .ok (.bipush (-6), 2) := by decide +kernel
theorem dX7_ladder_130 : decode cX7_ladder 130 = .ok (.istore 4, 2) := by decide +kernel
theorem dX7_ladder_132 : decode cX7_ladder 132 = .ok (.iconst 0, 1) := by decide +kernel
theorem dX7_ladder_133 : decode cX7_ladder 133 = .ok (.istore 5, 2) := by decide +kernel
theorem dX7_ladder_135 : decode cX7_ladder 135 = .ok (.iload 5, 2) := by decide +kernel
theorem dX7_ladder_137 : decode cX7_ladder 137 = .ok (.bipush 10, 2) := by decide +kernel
theorem dX7_ladder_139 : decode cX7_ladder 139 = .ok (.if_icmp .ge 77, 3) := by decide +kernel
theorem dX7_ladder_142 : decode cX7_ladder 142 = .ok (.iload 4, 2) := by decide +kernel
theorem dX7_ladder_144 : decode cX7_ladder 144 = .ok (.ifCond .ge 72, 3) := by decide +kernel
theorem dX7_ladder_147 : decode cX7_ladder 147 = .ok (.iload_n 2, 1) := by decide +kernel
theorem dX7_ladder_148 : decode cX7_ladder 148 = .ok (.iload 5, 2) := by decide +kernel
theorem dX7_ladder_150 : decode cX7_ladder 150 = .ok (.invokestatic 94, 3) := by decide +kernel
theorem dX7_ladder_153 : decode cX7_ladder 153 = .ok (.ifCond .ne 40, 3) := by decide +kernel
theorem dX7_ladder_156 : decode cX7_ladder 156 = .ok (.aload_n 0, 1) := by decide +kernel
theorem dX7_ladder_157 : decode cX7_ladder 157 = .ok (.getfield 13, 3) := by decide +kernel
theorem dX7_ladder_160 : decode cX7_ladder 160 = .ok (.iload 5, 2) := by decide +kernel
theorem dX7_ladder_162 : decode cX7_ladder 162 = .ok (.iaload, 1) := by decide +kernel
theorem dX7_ladder_163 : decode cX7_ladder 163 = .ok (.iload_n 2, 1) := by decide +kernel
theorem dX7_ladder_164 : decode cX7_ladder 164 = .ok (.iand, 1) := by decide +kernel
theorem dX7_ladder_165 : decode cX7_ladder 165 = .ok (.invokestatic 81, 3) := by decide +kernel
theorem dX7_ladder_168 : decode cX7_ladder 168 = .ok (.aload_n 0, 1) := by decide +kernel
theorem dX7_ladder_169 : decode cX7_ladder 169 = .ok (.getfield 44, 3) := by decide +kernel
theorem dX7_ladder_172 : decode cX7_ladder 172 = .ok (.iload_n 2, 1) := by decide +kernel
theorem dX7_ladder_173 : decode cX7_ladder 173 = .ok (.iconst 1, 1) := by decide +kernel
theorem dX7_ladder_174 : decode cX7_ladder 174 = .ok (.iload 5, 2) := by decide +kernel
theorem dX7_ladder_176 : decode cX7_ladder 176 = .ok (.ishl, 1) := by decide +kernel
theorem dX7_ladder_177 : decode cX7_ladder 177 = .ok (.ior, 1) := by decide +kernel
theorem dX7_ladder_178 : decode cX7_ladder 178 = .ok (.iaload, 1) := by decide +kernel
theorem dX7_ladder_179 : decode cX7_ladder 179 = .ok (.iadd, 1) := by decide +kernel
theorem dX7_ladder_180 : decode cX7_ladder 180 = .ok (.aload_n 0, 1) := by decide +kernel
theorem dX7_ladder_181 : decode cX7_ladder 181 = .ok (.getfield 44, 3) := by decide +kernel
theorem dX7_ladder_184 : decode cX7_ladder 184 = .ok (.iload_n 2, 1) := by decide +kernel
theorem dX7_ladder_185 : decode cX7_ladder 185 = .ok (.iaload, 1) := by decide +kernel
theorem dX7_ladder_186 : decode cX7_ladder 186 = .ok (.if_icmp .ne 7, 3) := by decide +kernel
theorem dX7_ladder_189 : decode cX7_ladder 189 = .ok (.iconst 1, 1) := by decide +kernel
theorem dX7_ladder_190 : decode cX7_ladder 190 = .ok (.goto 4, 3) := by decide +kernel
theorem dX7_ladder_193 : decode cX7_ladder 193 = .ok (.iconst 0, 1) := by decide +kernel
theorem dX7_ladder_194 : decode cX7_ladder 194 = .ok (.istore 6, 2) := by decide +kernel
theorem dX7_ladder_196 : decode cX7_ladder 196 = .ok (.iload 6, 2) := by decide +kernel
theorem dX7_ladder_198 : decode cX7_ladder 198 = .ok (.ifCond .eq 8, 3) := by decide +kernel
theorem dX7_ladder_201 : decode cX7_ladder 201 = .ok (.iload 5, 2) := by decide +kernel
theorem dX7_ladder_203 : decode cX7_ladder 203 = .ok (.goto 5, 3) := by decide +kernel
theorem dX7_ladder_206 : decode cX7_ladder 206 = .ok (.bipush (-6), 2) := by decide +kernel
theorem dX7_ladder_208 : decode cX7_ladder 208 = .ok (.istore 4, 2) := by decide +kernel
theorem dX7_ladder_210 : decode cX7_ladder 210 = .ok (.iinc 5 1, 3) := by decide +kernel
theorem dX7_ladder_213 : decode cX7_ladder 213 = .ok (.goto (-78), 3) := by decide +kernel
theorem dX7_ladder_216 : decode cX7_ladder 216 = .ok (.aload_n 0, 1) := by decide +kernel
theorem dX7_ladder_217 : decode cX7_ladder 217 = .ok (.getfield 47, 3) := by decide +kernel
theorem dX7_ladder_220 : decode cX7_ladder 220 = .ok (.iload 4, 2) := by decide +kernel
theorem dX7_ladder_222 : decode cX7_ladder 222 = .ok (.iload_n 3, 1) := by decide +kernel
theorem dX7_ladder_223 : decode cX7_ladder 223 = .ok (.iastore, 1) := by decide +kernel
theorem dX7_ladder_224 : decode cX7_ladder 224 = .ok (.iload_n 2, 1) := by decide +kernel
theorem dX7_ladder_225 : decode cX7_ladder 225 = .ok (.iconst 1, 1) := by decide +kernel
theorem dX7_ladder_226 : decode cX7_ladder 226 = .ok (.iload 4, 2) := by decide +kernel
theorem dX7_ladder_228 : decode cX7_ladder 228 = .ok (.ishl, 1) := by decide +kernel
theorem dX7_ladder_229 : decode cX7_ladder 229 = .ok (.ior, 1) := by decide +kernel
theorem dX7_ladder_230 : decode cX7_ladder 230 = .ok (.istore_n 2, 1) := by decide +kernel
theorem dX7_ladder_231 : decode cX7_ladder 231 = .ok (.iinc 3 1, 3) := by decide +kernel
theorem dX7_ladder_234 : decode cX7_ladder 234 = .ok (.goto (-112), 3) := by decide +kernel
theorem dX7_ladder_237 : decode cX7_ladder 237 = .ok (.iconst 0, 1) := by decide +kernel
theorem dX7_ladder_238 : decode cX7_ladder 238 = .ok (.istore_n 3, 1) := by decide +kernel
theorem dX7_ladder_239 : decode cX7_ladder 239 = .ok (.iconst 0, 1) := by decide +kernel
theorem dX7_ladder_240 : decode cX7_ladder 240 = .ok (.istore 4, 2) := by decide +kernel
theorem dX7_ladder_242 : decode cX7_ladder 242 = .ok (.iload 4, 2) := by decide +kernel
theorem dX7_ladder_244 : decode cX7_ladder 244 = .ok (.bipush 100, 2) := by decide +kernel
theorem dX7_ladder_246 : decode cX7_ladder 246 = .ok (.if_icmp .ge 64, 3) := by decide +kernel
theorem dX7_ladder_249 : decode cX7_ladder 249 = .ok (.aload_n 0, 1) := by decide +kernel
theorem dX7_ladder_250 : decode cX7_ladder 250 = .ok (.getfield 13, 3) := by decide +kernel
theorem dX7_ladder_253 : decode cX7_ladder 253 = .ok (.iload 4, 2) := by decide +kernel
theorem dX7_ladder_255 : decode cX7_ladder 255 = .ok (.bipush 10, 2) := by decide +kernel
theorem dX7_ladder_257 : decode cX7_ladder 257 = .ok (.idiv, 1) := by decide +kernel
theorem dX7_ladder_258 : decode cX7_ladder 258 = .ok (.iaload, 1) := by decide +kernel
theorem dX7_ladder_259 : decode cX7_ladder 259 = .ok (.iload 4, 2) := by decide +kernel
theorem dX7_ladder_261 : decode cX7_ladder 261 = .ok (.bipush 10, 2) := by decide +kernel
theorem dX7_ladder_263 : decode cX7_ladder 263 = .ok (.irem, 1) := by decide +kernel
theorem dX7_ladder_264 : decode cX7_ladder 264 = .ok (.invokestatic 94, 3) := by decide +kernel
theorem dX7_ladder_267 : decode cX7_ladder 267 = .ok (.ifCond .eq 37, 3) := by decide +kernel
theorem dX7_ladder_270 : decode cX7_ladder 270 = .ok (.aload_n 0, 1) := by decide +kernel
theorem dX7_ladder_271 : decode cX7_ladder 271 = .ok (.getfield 47, 3) := by decide +kernel
theorem dX7_ladder_274 : decode cX7_ladder 274 = .ok (.iload 4, 2) := by decide +kernel
theorem dX7_ladder_276 : decode cX7_ladder 276 = .ok (.bipush 10, 2) := by decide +kernel
theorem dX7_ladder_278 : decode cX7_ladder 278 = .ok (.irem, 1) := by decide +kernel
theorem dX7_ladder_279 : decode cX7_ladder 279 = .ok (.iaload, 1) := by decide +kernel
theorem dX7_ladder_280 : decode cX7_ladder 280 = .ok (.aload_n 0, 1) := by decide +kernel
theorem dX7_ladder_281 : decode cX7_ladder 281 = .ok (.getfield 47, 3) := by decide +kernel
theorem dX7_ladder_284 : decode cX7_ladder 284 = .ok (.iload 4, 2) := by decide +kernel
theorem dX7_ladder_286 : decode cX7_ladder 286 = .ok (.bipush 10, 2) := by decide +kernel
theorem dX7_ladder_288 : decode cX7_ladder 288 = .ok (.idiv, 1) := by decide +kernel
theorem dX7_ladder_289 : decode cX7_ladder 289 = .ok (.iaload, 1) := by decide +kernel
theorem dX7_ladder_290 : decode cX7_ladder 290 = .ok (.if_icmp .ge 14, 3) := by decide +kernel
theorem dX7_ladder_293 : decode cX7_ladder 293 = .ok (.iload_n 3, 1) := by decide +kernel
theorem dX7_ladder_294 : decode cX7_ladder 294 = .ok (.iload_n 1, 1) := by decide +kernel
theorem dX7_ladder_295 : decode cX7_ladder 295 = .ok (.if_icmp .ne 6, 3) := by decide +kernel
theorem dX7_ladder_298 : decode cX7_ladder 298 = .ok (.iload 4, 2) := by decide +kernel
theorem dX7_ladder_300 : decode cX7_ladder 300 = .ok (.ireturn, 1) := by decide +kernel
theorem dX7_ladder_301 : decode cX7_ladder 301 = .ok (.iinc 3 1, 3) := by decide +kernel
theorem dX7_ladder_304 : decode cX7_ladder 304 = .ok (.iinc 4 1, 3) := by decide +kernel
theorem dX7_ladder_307 : decode cX7_ladder 307 = .ok (.goto (-65), 3) := by decide +kernel
theorem dX7_ladder_310 : decode cX7_ladder 310 = .ok (.bipush (-6), 2) := by decide +kernel
theorem dX7_ladder_312 : decode cX7_ladder 312 = .ok (.ireturn, 1) := by decide +kernel
set_option maxRecDepth 20000 in
theorem ggX7_between_X7_isInsult : GoodIn wsX7_between wsX7_isInsult := goodIn_r _ [5, 6, 7, 4, 8] (by decide +kernel) (by decide +kernel)
set_option maxRecDepth 20000 in
theorem gX7_between_X7_isInsult : GoodIn wsX7_between (va_wsS RX7 88 yX7_isInsult wsX7_isInsult) := goodIn_app (goodIn_of _ (by decide +kernel)) ggX7_between_X7_isInsult
set_option maxRecDepth 20000 in
theorem ggX7_between_X7_in : GoodIn wsX7_between wsX7_in := goodIn_r _ [8] (by decide +kernel) (by decide +kernel)
set_option maxRecDepth 20000 in
theorem gX7_between_X7_in : GoodIn wsX7_between (va_wsS RX7 59 yX7_in wsX7_in) := goodIn_app (goodIn_of _ (by decide +kernel)) ggX7_between_X7_in
set_option maxRecDepth 20000 in
theorem ggX7_between_X7_has : GoodIn wsX7_between wsX7_has := goodIn_r _ [11] (by decide +kernel) (by decide +kernel)
set_option maxRecDepth 20000 in
theorem gX7_between_X7_has : GoodIn wsX7_between (va_wsS RX7 94 yX7_has wsX7_has) := goodIn_app (goodIn_of _ (by decide +kernel)) ggX7_between_X7_has
theorem dX7_between_0 : decode cX7_between 0 = .ok (.iload_n 1, 1) := by decide +kernel
theorem dX7_between_1 : decode cX7_between 1 = .ok (.invokestatic 88, 3) := by decide +kernel
theorem dX7_between_4 : decode cX7_between 4 = .ok (.ifCond .eq 15, 3) := by decide +kernel
theorem dX7_between_7 : decode cX7_between 7 = .ok (.iload_n 2, 1) := by decide +kernel
theorem dX7_between_8 : decode cX7_between 8 = .ok (.invokestatic 88, 3) := by decide +kernel
theorem dX7_between_11 : decode cX7_between 11 = .ok (.ifCond .eq 8, 3) := by decide +kernel
theorem dX7_between_14 : decode cX7_between 14 = .ok (.iload_n 1, 1) := by decide +kernel
theorem dX7_between_15 : decode cX7_between 15 = .ok (.iload_n 2, 1) := by decide +kernel
theorem dX7_between_16 : decode cX7_between 16 = .ok (.if_icmp .ne 5, 3) := by decide +kernel
theorem dX7_between_19 : decode cX7_between 19 = .ok (.iconst (-1), 1) := by decide +kernel
theorem dX7_between_20 : decode cX7_between 20 = .ok (.ireturn, 1) := by decide +kernel
theorem dX7_between_21 : decode cX7_between 21 = .ok (.iload_n 3, 1) := by decide +kernel
theorem dX7_between_22 : decode cX7_between 22 = .ok (.iconst 0, 1) := by decide +kernel
theorem dX7_between_23 : decode cX7_between 23 = .ok (.iconst 4, 1) := by decide +kernel
theorem dX7_between_24 : decode cX7_between 24 = .ok (.invokestatic 59, 3) := by decide +kernel
theorem dX7_between_27 : decode cX7_between 27 = .ok (.ifCond .ne 6, 3) := by decide +kernel
theorem dX7_between_30 : decode cX7_between 30 = .ok (.bipush (-2), 2) := by decide +kernel
theorem dX7_between_32 : decode cX7_between 32 = .ok (.ireturn, 1) := by decide +kernel
theorem dX7_between_33 : decode cX7_between 33 = .ok (.iconst 1, 1) := by decide +kernel
theorem dX7_between_34 : decode cX7_between 34 = .ok (.istore 5, 2) := by decide +kernel
theorem dX7_between_36 : decode cX7_between 36 = .ok (.iconst 0, 1) := by decide +kernel
theorem dX7_between_37 : decode cX7_between 37 = .ok (.istore 6, 2) := by decide +kernel
theorem dX7_between_39 : decode cX7_between 39 = .ok (.iload 6, 2) := by decide +kernel
theorem dX7_between_41 : decode cX7_between 41 = .ok (.iload_n 3, 1) := by decide +kernel
theorem dX7_between_42 : decode cX7_between 42 = .ok (.if_icmp .ge 16, 3) := by decide +kernel
theorem dX7_between_45 : decode cX7_between 45 = .ok (.iload 5, 2) := by decide +kernel
theorem dX7_between_47 : decode cX7_between 47 = .ok (.bipush 10, 2) := by decide +kernel
theorem dX7_between_49 : decode cX7_between 49 = .ok (.imul, 1) := by decide +kernel
theorem dX7_between_50 : decode cX7_between 50 = .ok (.istore 5, 2) := by decide +kernel
theorem dX7_between_52 : decode cX7_between 52 = .ok (.iinc 6 1, 3) := by decide +kernel
theorem dX7_between_55 : decode cX7_between 55 = .ok (.goto (-16), 3) := by decide +kernel
theorem dX7_between_58 : decode cX7_between 58 = .ok (.iconst 0, 1) := by decide +kernel
theorem dX7_between_59 : decode cX7_between 59 = .ok (.istore 6, 2) := by decide +kernel
theorem dX7_between_61 : decode cX7_between 61 = .ok (.iconst 0, 1) := by decide +kernel
theorem dX7_between_62 : decode cX7_between 62 = .ok (.istore 7, 2) := by decide +kernel
theorem dX7_between_64 : decode cX7_between 64 = .ok (.iload 7, 2) := by decide +kernel
theorem dX7_between_66 : decode cX7_between 66 = .ok (.iload 5, 2) := by decide +kernel
theorem dX7_between_68 : decode cX7_between 68 = .ok (.if_icmp .ge 145, 3) := by decide +kernel
theorem dX7_between_71 : decode cX7_between 71 = .ok (.iload 5, 2) := by decide +kernel
theorem dX7_between_73 : decode cX7_between 73 = .ok (.istore 8, 2) := by decide +kernel
theorem dX7_between_75 : decode cX7_between 75 = .ok (.iload_n 1, 1) := by decide +kernel
theorem dX7_between_76 : decode cX7_between 76 = .ok (.istore 9, 2) := by decide +kernel
theorem dX7_between_78 : decode cX7_between 78 = .ok (.iconst 1, 1) := by decide +kernel
theorem dX7_between_79 : decode cX7_between 79 = .ok (.iload_n 1, 1) := by decide +kernel
theorem dX7_between_80 : decode cX7_between 80 = .ok (.ishl, 1) := by decide +kernel
theorem dX7_between_81 : decode cX7_between 81 = .ok (.iconst 1, 1) := by decide +kernel
theorem dX7_between_82 : decode cX7_between 82 = .ok (.iload_n 2, 1) := by decide +kernel
theorem dX7_between_83 : decode cX7_between 83 = .ok (.ishl, 1) := by decide +kernel
theorem dX7_between_84 : decode cX7_between 84 = .ok (.ior, 1) := by decide +kernel
theorem dX7_between_85 : decode cX7_between 85 = .ok (.istore 10, 2) := by decide +kernel
theorem dX7_between_87 : decode cX7_between 87 = .ok (.iconst 1, 1) := by decide +kernel
theorem dX7_between_88 : decode cX7_between 88 = .ok (.istore 11, 2) := by decide +kernel
theorem dX7_between_90 : decode cX7_between 90 = .ok (.iconst 0, 1) := by decide +kernel
theorem dX7_between_91 : decode cX7_between 91 = .ok (.istore 12, 2) := by decide +kernel
theorem dX7_between_93 : decode cX7_between 93 = .ok (.iload 12, 2) := by decide +kernel
theorem dX7_between_95 : decode cX7_between 95 = .ok (.iload_n 3, 1) := by decide +kernel
theorem dX7_between_96 : decode cX7_between 96 = .ok (.if_icmp .ge 76, 3) := by decide +kernel
theorem dX7_between_99 : decode cX7_between 99 = .ok (.iload 11, 2) := by decide +kernel
theorem dX7_between_101 : decode cX7_between 101 = .ok (.ifCond .eq 71, 3) := by decide +kernel
theorem dX7_between_104 : decode cX7_between 104 = .ok (.iload 8, 2) := by decide +kernel
theorem dX7_between_106 : decode cX7_between 106 = .ok (.bipush 10, 2) := by decide +kernel
theorem dX7_between_108 : decode cX7_between 108 = .ok (.idiv, 1) := by decide +kernel
theorem dX7_between_109 : decode cX7_between 109 = .ok (.istore 8, 2) := by decide +kernel
theorem dX7_between_111 : decode cX7_between 111 = .ok (.iload 7, 2) := by decide +kernel
theorem dX7_between_113 : decode cX7_between 113 = .ok (.iload 8, 2) := by decide +kernel
theorem dX7_between_115 : decode cX7_between 115 = .ok (.idiv, 1) := by decide +kernel
theorem dX7_between_116 : decode cX7_between 116 = .ok (.bipush 10, 2) := by decide +kernel
theorem dX7_between_118 : decode cX7_between 118 = .ok (.irem, 1) := by decide +kernel
theorem dX7_between_119 : decode cX7_between 119 = .ok (.istore 13, 2) := by decide +kernel
theorem dX7_between_121 : decode cX7_between 121 = .ok (.aload_n 0, 1) := by decide +kernel
theorem dX7_between_122 : decode cX7_between 122 = .ok (.getfield 13, 3) := by decide +kernel
theorem dX7_between_125 : decode cX7_between 125 = .ok (.iload 9, 2) := by decide +kernel
theorem dX7_between_127 : decode cX7_between 127 = .ok (.iaload, 1) := by decide +kernel
theorem dX7_between_128 : decode cX7_between 128 = .ok (.iload 13, 2) := by decide +kernel
theorem dX7_between_130 : decode cX7_between 130 = .ok (.invokestatic 94, 3) := by decide +kernel
theorem dX7_between_133 : decode cX7_between 133 = .ok (.ifCond .eq 17, 3) := by decide +kernel
theorem dX7_between_136 : decode cX7_between 136 = .ok (.iload 10, 2) := by decide +kernel
theorem dX7_between_138 : decode cX7_between 138 = .ok (.iload 13, 2) := by decide +kernel
theorem dX7_between_140 : decode cX7_between 140 = .ok (.invokestatic 94, 3) := by decide +kernel
theorem dX7_between_143 : decode cX7_between 143 = .ok (.ifCond .ne 7, 3) := by decide +kernel
theorem dX7_between_146 : decode cX7_between 146 = .ok (.iconst 1, 1) := by decide +kernel
theorem dX7_between_147 : decode cX7_between 147 = .ok (.goto 4, 3) := by decide +kernel
theorem dX7_between_150 : decode cX7_between 150 = .ok (.iconst 0, 1) := by decide +kernel
theorem dX7_between_151 : decode cX7_between 151 = .ok (.istore 11, 2) := by decide +kernel
theorem dX7_between_153 : decode cX7_between 153 = .ok (.iload 10, 2) := by decide +kernel
theorem dX7_between_155 : decode cX7_between 155 = .ok (.iconst 1, 1) := by decide +kernel
theorem dX7_between_156 : decode cX7_between 156 = .ok (.iload 13, 2) := by decide +kernel
theorem dX7_between_158 : decode cX7_between 158 = .ok (.ishl, 1) := by decide +kernel
theorem dX7_between_159 : decode cX7_between 159 = .ok (.ior, 1) := by decide +kernel
theorem dX7_between_160 : decode cX7_between 160 = .ok (.istore 10, 2) := by decide +kernel
theorem dX7_between_162 : decode cX7_between 162 = .ok (.iload 13, 2) := by decide +kernel
theorem dX7_between_164 : decode cX7_between 164 = .ok (.istore 9, 2) := by decide +kernel
theorem dX7_between_166 : decode cX7_between 166 = .ok (.iinc 12 1, 3) := by decide +kernel
theorem dX7_between_169 : decode cX7_between 169 = .ok (.goto (-76), 3) := by decide +kernel
theorem dX7_between_172 : decode cX7_between 172 = .ok (.iload 11, 2) := by decide +kernel
theorem dX7_between_174 : decode cX7_between 174 = .ok (.ifCond .eq 33, 3) := by decide +kernel
theorem dX7_between_177 : decode cX7_between 177 = .ok (.aload_n 0, 1) := by decide +kernel
theorem dX7_between_178 : decode cX7_between 178 = .ok (.getfield 13, 3) := by decide +kernel
theorem dX7_between_181 : decode cX7_between 181 = .ok (.iload 9, 2) := by decide +kernel
theorem dX7_between_183 : decode cX7_between 183 = .ok (.iaload, 1) := by decide +kernel
theorem dX7_between_184 : decode cX7_between 184 = .ok (.iload_n 2, 1) := by decide +kernel
theorem dX7_between_185 : decode cX7_between 185 = .ok (.invokestatic 94, 3) := by decide +kernel
theorem dX7_between_188 : decode cX7_between 188 = .ok (.ifCond .eq 19, 3) := by decide +kernel
theorem dX7_between_191 : decode cX7_between 191 = .ok (.iload 6, 2) := by decide +kernel
theorem dX7_between_193 : decode cX7_between 193 = .ok (.iload 4, 2) := by decide +kernel
theorem dX7_between_195 : decode cX7_between 195 = .ok (.if_icmp .ne 9, 3) := by decide +kernel
theorem dX7_between_198 : decode cX7_between 198 = .ok (.iload 5, 2) := by decide +kernel
theorem dX7_between_200 : decode cX7_between 200 = .ok (.iload 7, 2) := by decide +kernel
theorem dX7_between_202 : decode cX7_between 202 = .ok (.iadd, 1) := by decide +kernel
theorem dX7_between_203 : decode cX7_between 203 = .ok (.ireturn, 1) := by decide +kernel
theorem dX7_between_204 : decode cX7_between 204 = .ok (.iinc 6 1, 3) := by decide +kernel
theorem dX7_between_207 : decode cX7_between 207 = .ok (.iinc 7 1, 3) := by decide +kernel
theorem dX7_between_210 : decode cX7_between 210 = .ok (.goto (-146), 3) := by decide +kernel
theorem dX7_between_213 : decode cX7_between 213 = .ok (.iload 4, 2) := by decide +kernel
theorem dX7_between_215 : decode cX7_between 215 = .ok (.iconst (-1), 1) := by decide +kernel
theorem dX7_between_216 : decode cX7_between 216 = .ok (.if_icmp .ne 8, 3) := by decide +kernel
theorem dX7_between_219 : decode cX7_between 219 = .ok (.iload 6, 2) := by decide +kernel
theorem dX7_between_221 : decode cX7_between 221 = .ok (.goto 5, 3) := by decide +kernel
theorem dX7_between_224 : decode cX7_between 224 = .ok (.bipush (-6), 2) := by decide +kernel
theorem dX7_between_226 : decode cX7_between 226 = .ok (.ireturn, 1) := by decide +kernel
set_option maxRecDepth 20000 in
theorem ggX7_high_X7_isInsult : GoodIn wsX7_high wsX7_isInsult := goodIn_r _ [6, 7, 8, 5, 9] (by decide +kernel) (by decide +kernel)
set_option maxRecDepth 20000 in
theorem gX7_high_X7_isInsult : GoodIn wsX7_high (va_wsS RX7 88 yX7_isInsult wsX7_isInsult) := goodIn_app (goodIn_of _ (by decide +kernel)) ggX7_high_X7_isInsult
set_option maxRecDepth 20000 in
theorem ggX7_high_X7_has : GoodIn wsX7_high wsX7_has := goodIn_r _ [12] (by decide +kernel) (by decide +kernel)
set_option maxRecDepth 20000 in
theorem gX7_high_X7_has : GoodIn wsX7_high (va_wsS RX7 94 yX7_has wsX7_has) := goodIn_app (goodIn_of _ (by decide +kernel)) ggX7_high_X7_has
theorem dX7_high_0 : decode cX7_high 0 = .ok (.iload_n 1, 1) := by decide +kernel
theorem dX7_high_1 : decode cX7_high 1 = .ok (.invokestatic 88, 3) := by decide +kernel
theorem dX7_high_4 : decode cX7_high 4 = .ok (.ifCond .ne 5, 3) := by decide +kernel
theorem dX7_high_7 : decode cX7_high 7 = .ok (.iconst (-1), 1) := by decide +kernel
theorem dX7_high_8 : decode cX7_high 8 = .ok (.ireturn, 1) := by decide +kernel
theorem dX7_high_9 : decode cX7_high 9 = .ok (.sipush 1023, 3) := by decide +kernel
theorem dX7_high_12 : decode cX7_high 12 = .ok (.istore_n 2, 1) := by decide +kernel
theorem dX7_high_13 : decode cX7_high 13 = .ok (.iload_n 2, 1) := by decide +kernel
theorem dX7_high_14 : decode cX7_high 14 = .ok (.ifCond .le 124, 3) := by decide +kernel
theorem dX7_high_17 : decode cX7_high 17 = .ok (.iconst 0, 1) := by decide +kernel
theorem dX7_high_18 : decode cX7_high 18 = .ok (.istore_n 3, 1) := by decide +kernel
theorem dX7_high_19 : decode cX7_high 19 = .ok (.iload_n 3, 1) := by decide +kernel
theorem dX7_high_20 : decode cX7_high 20 = .ok (.bipush 10, 2) := by decide +kernel
theorem dX7_high_22 : decode cX7_high 22 = .ok (.if_icmp .ge 110, 3) := by decide +kernel
theorem dX7_high_25 : decode cX7_high 25 = .ok (.iconst 0, 1) := by decide +kernel
theorem dX7_high_26 : decode cX7_high 26 = .ok (.istore 4, 2) := by decide +kernel
theorem dX7_high_28 : decode cX7_high 28 = .ok (.iconst 0, 1) := by decide +kernel
theorem dX7_high_29 : decode cX7_high 29 = .ok (.istore 5, 2) := by decide +kernel
theorem dX7_high_31 : decode cX7_high 31 = .ok (.iload 5, 2) := by decide +kernel
theorem dX7_high_33 : decode cX7_high 33 = .ok (.bipush 10, 2) := by decide +kernel
theorem dX7_high_35 : decode cX7_high 35 = .ok (.if_icmp .ge 77, 3) := by decide +kernel
theorem dX7_high_38 : decode cX7_high 38 = .ok (.iload_n 2, 1) := by decide +kernel
theorem dX7_high_39 : decode cX7_high 39 = .ok (.iload_n 3, 1) := by decide +kernel
theorem dX7_high_40 : decode cX7_high 40 = .ok (.invokestatic 94, 3) := by decide +kernel
theorem dX7_high_43 : decode cX7_high 43 = .ok (.ifCond .eq 69, 3) := by decide +kernel
theorem dX7_high_46 : decode cX7_high 46 = .ok (.aload_n 0, 1) := by decide +kernel
theorem dX7_high_47 : decode cX7_high 47 = .ok (.getfield 13, 3) := by decide +kernel
theorem dX7_high_50 : decode cX7_high 50 = .ok (.iload_n 3, 1) := by decide +kernel
theorem dX7_high_51 : decode cX7_high 51 = .ok (.iaload, 1) := by decide +kernel
theorem dX7_high_52 : decode cX7_high 52 = .ok (.iload_n 2, 1) := by decide +kernel
theorem dX7_high_53 : decode cX7_high 53 = .ok (.iconst (-1), 1) := by decide +kernel
theorem dX7_high_54 : decode cX7_high 54 = .ok (.ixor, 1) := by decide +kernel
theorem dX7_high_55 : decode cX7_high 55 = .ok (.iand, 1) := by decide +kernel
theorem dX7_high_56 : decode cX7_high 56 = .ok (.iload 5, 2) := by decide +kernel
theorem dX7_high_58 : decode cX7_high 58 = .ok (.invokestatic 94, 3) := by decide +kernel
theorem dX7_high_61 : decode cX7_high 61 = .ok (.ifCond .eq 26, 3) := by decide +kernel
theorem dX7_high_64 : decode cX7_high 64 = .ok (.aload_n 0, 1) := by decide +kernel
theorem dX7_high_65 : decode cX7_high 65 = .ok (.getfield 50, 3) := by decide +kernel
theorem dX7_high_68 : decode cX7_high 68 = .ok (.sipush 1024, 3) := by decide +kernel
theorem dX7_high_71 : decode cX7_high 71 = .ok (.iload 5, 2) := by decide +kernel
theorem dX7_high_73 : decode cX7_high 73 = .ok (.imul, 1) := by decide +kernel
theorem dX7_high_74 : decode cX7_high 74 = .ok (.iload_n 2, 1) := by decide +kernel
theorem dX7_high_75 : decode cX7_high 75 = .ok (.iconst 1, 1) := by decide +kernel
theorem dX7_high_76 : decode cX7_high 76 = .ok (.iload 5, 2) := by decide +kernel
theorem dX7_high_78 : decode cX7_high 78 = .ok (.ishl, 1) := by decide +kernel
theorem dX7_high_79 : decode cX7_high 79 = .ok (.ior, 1) := by decide +kernel
theorem dX7_high_80 : decode cX7_high 80 = .ok (.iadd, 1) := by decide +kernel
theorem dX7_high_81 : decode cX7_high 81 = .ok (.iaload, 1) := by decide +kernel
theorem dX7_high_82 : decode cX7_high 82 = .ok (.iconst 1, 1) := by decide +kernel
theorem dX7_high_83 : decode cX7_high 83 = .ok (.iadd, 1) := by decide +kernel
theorem dX7_high_84 : decode cX7_high 84 = .ok (.goto 4, 3) := by decide +kernel
theorem dX7_high_87 : decode cX7_high 87 = .ok (.iconst 0, 1) := by decide +kernel
theorem dX7_high_88 : decode cX7_high 88 = .ok (.istore 6, 2) := by decide +kernel
theorem dX7_high_90 : decode cX7_high 90 = .ok (.iload 6, 2) := by decide +kernel
theorem dX7_high_92 : decode cX7_high 92 = .ok (.iload 4, 2) := by decide +kernel
theorem dX7_high_94 : decode cX7_high 94 = .ok (.if_icmp .le 8, 3) := by decide +kernel
theorem dX7_high_97 : decode cX7_high 97 = .ok (.iload 6, 2) := by decide +kernel
theorem dX7_high_99 : decode cX7_high 99 = .ok (.goto 5, 3) := by decide +kernel
theorem dX7_high_102 : decode cX7_high 102 = .ok (.iload 4, 2) := by decide +kernel
theorem dX7_high_104 : decode cX7_high 104 = .ok (.istore 4, 2) := by decide +kernel
theorem dX7_high_106 : decode cX7_high 106 = .ok (.iinc 5 1, 3) := by decide +kernel
theorem dX7_high_109 : decode cX7_high 109 = .ok (.goto (-78), 3) := by decide +kernel
theorem dX7_high_112 : decode cX7_high 112 = .ok (.aload_n 0, 1) := by decide +kernel
theorem dX7_high_113 : decode cX7_high 113 = .ok (.getfield 50, 3) := by decide +kernel
theorem dX7_high_116 : decode cX7_high 116 = .ok (.sipush 1024, 3) := by decide +kernel
theorem dX7_high_119 : decode cX7_high 119 = .ok (.iload_n 3, 1) := by decide +kernel
theorem dX7_high_120 : decode cX7_high 120 = .ok (.imul, 1) := by decide +kernel
theorem dX7_high_121 : decode cX7_high 121 = .ok (.iload_n 2, 1) := by decide +kernel
theorem dX7_high_122 : decode cX7_high 122 = .ok (.iadd, 1) := by decide +kernel
theorem dX7_high_123 : decode cX7_high 123 = .ok (.iload 4, 2) := by decide +kernel
theorem dX7_high_125 : decode cX7_high 125 = .ok (.iastore, 1) := by decide +kernel
theorem dX7_high_126 : decode cX7_high 126 = .ok (.iinc 3 1, 3) := by decide +kernel
theorem dX7_high_129 : decode cX7_high 129 = .ok (.goto (-110), 3) := by decide +kernel
theorem dX7_high_132 : decode cX7_high 132 = .ok (.iinc 2 (-1), 3) := by decide +kernel
theorem dX7_high_135 : decode cX7_high 135 = .ok (.goto (-122), 3) := by decide +kernel
theorem dX7_high_138 : decode cX7_high 138 = .ok (.aload_n 0, 1) := by decide +kernel
theorem dX7_high_139 : decode cX7_high 139 = .ok (.getfield 50, 3) := by decide +kernel
theorem dX7_high_142 : decode cX7_high 142 = .ok (.sipush 1024, 3) := by decide +kernel
theorem dX7_high_145 : decode cX7_high 145 = .ok (.iload_n 1, 1) := by decide +kernel
theorem dX7_high_146 : decode cX7_high 146 = .ok (.imul, 1) := by decide +kernel
theorem dX7_high_147 : decode cX7_high 147 = .ok (.iconst 1, 1) := by decide +kernel
theorem dX7_high_148 : decode cX7_high 148 = .ok (.iload_n 1, 1) := by decide +kernel
theorem dX7_high_149 : decode cX7_high 149 = .ok (.ishl, 1) := by decide +kernel
theorem dX7_high_150 : decode cX7_high 150 = .ok (.iadd, 1) := by decide +kernel
theorem dX7_high_151 : decode cX7_high 151 = .ok (.iaload, 1) := by decide +kernel
theorem dX7_high_152 : decode cX7_high 152 = .ok (.ireturn, 1) := by decide +kernel
set_option maxRecDepth 20000 in
theorem ggX7_image_X7_in : GoodIn wsX7_image wsX7_in := goodIn_r _ [10] (by decide +kernel) (by decide +kernel)
set_option maxRecDepth 20000 in
theorem gX7_image_X7_in : GoodIn wsX7_image (va_wsS RX7 59 yX7_in wsX7_in) := goodIn_app (goodIn_of _ (by decide +kernel)) ggX7_image_X7_in
theorem dX7_image_0 : decode cX7_image 0 = .ok (.iload_n 1, 1) := by decide +kernel
theorem dX7_image_1 : decode cX7_image 1 = .ok (.iconst 0, 1) := by decide +kernel
theorem dX7_image_2 : decode cX7_image 2 = .ok (.iconst 1, 1) := by decide +kernel
theorem dX7_image_3 : decode cX7_image 3 = .ok (.invokestatic 59, 3) := by decide +kernel
theorem dX7_image_6 : decode cX7_image 6 = .ok (.ifCond .ne 6, 3) := by decide +kernel
theorem dX7_image_9 : decode cX7_image 9 = .ok (.bipush (-2), 2) := by decide +kernel
theorem dX7_image_11 : decode cX7_image 11 = .ok (.ireturn, 1) := by decide +kernel
theorem dX7_image_12 : decode cX7_image 12 = .ok (.iconst 0, 1) := by decide +kernel
theorem dX7_image_13 : decode cX7_image 13 = .ok (.istore_n 2, 1) := by decide +kernel
theorem dX7_image_14 : decode cX7_image 14 = .ok (.iload_n 2, 1) := by decide +kernel
theorem dX7_image_15 : decode cX7_image 15 = .ok (.bipush 10, 2) := by decide +kernel
theorem dX7_image_17 : decode cX7_image 17 = .ok (.if_icmp .ge 46, 3) := by decide +kernel
theorem dX7_image_20 : decode cX7_image 20 = .ok (.aload_n 0, 1) := by decide +kernel
theorem dX7_image_21 : decode cX7_image 21 = .ok (.getfield 53, 3) := by decide +kernel
theorem dX7_image_24 : decode cX7_image 24 = .ok (.bipush 30, 2) := by decide +kernel
theorem dX7_image_26 : decode cX7_image 26 = .ok (.iload_n 1, 1) := by decide +kernel
theorem dX7_image_27 : decode cX7_image 27 = .ok (.imul, 1) := by decide +kernel
theorem dX7_image_28 : decode cX7_image 28 = .ok (.iload_n 2, 1) := by decide +kernel
theorem dX7_image_29 : decode cX7_image 29 = .ok (.iadd, 1) := by decide +kernel
theorem dX7_image_30 : decode cX7_image 30 = .ok (.aload_n 0, 1) := by decide +kernel
theorem dX7_image_31 : decode cX7_image 31 = .ok (.getfield 13, 3) := by decide +kernel
theorem dX7_image_34 : decode cX7_image 34 = .ok (.iload_n 2, 1) := by decide +kernel
theorem dX7_image_35 : decode cX7_image 35 = .ok (.iaload, 1) := by decide +kernel
theorem dX7_image_36 : decode cX7_image 36 = .ok (.iastore, 1) := by decide +kernel
theorem dX7_image_37 : decode cX7_image 37 = .ok (.aload_n 0, 1) := by decide +kernel
theorem dX7_image_38 : decode cX7_image 38 = .ok (.getfield 53, 3) := by decide +kernel
theorem dX7_image_41 : decode cX7_image 41 = .ok (.bipush 30, 2) := by decide +kernel
theorem dX7_image_43 : decode cX7_image 43 = .ok (.iload_n 1, 1) := by decide +kernel
theorem dX7_image_44 : decode cX7_image 44 = .ok (.imul, 1) := by decide +kernel
theorem dX7_image_45 : decode cX7_image 45 = .ok (.bipush 10, 2) := by decide +kernel
theorem dX7_image_47 : decode cX7_image 47 = .ok (.iadd, 1) := by decide +kernel
theorem dX7_image_48 : decode cX7_image 48 = .ok (.iload_n 2, 1) := by decide +kernel
theorem dX7_image_49 : decode cX7_image 49 = .ok (.iadd, 1) := by decide +kernel
theorem dX7_image_50 : decode cX7_image 50 = .ok (.aload_n 0, 1) := by decide +kernel
theorem dX7_image_51 : decode cX7_image 51 = .ok (.getfield 16, 3) := by decide +kernel
theorem dX7_image_54 : decode cX7_image 54 = .ok (.iload_n 2, 1) := by decide +kernel
theorem dX7_image_55 : decode cX7_image 55 = .ok (.iaload, 1) := by decide +kernel
theorem dX7_image_56 : decode cX7_image 56 = .ok (.iastore, 1) := by decide +kernel
theorem dX7_image_57 : decode cX7_image 57 = .ok (.iinc 2 1, 3) := by decide +kernel
theorem dX7_image_60 : decode cX7_image 60 = .ok (.goto (-46), 3) := by decide +kernel
theorem dX7_image_63 : decode cX7_image 63 = .ok (.iconst 0, 1) := by decide +kernel
theorem dX7_image_64 : decode cX7_image 64 = .ok (.istore_n 2, 1) := by decide +kernel
theorem dX7_image_65 : decode cX7_image 65 = .ok (.iload_n 2, 1) := by decide +kernel
theorem dX7_image_66 : decode cX7_image 66 = .ok (.iconst 5, 1) := by decide +kernel
theorem dX7_image_67 : decode cX7_image 67 = .ok (.if_icmp .ge 49, 3) := by decide +kernel
theorem dX7_image_70 : decode cX7_image 70 = .ok (.aload_n 0, 1) := by decide +kernel
theorem dX7_image_71 : decode cX7_image 71 = .ok (.getfield 53, 3) := by decide +kernel
theorem dX7_image_74 : decode cX7_image 74 = .ok (.bipush 30, 2) := by decide +kernel
theorem dX7_image_76 : decode cX7_image 76 = .ok (.iload_n 1, 1) := by decide +kernel
theorem dX7_image_77 : decode cX7_image 77 = .ok (.imul, 1) := by decide +kernel
theorem dX7_image_78 : decode cX7_image 78 = .ok (.bipush 20, 2) := by decide +kernel
theorem dX7_image_80 : decode cX7_image 80 = .ok (.iadd, 1) := by decide +kernel
theorem dX7_image_81 : decode cX7_image 81 = .ok (.iload_n 2, 1) := by decide +kernel
theorem dX7_image_82 : decode cX7_image 82 = .ok (.iadd, 1) := by decide +kernel
theorem dX7_image_83 : decode cX7_image 83 = .ok (.aload_n 0, 1) := by decide +kernel
theorem dX7_image_84 : decode cX7_image 84 = .ok (.getfield 19, 3) := by decide +kernel
theorem dX7_image_87 : decode cX7_image 87 = .ok (.iload_n 2, 1) := by decide +kernel
theorem dX7_image_88 : decode cX7_image 88 = .ok (.iaload, 1) := by decide +kernel
theorem dX7_image_89 : decode cX7_image 89 = .ok (.iastore, 1) := by decide +kernel
theorem dX7_image_90 : decode cX7_image 90 = .ok (.aload_n 0, 1) := by decide +kernel
theorem dX7_image_91 : decode cX7_image 91 = .ok (.getfield 53, 3) := by decide +kernel
theorem dX7_image_94 : decode cX7_image 94 = .ok (.bipush 30, 2) := by decide +kernel
theorem dX7_image_96 : decode cX7_image 96 = .ok (.iload_n 1, 1) := by decide +kernel
theorem dX7_image_97 : decode cX7_image 97 = .ok (.imul, 1) := by decide +kernel
theorem dX7_image_98 : decode cX7_image 98 = .ok (.bipush 25, 2) := by decide +kernel
theorem dX7_image_100 : decode cX7_image 100 = .ok (.iadd, 1) := by decide +kernel
theorem dX7_image_101 : decode cX7_image 101 = .ok (.iload_n 2, 1) := by decide +kernel
theorem dX7_image_102 : decode cX7_image 102 = .ok (.iadd, 1) := by decide +kernel
theorem dX7_image_103 : decode cX7_image 103 = .ok (.aload_n 0, 1) := by decide +kernel
theorem dX7_image_104 : decode cX7_image 104 = .ok (.getfield 22, 3) := by decide +kernel
theorem dX7_image_107 : decode cX7_image 107 = .ok (.iload_n 2, 1) := by decide +kernel
theorem dX7_image_108 : decode cX7_image 108 = .ok (.iaload, 1) := by decide +kernel
theorem dX7_image_109 : decode cX7_image 109 = .ok (.iastore, 1) := by decide +kernel
theorem dX7_image_110 : decode cX7_image 110 = .ok (.iinc 2 1, 3) := by decide +kernel
theorem dX7_image_113 : decode cX7_image 113 = .ok (.goto (-48), 3) := by decide +kernel
theorem dX7_image_116 : decode cX7_image 116 = .ok (.aload_n 0, 1) := by decide +kernel
theorem dX7_image_117 : decode cX7_image 117 = .ok (.getfield 56, 3) := by decide +kernel
theorem dX7_image_120 : decode cX7_image 120 = .ok (.iload_n 1, 1) := by decide +kernel
theorem dX7_image_121 : decode cX7_image 121 = .ok (.iconst 1, 1) := by decide +kernel
theorem dX7_image_122 : decode cX7_image 122 = .ok (.bastore, 1) := by decide +kernel
theorem dX7_image_123 : decode cX7_image 123 = .ok (.iconst 1, 1) := by decide +kernel
theorem dX7_image_124 : decode cX7_image 124 = .ok (.ireturn, 1) := by decide +kernel
set_option maxRecDepth 20000 in
theorem ggX7_restore_X7_in : GoodIn wsX7_restore wsX7_in := goodIn_r _ [10] (by decide +kernel) (by decide +kernel)
set_option maxRecDepth 20000 in
theorem gX7_restore_X7_in : GoodIn wsX7_restore (va_wsS RX7 59 yX7_in wsX7_in) := goodIn_app (goodIn_of _ (by decide +kernel)) ggX7_restore_X7_in
theorem dX7_restore_0 : decode cX7_restore 0 = .ok (.iload_n 1, 1) := by decide +kernel
theorem dX7_restore_1 : decode cX7_restore 1 = .ok (.iconst 0, 1) := by decide +kernel
theorem dX7_restore_2 : decode cX7_restore 2 = .ok (.iconst 1, 1) := by decide +kernel
theorem dX7_restore_3 : decode cX7_restore 3 = .ok (.invokestatic 59, 3) := by decide +kernel
theorem dX7_restore_6 : decode cX7_restore 6 = .ok (.ifCond .ne 6, 3) := by decide +kernel
theorem dX7_restore_9 : decode cX7_restore 9 = .ok (.bipush (-2), 2) := by decide +kernel
theorem dX7_restore_11 : decode cX7_restore 11 = .ok (.ireturn, 1) := by decide +kernel
theorem dX7_restore_12 : decode cX7_restore 12 = .ok (.aload_n 0, 1) := by decide +kernel
theorem dX7_restore_13 : decode cX7_restore 13 = .ok (.getfield 56, 3) := by decide +kernel
theorem dX7_restore_16 : decode cX7_restore 16 = .ok (.iload_n 1, 1) := by decide +kernel
theorem dX7_restore_17 : decode cX7_restore 17 = .ok (.baload, 1) := by decide +kernel
theorem dX7_restore_18 : decode cX7_restore 18 = .ok (.ifCond .ne 6, 3) := by decide +kernel
theorem dX7_restore_21 : decode cX7_restore 21 = .ok (.bipush (-3), 2) := by decide +kernel
theorem dX7_restore_23 : decode cX7_restore 23 = .ok (.ireturn, 1) := by decide +kernel
theorem dX7_restore_24 : decode cX7_restore 24 = .ok (.iconst 0, 1) := by decide +kernel
theorem dX7_restore_25 : decode cX7_restore 25 = .ok (.istore_n 2, 1) := by decide +kernel
theorem dX7_restore_26 : decode cX7_restore 26 = .ok (.iload_n 2, 1) := by decide +kernel
theorem dX7_restore_27 : decode cX7_restore 27 = .ok (.bipush 10, 2) := by decide +kernel
theorem dX7_restore_29 : decode cX7_restore 29 = .ok (.if_icmp .ge 46, 3) := by decide +kernel
theorem dX7_restore_32 : decode cX7_restore 32 = .ok (.aload_n 0, 1) := by decide +kernel
theorem dX7_restore_33 : decode cX7_restore 33 = .ok (.getfield 13, 3) := by decide +kernel
theorem dX7_restore_36 : decode cX7_restore 36 = .ok (.iload_n 2, 1) := by decide +kernel
theorem dX7_restore_37 : decode cX7_restore 37 = .ok (.aload_n 0, 1) := by decide +kernel
theorem dX7_restore_38 : decode cX7_restore 38 = .ok (.getfield 53, 3) := by decide +kernel
theorem dX7_restore_41 : decode cX7_restore 41 = .ok (.bipush 30, 2) := by decide +kernel
theorem dX7_restore_43 : decode cX7_restore 43 = .ok (.iload_n 1, 1) := by decide +kernel
theorem dX7_restore_44 : decode cX7_restore 44 = .ok (.imul, 1) := by decide +kernel
theorem dX7_restore_45 : decode cX7_restore 45 = .ok (.iload_n 2, 1) := by decide +kernel
theorem dX7_restore_46 : decode cX7_restore 46 = .ok (.iadd, 1) := by decide +kernel
theorem dX7_restore_47 : decode cX7_restore 47 = .ok (.iaload, 1) := by decide +kernel
theorem dX7_restore_48 : decode cX7_restore 48 = .ok (.iastore, 1) := by decide +kernel
theorem dX7_restore_49 : decode cX7_restore 49 = .ok (.aload_n 0, 1) := by decide +kernel
theorem dX7_restore_50 : decode cX7_restore 50 = .ok (.getfield 16, 3) := by decide +kernel
theorem dX7_restore_53 : decode cX7_restore 53 = .ok (.iload_n 2, 1) := by decide +kernel
theorem dX7_restore_54 : decode cX7_restore 54 = .ok (.aload_n 0, 1) := by decide +kernel
theorem dX7_restore_55 : decode cX7_restore 55 = .ok (.getfield 53, 3) := by decide +kernel
theorem dX7_restore_58 : decode cX7_restore 58 = .ok (.bipush 30, 2) := by decide +kernel
theorem dX7_restore_60 : decode cX7_restore 60 = .ok (.iload_n 1, 1) := by decide +kernel
theorem dX7_restore_61 : decode cX7_restore 61 = .ok (.imul, 1) := by decide +kernel
theorem dX7_restore_62 : decode cX7_restore 62 = .ok (.bipush 10, 2) := by decide +kernel
theorem dX7_restore_64 : decode cX7_restore 64 = .ok (.iadd, 1) := by decide +kernel
theorem dX7_restore_65 : decode cX7_restore 65 = .ok (.iload_n 2, 1) := by decide +kernel
theorem dX7_restore_66 : decode cX7_restore 66 = .ok (.iadd, 1) := by decide +kernel
theorem dX7_restore_67 : decode cX7_restore 67 = .ok (.iaload, 1) := by decide +kernel
theorem dX7_restore_68 : decode cX7_restore 68 = .ok (.iastore, 1) := by decide +kernel
theorem dX7_restore_69 : decode cX7_restore 69 = .ok (.iinc 2 1, 3) := by decide +kernel
theorem dX7_restore_72 : decode cX7_restore 72 = .ok (.goto (-46), 3) := by decide +kernel
theorem dX7_restore_75 : decode cX7_restore 75 = .ok (.iconst 0, 1) := by decide +kernel
theorem dX7_restore_76 : decode cX7_restore 76 = .ok (.istore_n 2, 1) := by decide +kernel
theorem dX7_restore_77 : decode cX7_restore 77 = .ok (.iload_n 2, 1) := by decide +kernel
theorem dX7_restore_78 : decode cX7_restore 78 = .ok (.iconst 5, 1) := by decide +kernel
theorem dX7_restore_79 : decode cX7_restore 79 = .ok (.if_icmp .ge 49, 3) := by decide +kernel
theorem dX7_restore_82 : decode cX7_restore 82 = .ok (.aload_n 0, 1) := by decide +kernel
theorem dX7_restore_83 : decode cX7_restore 83 = .ok (.getfield 19, 3) := by decide +kernel
theorem dX7_restore_86 : decode cX7_restore 86 = .ok (.iload_n 2, 1) := by decide +kernel
theorem dX7_restore_87 : decode cX7_restore 87 = .ok (.aload_n 0, 1) := by decide +kernel
theorem dX7_restore_88 : decode cX7_restore 88 = .ok (.getfield 53, 3) := by decide +kernel
theorem dX7_restore_91 : decode cX7_restore 91 = .ok (.bipush 30, 2) := by decide +kernel
theorem dX7_restore_93 : decode cX7_restore 93 = .ok (.iload_n 1, 1) := by decide +kernel
theorem dX7_restore_94 : decode cX7_restore 94 = .ok (.imul, 1) := by decide +kernel
theorem dX7_restore_95 : decode cX7_restore 95 = .ok (.bipush 20, 2) := by decide +kernel
theorem dX7_restore_97 : decode cX7_restore 97 = .ok (.iadd, 1) := by decide +kernel
theorem dX7_restore_98 : decode cX7_restore 98 = .ok (.iload_n 2, 1) := by decide +kernel
theorem dX7_restore_99 : decode cX7_restore 99 = .ok (.iadd, 1) := by decide +kernel
theorem dX7_restore_100 : decode cX7_restore 100 = .ok (.iaload, 1) := by decide +kernel
theorem dX7_restore_101 : decode cX7_restore 101 = .ok (.iastore, 1) := by decide +kernel
theorem dX7_restore_102 : decode cX7_restore 102 = .ok (.aload_n 0, 1) := by decide +kernel
theorem dX7_restore_103 : decode cX7_restore 103 = .ok (.getfield 22, 3) := by decide +kernel
theorem dX7_restore_106 : decode cX7_restore 106 = .ok (.iload_n 2, 1) := by decide +kernel
theorem dX7_restore_107 : decode cX7_restore 107 = .ok (.aload_n 0, 1) := by decide +kernel
theorem dX7_restore_108 : decode cX7_restore 108 = .ok (.getfield 53, 3) := by decide +kernel
theorem dX7_restore_111 : decode cX7_restore 111 = .ok (.bipush 30, 2) := by decide +kernel
theorem dX7_restore_113 : decode cX7_restore 113 = .ok (.iload_n 1, 1) := by decide +kernel
theorem dX7_restore_114 : decode cX7_restore 114 = .ok (.imul, 1) := by decide +kernel
theorem dX7_restore_115 : decode cX7_restore 115 = .ok (.bipush 25, 2) := by decide +kernel
theorem dX7_restore_117 : decode cX7_restore 117 = .ok (.iadd, 1) := by decide +kernel
theorem dX7_restore_118 : decode cX7_restore 118 = .ok (.iload_n 2, 1) := by decide +kernel
theorem dX7_restore_119 : decode cX7_restore 119 = .ok (.iadd, 1) := by decide +kernel
theorem dX7_restore_120 : decode cX7_restore 120 = .ok (.iaload, 1) := by decide +kernel
theorem dX7_restore_121 : decode cX7_restore 121 = .ok (.iastore, 1) := by decide +kernel
theorem dX7_restore_122 : decode cX7_restore 122 = .ok (.iinc 2 1, 3) := by decide +kernel
theorem dX7_restore_125 : decode cX7_restore 125 = .ok (.goto (-48), 3) := by decide +kernel
theorem dX7_restore_128 : decode cX7_restore 128 = .ok (.iconst 1, 1) := by decide +kernel
theorem dX7_restore_129 : decode cX7_restore 129 = .ok (.ireturn, 1) := by decide +kernel
set_option maxRecDepth 20000 in
theorem ggX7_join_X7_in : GoodIn wsX7_join wsX7_in := goodIn_r _ [7] (by decide +kernel) (by decide +kernel)
set_option maxRecDepth 20000 in
theorem gX7_join_X7_in : GoodIn wsX7_join (va_wsS RX7 59 yX7_in wsX7_in) := goodIn_app (goodIn_of _ (by decide +kernel)) ggX7_join_X7_in
set_option maxRecDepth 20000 in
theorem ggX7_join_X7_allSteps : GoodIn wsX7_join wsX7_allSteps := goodIn_r _ [11, 2, 12, 13, 6, 14, 15, 16, 17, 18, 19, 20, 21, 22, 23, 24, 25, 26, 27, 28, 29, 30, 31, 32] (by decide +kernel) (by decide +kernel)
set_option maxRecDepth 20000 in
theorem gX7_join_X7_allSteps : GoodIn wsX7_join (wsV RX7 85 RX7 yX7_allSteps wsX7_allSteps) := goodIn_app (goodIn_of _ (by decide +kernel)) ggX7_join_X7_allSteps
theorem dX7_join_0 : decode cX7_join 0 = .ok (.iload_n 1, 1) := by decide +kernel
theorem dX7_join_1 : decode cX7_join 1 = .ok (.iconst 0, 1) := by decide +kernel
theorem dX7_join_2 : decode cX7_join 2 = .ok (.iconst 1, 1) := by decide +kernel
theorem dX7_join_3 : decode cX7_join 3 = .ok (.invokestatic 59, 3) := by decide +kernel
theorem dX7_join_6 : decode cX7_join 6 = .ok (.ifCond .ne 6, 3) := by decide +kernel
theorem dX7_join_9 : decode cX7_join 9 = .ok (.bipush (-2), 2) := by decide +kernel
theorem dX7_join_11 : decode cX7_join 11 = .ok (.ireturn, 1) := by decide +kernel
theorem dX7_join_12 : decode cX7_join 12 = .ok (.aload_n 0, 1) := by decide +kernel
theorem dX7_join_13 : decode cX7_join 13 = .ok (.getfield 56, 3) := by decide +kernel
theorem dX7_join_16 : decode cX7_join 16 = .ok (.iload_n 1, 1) := by decide +kernel
theorem dX7_join_17 : decode cX7_join 17 = .ok (.baload, 1) := by decide +kernel
theorem dX7_join_18 : decode cX7_join 18 = .ok (.ifCond .ne 6, 3) := by decide +kernel
theorem dX7_join_21 : decode cX7_join 21 = .ok (.bipush (-3), 2) := by decide +kernel
theorem dX7_join_23 : decode cX7_join 23 = .ok (.ireturn, 1) := by decide +kernel
theorem dX7_join_24 : decode cX7_join 24 = .ok (.iconst 0, 1) := by decide +kernel
theorem dX7_join_25 : decode cX7_join 25 = .ok (.istore_n 2, 1) := by decide +kernel
theorem dX7_join_26 : decode cX7_join 26 = .ok (.iload_n 2, 1) := by decide +kernel
theorem dX7_join_27 : decode cX7_join 27 = .ok (.bipush 10, 2) := by decide +kernel
theorem dX7_join_29 : decode cX7_join 29 = .ok (.if_icmp .ge 29, 3) := by decide +kernel
theorem dX7_join_32 : decode cX7_join 32 = .ok (.aload_n 0, 1) := by decide +kernel
theorem dX7_join_33 : decode cX7_join 33 = .ok (.getfield 13, 3) := by decide +kernel
theorem dX7_join_36 : decode cX7_join 36 = .ok (.iload_n 2, 1) := by decide +kernel
theorem dX7_join_37 : decode cX7_join 37 = .ok (.dup2, 1) := by decide +kernel
theorem dX7_join_38 : decode cX7_join 38 = .ok (.iaload, 1) := by decide +kernel
theorem dX7_join_39 : decode cX7_join 39 = .ok (.aload_n 0, 1) := by decide +kernel
theorem dX7_join_40 : decode cX7_join 40 = .ok (.getfield 53, 3) := by decide +kernel
theorem dX7_join_43 : decode cX7_join 43 = .ok (.bipush 30, 2) := by decide +kernel
theorem dX7_join_45 : decode cX7_join 45 = .ok (.iload_n 1, 1) := by decide +kernel
theorem dX7_join_46 : decode cX7_join 46 = .ok (.imul, 1) := by decide +kernel
theorem dX7_join_47 : decode cX7_join 47 = .ok (.iload_n 2, 1) := by decide +kernel
theorem dX7_join_48 : decode cX7_join 48 = .ok (.iadd, 1) := by decide +kernel
theorem dX7_join_49 : decode cX7_join 49 = .ok (.iaload, 1) := by decide +kernel
theorem dX7_join_50 : decode cX7_join 50 = .ok (.ior, 1) := by decide +kernel
theorem dX7_join_51 : decode cX7_join 51 = .ok (.iastore, 1) := by decide +kernel
theorem dX7_join_52 : decode cX7_join 52 = .ok (.iinc 2 1, 3) := by decide +kernel
theorem dX7_join_55 : decode cX7_join 55 = .ok (.goto (-29), 3) := by decide +kernel
theorem dX7_join_58 : decode cX7_join 58 = .ok (.aload_n 0, 1) := by decide +kernel
theorem dX7_join_59 : decode cX7_join 59 = .ok (.invokevirtual 85, 3) := by decide +kernel
theorem dX7_join_62 : decode cX7_join 62 = .ok (.ireturn, 1) := by decide +kernel
set_option maxRecDepth 20000 in
theorem ggX7_told_X7_in : GoodIn wsX7_told wsX7_in := goodIn_r _ [9] (by decide +kernel) (by decide +kernel)
set_option maxRecDepth 20000 in
theorem gX7_told_X7_in : GoodIn wsX7_told (va_wsS RX7 59 yX7_in wsX7_in) := goodIn_app (goodIn_of _ (by decide +kernel)) ggX7_told_X7_in
set_option maxRecDepth 20000 in
theorem ggX7_told_X7_allSteps : GoodIn wsX7_told wsX7_allSteps := goodIn_r _ [13, 4, 14, 15, 8, 16, 17, 18, 19, 20, 21, 22, 23, 24, 25, 26, 27, 28, 29, 30, 31, 32, 33, 34] (by decide +kernel) (by decide +kernel)
set_option maxRecDepth 20000 in
theorem gX7_told_X7_allSteps : GoodIn wsX7_told (wsV RX7 85 RX7 yX7_allSteps wsX7_allSteps) := goodIn_app (goodIn_of _ (by decide +kernel)) ggX7_told_X7_allSteps
theorem dX7_told_0 : decode cX7_told 0 = .ok (.iload_n 1, 1) := by decide +kernel
theorem dX7_told_1 : decode cX7_told 1 = .ok (.bipush 10, 2) := by decide +kernel
theorem dX7_told_3 : decode cX7_told 3 = .ok (.irem, 1) := by decide +kernel
theorem dX7_told_4 : decode cX7_told 4 = .ok (.istore_n 2, 1) := by decide +kernel
theorem dX7_told_5 : decode cX7_told 5 = .ok (.iload_n 1, 1) := by decide +kernel
theorem dX7_told_6 : decode cX7_told 6 = .ok (.bipush 10, 2) := by decide +kernel
theorem dX7_told_8 : decode cX7_told 8 = .ok (.bipush 19, 2) := by decide +kernel
theorem dX7_told_10 : decode cX7_told 10 = .ok (.invokestatic 59, 3) := by decide +kernel
theorem dX7_told_13 : decode cX7_told 13 = .ok (.ifCond .eq 10, 3) := by decide +kernel
theorem dX7_told_16 : decode cX7_told 16 = .ok (.aload_n 0, 1) := by decide +kernel
theorem dX7_told_17 : decode cX7_told 17 = .ok (.getfield 16, 3) := by decide +kernel
theorem dX7_told_20 : decode cX7_told 20 = .ok (.iload_n 2, 1) := by decide +kernel
theorem dX7_told_21 : decode cX7_told 21 = .ok (.iaload, 1) := by decide +kernel
theorem dX7_told_22 : decode cX7_told 22 = .ok (.ireturn, 1) := by decide +kernel
theorem dX7_told_23 : decode cX7_told 23 = .ok (.iload_n 1, 1) := by decide +kernel
theorem dX7_told_24 : decode cX7_told 24 = .ok (.bipush 20, 2) := by decide +kernel
theorem dX7_told_26 : decode cX7_told 26 = .ok (.bipush 24, 2) := by decide +kernel
theorem dX7_told_28 : decode cX7_told 28 = .ok (.invokestatic 59, 3) := by decide +kernel
theorem dX7_told_31 : decode cX7_told 31 = .ok (.ifCond .eq 10, 3) := by decide +kernel
theorem dX7_told_34 : decode cX7_told 34 = .ok (.aload_n 0, 1) := by decide +kernel
theorem dX7_told_35 : decode cX7_told 35 = .ok (.getfield 19, 3) := by decide +kernel
theorem dX7_told_38 : decode cX7_told 38 = .ok (.iload_n 2, 1) := by decide +kernel
theorem dX7_told_39 : decode cX7_told 39 = .ok (.iaload, 1) := by decide +kernel
theorem dX7_told_40 : decode cX7_told 40 = .ok (.ireturn, 1) := by decide +kernel
theorem dX7_told_41 : decode cX7_told 41 = .ok (.iload_n 1, 1) := by decide +kernel
theorem dX7_told_42 : decode cX7_told 42 = .ok (.bipush 30, 2) := by decide +kernel
theorem dX7_told_44 : decode cX7_told 44 = .ok (.bipush 34, 2) := by decide +kernel
theorem dX7_told_46 : decode cX7_told 46 = .ok (.invokestatic 59, 3) := by decide +kernel
theorem dX7_told_49 : decode cX7_told 49 = .ok (.ifCond .eq 10, 3) := by decide +kernel
theorem dX7_told_52 : decode cX7_told 52 = .ok (.aload_n 0, 1) := by decide +kernel
theorem dX7_told_53 : decode cX7_told 53 = .ok (.getfield 22, 3) := by decide +kernel
theorem dX7_told_56 : decode cX7_told 56 = .ok (.iload_n 2, 1) := by decide +kernel
theorem dX7_told_57 : decode cX7_told 57 = .ok (.iaload, 1) := by decide +kernel
theorem dX7_told_58 : decode cX7_told 58 = .ok (.ireturn, 1) := by decide +kernel
theorem dX7_told_59 : decode cX7_told 59 = .ok (.iload_n 1, 1) := by decide +kernel
theorem dX7_told_60 : decode cX7_told 60 = .ok (.bipush 40, 2) := by decide +kernel
theorem dX7_told_62 : decode cX7_told 62 = .ok (.bipush 49, 2) := by decide +kernel
theorem dX7_told_64 : decode cX7_told 64 = .ok (.invokestatic 59, 3) := by decide +kernel
theorem dX7_told_67 : decode cX7_told 67 = .ok (.ifCond .eq 10, 3) := by decide +kernel
theorem dX7_told_70 : decode cX7_told 70 = .ok (.aload_n 0, 1) := by decide +kernel
theorem dX7_told_71 : decode cX7_told 71 = .ok (.getfield 13, 3) := by decide +kernel
theorem dX7_told_74 : decode cX7_told 74 = .ok (.iload_n 2, 1) := by decide +kernel
theorem dX7_told_75 : decode cX7_told 75 = .ok (.iaload, 1) := by decide +kernel
theorem dX7_told_76 : decode cX7_told 76 = .ok (.ireturn, 1) := by decide +kernel
theorem dX7_told_77 : decode cX7_told 77 = .ok (.iload_n 1, 1) := by decide +kernel
theorem dX7_told_78 : decode cX7_told 78 = .ok (.ifCond .ne 10, 3) := by decide +kernel
theorem dX7_told_81 : decode cX7_told 81 = .ok (.aload_n 0, 1) := by decide +kernel
theorem dX7_told_82 : decode cX7_told 82 = .ok (.getfield 67, 3) := by decide +kernel
theorem dX7_told_85 : decode cX7_told 85 = .ok (.goto 17, 3) := by decide +kernel
theorem dX7_told_88 : decode cX7_told 88 = .ok (.iload_n 1, 1) := by decide +kernel
theorem dX7_told_89 : decode cX7_told 89 = .ok (.iconst 1, 1) := by decide +kernel
theorem dX7_told_90 : decode cX7_told 90 = .ok (.if_icmp .ne 10, 3) := by decide +kernel
theorem dX7_told_93 : decode cX7_told 93 = .ok (.aload_n 0, 1) := by decide +kernel
theorem dX7_told_94 : decode cX7_told 94 = .ok (.invokevirtual 85, 3) := by decide +kernel
theorem dX7_told_97 : decode cX7_told 97 = .ok (.goto 5, 3) := by decide +kernel
theorem dX7_told_100 : decode cX7_told 100 = .ok (.bipush (-2), 2) := by decide +kernel
theorem dX7_told_102 : decode cX7_told 102 = .ok (.ireturn, 1) := by decide +kernel
theorem dJ6_bitCount_0f7a4_0 : decode cJ6_bitCount_0f7a4 0 = .ok (.iload_n 0, 1) := by decide +kernel
theorem dJ6_bitCount_0f7a4_1 : decode cJ6_bitCount_0f7a4 1 = .ok (.iload_n 0, 1) := by decide +kernel
theorem dJ6_bitCount_0f7a4_2 : decode cJ6_bitCount_0f7a4 2 = .ok (.iconst 1, 1) := by decide +kernel
theorem dJ6_bitCount_0f7a4_3 : decode cJ6_bitCount_0f7a4 3 = .ok (.iushr, 1) := by decide +kernel
theorem dJ6_bitCount_0f7a4_4 : decode cJ6_bitCount_0f7a4 4 = .ok (.ldc_w 265, 3) := by decide +kernel
theorem dJ6_bitCount_0f7a4_7 : decode cJ6_bitCount_0f7a4 7 = .ok (.iand, 1) := by decide +kernel
theorem dJ6_bitCount_0f7a4_8 : decode cJ6_bitCount_0f7a4 8 = .ok (.isub, 1) := by decide +kernel
theorem dJ6_bitCount_0f7a4_9 : decode cJ6_bitCount_0f7a4 9 = .ok (.istore_n 0, 1) := by decide +kernel
theorem dJ6_bitCount_0f7a4_10 : decode cJ6_bitCount_0f7a4 10 = .ok (.iload_n 0, 1) := by decide +kernel
theorem dJ6_bitCount_0f7a4_11 : decode cJ6_bitCount_0f7a4 11 = .ok (.ldc_w 266, 3) := by decide +kernel
theorem dJ6_bitCount_0f7a4_14 : decode cJ6_bitCount_0f7a4 14 = .ok (.iand, 1) := by decide +kernel
theorem dJ6_bitCount_0f7a4_15 : decode cJ6_bitCount_0f7a4 15 = .ok (.iload_n 0, 1) := by decide +kernel
theorem dJ6_bitCount_0f7a4_16 : decode cJ6_bitCount_0f7a4 16 = .ok (.iconst 2, 1) := by decide +kernel
theorem dJ6_bitCount_0f7a4_17 : decode cJ6_bitCount_0f7a4 17 = .ok (.iushr, 1) := by decide +kernel
theorem dJ6_bitCount_0f7a4_18 : decode cJ6_bitCount_0f7a4 18 = .ok (.ldc_w 266, 3) := by decide +kernel
theorem dJ6_bitCount_0f7a4_21 : decode cJ6_bitCount_0f7a4 21 = .ok (.iand, 1) := by decide +kernel
theorem dJ6_bitCount_0f7a4_22 : decode cJ6_bitCount_0f7a4 22 = .ok (.iadd, 1) := by decide +kernel
theorem dJ6_bitCount_0f7a4_23 : decode cJ6_bitCount_0f7a4 23 = .ok (.istore_n 0, 1) := by decide +kernel
theorem dJ6_bitCount_0f7a4_24 : decode cJ6_bitCount_0f7a4 24 = .ok (.iload_n 0, 1) := by decide +kernel
theorem dJ6_bitCount_0f7a4_25 : decode cJ6_bitCount_0f7a4 25 = .ok (.iload_n 0, 1) := by decide +kernel
theorem dJ6_bitCount_0f7a4_26 : decode cJ6_bitCount_0f7a4 26 = .ok (.iconst 4, 1) := by decide +kernel
theorem dJ6_bitCount_0f7a4_27 : decode cJ6_bitCount_0f7a4 27 = .ok (.iushr, 1) := by decide +kernel
theorem dJ6_bitCount_0f7a4_28 : decode cJ6_bitCount_0f7a4 28 = .ok (.iadd, 1) := by decide +kernel
theorem dJ6_bitCount_0f7a4_29 : decode cJ6_bitCount_0f7a4 29 = .ok (.ldc_w 267, 3) := by decide +kernel
theorem dJ6_bitCount_0f7a4_32 : decode cJ6_bitCount_0f7a4 32 = .ok (.iand, 1) := by decide +kernel
theorem dJ6_bitCount_0f7a4_33 : decode cJ6_bitCount_0f7a4 33 = .ok (.istore_n 0, 1) := by decide +kernel
theorem dJ6_bitCount_0f7a4_34 : decode cJ6_bitCount_0f7a4 34 = .ok (.iload_n 0, 1) := by decide +kernel
theorem dJ6_bitCount_0f7a4_35 : decode cJ6_bitCount_0f7a4 35 = .ok (.iload_n 0, 1) := by decide +kernel
theorem dJ6_bitCount_0f7a4_36 : decode cJ6_bitCount_0f7a4 36 = .ok (.bipush 8, 2) := by decide +kernel
theorem dJ6_bitCount_0f7a4_38 : decode cJ6_bitCount_0f7a4 38 = .ok (.iushr, 1) := by decide +kernel
theorem dJ6_bitCount_0f7a4_39 : decode cJ6_bitCount_0f7a4 39 = .ok (.iadd, 1) := by decide +kernel
theorem dJ6_bitCount_0f7a4_40 : decode cJ6_bitCount_0f7a4 40 = .ok (.istore_n 0, 1) := by decide +kernel
theorem dJ6_bitCount_0f7a4_41 : decode cJ6_bitCount_0f7a4 41 = .ok (.iload_n 0, 1) := by decide +kernel
theorem dJ6_bitCount_0f7a4_42 : decode cJ6_bitCount_0f7a4 42 = .ok (.iload_n 0, 1) := by decide +kernel
theorem dJ6_bitCount_0f7a4_43 : decode cJ6_bitCount_0f7a4 43 = .ok (.bipush 16, 2) := by decide +kernel
theorem dJ6_bitCount_0f7a4_45 : decode cJ6_bitCount_0f7a4 45 = .ok (.iushr, 1) := by decide +kernel
theorem dJ6_bitCount_0f7a4_46 : decode cJ6_bitCount_0f7a4 46 = .ok (.iadd, 1) := by decide +kernel
theorem dJ6_bitCount_0f7a4_47 : decode cJ6_bitCount_0f7a4 47 = .ok (.istore_n 0, 1) := by decide +kernel
theorem dJ6_bitCount_0f7a4_48 : decode cJ6_bitCount_0f7a4 48 = .ok (.iload_n 0, 1) := by decide +kernel
theorem dJ6_bitCount_0f7a4_49 : decode cJ6_bitCount_0f7a4 49 = .ok (.bipush 63, 2) := by decide +kernel
theorem dJ6_bitCount_0f7a4_51 : decode cJ6_bitCount_0f7a4 51 = .ok (.iand, 1) := by decide +kernel
theorem dJ6_bitCount_0f7a4_52 : decode cJ6_bitCount_0f7a4 52 = .ok (.ireturn, 1) := by decide +kernel
set_option maxRecDepth 20000 in
theorem ggL_law_X6_init : GoodIn wsL_law wsX6_init := goodIn_r _ [8, 9, 10, 11, 12, 13, 14, 15, 16, 17, 18, 19, 20, 21, 22, 23, 24, 25, 26, 27, 28, 29, 30, 31, 32, 33, 34, 35, 36, 37, 38, 39, 40, 41, 42, 43, 44, 45, 46, 47, 48, 49, 50, 51, 52, 2, 53, 54, 55, 56, 57, 58, 59, 60, 61, 62, 63, 64, 65, 66, 67, 68, 69, 70, 71, 72, 73, 74, 75, 76, 77, 78, 79, 80, 81, 82, 83, 84, 85, 86, 87, 88, 89, 662, 663, 636, 637, 638, 639, 640, 641, 642, 643, 664, 665, 666, 667, 668, 669, 670, 671, 672, 673, 674, 675, 676, 677, 678, 679, 680, 681, 682, 683, 684, 685, 686, 687, 688, 689, 690, 691] (by decide +kernel) (by decide +kernel)
set_option maxRecDepth 20000 in
theorem gL_law_X6_init : GoodIn wsL_law (wsX6_init) := ggL_law_X6_init
set_option maxRecDepth 20000 in
theorem ggL_law_X7_init : GoodIn wsL_law wsX7_init := goodIn_r _ [92, 93, 10, 11, 41, 94, 95, 96, 97, 98, 99, 100, 101, 102, 69, 103, 104, 105, 106, 107, 108, 109, 644, 645, 646, 647, 648, 649, 650, 651, 652, 653, 654, 655, 656, 657, 658, 659, 660, 661] (by decide +kernel) (by decide +kernel)
set_option maxRecDepth 20000 in
theorem gL_law_X7_init : GoodIn wsL_law (wsX7_init) := ggL_law_X7_init
set_option maxRecDepth 20000 in
theorem ggL_law_X6_say : GoodIn wsL_law wsX6_say := goodIn_r _ [113, 15, 114, 115, 2, 116, 117, 14, 118, 119, 43, 120, 121, 122, 42, 123, 124, 125, 636, 637, 638, 639, 640, 641, 642, 643, 662, 663] (by decide +kernel) (by decide +kernel)
set_option maxRecDepth 20000 in
theorem gL_law_X6_say : GoodIn wsL_law (wsV RL 13 RX6 yX6_say wsX6_say) := goodIn_app (goodIn_of _ (by decide +kernel)) ggL_law_X6_say
set_option maxRecDepth 20000 in
theorem ggL_law_X7_say : GoodIn wsL_law wsX7_say := goodIn_r _ [129, 130, 94, 131, 132, 5, 133, 644, 645, 646, 647, 648, 649, 650, 651, 652, 653, 654, 655, 656, 657, 658, 659, 660, 661] (by decide +kernel) (by decide +kernel)
set_option maxRecDepth 20000 in
theorem gL_law_X7_say : GoodIn wsL_law (wsV RL 17 RX7 yX7_say wsX7_say) := goodIn_app (goodIn_of _ (by decide +kernel)) ggL_law_X7_say
set_option maxRecDepth 20000 in
theorem ggL_law_X6_wipe : GoodIn wsL_law wsX6_wipe := goodIn_r _ [137, 15, 123, 14, 124, 125, 43, 138, 139, 140, 636, 637, 638, 639, 640, 641, 642, 643, 662, 663] (by decide +kernel) (by decide +kernel)
set_option maxRecDepth 20000 in
theorem gL_law_X6_wipe : GoodIn wsL_law (wsV RL 18 RX6 yX6_wipe wsX6_wipe) := goodIn_app (goodIn_of _ (by decide +kernel)) ggL_law_X6_wipe
set_option maxRecDepth 20000 in
theorem ggL_law_X7_wipe : GoodIn wsL_law wsX7_wipe := goodIn_r _ [144, 130, 644, 645, 646, 647, 648, 649, 650, 651, 652, 653, 654, 655, 656, 657, 658, 659, 660, 661] (by decide +kernel) (by decide +kernel)
set_option maxRecDepth 20000 in
theorem gL_law_X7_wipe : GoodIn wsL_law (wsV RL 22 RX7 yX7_wipe wsX7_wipe) := goodIn_app (goodIn_of _ (by decide +kernel)) ggL_law_X7_wipe
set_option maxRecDepth 20000 in
theorem ggL_law_X6_fault : GoodIn wsL_law wsX6_fault := goodIn_r _ [148, 15, 114, 115, 2, 116, 149, 14, 150, 151, 43, 152, 153, 154, 155, 156, 157, 158, 159, 160, 161, 162, 163, 42, 164, 165, 166, 167, 168, 169, 170, 171, 172, 173, 174, 175, 176, 177, 178, 179, 180, 636, 637, 638, 639, 640, 641, 642, 643, 662, 663] (by decide +kernel) (by decide +kernel)
set_option maxRecDepth 20000 in
theorem gL_law_X6_fault : GoodIn wsL_law (wsV RL 23 RX6 yX6_fault wsX6_fault) := goodIn_app (goodIn_of _ (by decide +kernel)) ggL_law_X6_fault
set_option maxRecDepth 20000 in
theorem ggL_law_X7_fault : GoodIn wsL_law wsX7_fault := goodIn_r _ [184, 185, 186, 187, 5, 188, 130, 94, 189, 190, 191, 131, 132, 133, 192, 193, 194, 195, 644, 645, 646, 647, 648, 649, 650, 651, 652, 653, 654, 655, 656, 657, 658, 659, 660, 661] (by decide +kernel) (by decide +kernel)
set_option maxRecDepth 20000 in
theorem gL_law_X7_fault : GoodIn wsL_law (wsV RL 26 RX7 yX7_fault wsX7_fault) := goodIn_app (goodIn_of _ (by decide +kernel)) ggL_law_X7_fault
set_option maxRecDepth 20000 in
theorem ggL_law_X6_steps : GoodIn wsL_law wsX6_steps := goodIn_r _ [199, 15, 19, 149, 14, 150, 151, 43, 152, 153, 154, 155, 156, 157, 158, 159, 160, 161, 162, 163, 42, 164, 2, 165, 166, 167, 114, 115, 116, 123, 124, 125, 200, 18, 201, 202, 47, 203, 204, 205, 206, 52, 53, 138, 139, 140, 207, 208, 209, 210, 211, 212, 213, 214, 215, 216, 636, 637, 638, 639, 640, 641, 642, 643, 662, 663, 664, 665, 666, 667, 668] (by decide +kernel) (by decide +kernel)
set_option maxRecDepth 20000 in
theorem gL_law_X6_steps : GoodIn wsL_law (wsV RL 27 RX6 yX6_steps wsX6_steps) := goodIn_app (goodIn_of _ (by decide +kernel)) ggL_law_X6_steps
set_option maxRecDepth 20000 in
theorem ggL_law_X7_steps : GoodIn wsL_law wsX7_steps := goodIn_r _ [220, 130, 94, 95, 185, 186, 187, 5, 188, 189, 190, 191, 131, 132, 133, 221, 222, 223, 224, 225, 226, 227, 644, 645, 646, 647, 648, 649, 650, 651, 652, 653, 654, 655, 656, 657, 658, 659, 660, 661] (by decide +kernel) (by decide +kernel)
set_option maxRecDepth 20000 in
theorem gL_law_X7_steps : GoodIn wsL_law (wsV RL 30 RX7 yX7_steps wsX7_steps) := goodIn_app (goodIn_of _ (by decide +kernel)) ggL_law_X7_steps
set_option maxRecDepth 20000 in
theorem ggL_law_X6_step : GoodIn wsL_law wsX6_step := goodIn_r _ [231, 19, 232, 166, 2, 167, 114, 115, 116, 204, 18, 205, 206, 47, 164, 165, 233, 234, 235, 200, 201, 202, 203, 52, 53, 636, 637, 638, 639, 640, 641, 642, 643, 664, 665, 666, 667, 668] (by decide +kernel) (by decide +kernel)
set_option maxRecDepth 20000 in
theorem gL_law_X6_step : GoodIn wsL_law (wsV RL 31 RX6 yX6_step wsX6_step) := goodIn_app (goodIn_of _ (by decide +kernel)) ggL_law_X6_step
set_option maxRecDepth 20000 in
theorem ggL_law_X7_step : GoodIn wsL_law wsX7_step := goodIn_r _ [239, 95, 240, 241, 5, 242, 131, 132, 133, 644, 645, 646, 647, 648, 649, 650, 651, 652, 653, 654, 655, 656, 657, 658, 659, 660, 661] (by decide +kernel) (by decide +kernel)
set_option maxRecDepth 20000 in
theorem gL_law_X7_step : GoodIn wsL_law (wsV RL 35 RX7 yX7_step wsX7_step) := goodIn_app (goodIn_of _ (by decide +kernel)) ggL_law_X7_step
set_option maxRecDepth 20000 in
theorem ggL_law_X6_needs : GoodIn wsL_law wsX6_needs := goodIn_r _ [246, 19, 232, 166, 2, 167, 114, 115, 116, 247, 18, 248, 249, 48, 164, 165, 250, 251, 252, 52, 53, 636, 637, 638, 639, 640, 641, 642, 643, 664, 665, 666, 667, 668] (by decide +kernel) (by decide +kernel)
set_option maxRecDepth 20000 in
theorem gL_law_X6_needs : GoodIn wsL_law (wsV RL 36 RX6 yX6_needs wsX6_needs) := goodIn_app (goodIn_of _ (by decide +kernel)) ggL_law_X6_needs
set_option maxRecDepth 20000 in
theorem ggL_law_X7_needs : GoodIn wsL_law wsX7_needs := goodIn_r _ [256, 96, 240, 241, 5, 242, 131, 132, 133, 644, 645, 646, 647, 648, 649, 650, 651, 652, 653, 654, 655, 656, 657, 658, 659, 660, 661] (by decide +kernel) (by decide +kernel)
set_option maxRecDepth 20000 in
theorem gL_law_X7_needs : GoodIn wsL_law (wsV RL 40 RX7 yX7_needs wsX7_needs) := goodIn_app (goodIn_of _ (by decide +kernel)) ggL_law_X7_needs
set_option maxRecDepth 20000 in
theorem ggL_law_X6_man : GoodIn wsL_law wsX6_man := goodIn_r _ [260, 19, 261, 179, 2, 180, 114, 115, 116, 262, 18, 263, 264, 49, 164, 165, 265, 266, 267, 52, 53, 268, 269, 270, 50, 271, 272, 273, 636, 637, 638, 639, 640, 641, 642, 643, 664, 665, 666, 667, 668] (by decide +kernel) (by decide +kernel)
set_option maxRecDepth 20000 in
theorem gL_law_X6_man : GoodIn wsL_law (wsV RL 41 RX6 yX6_man wsX6_man) := goodIn_app (goodIn_of _ (by decide +kernel)) ggL_law_X6_man
set_option maxRecDepth 20000 in
theorem ggL_law_X7_man : GoodIn wsL_law wsX7_man := goodIn_r _ [277, 97, 98, 278, 279, 5, 280, 131, 132, 133, 644, 645, 646, 647, 648, 649, 650, 651, 652, 653, 654, 655, 656, 657, 658, 659, 660, 661] (by decide +kernel) (by decide +kernel)
set_option maxRecDepth 20000 in
theorem gL_law_X7_man : GoodIn wsL_law (wsV RL 45 RX7 yX7_man wsX7_man) := goodIn_app (goodIn_of _ (by decide +kernel)) ggL_law_X7_man
set_option maxRecDepth 20000 in
theorem ggL_law_X6_fit : GoodIn wsL_law wsX6_fit := goodIn_r _ [284, 19, 261, 179, 2, 180, 114, 115, 116, 285, 18, 286, 287, 288, 262, 263, 264, 49, 164, 165, 289, 247, 248, 249, 48, 636, 637, 638, 639, 640, 641, 642, 643, 664, 665, 666, 667, 668] (by decide +kernel) (by decide +kernel)
set_option maxRecDepth 20000 in
theorem gL_law_X6_fit : GoodIn wsL_law (wsV RL 46 RX6 yX6_fit wsX6_fit) := goodIn_app (goodIn_of _ (by decide +kernel)) ggL_law_X6_fit
set_option maxRecDepth 20000 in
theorem ggL_law_X7_fit : GoodIn wsL_law wsX7_fit := goodIn_r _ [293, 278, 279, 5, 280, 131, 132, 133, 294, 295, 296, 297, 96, 97, 644, 645, 646, 647, 648, 649, 650, 651, 652, 653, 654, 655, 656, 657, 658, 659, 660, 661] (by decide +kernel) (by decide +kernel)
set_option maxRecDepth 20000 in
theorem gL_law_X7_fit : GoodIn wsL_law (wsV RL 49 RX7 yX7_fit wsX7_fit) := goodIn_app (goodIn_of _ (by decide +kernel)) ggL_law_X7_fit
set_option maxRecDepth 20000 in
theorem ggL_law_X6_judge : GoodIn wsL_law wsX6_judge := goodIn_r _ [301, 15, 114, 115, 2, 116, 168, 14, 169, 170, 43, 171, 172, 173, 174, 156, 157, 158, 159, 160, 161, 162, 163, 42, 164, 165, 166, 167, 175, 176, 177, 178, 179, 180, 123, 124, 125, 302, 303, 304, 305, 19, 204, 18, 205, 206, 47, 233, 234, 235, 261, 285, 286, 287, 288, 262, 263, 264, 49, 289, 247, 248, 249, 48, 268, 269, 270, 50, 636, 637, 638, 639, 640, 641, 642, 643, 662, 663, 664, 665, 666, 667, 668] (by decide +kernel) (by decide +kernel)
set_option maxRecDepth 20000 in
theorem gL_law_X6_judge : GoodIn wsL_law (wsV RL 50 RX6 yX6_judge wsX6_judge) := goodIn_app (goodIn_of _ (by decide +kernel)) ggL_law_X6_judge
set_option maxRecDepth 20000 in
theorem ggL_law_X7_judge : GoodIn wsL_law wsX7_judge := goodIn_r _ [309, 130, 131, 132, 5, 133, 192, 193, 194, 195, 94, 189, 190, 191, 310, 311, 312, 313, 95, 98, 314, 315, 316, 294, 295, 296, 297, 96, 97, 644, 645, 646, 647, 648, 649, 650, 651, 652, 653, 654, 655, 656, 657, 658, 659, 660, 661] (by decide +kernel) (by decide +kernel)
set_option maxRecDepth 20000 in
theorem gL_law_X7_judge : GoodIn wsL_law (wsV RL 53 RX7 yX7_judge wsX7_judge) := goodIn_app (goodIn_of _ (by decide +kernel)) ggL_law_X7_judge
set_option maxRecDepth 20000 in
theorem ggL_law_X6_match : GoodIn wsL_law wsX6_match := goodIn_r _ [320, 19, 25, 321, 322, 2, 323, 261, 179, 180, 114, 115, 116, 324, 18, 325, 326, 327, 268, 269, 270, 50, 164, 165, 328, 285, 286, 287, 288, 262, 263, 264, 49, 289, 247, 248, 249, 48, 329, 24, 330, 331, 59, 60, 61, 332, 333, 334, 335, 58, 62, 336, 337, 338, 339, 340, 211, 212, 213, 214, 215, 216, 234, 235, 341, 342, 343, 344, 345, 346, 347, 348, 57, 63, 204, 205, 206, 47, 52, 53, 349, 350, 351, 352, 353, 354, 355, 356, 357, 358, 359, 360, 361, 636, 637, 638, 639, 640, 641, 642, 643, 664, 665, 666, 667, 668, 669, 670, 671, 672, 673, 674, 675] (by decide +kernel) (by decide +kernel)
set_option maxRecDepth 20000 in
theorem gL_law_X6_match : GoodIn wsL_law (wsV RL 54 RX6 yX6_match wsX6_match) := goodIn_app (goodIn_of _ (by decide +kernel)) ggL_law_X6_match
set_option maxRecDepth 20000 in
theorem ggL_law_X7_match : GoodIn wsL_law wsX7_match := goodIn_r _ [365, 100, 366, 367, 368, 5, 369, 278, 279, 280, 131, 132, 133, 370, 371, 372, 373, 98, 99, 95, 294, 295, 296, 297, 96, 97, 314, 315, 316, 374, 375, 376, 377, 378, 379, 380, 381, 382, 383, 384, 385, 386, 644, 645, 646, 647, 648, 649, 650, 651, 652, 653, 654, 655, 656, 657, 658, 659, 660, 661] (by decide +kernel) (by decide +kernel)
set_option maxRecDepth 20000 in
theorem gL_law_X7_match : GoodIn wsL_law (wsV RL 57 RX7 yX7_match wsX7_match) := goodIn_app (goodIn_of _ (by decide +kernel)) ggL_law_X7_match
set_option maxRecDepth 20000 in
theorem ggL_law_X6_middle : GoodIn wsL_law wsX6_middle := goodIn_r _ [390, 19, 25, 321, 322, 2, 323, 261, 179, 180, 114, 115, 116, 232, 166, 167, 233, 234, 235, 324, 18, 325, 326, 327, 268, 269, 270, 50, 164, 165, 328, 285, 286, 287, 288, 262, 263, 264, 49, 289, 247, 248, 249, 48, 204, 205, 206, 47, 329, 24, 330, 331, 59, 60, 61, 332, 333, 334, 335, 58, 62, 336, 337, 338, 339, 340, 211, 212, 213, 214, 215, 216, 341, 342, 343, 344, 345, 346, 347, 348, 57, 63, 52, 53, 349, 350, 351, 352, 353, 354, 355, 356, 357, 358, 359, 360, 361, 636, 637, 638, 639, 640, 641, 642, 643, 664, 665, 666, 667, 668, 669, 670, 671, 672, 673, 674, 675] (by decide +kernel) (by decide +kernel)
set_option maxRecDepth 20000 in
theorem gL_law_X6_middle : GoodIn wsL_law (wsV RL 58 RX6 yX6_middle wsX6_middle) := goodIn_app (goodIn_of _ (by decide +kernel)) ggL_law_X6_middle
set_option maxRecDepth 20000 in
theorem ggL_law_X7_middle : GoodIn wsL_law wsX7_middle := goodIn_r _ [394, 95, 100, 366, 367, 368, 5, 369, 278, 279, 280, 131, 132, 133, 240, 241, 242, 314, 315, 316, 370, 371, 372, 373, 98, 99, 294, 295, 296, 297, 96, 97, 374, 375, 376, 377, 378, 379, 380, 381, 382, 383, 384, 385, 386, 644, 645, 646, 647, 648, 649, 650, 651, 652, 653, 654, 655, 656, 657, 658, 659, 660, 661] (by decide +kernel) (by decide +kernel)
set_option maxRecDepth 20000 in
theorem gL_law_X7_middle : GoodIn wsL_law (wsV RL 62 RX7 yX7_middle wsX7_middle) := goodIn_app (goodIn_of _ (by decide +kernel)) ggL_law_X7_middle
set_option maxRecDepth 20000 in
theorem ggL_law_X6_last : GoodIn wsL_law wsX6_last := goodIn_r _ [398, 19, 25, 321, 322, 2, 323, 261, 179, 180, 114, 115, 116, 324, 18, 325, 326, 327, 268, 269, 270, 50, 164, 165, 328, 285, 286, 287, 288, 262, 263, 264, 49, 289, 247, 248, 249, 48, 399, 24, 400, 401, 59, 61, 332, 333, 334, 335, 58, 62, 336, 337, 338, 339, 60, 340, 211, 212, 213, 214, 215, 216, 234, 235, 341, 342, 343, 344, 345, 346, 347, 348, 57, 63, 204, 205, 206, 47, 52, 53, 402, 403, 404, 359, 360, 361, 636, 637, 638, 639, 640, 641, 642, 643, 664, 665, 666, 667, 668, 669, 670, 671, 672, 673, 674, 675] (by decide +kernel) (by decide +kernel)
set_option maxRecDepth 20000 in
theorem gL_law_X6_last : GoodIn wsL_law (wsV RL 63 RX6 yX6_last wsX6_last) := goodIn_app (goodIn_of _ (by decide +kernel)) ggL_law_X6_last
set_option maxRecDepth 20000 in
theorem ggL_law_X7_last : GoodIn wsL_law wsX7_last := goodIn_r _ [408, 100, 98, 95, 99, 367, 368, 5, 369, 278, 279, 280, 131, 132, 133, 294, 295, 296, 297, 96, 97, 314, 315, 316, 374, 375, 376, 644, 645, 646, 647, 648, 649, 650, 651, 652, 653, 654, 655, 656, 657, 658, 659, 660, 661] (by decide +kernel) (by decide +kernel)
set_option maxRecDepth 20000 in
theorem gL_law_X7_last : GoodIn wsL_law (wsV RL 66 RX7 yX7_last wsX7_last) := goodIn_app (goodIn_of _ (by decide +kernel)) ggL_law_X7_last
set_option maxRecDepth 20000 in
theorem ggL_law_X6_sent : GoodIn wsL_law wsX6_sent := goodIn_r _ [412, 19, 261, 179, 2, 180, 114, 115, 116, 268, 18, 269, 270, 50, 164, 165, 413, 414, 415, 416, 25, 285, 286, 287, 288, 262, 263, 264, 49, 289, 247, 248, 249, 48, 324, 325, 326, 327, 328, 329, 24, 330, 331, 59, 60, 61, 332, 333, 334, 335, 58, 62, 336, 337, 338, 339, 340, 211, 212, 213, 214, 215, 216, 234, 235, 341, 342, 343, 344, 345, 346, 347, 348, 57, 63, 204, 205, 206, 47, 52, 53, 353, 354, 355, 636, 637, 638, 639, 640, 641, 642, 643, 664, 665, 666, 667, 668, 669, 670, 671, 672, 673, 674, 675] (by decide +kernel) (by decide +kernel)
set_option maxRecDepth 20000 in
theorem gL_law_X6_sent : GoodIn wsL_law (wsV RL 67 RX6 yX6_sent wsX6_sent) := goodIn_app (goodIn_of _ (by decide +kernel)) ggL_law_X6_sent
set_option maxRecDepth 20000 in
theorem ggL_law_X7_sent : GoodIn wsL_law wsX7_sent := goodIn_r _ [420, 278, 279, 5, 280, 131, 132, 133, 421, 422, 423, 424, 100, 370, 371, 372, 373, 98, 99, 95, 294, 295, 296, 297, 96, 97, 314, 315, 316, 374, 375, 376, 377, 378, 379, 380, 366, 381, 382, 383, 644, 645, 646, 647, 648, 649, 650, 651, 652, 653, 654, 655, 656, 657, 658, 659, 660, 661] (by decide +kernel) (by decide +kernel)
set_option maxRecDepth 20000 in
theorem gL_law_X7_sent : GoodIn wsL_law (wsV RL 71 RX7 yX7_sent wsX7_sent) := goodIn_app (goodIn_of _ (by decide +kernel)) ggL_law_X7_sent
set_option maxRecDepth 20000 in
theorem ggL_law_X6_safe : GoodIn wsL_law wsX6_safe := goodIn_r _ [428, 19, 261, 179, 2, 180, 114, 115, 116, 324, 18, 325, 326, 327, 268, 269, 270, 50, 164, 165, 328, 285, 286, 287, 288, 262, 263, 264, 49, 289, 247, 248, 249, 48, 636, 637, 638, 639, 640, 641, 642, 643, 664, 665, 666, 667, 668] (by decide +kernel) (by decide +kernel)
set_option maxRecDepth 20000 in
theorem gL_law_X6_safe : GoodIn wsL_law (wsV RL 72 RX6 yX6_safe wsX6_safe) := goodIn_app (goodIn_of _ (by decide +kernel)) ggL_law_X6_safe
set_option maxRecDepth 20000 in
theorem ggL_law_X7_safe : GoodIn wsL_law wsX7_safe := goodIn_r _ [432, 98, 278, 279, 5, 280, 131, 132, 133, 294, 295, 296, 297, 96, 97, 644, 645, 646, 647, 648, 649, 650, 651, 652, 653, 654, 655, 656, 657, 658, 659, 660, 661] (by decide +kernel) (by decide +kernel)
set_option maxRecDepth 20000 in
theorem gL_law_X7_safe : GoodIn wsL_law (wsV RL 75 RX7 yX7_safe wsX7_safe) := goodIn_app (goodIn_of _ (by decide +kernel)) ggL_law_X7_safe
set_option maxRecDepth 20000 in
theorem ggL_law_X6_worth : GoodIn wsL_law wsX6_worth := goodIn_r _ [436, 19, 232, 166, 2, 167, 114, 115, 116, 261, 179, 180, 268, 18, 269, 270, 50, 164, 165, 233, 234, 235, 437, 438, 439, 440, 413, 414, 415, 416, 25, 285, 286, 287, 288, 262, 263, 264, 49, 289, 247, 248, 249, 48, 324, 325, 326, 327, 328, 329, 24, 330, 331, 59, 60, 61, 332, 333, 334, 335, 58, 62, 336, 337, 338, 339, 340, 211, 212, 213, 214, 215, 216, 341, 342, 343, 344, 345, 346, 347, 348, 57, 63, 204, 205, 206, 47, 52, 53, 353, 354, 355, 636, 637, 638, 639, 640, 641, 642, 643, 664, 665, 666, 667, 668, 669, 670, 671, 672, 673, 674, 675] (by decide +kernel) (by decide +kernel)
set_option maxRecDepth 20000 in
theorem gL_law_X6_worth : GoodIn wsL_law (wsV RL 76 RX6 yX6_worth wsX6_worth) := goodIn_app (goodIn_of _ (by decide +kernel)) ggL_law_X6_worth
set_option maxRecDepth 20000 in
theorem ggL_law_X7_worth : GoodIn wsL_law wsX7_worth := goodIn_r _ [444, 98, 240, 241, 5, 242, 131, 132, 133, 278, 279, 280, 314, 315, 316, 445, 446, 447, 448, 421, 422, 423, 424, 100, 370, 371, 372, 373, 99, 95, 294, 295, 296, 297, 96, 97, 374, 375, 376, 377, 378, 379, 380, 366, 381, 382, 383, 644, 645, 646, 647, 648, 649, 650, 651, 652, 653, 654, 655, 656, 657, 658, 659, 660, 661] (by decide +kernel) (by decide +kernel)
set_option maxRecDepth 20000 in
theorem gL_law_X7_worth : GoodIn wsL_law (wsV RL 79 RX7 yX7_worth wsX7_worth) := goodIn_app (goodIn_of _ (by decide +kernel)) ggL_law_X7_worth
set_option maxRecDepth 20000 in
theorem ggL_law_X6_crowd : GoodIn wsL_law wsX6_crowd := goodIn_r _ [452, 29, 114, 115, 2, 116, 453, 28, 454, 455, 70, 71, 456, 457, 458, 459, 67, 72, 285, 18, 286, 287, 288, 262, 263, 264, 49, 164, 165, 289, 247, 248, 249, 48, 52, 53, 460, 461, 462, 463, 68, 234, 235, 464, 465, 466, 467, 468, 469, 470, 471, 204, 205, 206, 47, 268, 269, 270, 50, 472, 473, 474, 475, 476, 477, 478, 479, 480, 481, 482, 483, 484, 485, 486, 487, 488, 489, 490, 636, 637, 638, 639, 640, 641, 642, 643, 676, 677, 678, 679, 680, 664, 665, 666, 667, 668] (by decide +kernel) (by decide +kernel)
set_option maxRecDepth 20000 in
theorem gL_law_X6_crowd : GoodIn wsL_law (wsV RL 80 RX6 yX6_crowd wsX6_crowd) := goodIn_app (goodIn_of _ (by decide +kernel)) ggL_law_X6_crowd
set_option maxRecDepth 20000 in
theorem ggL_law_X7_crowd : GoodIn wsL_law wsX7_crowd := goodIn_r _ [494, 104, 103, 131, 132, 5, 133, 495, 496, 497, 498, 225, 226, 227, 499, 500, 501, 502, 101, 503, 504, 505, 506, 102, 507, 508, 509, 510, 98, 95, 314, 315, 316, 294, 295, 296, 297, 96, 97, 644, 645, 646, 647, 648, 649, 650, 651, 652, 653, 654, 655, 656, 657, 658, 659, 660, 661] (by decide +kernel) (by decide +kernel)
set_option maxRecDepth 20000 in
theorem gL_law_X7_crowd : GoodIn wsL_law (wsV RL 83 RX7 yX7_crowd wsX7_crowd) := goodIn_app (goodIn_of _ (by decide +kernel)) ggL_law_X7_crowd
set_option maxRecDepth 20000 in
theorem ggL_law_X6_rings : GoodIn wsL_law wsX6_rings := goodIn_r _ [514, 33, 114, 115, 2, 116, 515, 32, 516, 517, 76, 81, 204, 18, 205, 206, 47, 164, 165, 52, 53, 234, 235, 518, 519, 520, 636, 637, 638, 639, 640, 641, 642, 643, 681, 682, 683, 684, 685, 686, 664, 665, 666, 667, 668] (by decide +kernel) (by decide +kernel)
set_option maxRecDepth 20000 in
theorem gL_law_X6_rings : GoodIn wsL_law (wsV RL 84 RX6 yX6_rings wsX6_rings) := goodIn_app (goodIn_of _ (by decide +kernel)) ggL_law_X6_rings
set_option maxRecDepth 20000 in
theorem ggL_law_X7_rings : GoodIn wsL_law wsX7_rings := goodIn_r _ [524, 95, 131, 132, 5, 133, 525, 526, 527, 528, 314, 315, 316, 644, 645, 646, 647, 648, 649, 650, 651, 652, 653, 654, 655, 656, 657, 658, 659, 660, 661] (by decide +kernel) (by decide +kernel)
set_option maxRecDepth 20000 in
theorem gL_law_X7_rings : GoodIn wsL_law (wsV RL 87 RX7 yX7_rings wsX7_rings) := goodIn_app (goodIn_of _ (by decide +kernel)) ggL_law_X7_rings
set_option maxRecDepth 20000 in
theorem ggL_law_X6_ladder : GoodIn wsL_law wsX6_ladder := goodIn_r _ [532, 33, 533, 32, 534, 535, 80, 77, 78, 79, 81, 536, 537, 538, 539, 164, 2, 165, 204, 18, 205, 206, 47, 52, 53, 540, 541, 542, 543, 234, 235, 544, 545, 546, 547, 548, 211, 212, 213, 214, 215, 216, 549, 550, 551, 552, 553, 554, 636, 637, 638, 639, 640, 641, 642, 643, 681, 682, 683, 684, 685, 686, 664, 665, 666, 667, 668] (by decide +kernel) (by decide +kernel)
set_option maxRecDepth 20000 in
theorem gL_law_X6_ladder : GoodIn wsL_law (wsV RL 88 RX6 yX6_ladder wsX6_ladder) := goodIn_app (goodIn_of _ (by decide +kernel)) ggL_law_X6_ladder
set_option maxRecDepth 20000 in
theorem ggL_law_X7_ladder : GoodIn wsL_law wsX7_ladder := goodIn_r _ [558, 105, 95, 106, 314, 315, 5, 316, 225, 226, 227, 644, 645, 646, 647, 648, 649, 650, 651, 652, 653, 654, 655, 656, 657, 658, 659, 660, 661] (by decide +kernel) (by decide +kernel)
set_option maxRecDepth 20000 in
theorem gL_law_X7_ladder : GoodIn wsL_law (wsV RL 91 RX7 yX7_ladder wsX7_ladder) := goodIn_app (goodIn_of _ (by decide +kernel)) ggL_law_X7_ladder
set_option maxRecDepth 20000 in
theorem ggL_law_X6_between : GoodIn wsL_law wsX6_between := goodIn_r _ [562, 37, 232, 166, 2, 167, 114, 115, 116, 563, 36, 564, 565, 85, 86, 87, 88, 566, 567, 568, 569, 89, 204, 18, 205, 206, 47, 164, 165, 234, 235, 570, 571, 572, 573, 574, 575, 636, 637, 638, 639, 640, 641, 642, 643, 687, 688, 689, 690, 691, 664, 665, 666, 667, 668] (by decide +kernel) (by decide +kernel)
set_option maxRecDepth 20000 in
theorem gL_law_X6_between : GoodIn wsL_law (wsV RL 92 RX6 yX6_between wsX6_between) := goodIn_app (goodIn_of _ (by decide +kernel)) ggL_law_X6_between
set_option maxRecDepth 20000 in
theorem ggL_law_X7_between : GoodIn wsL_law wsX7_between := goodIn_r _ [579, 95, 240, 241, 5, 242, 131, 132, 133, 314, 315, 316, 644, 645, 646, 647, 648, 649, 650, 651, 652, 653, 654, 655, 656, 657, 658, 659, 660, 661] (by decide +kernel) (by decide +kernel)
set_option maxRecDepth 20000 in
theorem gL_law_X7_between : GoodIn wsL_law (wsV RL 96 RX7 yX7_between wsX7_between) := goodIn_app (goodIn_of _ (by decide +kernel)) ggL_law_X7_between
set_option maxRecDepth 20000 in
theorem ggL_law_X6_high : GoodIn wsL_law wsX6_high := goodIn_r _ [583, 25, 19, 232, 166, 2, 167, 114, 115, 116, 204, 18, 205, 206, 47, 164, 165, 399, 24, 400, 401, 59, 61, 332, 333, 334, 335, 58, 62, 336, 337, 338, 339, 60, 340, 211, 212, 213, 214, 215, 216, 234, 235, 341, 342, 343, 344, 345, 346, 347, 348, 57, 63, 52, 53, 402, 403, 404, 636, 637, 638, 639, 640, 641, 642, 643, 664, 665, 666, 667, 668, 669, 670, 671, 672, 673, 674, 675] (by decide +kernel) (by decide +kernel)
set_option maxRecDepth 20000 in
theorem gL_law_X6_high : GoodIn wsL_law (wsV RL 97 RX6 yX6_high wsX6_high) := goodIn_app (goodIn_of _ (by decide +kernel)) ggL_law_X6_high
set_option maxRecDepth 20000 in
theorem ggL_law_X7_high : GoodIn wsL_law wsX7_high := goodIn_r _ [587, 95, 107, 240, 241, 5, 242, 131, 132, 133, 314, 315, 316, 644, 645, 646, 647, 648, 649, 650, 651, 652, 653, 654, 655, 656, 657, 658, 659, 660, 661] (by decide +kernel) (by decide +kernel)
set_option maxRecDepth 20000 in
theorem gL_law_X7_high : GoodIn wsL_law (wsV RL 100 RX7 yX7_high wsX7_high) := goodIn_app (goodIn_of _ (by decide +kernel)) ggL_law_X7_high
set_option maxRecDepth 20000 in
theorem ggL_law_X6_image : GoodIn wsL_law wsX6_image := goodIn_r _ [591, 19, 592, 593, 2, 594, 114, 115, 116, 595, 596, 597, 598, 20, 21, 599, 18, 600, 601, 47, 48, 49, 50, 51, 203, 204, 205, 206, 164, 165, 52, 53, 289, 247, 248, 249, 288, 262, 263, 264, 327, 268, 269, 270, 636, 637, 638, 639, 640, 641, 642, 643, 664, 665, 666, 667, 668] (by decide +kernel) (by decide +kernel)
set_option maxRecDepth 20000 in
theorem gL_law_X6_image : GoodIn wsL_law (wsV RL 101 RX6 yX6_image wsX6_image) := goodIn_app (goodIn_of _ (by decide +kernel)) ggL_law_X6_image
set_option maxRecDepth 20000 in
theorem ggL_law_X7_image : GoodIn wsL_law wsX7_image := goodIn_r _ [605, 108, 95, 96, 97, 98, 109, 131, 132, 5, 133, 644, 645, 646, 647, 648, 649, 650, 651, 652, 653, 654, 655, 656, 657, 658, 659, 660, 661] (by decide +kernel) (by decide +kernel)
set_option maxRecDepth 20000 in
theorem gL_law_X7_image : GoodIn wsL_law (wsV RL 104 RX7 yX7_image wsX7_image) := goodIn_app (goodIn_of _ (by decide +kernel)) ggL_law_X7_image
set_option maxRecDepth 20000 in
theorem ggL_law_X6_restore : GoodIn wsL_law wsX6_restore := goodIn_r _ [609, 19, 592, 593, 2, 594, 114, 115, 116, 595, 596, 597, 598, 20, 21, 610, 18, 611, 612, 51, 599, 600, 601, 47, 48, 49, 50, 203, 204, 205, 206, 164, 165, 52, 53, 289, 247, 248, 249, 288, 262, 263, 264, 327, 268, 269, 270, 636, 637, 638, 639, 640, 641, 642, 643, 664, 665, 666, 667, 668] (by decide +kernel) (by decide +kernel)
set_option maxRecDepth 20000 in
theorem gL_law_X6_restore : GoodIn wsL_law (wsV RL 105 RX6 yX6_restore wsX6_restore) := goodIn_app (goodIn_of _ (by decide +kernel)) ggL_law_X6_restore
set_option maxRecDepth 20000 in
theorem ggL_law_X7_restore : GoodIn wsL_law wsX7_restore := goodIn_r _ [616, 109, 95, 108, 96, 97, 98, 131, 132, 5, 133, 644, 645, 646, 647, 648, 649, 650, 651, 652, 653, 654, 655, 656, 657, 658, 659, 660, 661] (by decide +kernel) (by decide +kernel)
set_option maxRecDepth 20000 in
theorem gL_law_X7_restore : GoodIn wsL_law (wsV RL 108 RX7 yX7_restore wsX7_restore) := goodIn_app (goodIn_of _ (by decide +kernel)) ggL_law_X7_restore
set_option maxRecDepth 20000 in
theorem ggL_law_X6_join : GoodIn wsL_law wsX6_join := goodIn_r _ [620, 19, 592, 593, 2, 594, 114, 115, 116, 595, 596, 597, 598, 20, 21, 610, 18, 611, 612, 51, 621, 622, 623, 47, 203, 204, 205, 206, 164, 165, 52, 53, 207, 208, 209, 210, 211, 212, 213, 214, 215, 216, 636, 637, 638, 639, 640, 641, 642, 643, 664, 665, 666, 667, 668] (by decide +kernel) (by decide +kernel)
set_option maxRecDepth 20000 in
theorem gL_law_X6_join : GoodIn wsL_law (wsV RL 109 RX6 yX6_join wsX6_join) := goodIn_app (goodIn_of _ (by decide +kernel)) ggL_law_X6_join
set_option maxRecDepth 20000 in
theorem ggL_law_X7_join : GoodIn wsL_law wsX7_join := goodIn_r _ [627, 109, 95, 108, 131, 132, 5, 133, 221, 222, 223, 224, 225, 226, 227, 644, 645, 646, 647, 648, 649, 650, 651, 652, 653, 654, 655, 656, 657, 658, 659, 660, 661] (by decide +kernel) (by decide +kernel)
set_option maxRecDepth 20000 in
theorem gL_law_X7_join : GoodIn wsL_law (wsV RL 112 RX7 yX7_join wsX7_join) := goodIn_app (goodIn_of _ (by decide +kernel)) ggL_law_X7_join
set_option maxRecDepth 20000 in
theorem ggL_law_X6_told : GoodIn wsL_law wsX6_told := goodIn_r _ [631, 15, 19, 123, 14, 124, 125, 43, 207, 18, 208, 209, 203, 204, 205, 206, 47, 164, 2, 165, 210, 211, 212, 213, 214, 215, 216, 114, 115, 116, 247, 248, 249, 48, 262, 263, 264, 49, 268, 269, 270, 50, 636, 637, 638, 639, 640, 641, 642, 643, 662, 663, 664, 665, 666, 667, 668] (by decide +kernel) (by decide +kernel)
set_option maxRecDepth 20000 in
theorem gL_law_X6_told : GoodIn wsL_law (wsV RL 113 RX6 yX6_told wsX6_told) := goodIn_app (goodIn_of _ (by decide +kernel)) ggL_law_X6_told
set_option maxRecDepth 20000 in
theorem ggL_law_X7_told : GoodIn wsL_law wsX7_told := goodIn_r _ [635, 96, 97, 98, 95, 130, 131, 132, 5, 133, 221, 222, 223, 224, 225, 226, 227, 644, 645, 646, 647, 648, 649, 650, 651, 652, 653, 654, 655, 656, 657, 658, 659, 660, 661] (by decide +kernel) (by decide +kernel)
set_option maxRecDepth 20000 in
theorem gL_law_X7_told : GoodIn wsL_law (wsV RL 116 RX7 yX7_told wsX7_told) := goodIn_app (goodIn_of _ (by decide +kernel)) ggL_law_X7_told
theorem dL_law_0 : decode cL_law 0 = .ok (.new 7, 3) := by decide +kernel
theorem dL_law_3 : decode cL_law 3 = .ok (.dup, 1) := by decide +kernel
theorem dL_law_4 : decode cL_law 4 = .ok (.invokespecial 9, 3) := by decide +kernel
theorem dL_law_7 : decode cL_law 7 = .ok (.astore_n 1, 1) := by decide +kernel
theorem dL_law_8 : decode cL_law 8 = .ok (.new 10, 3) := by decide +kernel
theorem dL_law_11 : decode cL_law 11 = .ok (.dup, 1) := by decide +kernel
theorem dL_law_12 : decode cL_law 12 = .ok (.invokespecial 12, 3) := by decide +kernel
theorem dL_law_15 : decode cL_law 15 = .ok (.astore_n 2, 1) := by decide +kernel
theorem dL_law_16 : decode cL_law 16 = .ok (.iconst 0, 1) := by decide +kernel
theorem dL_law_17 : decode cL_law 17 = .ok (.istore_n 3, 1) := by decide +kernel
theorem dL_law_18 : decode cL_law 18 = .ok (.iload_n 3, 1) := by decide +kernel
theorem dL_law_19 : decode cL_law 19 = .ok (.aload_n 0, 1) := by decide +kernel
theorem dL_law_20 : decode cL_law 20 = .ok (.arraylength, 1) := by decide +kernel
theorem dL_law_21 : decode cL_law 21 = .ok (.bipush 6, 2) := by decide +kernel
theorem dL_law_23 : decode cL_law 23 = .ok (.isub, 1) := by decide +kernel
theorem dL_law_24 : decode cL_law 24 = .ok (.if_icmp .gt 880, 3) := by decide +kernel
theorem dL_law_27 : decode cL_law 27 = .ok (.aload_n 0, 1) := by decide +kernel
theorem dL_law_28 : decode cL_law 28 = .ok (.iload_n 3, 1) := by decide +kernel
theorem dL_law_29 : decode cL_law 29 = .ok (.iaload, 1) := by decide +kernel
theorem dL_law_30 : decode cL_law 30 = .ok (.bipush 31, 2) := by decide +kernel
theorem dL_law_32 : decode cL_law 32 = .ok (.iand, 1) := by decide +kernel
theorem dL_law_33 : decode cL_law 33 = .ok (.tableswitch 865 0 23 #[111, 134, 147, 170, 183, 242, 275, 318, 341, 364, 407, 470, 513, 562, 585, 618, 651, 674, 697, 750, 773, 796, 819, 842], 111) := by decide +kernel
theorem dL_law_144 : decode cL_law 144 = .ok (.aload_n 1, 1) := by decide +kernel
theorem dL_law_145 : decode cL_law 145 = .ok (.aload_n 0, 1) := by decide +kernel
theorem dL_law_146 : decode cL_law 146 = .ok (.iload_n 3, 1) := by decide +kernel
theorem dL_law_147 : decode cL_law 147 = .ok (.iconst 1, 1) := by decide +kernel
theorem dL_law_148 : decode cL_law 148 = .ok (.iadd, 1) := by decide +kernel
theorem dL_law_149 : decode cL_law 149 = .ok (.iaload, 1) := by decide +kernel
theorem dL_law_150 : decode cL_law 150 = .ok (.invokevirtual 13, 3) := by decide +kernel
theorem dL_law_153 : decode cL_law 153 = .ok (.aload_n 2, 1) := by decide +kernel
theorem dL_law_154 : decode cL_law 154 = .ok (.aload_n 0, 1) := by decide +kernel
theorem dL_law_155 : decode cL_law 155 = .ok (.iload_n 3, 1) := by decide +kernel
theorem dL_law_156 : decode cL_law 156 = .ok (.iconst 1, 1) := by decide +kernel
theorem dL_law_157 : decode cL_law 157 = .ok (.iadd, 1) := by decide +kernel
theorem dL_law_158 : decode cL_law 158 = .ok (.iaload, 1) := by decide +kernel
theorem dL_law_159 : decode cL_law 159 = .ok (.invokevirtual 17, 3) := by decide +kernel
theorem dL_law_162 : decode cL_law 162 = .ok (.if_icmp .eq 736, 3) := by decide +kernel
theorem dL_law_165 : decode cL_law 165 = .ok (.iconst 0, 1) := by decide +kernel
theorem dL_law_166 : decode cL_law 166 = .ok (.ireturn, 1) := by decide +kernel
theorem dL_law_167 : decode cL_law 167 = .ok (.aload_n 1, 1) := by decide +kernel
theorem dL_law_168 : decode cL_law 168 = .ok (.invokevirtual 18, 3) := by decide +kernel
theorem dL_law_171 : decode cL_law 171 = .ok (.aload_n 2, 1) := by decide +kernel
theorem dL_law_172 : decode cL_law 172 = .ok (.invokevirtual 22, 3) := by decide +kernel
theorem dL_law_175 : decode cL_law 175 = .ok (.if_icmp .eq 723, 3) := by decide +kernel
theorem dL_law_178 : decode cL_law 178 = .ok (.iconst 0, 1) := by decide +kernel
theorem dL_law_179 : decode cL_law 179 = .ok (.ireturn, 1) := by decide +kernel
theorem dL_law_180 : decode cL_law 180 = .ok (.aload_n 1, 1) := by decide +kernel
theorem dL_law_181 : decode cL_law 181 = .ok (.aload_n 0, 1) := by decide +kernel
theorem dL_law_182 : decode cL_law 182 = .ok (.iload_n 3, 1) := by decide +kernel
theorem dL_law_183 : decode cL_law 183 = .ok (.iconst 1, 1) := by decide +kernel
theorem dL_law_184 : decode cL_law 184 = .ok (.iadd, 1) := by decide +kernel
theorem dL_law_185 : decode cL_law 185 = .ok (.iaload, 1) := by decide +kernel
theorem dL_law_186 : decode cL_law 186 = .ok (.invokevirtual 23, 3) := by decide +kernel
theorem dL_law_189 : decode cL_law 189 = .ok (.aload_n 2, 1) := by decide +kernel
theorem dL_law_190 : decode cL_law 190 = .ok (.aload_n 0, 1) := by decide +kernel
theorem dL_law_191 : decode cL_law 191 = .ok (.iload_n 3, 1) := by decide +kernel
theorem dL_law_192 : decode cL_law 192 = .ok (.iconst 1, 1) := by decide +kernel
theorem dL_law_193 : decode cL_law 193 = .ok (.iadd, 1) := by decide +kernel
theorem dL_law_194 : decode cL_law 194 = .ok (.iaload, 1) := by decide +kernel
theorem dL_law_195 : decode cL_law 195 = .ok (.invokevirtual 26, 3) := by decide +kernel
theorem dL_law_198 : decode cL_law 198 = .ok (.if_icmp .eq 700, 3) := by decide +kernel
theorem dL_law_201 : decode cL_law 201 = .ok (.iconst 0, 1) := by decide +kernel
theorem dL_law_202 : decode cL_law 202 = .ok (.ireturn, 1) := by decide +kernel
theorem dL_law_203 : decode cL_law 203 = .ok (.aload_n 1, 1) := by decide +kernel
theorem dL_law_204 : decode cL_law 204 = .ok (.invokevirtual 27, 3) := by decide +kernel
theorem dL_law_207 : decode cL_law 207 = .ok (.aload_n 2, 1) := by decide +kernel
theorem dL_law_208 : decode cL_law 208 = .ok (.invokevirtual 30, 3) := by decide +kernel
theorem dL_law_211 : decode cL_law 211 = .ok (.if_icmp .eq 687, 3) := by decide +kernel
theorem dL_law_214 : decode cL_law 214 = .ok (.iconst 0, 1) := by decide +kernel
theorem dL_law_215 : decode cL_law 215 = .ok (.ireturn, 1) := by decide +kernel
theorem dL_law_216 : decode cL_law 216 = .ok (.aload_n 1, 1) := by decide +kernel
theorem dL_law_217 : decode cL_law 217 = .ok (.aload_n 0, 1) := by decide +kernel
theorem dL_law_218 : decode cL_law 218 = .ok (.iload_n 3, 1) := by decide +kernel
theorem dL_law_219 : decode cL_law 219 = .ok (.iconst 1, 1) := by decide +kernel
theorem dL_law_220 : decode cL_law 220 = .ok (.iadd, 1) := by decide +kernel
theorem dL_law_221 : decode cL_law 221 = .ok (.iaload, 1) := by decide +kernel
theorem dL_law_222 : decode cL_law 222 = .ok (.aload_n 0, 1) := by decide +kernel
theorem dL_law_223 : decode cL_law 223 = .ok (.iload_n 3, 1) := by decide +kernel
theorem dL_law_224 : decode cL_law 224 = .ok (.iconst 2, 1) := by decide +kernel
theorem dL_law_225 : decode cL_law 225 = .ok (.iadd, 1) := by decide +kernel
theorem dL_law_226 : decode cL_law 226 = .ok (.iaload, 1) := by decide +kernel
theorem dL_law_227 : decode cL_law 227 = .ok (.aload_n 0, 1) := by decide +kernel
theorem dL_law_228 : decode cL_law 228 = .ok (.iload_n 3, 1) := by decide +kernel
theorem dL_law_229 : decode cL_law 229 = .ok (.iconst 3, 1) := by decide +kernel
theorem dL_law_230 : decode cL_law 230 = .ok (.iadd, 1) := by decide +kernel
theorem dL_law_231 : decode cL_law 231 = .ok (.iaload, 1) := by decide +kernel
theorem dL_law_232 : decode cL_law 232 = .ok (.ifCond .eq 7, 3) := by decide +kernel
theorem dL_law_235 : decode cL_law 235 = .ok (.iconst 1, 1) := by decide +kernel
theorem dL_law_236 : decode cL_law 236 = .ok (.goto 4, 3) := by decide +kernel
theorem dL_law_239 : decode cL_law 239 = .ok (.iconst 0, 1) := by decide +kernel
theorem dL_law_240 : decode cL_law 240 = .ok (.invokevirtual 31, 3) := by decide +kernel
theorem dL_law_243 : decode cL_law 243 = .ok (.aload_n 2, 1) := by decide +kernel
theorem dL_law_244 : decode cL_law 244 = .ok (.aload_n 0, 1) := by decide +kernel
theorem dL_law_245 : decode cL_law 245 = .ok (.iload_n 3, 1) := by decide +kernel
theorem dL_law_246 : decode cL_law 246 = .ok (.iconst 1, 1) := by decide +kernel
theorem dL_law_247 : decode cL_law 247 = .ok (.iadd, 1) := by decide +kernel
theorem dL_law_248 : decode cL_law 248 = .ok (.iaload, 1) := by decide +kernel
theorem dL_law_249 : decode cL_law 249 = .ok (.aload_n 0, 1) := by decide +kernel
theorem dL_law_250 : decode cL_law 250 = .ok (.iload_n 3, 1) := by decide +kernel
theorem dL_law_251 : decode cL_law 251 = .ok (.iconst 2, 1) := by decide +kernel
theorem dL_law_252 : decode cL_law 252 = .ok (.iadd, 1) := by decide +kernel
theorem dL_law_253 : decode cL_law 253 = .ok (.iaload, 1) := by decide +kernel
theorem dL_law_254 : decode cL_law 254 = .ok (.aload_n 0, 1) := by decide +kernel
theorem dL_law_255 : decode cL_law 255 = .ok (.iload_n 3, 1) := by decide +kernel
theorem dL_law_256 : decode cL_law 256 = .ok (.iconst 3, 1) := by decide +kernel
theorem dL_law_257 : decode cL_law 257 = .ok (.iadd, 1) := by decide +kernel
theorem dL_law_258 : decode cL_law 258 = .ok (.iaload, 1) := by decide +kernel
theorem dL_law_259 : decode cL_law 259 = .ok (.ifCond .eq 7, 3) := by decide +kernel
theorem dL_law_262 : decode cL_law 262 = .ok (.iconst 1, 1) := by decide +kernel
theorem dL_law_263 : decode cL_law 263 = .ok (.goto 4, 3) := by decide +kernel
theorem dL_law_266 : decode cL_law 266 = .ok (.iconst 0, 1) := by decide +kernel
theorem dL_law_267 : decode cL_law 267 = .ok (.invokevirtual 35, 3) := by decide +kernel
theorem dL_law_270 : decode cL_law 270 = .ok (.if_icmp .eq 628, 3) := by decide +kernel
theorem dL_law_273 : decode cL_law 273 = .ok (.iconst 0, 1) := by decide +kernel
theorem dL_law_274 : decode cL_law 274 = .ok (.ireturn, 1) := by decide +kernel
theorem dL_law_275 : decode cL_law 275 = .ok (.aload_n 1, 1) := by decide +kernel
theorem dL_law_276 : decode cL_law 276 = .ok (.aload_n 0, 1) := by decide +kernel
theorem dL_law_277 : decode cL_law 277 = .ok (.iload_n 3, 1) := by decide +kernel
theorem dL_law_278 : decode cL_law 278 = .ok (.iconst 1, 1) := by decide +kernel
theorem dL_law_279 : decode cL_law 279 = .ok (.iadd, 1) := by decide +kernel
theorem dL_law_280 : decode cL_law 280 = .ok (.iaload, 1) := by decide +kernel
theorem dL_law_281 : decode cL_law 281 = .ok (.aload_n 0, 1) := by decide +kernel
theorem dL_law_282 : decode cL_law 282 = .ok (.iload_n 3, 1) := by decide +kernel
theorem dL_law_283 : decode cL_law 283 = .ok (.iconst 2, 1) := by decide +kernel
theorem dL_law_284 : decode cL_law 284 = .ok (.iadd, 1) := by decide +kernel
theorem dL_law_285 : decode cL_law 285 = .ok (.iaload, 1) := by decide +kernel
theorem dL_law_286 : decode cL_law 286 = .ok (.invokevirtual 36, 3) := by decide +kernel
theorem dL_law_289 : decode cL_law 289 = .ok (.aload_n 2, 1) := by decide +kernel
theorem dL_law_290 : decode cL_law 290 = .ok (.aload_n 0, 1) := by decide +kernel
theorem dL_law_291 : decode cL_law 291 = .ok (.iload_n 3, 1) := by decide +kernel
theorem dL_law_292 : decode cL_law 292 = .ok (.iconst 1, 1) := by decide +kernel
theorem dL_law_293 : decode cL_law 293 = .ok (.iadd, 1) := by decide +kernel
theorem dL_law_294 : decode cL_law 294 = .ok (.iaload, 1) := by decide +kernel
theorem dL_law_295 : decode cL_law 295 = .ok (.aload_n 0, 1) := by decide +kernel
theorem dL_law_296 : decode cL_law 296 = .ok (.iload_n 3, 1) := by decide +kernel
theorem dL_law_297 : decode cL_law 297 = .ok (.iconst 2, 1) := by decide +kernel
theorem dL_law_298 : decode cL_law 298 = .ok (.iadd, 1) := by decide +kernel
theorem dL_law_299 : decode cL_law 299 = .ok (.iaload, 1) := by decide +kernel
theorem dL_law_300 : decode cL_law 300 = .ok (.invokevirtual 40, 3) := by decide +kernel
theorem dL_law_303 : decode cL_law 303 = .ok (.if_icmp .eq 595, 3) := by decide +kernel
theorem dL_law_306 : decode cL_law 306 = .ok (.iconst 0, 1) := by decide +kernel
theorem dL_law_307 : decode cL_law 307 = .ok (.ireturn, 1) := by decide +kernel
theorem dL_law_308 : decode cL_law 308 = .ok (.aload_n 1, 1) := by decide +kernel
theorem dL_law_309 : decode cL_law 309 = .ok (.aload_n 0, 1) := by decide +kernel
theorem dL_law_310 : decode cL_law 310 = .ok (.iload_n 3, 1) := by decide +kernel
theorem dL_law_311 : decode cL_law 311 = .ok (.iconst 1, 1) := by decide +kernel
theorem dL_law_312 : decode cL_law 312 = .ok (.iadd, 1) := by decide +kernel
theorem dL_law_313 : decode cL_law 313 = .ok (.iaload, 1) := by decide +kernel
theorem dL_law_314 : decode cL_law 314 = .ok (.aload_n 0, 1) := by decide +kernel
theorem dL_law_315 : decode cL_law 315 = .ok (.iload_n 3, 1) := by decide +kernel
theorem dL_law_316 : decode cL_law 316 = .ok (.iconst 2, 1) := by decide +kernel
theorem dL_law_317 : decode cL_law 317 = .ok (.iadd, 1) := by decide +kernel
theorem dL_law_318 : decode cL_law 318 = .ok (.iaload, 1) := by decide +kernel
theorem dL_law_319 : decode cL_law 319 = .ok (.aload_n 0, 1) := by decide +kernel
theorem dL_law_320 : decode cL_law 320 = .ok (.iload_n 3, 1) := by decide +kernel
theorem dL_law_321 : decode cL_law 321 = .ok (.iconst 3, 1) := by decide +kernel
theorem dL_law_322 : decode cL_law 322 = .ok (.iadd, 1) := by decide +kernel
theorem dL_law_323 : decode cL_law 323 = .ok (.iaload, 1) := by decide +kernel
theorem dL_law_324 : decode cL_law 324 = .ok (.invokevirtual 41, 3) := by decide +kernel
theorem dL_law_327 : decode cL_law 327 = .ok (.aload_n 2, 1) := by decide +kernel
theorem dL_law_328 : decode cL_law 328 = .ok (.aload_n 0, 1) := by decide +kernel
theorem dL_law_329 : decode cL_law 329 = .ok (.iload_n 3, 1) := by decide +kernel
theorem dL_law_330 : decode cL_law 330 = .ok (.iconst 1, 1) := by decide +kernel
theorem dL_law_331 : decode cL_law 331 = .ok (.iadd, 1) := by decide +kernel
theorem dL_law_332 : decode cL_law 332 = .ok (.iaload, 1) := by decide +kernel
theorem dL_law_333 : decode cL_law 333 = .ok (.aload_n 0, 1) := by decide +kernel
theorem dL_law_334 : decode cL_law 334 = .ok (.iload_n 3, 1) := by decide +kernel
theorem dL_law_335 : decode cL_law 335 = .ok (.iconst 2, 1) := by decide +kernel
theorem dL_law_336 : decode cL_law 336 = .ok (.iadd, 1) := by decide +kernel
theorem dL_law_337 : decode cL_law 337 = .ok (.iaload, 1) := by decide +kernel
theorem dL_law_338 : decode cL_law 338 = .ok (.aload_n 0, 1) := by decide +kernel
theorem dL_law_339 : decode cL_law 339 = .ok (.iload_n 3, 1) := by decide +kernel
theorem dL_law_340 : decode cL_law 340 = .ok (.iconst 3, 1) := by decide +kernel
theorem dL_law_341 : decode cL_law 341 = .ok (.iadd, 1) := by decide +kernel
theorem dL_law_342 : decode cL_law 342 = .ok (.iaload, 1) := by decide +kernel
theorem dL_law_343 : decode cL_law 343 = .ok (.invokevirtual 45, 3) := by decide +kernel
theorem dL_law_346 : decode cL_law 346 = .ok (.if_icmp .eq 552, 3) := by decide +kernel
theorem dL_law_349 : decode cL_law 349 = .ok (.iconst 0, 1) := by decide +kernel
theorem dL_law_350 : decode cL_law 350 = .ok (.ireturn, 1) := by decide +kernel
theorem dL_law_351 : decode cL_law 351 = .ok (.aload_n 1, 1) := by decide +kernel
theorem dL_law_352 : decode cL_law 352 = .ok (.aload_n 0, 1) := by decide +kernel
theorem dL_law_353 : decode cL_law 353 = .ok (.iload_n 3, 1) := by decide +kernel
theorem dL_law_354 : decode cL_law 354 = .ok (.iconst 1, 1) := by decide +kernel
theorem dL_law_355 : decode cL_law 355 = .ok (.iadd, 1) := by decide +kernel
theorem dL_law_356 : decode cL_law 356 = .ok (.iaload, 1) := by decide +kernel
theorem dL_law_357 : decode cL_law 357 = .ok (.invokevirtual 46, 3) := by decide +kernel
theorem dL_law_360 : decode cL_law 360 = .ok (.aload_n 2, 1) := by decide +kernel
theorem dL_law_361 : decode cL_law 361 = .ok (.aload_n 0, 1) := by decide +kernel
theorem dL_law_362 : decode cL_law 362 = .ok (.iload_n 3, 1) := by decide +kernel
theorem dL_law_363 : decode cL_law 363 = .ok (.iconst 1, 1) := by decide +kernel
theorem dL_law_364 : decode cL_law 364 = .ok (.iadd, 1) := by decide +kernel
theorem dL_law_365 : decode cL_law 365 = .ok (.iaload, 1) := by decide +kernel
theorem dL_law_366 : decode cL_law 366 = .ok (.invokevirtual 49, 3) := by decide +kernel
theorem dL_law_369 : decode cL_law 369 = .ok (.if_icmp .eq 529, 3) := by decide +kernel
theorem dL_law_372 : decode cL_law 372 = .ok (.iconst 0, 1) := by decide +kernel
theorem dL_law_373 : decode cL_law 373 = .ok (.ireturn, 1) := by decide +kernel
theorem dL_law_374 : decode cL_law 374 = .ok (.aload_n 1, 1) := by decide +kernel
theorem dL_law_375 : decode cL_law 375 = .ok (.aload_n 0, 1) := by decide +kernel
theorem dL_law_376 : decode cL_law 376 = .ok (.iload_n 3, 1) := by decide +kernel
theorem dL_law_377 : decode cL_law 377 = .ok (.iconst 1, 1) := by decide +kernel
theorem dL_law_378 : decode cL_law 378 = .ok (.iadd, 1) := by decide +kernel
theorem dL_law_379 : decode cL_law 379 = .ok (.iaload, 1) := by decide +kernel
theorem dL_law_380 : decode cL_law 380 = .ok (.invokevirtual 50, 3) := by decide +kernel
theorem dL_law_383 : decode cL_law 383 = .ok (.aload_n 2, 1) := by decide +kernel
theorem dL_law_384 : decode cL_law 384 = .ok (.aload_n 0, 1) := by decide +kernel
theorem dL_law_385 : decode cL_law 385 = .ok (.iload_n 3, 1) := by decide +kernel
theorem dL_law_386 : decode cL_law 386 = .ok (.iconst 1, 1) := by decide +kernel
theorem dL_law_387 : decode cL_law 387 = .ok (.iadd, 1) := by decide +kernel
theorem dL_law_388 : decode cL_law 388 = .ok (.iaload, 1) := by decide +kernel
theorem dL_law_389 : decode cL_law 389 = .ok (.invokevirtual 53, 3) := by decide +kernel
theorem dL_law_392 : decode cL_law 392 = .ok (.if_icmp .eq 506, 3) := by decide +kernel
theorem dL_law_395 : decode cL_law 395 = .ok (.iconst 0, 1) := by decide +kernel
theorem dL_law_396 : decode cL_law 396 = .ok (.ireturn, 1) := by decide +kernel
theorem dL_law_397 : decode cL_law 397 = .ok (.aload_n 1, 1) := by decide +kernel
theorem dL_law_398 : decode cL_law 398 = .ok (.aload_n 0, 1) := by decide +kernel
theorem dL_law_399 : decode cL_law 399 = .ok (.iload_n 3, 1) := by decide +kernel
theorem dL_law_400 : decode cL_law 400 = .ok (.iconst 1, 1) := by decide +kernel
theorem dL_law_401 : decode cL_law 401 = .ok (.iadd, 1) := by decide +kernel
theorem dL_law_402 : decode cL_law 402 = .ok (.iaload, 1) := by decide +kernel
theorem dL_law_403 : decode cL_law 403 = .ok (.aload_n 0, 1) := by decide +kernel
theorem dL_law_404 : decode cL_law 404 = .ok (.iload_n 3, 1) := by decide +kernel
theorem dL_law_405 : decode cL_law 405 = .ok (.iconst 2, 1) := by decide +kernel
theorem dL_law_406 : decode cL_law 406 = .ok (.iadd, 1) := by decide +kernel
theorem dL_law_407 : decode cL_law 407 = .ok (.iaload, 1) := by decide +kernel
theorem dL_law_408 : decode cL_law 408 = .ok (.aload_n 0, 1) := by decide +kernel
theorem dL_law_409 : decode cL_law 409 = .ok (.iload_n 3, 1) := by decide +kernel
theorem dL_law_410 : decode cL_law 410 = .ok (.iconst 3, 1) := by decide +kernel
theorem dL_law_411 : decode cL_law 411 = .ok (.iadd, 1) := by decide +kernel
theorem dL_law_412 : decode cL_law 412 = .ok (.iaload, 1) := by decide +kernel
theorem dL_law_413 : decode cL_law 413 = .ok (.invokevirtual 54, 3) := by decide +kernel
theorem dL_law_416 : decode cL_law 416 = .ok (.aload_n 2, 1) := by decide +kernel
theorem dL_law_417 : decode cL_law 417 = .ok (.aload_n 0, 1) := by decide +kernel
theorem dL_law_418 : decode cL_law 418 = .ok (.iload_n 3, 1) := by decide +kernel
theorem dL_law_419 : decode cL_law 419 = .ok (.iconst 1, 1) := by decide +kernel
theorem dL_law_420 : decode cL_law 420 = .ok (.iadd, 1) := by decide +kernel
theorem dL_law_421 : decode cL_law 421 = .ok (.iaload, 1) := by decide +kernel
theorem dL_law_422 : decode cL_law 422 = .ok (.aload_n 0, 1) := by decide +kernel
theorem dL_law_423 : decode cL_law 423 = .ok (.iload_n 3, 1) := by decide +kernel
theorem dL_law_424 : decode cL_law 424 = .ok (.iconst 2, 1) := by decide +kernel
theorem dL_law_425 : decode cL_law 425 = .ok (.iadd, 1) := by decide +kernel
theorem dL_law_426 : decode cL_law 426 = .ok (.iaload, 1) := by decide +kernel
theorem dL_law_427 : decode cL_law 427 = .ok (.aload_n 0, 1) := by decide +kernel
theorem dL_law_428 : decode cL_law 428 = .ok (.iload_n 3, 1) := by decide +kernel
theorem dL_law_429 : decode cL_law 429 = .ok (.iconst 3, 1) := by decide +kernel
theorem dL_law_430 : decode cL_law 430 = .ok (.iadd, 1) := by decide +kernel
theorem dL_law_431 : decode cL_law 431 = .ok (.iaload, 1) := by decide +kernel
theorem dL_law_432 : decode cL_law 432 = .ok (.invokevirtual 57, 3) := by decide +kernel
theorem dL_law_435 : decode cL_law 435 = .ok (.if_icmp .eq 463, 3) := by decide +kernel
theorem dL_law_438 : decode cL_law 438 = .ok (.iconst 0, 1) := by decide +kernel
theorem dL_law_439 : decode cL_law 439 = .ok (.ireturn, 1) := by decide +kernel
theorem dL_law_440 : decode cL_law 440 = .ok (.aload_n 1, 1) := by decide +kernel
theorem dL_law_441 : decode cL_law 441 = .ok (.aload_n 0, 1) := by decide +kernel
theorem dL_law_442 : decode cL_law 442 = .ok (.iload_n 3, 1) := by decide +kernel
theorem dL_law_443 : decode cL_law 443 = .ok (.iconst 1, 1) := by decide +kernel
theorem dL_law_444 : decode cL_law 444 = .ok (.iadd, 1) := by decide +kernel
theorem dL_law_445 : decode cL_law 445 = .ok (.iaload, 1) := by decide +kernel
theorem dL_law_446 : decode cL_law 446 = .ok (.aload_n 0, 1) := by decide +kernel
theorem dL_law_447 : decode cL_law 447 = .ok (.iload_n 3, 1) := by decide +kernel
theorem dL_law_448 : decode cL_law 448 = .ok (.iconst 2, 1) := by decide +kernel
theorem dL_law_449 : decode cL_law 449 = .ok (.iadd, 1) := by decide +kernel
theorem dL_law_450 : decode cL_law 450 = .ok (.iaload, 1) := by decide +kernel
theorem dL_law_451 : decode cL_law 451 = .ok (.aload_n 0, 1) := by decide +kernel
theorem dL_law_452 : decode cL_law 452 = .ok (.iload_n 3, 1) := by decide +kernel
theorem dL_law_453 : decode cL_law 453 = .ok (.iconst 3, 1) := by decide +kernel
theorem dL_law_454 : decode cL_law 454 = .ok (.iadd, 1) := by decide +kernel
theorem dL_law_455 : decode cL_law 455 = .ok (.iaload, 1) := by decide +kernel
theorem dL_law_456 : decode cL_law 456 = .ok (.aload_n 0, 1) := by decide +kernel
theorem dL_law_457 : decode cL_law 457 = .ok (.iload_n 3, 1) := by decide +kernel
theorem dL_law_458 : decode cL_law 458 = .ok (.iconst 4, 1) := by decide +kernel
theorem dL_law_459 : decode cL_law 459 = .ok (.iadd, 1) := by decide +kernel
theorem dL_law_460 : decode cL_law 460 = .ok (.iaload, 1) := by decide +kernel
theorem dL_law_461 : decode cL_law 461 = .ok (.aload_n 0, 1) := by decide +kernel
theorem dL_law_462 : decode cL_law 462 = .ok (.iload_n 3, 1) := by decide +kernel
theorem dL_law_463 : decode cL_law 463 = .ok (.iconst 5, 1) := by decide +kernel
theorem dL_law_464 : decode cL_law 464 = .ok (.iadd, 1) := by decide +kernel
theorem dL_law_465 : decode cL_law 465 = .ok (.iaload, 1) := by decide +kernel
theorem dL_law_466 : decode cL_law 466 = .ok (.invokevirtual 58, 3) := by decide +kernel
theorem dL_law_469 : decode cL_law 469 = .ok (.aload_n 2, 1) := by decide +kernel
theorem dL_law_470 : decode cL_law 470 = .ok (.aload_n 0, 1) := by decide +kernel
theorem dL_law_471 : decode cL_law 471 = .ok (.iload_n 3, 1) := by decide +kernel
theorem dL_law_472 : decode cL_law 472 = .ok (.iconst 1, 1) := by decide +kernel
theorem dL_law_473 : decode cL_law 473 = .ok (.iadd, 1) := by decide +kernel
theorem dL_law_474 : decode cL_law 474 = .ok (.iaload, 1) := by decide +kernel
theorem dL_law_475 : decode cL_law 475 = .ok (.aload_n 0, 1) := by decide +kernel
theorem dL_law_476 : decode cL_law 476 = .ok (.iload_n 3, 1) := by decide +kernel
theorem dL_law_477 : decode cL_law 477 = .ok (.iconst 2, 1) := by decide +kernel
theorem dL_law_478 : decode cL_law 478 = .ok (.iadd, 1) := by decide +kernel
theorem dL_law_479 : decode cL_law 479 = .ok (.iaload, 1) := by decide +kernel
theorem dL_law_480 : decode cL_law 480 = .ok (.aload_n 0, 1) := by decide +kernel
theorem dL_law_481 : decode cL_law 481 = .ok (.iload_n 3, 1) := by decide +kernel
theorem dL_law_482 : decode cL_law 482 = .ok (.iconst 3, 1) := by decide +kernel
theorem dL_law_483 : decode cL_law 483 = .ok (.iadd, 1) := by decide +kernel
theorem dL_law_484 : decode cL_law 484 = .ok (.iaload, 1) := by decide +kernel
theorem dL_law_485 : decode cL_law 485 = .ok (.aload_n 0, 1) := by decide +kernel
theorem dL_law_486 : decode cL_law 486 = .ok (.iload_n 3, 1) := by decide +kernel
theorem dL_law_487 : decode cL_law 487 = .ok (.iconst 4, 1) := by decide +kernel
theorem dL_law_488 : decode cL_law 488 = .ok (.iadd, 1) := by decide +kernel
theorem dL_law_489 : decode cL_law 489 = .ok (.iaload, 1) := by decide +kernel
theorem dL_law_490 : decode cL_law 490 = .ok (.aload_n 0, 1) := by decide +kernel
theorem dL_law_491 : decode cL_law 491 = .ok (.iload_n 3, 1) := by decide +kernel
theorem dL_law_492 : decode cL_law 492 = .ok (.iconst 5, 1) := by decide +kernel
theorem dL_law_493 : decode cL_law 493 = .ok (.iadd, 1) := by decide +kernel
theorem dL_law_494 : decode cL_law 494 = .ok (.iaload, 1) := by decide +kernel
theorem dL_law_495 : decode cL_law 495 = .ok (.invokevirtual 62, 3) := by decide +kernel
theorem dL_law_498 : decode cL_law 498 = .ok (.if_icmp .eq 400, 3) := by decide +kernel
theorem dL_law_501 : decode cL_law 501 = .ok (.iconst 0, 1) := by decide +kernel
theorem dL_law_502 : decode cL_law 502 = .ok (.ireturn, 1) := by decide +kernel
theorem dL_law_503 : decode cL_law 503 = .ok (.aload_n 1, 1) := by decide +kernel
theorem dL_law_504 : decode cL_law 504 = .ok (.aload_n 0, 1) := by decide +kernel
theorem dL_law_505 : decode cL_law 505 = .ok (.iload_n 3, 1) := by decide +kernel
theorem dL_law_506 : decode cL_law 506 = .ok (.iconst 1, 1) := by decide +kernel
theorem dL_law_507 : decode cL_law 507 = .ok (.iadd, 1) := by decide +kernel
theorem dL_law_508 : decode cL_law 508 = .ok (.iaload, 1) := by decide +kernel
theorem dL_law_509 : decode cL_law 509 = .ok (.aload_n 0, 1) := by decide +kernel
theorem dL_law_510 : decode cL_law 510 = .ok (.iload_n 3, 1) := by decide +kernel
theorem dL_law_511 : decode cL_law 511 = .ok (.iconst 2, 1) := by decide +kernel
theorem dL_law_512 : decode cL_law 512 = .ok (.iadd, 1) := by decide +kernel
theorem dL_law_513 : decode cL_law 513 = .ok (.iaload, 1) := by decide +kernel
theorem dL_law_514 : decode cL_law 514 = .ok (.aload_n 0, 1) := by decide +kernel
theorem dL_law_515 : decode cL_law 515 = .ok (.iload_n 3, 1) := by decide +kernel
theorem dL_law_516 : decode cL_law 516 = .ok (.iconst 3, 1) := by decide +kernel
theorem dL_law_517 : decode cL_law 517 = .ok (.iadd, 1) := by decide +kernel
theorem dL_law_518 : decode cL_law 518 = .ok (.iaload, 1) := by decide +kernel
theorem dL_law_519 : decode cL_law 519 = .ok (.invokevirtual 63, 3) := by decide +kernel
theorem dL_law_522 : decode cL_law 522 = .ok (.aload_n 2, 1) := by decide +kernel
theorem dL_law_523 : decode cL_law 523 = .ok (.aload_n 0, 1) := by decide +kernel
theorem dL_law_524 : decode cL_law 524 = .ok (.iload_n 3, 1) := by decide +kernel
theorem dL_law_525 : decode cL_law 525 = .ok (.iconst 1, 1) := by decide +kernel
theorem dL_law_526 : decode cL_law 526 = .ok (.iadd, 1) := by decide +kernel
theorem dL_law_527 : decode cL_law 527 = .ok (.iaload, 1) := by decide +kernel
theorem dL_law_528 : decode cL_law 528 = .ok (.aload_n 0, 1) := by decide +kernel
theorem dL_law_529 : decode cL_law 529 = .ok (.iload_n 3, 1) := by decide +kernel
theorem dL_law_530 : decode cL_law 530 = .ok (.iconst 2, 1) := by decide +kernel
theorem dL_law_531 : decode cL_law 531 = .ok (.iadd, 1) := by decide +kernel
theorem dL_law_532 : decode cL_law 532 = .ok (.iaload, 1) := by decide +kernel
theorem dL_law_533 : decode cL_law 533 = .ok (.aload_n 0, 1) := by decide +kernel
theorem dL_law_534 : decode cL_law 534 = .ok (.iload_n 3, 1) := by decide +kernel
theorem dL_law_535 : decode cL_law 535 = .ok (.iconst 3, 1) := by decide +kernel
theorem dL_law_536 : decode cL_law 536 = .ok (.iadd, 1) := by decide +kernel
theorem dL_law_537 : decode cL_law 537 = .ok (.iaload, 1) := by decide +kernel
theorem dL_law_538 : decode cL_law 538 = .ok (.invokevirtual 66, 3) := by decide +kernel
theorem dL_law_541 : decode cL_law 541 = .ok (.if_icmp .eq 357, 3) := by decide +kernel
theorem dL_law_544 : decode cL_law 544 = .ok (.iconst 0, 1) := by decide +kernel
theorem dL_law_545 : decode cL_law 545 = .ok (.ireturn, 1) := by decide +kernel
theorem dL_law_546 : decode cL_law 546 = .ok (.aload_n 1, 1) := by decide +kernel
theorem dL_law_547 : decode cL_law 547 = .ok (.aload_n 0, 1) := by decide +kernel
theorem dL_law_548 : decode cL_law 548 = .ok (.iload_n 3, 1) := by decide +kernel
theorem dL_law_549 : decode cL_law 549 = .ok (.iconst 1, 1) := by decide +kernel
theorem dL_law_550 : decode cL_law 550 = .ok (.iadd, 1) := by decide +kernel
theorem dL_law_551 : decode cL_law 551 = .ok (.iaload, 1) := by decide +kernel
theorem dL_law_552 : decode cL_law 552 = .ok (.aload_n 0, 1) := by decide +kernel
theorem dL_law_553 : decode cL_law 553 = .ok (.iload_n 3, 1) := by decide +kernel
theorem dL_law_554 : decode cL_law 554 = .ok (.iconst 2, 1) := by decide +kernel
theorem dL_law_555 : decode cL_law 555 = .ok (.iadd, 1) := by decide +kernel
theorem dL_law_556 : decode cL_law 556 = .ok (.iaload, 1) := by decide +kernel
theorem dL_law_557 : decode cL_law 557 = .ok (.ifCond .eq 7, 3) := by decide +kernel
theorem dL_law_560 : decode cL_law 560 = .ok (.iconst 1, 1) := by decide +kernel
theorem dL_law_561 : decode cL_law 561 = .ok (.goto 4, 3) := by decide +kernel
theorem dL_law_564 : decode cL_law 564 = .ok (.iconst 0, 1) := by decide +kernel
theorem dL_law_565 : decode cL_law 565 = .ok (.invokevirtual 67, 3) := by decide +kernel
theorem dL_law_568 : decode cL_law 568 = .ok (.aload_n 2, 1) := by decide +kernel
theorem dL_law_569 : decode cL_law 569 = .ok (.aload_n 0, 1) := by decide +kernel
theorem dL_law_570 : decode cL_law 570 = .ok (.iload_n 3, 1) := by decide +kernel
theorem dL_law_571 : decode cL_law 571 = .ok (.iconst 1, 1) := by decide +kernel
theorem dL_law_572 : decode cL_law 572 = .ok (.iadd, 1) := by decide +kernel
theorem dL_law_573 : decode cL_law 573 = .ok (.iaload, 1) := by decide +kernel
theorem dL_law_574 : decode cL_law 574 = .ok (.aload_n 0, 1) := by decide +kernel
theorem dL_law_575 : decode cL_law 575 = .ok (.iload_n 3, 1) := by decide +kernel
theorem dL_law_576 : decode cL_law 576 = .ok (.iconst 2, 1) := by decide +kernel
theorem dL_law_577 : decode cL_law 577 = .ok (.iadd, 1) := by decide +kernel
theorem dL_law_578 : decode cL_law 578 = .ok (.iaload, 1) := by decide +kernel
theorem dL_law_579 : decode cL_law 579 = .ok (.ifCond .eq 7, 3) := by decide +kernel
theorem dL_law_582 : decode cL_law 582 = .ok (.iconst 1, 1) := by decide +kernel
theorem dL_law_583 : decode cL_law 583 = .ok (.goto 4, 3) := by decide +kernel
theorem dL_law_586 : decode cL_law 586 = .ok (.iconst 0, 1) := by decide +kernel
theorem dL_law_587 : decode cL_law 587 = .ok (.invokevirtual 71, 3) := by decide +kernel
theorem dL_law_590 : decode cL_law 590 = .ok (.if_icmp .eq 308, 3) := by decide +kernel
theorem dL_law_593 : decode cL_law 593 = .ok (.iconst 0, 1) := by decide +kernel
theorem dL_law_594 : decode cL_law 594 = .ok (.ireturn, 1) := by decide +kernel
theorem dL_law_595 : decode cL_law 595 = .ok (.aload_n 1, 1) := by decide +kernel
theorem dL_law_596 : decode cL_law 596 = .ok (.aload_n 0, 1) := by decide +kernel
theorem dL_law_597 : decode cL_law 597 = .ok (.iload_n 3, 1) := by decide +kernel
theorem dL_law_598 : decode cL_law 598 = .ok (.iconst 1, 1) := by decide +kernel
theorem dL_law_599 : decode cL_law 599 = .ok (.iadd, 1) := by decide +kernel
theorem dL_law_600 : decode cL_law 600 = .ok (.iaload, 1) := by decide +kernel
theorem dL_law_601 : decode cL_law 601 = .ok (.invokevirtual 72, 3) := by decide +kernel
theorem dL_law_604 : decode cL_law 604 = .ok (.aload_n 2, 1) := by decide +kernel
theorem dL_law_605 : decode cL_law 605 = .ok (.aload_n 0, 1) := by decide +kernel
theorem dL_law_606 : decode cL_law 606 = .ok (.iload_n 3, 1) := by decide +kernel
theorem dL_law_607 : decode cL_law 607 = .ok (.iconst 1, 1) := by decide +kernel
theorem dL_law_608 : decode cL_law 608 = .ok (.iadd, 1) := by decide +kernel
theorem dL_law_609 : decode cL_law 609 = .ok (.iaload, 1) := by decide +kernel
theorem dL_law_610 : decode cL_law 610 = .ok (.invokevirtual 75, 3) := by decide +kernel
theorem dL_law_613 : decode cL_law 613 = .ok (.if_icmp .eq 285, 3) := by decide +kernel
theorem dL_law_616 : decode cL_law 616 = .ok (.iconst 0, 1) := by decide +kernel
theorem dL_law_617 : decode cL_law 617 = .ok (.ireturn, 1) := by decide +kernel
theorem dL_law_618 : decode cL_law 618 = .ok (.aload_n 1, 1) := by decide +kernel
theorem dL_law_619 : decode cL_law 619 = .ok (.aload_n 0, 1) := by decide +kernel
theorem dL_law_620 : decode cL_law 620 = .ok (.iload_n 3, 1) := by decide +kernel
theorem dL_law_621 : decode cL_law 621 = .ok (.iconst 1, 1) := by decide +kernel
theorem dL_law_622 : decode cL_law 622 = .ok (.iadd, 1) := by decide +kernel
theorem dL_law_623 : decode cL_law 623 = .ok (.iaload, 1) := by decide +kernel
theorem dL_law_624 : decode cL_law 624 = .ok (.aload_n 0, 1) := by decide +kernel
theorem dL_law_625 : decode cL_law 625 = .ok (.iload_n 3, 1) := by decide +kernel
theorem dL_law_626 : decode cL_law 626 = .ok (.iconst 2, 1) := by decide +kernel
theorem dL_law_627 : decode cL_law 627 = .ok (.iadd, 1) := by decide +kernel
theorem dL_law_628 : decode cL_law 628 = .ok (.iaload, 1) := by decide +kernel
theorem dL_law_629 : decode cL_law 629 = .ok (.invokevirtual 76, 3) := by decide +kernel
theorem dL_law_632 : decode cL_law 632 = .ok (.aload_n 2, 1) := by decide +kernel
theorem dL_law_633 : decode cL_law 633 = .ok (.aload_n 0, 1) := by decide +kernel
theorem dL_law_634 : decode cL_law 634 = .ok (.iload_n 3, 1) := by decide +kernel
theorem dL_law_635 : decode cL_law 635 = .ok (.iconst 1, 1) := by decide +kernel
theorem dL_law_636 : decode cL_law 636 = .ok (.iadd, 1) := by decide +kernel
theorem dL_law_637 : decode cL_law 637 = .ok (.iaload, 1) := by decide +kernel
theorem dL_law_638 : decode cL_law 638 = .ok (.aload_n 0, 1) := by decide +kernel
theorem dL_law_639 : decode cL_law 639 = .ok (.iload_n 3, 1) := by decide +kernel
theorem dL_law_640 : decode cL_law 640 = .ok (.iconst 2, 1) := by decide +kernel
theorem dL_law_641 : decode cL_law 641 = .ok (.iadd, 1) := by decide +kernel
theorem dL_law_642 : decode cL_law 642 = .ok (.iaload, 1) := by decide +kernel
theorem dL_law_643 : decode cL_law 643 = .ok (.invokevirtual 79, 3) := by decide +kernel
theorem dL_law_646 : decode cL_law 646 = .ok (.if_icmp .eq 252, 3) := by decide +kernel
theorem dL_law_649 : decode cL_law 649 = .ok (.iconst 0, 1) := by decide +kernel
theorem dL_law_650 : decode cL_law 650 = .ok (.ireturn, 1) := by decide +kernel
theorem dL_law_651 : decode cL_law 651 = .ok (.aload_n 1, 1) := by decide +kernel
theorem dL_law_652 : decode cL_law 652 = .ok (.aload_n 0, 1) := by decide +kernel
theorem dL_law_653 : decode cL_law 653 = .ok (.iload_n 3, 1) := by decide +kernel
theorem dL_law_654 : decode cL_law 654 = .ok (.iconst 1, 1) := by decide +kernel
theorem dL_law_655 : decode cL_law 655 = .ok (.iadd, 1) := by decide +kernel
theorem dL_law_656 : decode cL_law 656 = .ok (.iaload, 1) := by decide +kernel
theorem dL_law_657 : decode cL_law 657 = .ok (.aload_n 0, 1) := by decide +kernel
theorem dL_law_658 : decode cL_law 658 = .ok (.iload_n 3, 1) := by decide +kernel
theorem dL_law_659 : decode cL_law 659 = .ok (.iconst 2, 1) := by decide +kernel
theorem dL_law_660 : decode cL_law 660 = .ok (.iadd, 1) := by decide +kernel
theorem dL_law_661 : decode cL_law 661 = .ok (.iaload, 1) := by decide +kernel
theorem dL_law_662 : decode cL_law 662 = .ok (.invokevirtual 80, 3) := by decide +kernel
theorem dL_law_665 : decode cL_law 665 = .ok (.aload_n 2, 1) := by decide +kernel
theorem dL_law_666 : decode cL_law 666 = .ok (.aload_n 0, 1) := by decide +kernel
theorem dL_law_667 : decode cL_law 667 = .ok (.iload_n 3, 1) := by decide +kernel
theorem dL_law_668 : decode cL_law 668 = .ok (.iconst 1, 1) := by decide +kernel
theorem dL_law_669 : decode cL_law 669 = .ok (.iadd, 1) := by decide +kernel
theorem dL_law_670 : decode cL_law 670 = .ok (.iaload, 1) := by decide +kernel
theorem dL_law_671 : decode cL_law 671 = .ok (.aload_n 0, 1) := by decide +kernel
theorem dL_law_672 : decode cL_law 672 = .ok (.iload_n 3, 1) := by decide +kernel
theorem dL_law_673 : decode cL_law 673 = .ok (.iconst 2, 1) := by decide +kernel
theorem dL_law_674 : decode cL_law 674 = .ok (.iadd, 1) := by decide +kernel
theorem dL_law_675 : decode cL_law 675 = .ok (.iaload, 1) := by decide +kernel
theorem dL_law_676 : decode cL_law 676 = .ok (.invokevirtual 83, 3) := by decide +kernel
theorem dL_law_679 : decode cL_law 679 = .ok (.if_icmp .eq 219, 3) := by decide +kernel
theorem dL_law_682 : decode cL_law 682 = .ok (.iconst 0, 1) := by decide +kernel
theorem dL_law_683 : decode cL_law 683 = .ok (.ireturn, 1) := by decide +kernel
theorem dL_law_684 : decode cL_law 684 = .ok (.aload_n 1, 1) := by decide +kernel
theorem dL_law_685 : decode cL_law 685 = .ok (.aload_n 0, 1) := by decide +kernel
theorem dL_law_686 : decode cL_law 686 = .ok (.iload_n 3, 1) := by decide +kernel
theorem dL_law_687 : decode cL_law 687 = .ok (.iconst 1, 1) := by decide +kernel
theorem dL_law_688 : decode cL_law 688 = .ok (.iadd, 1) := by decide +kernel
theorem dL_law_689 : decode cL_law 689 = .ok (.iaload, 1) := by decide +kernel
theorem dL_law_690 : decode cL_law 690 = .ok (.invokevirtual 84, 3) := by decide +kernel
theorem dL_law_693 : decode cL_law 693 = .ok (.aload_n 2, 1) := by decide +kernel
theorem dL_law_694 : decode cL_law 694 = .ok (.aload_n 0, 1) := by decide +kernel
theorem dL_law_695 : decode cL_law 695 = .ok (.iload_n 3, 1) := by decide +kernel
theorem dL_law_696 : decode cL_law 696 = .ok (.iconst 1, 1) := by decide +kernel
theorem dL_law_697 : decode cL_law 697 = .ok (.iadd, 1) := by decide +kernel
theorem dL_law_698 : decode cL_law 698 = .ok (.iaload, 1) := by decide +kernel
theorem dL_law_699 : decode cL_law 699 = .ok (.invokevirtual 87, 3) := by decide +kernel
theorem dL_law_702 : decode cL_law 702 = .ok (.if_icmp .eq 196, 3) := by decide +kernel
theorem dL_law_705 : decode cL_law 705 = .ok (.iconst 0, 1) := by decide +kernel
theorem dL_law_706 : decode cL_law 706 = .ok (.ireturn, 1) := by decide +kernel
theorem dL_law_707 : decode cL_law 707 = .ok (.aload_n 1, 1) := by decide +kernel
theorem dL_law_708 : decode cL_law 708 = .ok (.aload_n 0, 1) := by decide +kernel
theorem dL_law_709 : decode cL_law 709 = .ok (.iload_n 3, 1) := by decide +kernel
theorem dL_law_710 : decode cL_law 710 = .ok (.iconst 1, 1) := by decide +kernel
theorem dL_law_711 : decode cL_law 711 = .ok (.iadd, 1) := by decide +kernel
theorem dL_law_712 : decode cL_law 712 = .ok (.iaload, 1) := by decide +kernel
theorem dL_law_713 : decode cL_law 713 = .ok (.invokevirtual 88, 3) := by decide +kernel
theorem dL_law_716 : decode cL_law 716 = .ok (.aload_n 2, 1) := by decide +kernel
theorem dL_law_717 : decode cL_law 717 = .ok (.aload_n 0, 1) := by decide +kernel
theorem dL_law_718 : decode cL_law 718 = .ok (.iload_n 3, 1) := by decide +kernel
theorem dL_law_719 : decode cL_law 719 = .ok (.iconst 1, 1) := by decide +kernel
theorem dL_law_720 : decode cL_law 720 = .ok (.iadd, 1) := by decide +kernel
theorem dL_law_721 : decode cL_law 721 = .ok (.iaload, 1) := by decide +kernel
theorem dL_law_722 : decode cL_law 722 = .ok (.invokevirtual 91, 3) := by decide +kernel
theorem dL_law_725 : decode cL_law 725 = .ok (.if_icmp .eq 173, 3) := by decide +kernel
theorem dL_law_728 : decode cL_law 728 = .ok (.iconst 0, 1) := by decide +kernel
theorem dL_law_729 : decode cL_law 729 = .ok (.ireturn, 1) := by decide +kernel
theorem dL_law_730 : decode cL_law 730 = .ok (.aload_n 1, 1) := by decide +kernel
theorem dL_law_731 : decode cL_law 731 = .ok (.aload_n 0, 1) := by decide +kernel
theorem dL_law_732 : decode cL_law 732 = .ok (.iload_n 3, 1) := by decide +kernel
theorem dL_law_733 : decode cL_law 733 = .ok (.iconst 1, 1) := by decide +kernel
theorem dL_law_734 : decode cL_law 734 = .ok (.iadd, 1) := by decide +kernel
theorem dL_law_735 : decode cL_law 735 = .ok (.iaload, 1) := by decide +kernel
theorem dL_law_736 : decode cL_law 736 = .ok (.aload_n 0, 1) := by decide +kernel
theorem dL_law_737 : decode cL_law 737 = .ok (.iload_n 3, 1) := by decide +kernel
theorem dL_law_738 : decode cL_law 738 = .ok (.iconst 2, 1) := by decide +kernel
theorem dL_law_739 : decode cL_law 739 = .ok (.iadd, 1) := by decide +kernel
theorem dL_law_740 : decode cL_law 740 = .ok (.iaload, 1) := by decide +kernel
theorem dL_law_741 : decode cL_law 741 = .ok (.aload_n 0, 1) := by decide +kernel
theorem dL_law_742 : decode cL_law 742 = .ok (.iload_n 3, 1) := by decide +kernel
theorem dL_law_743 : decode cL_law 743 = .ok (.iconst 3, 1) := by decide +kernel
theorem dL_law_744 : decode cL_law 744 = .ok (.iadd, 1) := by decide +kernel
theorem dL_law_745 : decode cL_law 745 = .ok (.iaload, 1) := by decide +kernel
theorem dL_law_746 : decode cL_law 746 = .ok (.aload_n 0, 1) := by decide +kernel
theorem dL_law_747 : decode cL_law 747 = .ok (.iload_n 3, 1) := by decide +kernel
theorem dL_law_748 : decode cL_law 748 = .ok (.iconst 4, 1) := by decide +kernel
theorem dL_law_749 : decode cL_law 749 = .ok (.iadd, 1) := by decide +kernel
theorem dL_law_750 : decode cL_law 750 = .ok (.iaload, 1) := by decide +kernel
theorem dL_law_751 : decode cL_law 751 = .ok (.invokevirtual 92, 3) := by decide +kernel
theorem dL_law_754 : decode cL_law 754 = .ok (.aload_n 2, 1) := by decide +kernel
theorem dL_law_755 : decode cL_law 755 = .ok (.aload_n 0, 1) := by decide +kernel
theorem dL_law_756 : decode cL_law 756 = .ok (.iload_n 3, 1) := by decide +kernel
theorem dL_law_757 : decode cL_law 757 = .ok (.iconst 1, 1) := by decide +kernel
theorem dL_law_758 : decode cL_law 758 = .ok (.iadd, 1) := by decide +kernel
theorem dL_law_759 : decode cL_law 759 = .ok (.iaload, 1) := by decide +kernel
theorem dL_law_760 : decode cL_law 760 = .ok (.aload_n 0, 1) := by decide +kernel
theorem dL_law_761 : decode cL_law 761 = .ok (.iload_n 3, 1) := by decide +kernel
theorem dL_law_762 : decode cL_law 762 = .ok (.iconst 2, 1) := by decide +kernel
theorem dL_law_763 : decode cL_law 763 = .ok (.iadd, 1) := by decide +kernel
theorem dL_law_764 : decode cL_law 764 = .ok (.iaload, 1) := by decide +kernel
theorem dL_law_765 : decode cL_law 765 = .ok (.aload_n 0, 1) := by decide +kernel
theorem dL_law_766 : decode cL_law 766 = .ok (.iload_n 3, 1) := by decide +kernel
theorem dL_law_767 : decode cL_law 767 = .ok (.iconst 3, 1) := by decide +kernel
theorem dL_law_768 : decode cL_law 768 = .ok (.iadd, 1) := by decide +kernel
theorem dL_law_769 : decode cL_law 769 = .ok (.iaload, 1) := by decide +kernel
theorem dL_law_770 : decode cL_law 770 = .ok (.aload_n 0, 1) := by decide +kernel
theorem dL_law_771 : decode cL_law 771 = .ok (.iload_n 3, 1) := by decide +kernel
theorem dL_law_772 : decode cL_law 772 = .ok (.iconst 4, 1) := by decide +kernel
theorem dL_law_773 : decode cL_law 773 = .ok (.iadd, 1) := by decide +kernel
theorem dL_law_774 : decode cL_law 774 = .ok (.iaload, 1) := by decide +kernel
theorem dL_law_775 : decode cL_law 775 = .ok (.invokevirtual 96, 3) := by decide +kernel
theorem dL_law_778 : decode cL_law 778 = .ok (.if_icmp .eq 120, 3) := by decide +kernel
theorem dL_law_781 : decode cL_law 781 = .ok (.iconst 0, 1) := by decide +kernel
theorem dL_law_782 : decode cL_law 782 = .ok (.ireturn, 1) := by decide +kernel
theorem dL_law_783 : decode cL_law 783 = .ok (.aload_n 1, 1) := by decide +kernel
theorem dL_law_784 : decode cL_law 784 = .ok (.aload_n 0, 1) := by decide +kernel
theorem dL_law_785 : decode cL_law 785 = .ok (.iload_n 3, 1) := by decide +kernel
theorem dL_law_786 : decode cL_law 786 = .ok (.iconst 1, 1) := by decide +kernel
theorem dL_law_787 : decode cL_law 787 = .ok (.iadd, 1) := by decide +kernel
theorem dL_law_788 : decode cL_law 788 = .ok (.iaload, 1) := by decide +kernel
theorem dL_law_789 : decode cL_law 789 = .ok (.invokevirtual 97, 3) := by decide +kernel
theorem dL_law_792 : decode cL_law 792 = .ok (.aload_n 2, 1) := by decide +kernel
theorem dL_law_793 : decode cL_law 793 = .ok (.aload_n 0, 1) := by decide +kernel
theorem dL_law_794 : decode cL_law 794 = .ok (.iload_n 3, 1) := by decide +kernel
theorem dL_law_795 : decode cL_law 795 = .ok (.iconst 1, 1) := by decide +kernel
theorem dL_law_796 : decode cL_law 796 = .ok (.iadd, 1) := by decide +kernel
theorem dL_law_797 : decode cL_law 797 = .ok (.iaload, 1) := by decide +kernel
theorem dL_law_798 : decode cL_law 798 = .ok (.invokevirtual 100, 3) := by decide +kernel
theorem dL_law_801 : decode cL_law 801 = .ok (.if_icmp .eq 97, 3) := by decide +kernel
theorem dL_law_804 : decode cL_law 804 = .ok (.iconst 0, 1) := by decide +kernel
theorem dL_law_805 : decode cL_law 805 = .ok (.ireturn, 1) := by decide +kernel
theorem dL_law_806 : decode cL_law 806 = .ok (.aload_n 1, 1) := by decide +kernel
theorem dL_law_807 : decode cL_law 807 = .ok (.aload_n 0, 1) := by decide +kernel
theorem dL_law_808 : decode cL_law 808 = .ok (.iload_n 3, 1) := by decide +kernel
theorem dL_law_809 : decode cL_law 809 = .ok (.iconst 1, 1) := by decide +kernel
theorem dL_law_810 : decode cL_law 810 = .ok (.iadd, 1) := by decide +kernel
theorem dL_law_811 : decode cL_law 811 = .ok (.iaload, 1) := by decide +kernel
theorem dL_law_812 : decode cL_law 812 = .ok (.invokevirtual 101, 3) := by decide +kernel
theorem dL_law_815 : decode cL_law 815 = .ok (.aload_n 2, 1) := by decide +kernel
theorem dL_law_816 : decode cL_law 816 = .ok (.aload_n 0, 1) := by decide +kernel
theorem dL_law_817 : decode cL_law 817 = .ok (.iload_n 3, 1) := by decide +kernel
theorem dL_law_818 : decode cL_law 818 = .ok (.iconst 1, 1) := by decide +kernel
theorem dL_law_819 : decode cL_law 819 = .ok (.iadd, 1) := by decide +kernel
theorem dL_law_820 : decode cL_law 820 = .ok (.iaload, 1) := by decide +kernel
theorem dL_law_821 : decode cL_law 821 = .ok (.invokevirtual 104, 3) := by decide +kernel
theorem dL_law_824 : decode cL_law 824 = .ok (.if_icmp .eq 74, 3) := by decide +kernel
theorem dL_law_827 : decode cL_law 827 = .ok (.iconst 0, 1) := by decide +kernel
theorem dL_law_828 : decode cL_law 828 = .ok (.ireturn, 1) := by decide +kernel
theorem dL_law_829 : decode cL_law 829 = .ok (.aload_n 1, 1) := by decide +kernel
theorem dL_law_830 : decode cL_law 830 = .ok (.aload_n 0, 1) := by decide +kernel
theorem dL_law_831 : decode cL_law 831 = .ok (.iload_n 3, 1) := by decide +kernel
theorem dL_law_832 : decode cL_law 832 = .ok (.iconst 1, 1) := by decide +kernel
theorem dL_law_833 : decode cL_law 833 = .ok (.iadd, 1) := by decide +kernel
theorem dL_law_834 : decode cL_law 834 = .ok (.iaload, 1) := by decide +kernel
theorem dL_law_835 : decode cL_law 835 = .ok (.invokevirtual 105, 3) := by decide +kernel
theorem dL_law_838 : decode cL_law 838 = .ok (.aload_n 2, 1) := by decide +kernel
theorem dL_law_839 : decode cL_law 839 = .ok (.aload_n 0, 1) := by decide +kernel
theorem dL_law_840 : decode cL_law 840 = .ok (.iload_n 3, 1) := by decide +kernel
theorem dL_law_841 : decode cL_law 841 = .ok (.iconst 1, 1) := by decide +kernel
theorem dL_law_842 : decode cL_law 842 = .ok (.iadd, 1) := by decide +kernel
theorem dL_law_843 : decode cL_law 843 = .ok (.iaload, 1) := by decide +kernel
theorem dL_law_844 : decode cL_law 844 = .ok (.invokevirtual 108, 3) := by decide +kernel
theorem dL_law_847 : decode cL_law 847 = .ok (.if_icmp .eq 51, 3) := by decide +kernel
theorem dL_law_850 : decode cL_law 850 = .ok (.iconst 0, 1) := by decide +kernel
theorem dL_law_851 : decode cL_law 851 = .ok (.ireturn, 1) := by decide +kernel
theorem dL_law_852 : decode cL_law 852 = .ok (.aload_n 1, 1) := by decide +kernel
theorem dL_law_853 : decode cL_law 853 = .ok (.aload_n 0, 1) := by decide +kernel
theorem dL_law_854 : decode cL_law 854 = .ok (.iload_n 3, 1) := by decide +kernel
theorem dL_law_855 : decode cL_law 855 = .ok (.iconst 1, 1) := by decide +kernel
theorem dL_law_856 : decode cL_law 856 = .ok (.iadd, 1) := by decide +kernel
theorem dL_law_857 : decode cL_law 857 = .ok (.iaload, 1) := by decide +kernel
theorem dL_law_858 : decode cL_law 858 = .ok (.invokevirtual 109, 3) := by decide +kernel
theorem dL_law_861 : decode cL_law 861 = .ok (.aload_n 2, 1) := by decide +kernel
theorem dL_law_862 : decode cL_law 862 = .ok (.aload_n 0, 1) := by decide +kernel
theorem dL_law_863 : decode cL_law 863 = .ok (.iload_n 3, 1) := by decide +kernel
theorem dL_law_864 : decode cL_law 864 = .ok (.iconst 1, 1) := by decide +kernel
theorem dL_law_865 : decode cL_law 865 = .ok (.iadd, 1) := by decide +kernel
theorem dL_law_866 : decode cL_law 866 = .ok (.iaload, 1) := by decide +kernel
theorem dL_law_867 : decode cL_law 867 = .ok (.invokevirtual 112, 3) := by decide +kernel
theorem dL_law_870 : decode cL_law 870 = .ok (.if_icmp .eq 28, 3) := by decide +kernel
theorem dL_law_873 : decode cL_law 873 = .ok (.iconst 0, 1) := by decide +kernel
theorem dL_law_874 : decode cL_law 874 = .ok (.ireturn, 1) := by decide +kernel
theorem dL_law_875 : decode cL_law 875 = .ok (.aload_n 1, 1) := by decide +kernel
theorem dL_law_876 : decode cL_law 876 = .ok (.aload_n 0, 1) := by decide +kernel
theorem dL_law_877 : decode cL_law 877 = .ok (.iload_n 3, 1) := by decide +kernel
theorem dL_law_878 : decode cL_law 878 = .ok (.iconst 1, 1) := by decide +kernel
theorem dL_law_879 : decode cL_law 879 = .ok (.iadd, 1) := by decide +kernel
theorem dL_law_880 : decode cL_law 880 = .ok (.iaload, 1) := by decide +kernel
theorem dL_law_881 : decode cL_law 881 = .ok (.invokevirtual 113, 3) := by decide +kernel
theorem dL_law_884 : decode cL_law 884 = .ok (.aload_n 2, 1) := by decide +kernel
theorem dL_law_885 : decode cL_law 885 = .ok (.aload_n 0, 1) := by decide +kernel
theorem dL_law_886 : decode cL_law 886 = .ok (.iload_n 3, 1) := by decide +kernel
theorem dL_law_887 : decode cL_law 887 = .ok (.iconst 1, 1) := by decide +kernel
theorem dL_law_888 : decode cL_law 888 = .ok (.iadd, 1) := by decide +kernel
theorem dL_law_889 : decode cL_law 889 = .ok (.iaload, 1) := by decide +kernel
theorem dL_law_890 : decode cL_law 890 = .ok (.invokevirtual 116, 3) := by decide +kernel
theorem dL_law_893 : decode cL_law 893 = .ok (.if_icmp .eq 5, 3) := by decide +kernel
theorem dL_law_896 : decode cL_law 896 = .ok (.iconst 0, 1) := by decide +kernel
theorem dL_law_897 : decode cL_law 897 = .ok (.ireturn, 1) := by decide +kernel
theorem dL_law_898 : decode cL_law 898 = .ok (.iinc 3 6, 3) := by decide +kernel
theorem dL_law_901 : decode cL_law 901 = .ok (.goto (-883), 3) := by decide +kernel
theorem dL_law_904 : decode cL_law 904 = .ok (.iconst 1, 1) := by decide +kernel
theorem dL_law_905 : decode cL_law 905 = .ok (.ireturn, 1) := by decide +kernel
