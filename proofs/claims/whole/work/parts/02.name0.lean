theorem dX0_init_0 : decode cX0_init 0 = .ok (.aload_n 0, 1) := by decide +kernel
theorem dX0_init_1 : decode cX0_init 1 = .ok (.invokespecial 3, 3) := by decide +kernel
theorem dX0_init_4 : decode cX0_init 4 = .ok (.aload_n 0, 1) := by decide +kernel
theorem dX0_init_5 : decode cX0_init 5 = .ok (.sipush 10240, 3) := by decide +kernel
theorem dX0_init_8 : decode cX0_init 8 = .ok (.newarray .int, 2) := by decide +kernel
theorem dX0_init_10 : decode cX0_init 10 = .ok (.putfield 9, 3) := by decide +kernel
theorem dX0_init_13 : decode cX0_init 13 = .ok (.aload_n 0, 1) := by decide +kernel
theorem dX0_init_14 : decode cX0_init 14 = .ok (.iconst 0, 1) := by decide +kernel
theorem dX0_init_15 : decode cX0_init 15 = .ok (.putfield 15, 3) := by decide +kernel
theorem dX0_init_18 : decode cX0_init 18 = .ok (.aload_n 0, 1) := by decide +kernel
theorem dX0_init_19 : decode cX0_init 19 = .ok (.iconst 0, 1) := by decide +kernel
theorem dX0_init_20 : decode cX0_init 20 = .ok (.putfield 19, 3) := by decide +kernel
theorem dX0_init_23 : decode cX0_init 23 = .ok (.aload_n 0, 1) := by decide +kernel
theorem dX0_init_24 : decode cX0_init 24 = .ok (.iconst 0, 1) := by decide +kernel
theorem dX0_init_25 : decode cX0_init 25 = .ok (.putfield 23, 3) := by decide +kernel
theorem dX0_init_28 : decode cX0_init 28 = .ok (.aload_n 0, 1) := by decide +kernel
theorem dX0_init_29 : decode cX0_init 29 = .ok (.iconst 0, 1) := by decide +kernel
theorem dX0_init_30 : decode cX0_init 30 = .ok (.putfield 26, 3) := by decide +kernel
theorem dX0_init_33 : decode cX0_init 33 = .ok (.aload_n 0, 1) := by decide +kernel
theorem dX0_init_34 : decode cX0_init 34 = .ok (.bipush (-6), 2) := by decide +kernel
theorem dX0_init_36 : decode cX0_init 36 = .ok (.putfield 29, 3) := by decide +kernel
theorem dX0_init_39 : decode cX0_init 39 = .ok (.aload_n 0, 1) := by decide +kernel
theorem dX0_init_40 : decode cX0_init 40 = .ok (.aload_n 1, 1) := by decide +kernel
theorem dX0_init_41 : decode cX0_init 41 = .ok (.putfield 32, 3) := by decide +kernel
theorem dX0_init_44 : decode cX0_init 44 = .ok (.return_, 1) := by decide +kernel
set_option maxRecDepth 20000 in
theorem ggX0_fight_X0_forget : GoodIn wsX0_fight wsX0_forget := goodIn_r _ [8, 9, 10, 44, 45, 46, 47, 48, 49, 50] (by decide +kernel) (by decide +kernel)
set_option maxRecDepth 20000 in
theorem gX0_fight_X0_forget : GoodIn wsX0_fight (wsV RX0 36 RX0 yX0_forget wsX0_forget) := goodIn_app (goodIn_of _ (by decide +kernel)) ggX0_fight_X0_forget
set_option maxRecDepth 20000 in
theorem ggX0_fight_X0_best : GoodIn wsX0_fight wsX0_best := goodIn_r _ [14, 1, 2, 10, 15, 16, 17, 18, 19, 20, 21, 22, 23, 24, 25, 26, 27, 7, 28, 29, 30, 31, 32, 33, 9, 34, 35, 36, 37, 38, 39, 40, 41, 11, 12, 13, 42, 43, 44, 45, 46, 47, 48, 49, 50, 51, 52, 53, 54, 55] (by decide +kernel) (by decide +kernel)
set_option maxRecDepth 20000 in
theorem gX0_fight_X0_best : GoodIn wsX0_fight (wsV RX0 39 RX0 yX0_best wsX0_best) := goodIn_app (goodIn_of _ (by decide +kernel)) ggX0_fight_X0_best
theorem dX0_fight_0 : decode cX0_fight 0 = .ok (.aload_n 0, 1) := by decide +kernel
theorem dX0_fight_1 : decode cX0_fight 1 = .ok (.iconst 0, 1) := by decide +kernel
theorem dX0_fight_2 : decode cX0_fight 2 = .ok (.putfield 19, 3) := by decide +kernel
theorem dX0_fight_5 : decode cX0_fight 5 = .ok (.aload_n 0, 1) := by decide +kernel
theorem dX0_fight_6 : decode cX0_fight 6 = .ok (.iload 5, 2) := by decide +kernel
theorem dX0_fight_8 : decode cX0_fight 8 = .ok (.ifCond .eq 8, 3) := by decide +kernel
theorem dX0_fight_11 : decode cX0_fight 11 = .ok (.bipush 20, 2) := by decide +kernel
theorem dX0_fight_13 : decode cX0_fight 13 = .ok (.goto 5, 3) := by decide +kernel
theorem dX0_fight_16 : decode cX0_fight 16 = .ok (.bipush 39, 2) := by decide +kernel
theorem dX0_fight_18 : decode cX0_fight 18 = .ok (.putfield 23, 3) := by decide +kernel
theorem dX0_fight_21 : decode cX0_fight 21 = .ok (.aload_n 0, 1) := by decide +kernel
theorem dX0_fight_22 : decode cX0_fight 22 = .ok (.invokevirtual 36, 3) := by decide +kernel
theorem dX0_fight_25 : decode cX0_fight 25 = .ok (.aload_n 0, 1) := by decide +kernel
theorem dX0_fight_26 : decode cX0_fight 26 = .ok (.aload_n 0, 1) := by decide +kernel
theorem dX0_fight_27 : decode cX0_fight 27 = .ok (.iload_n 1, 1) := by decide +kernel
theorem dX0_fight_28 : decode cX0_fight 28 = .ok (.iload_n 2, 1) := by decide +kernel
theorem dX0_fight_29 : decode cX0_fight 29 = .ok (.iload_n 3, 1) := by decide +kernel
theorem dX0_fight_30 : decode cX0_fight 30 = .ok (.iload 4, 2) := by decide +kernel
theorem dX0_fight_32 : decode cX0_fight 32 = .ok (.iconst 0, 1) := by decide +kernel
theorem dX0_fight_33 : decode cX0_fight 33 = .ok (.invokevirtual 39, 3) := by decide +kernel
theorem dX0_fight_36 : decode cX0_fight 36 = .ok (.putfield 26, 3) := by decide +kernel
theorem dX0_fight_39 : decode cX0_fight 39 = .ok (.return_, 1) := by decide +kernel
set_option maxRecDepth 20000 in
theorem ggX0_spin_X0_forget : GoodIn wsX0_spin wsX0_forget := goodIn_r _ [7, 8, 9, 44, 45, 46, 47, 48, 49, 50] (by decide +kernel) (by decide +kernel)
set_option maxRecDepth 20000 in
theorem gX0_spin_X0_forget : GoodIn wsX0_spin (wsV RX0 36 RX0 yX0_forget wsX0_forget) := goodIn_app (goodIn_of _ (by decide +kernel)) ggX0_spin_X0_forget
set_option maxRecDepth 20000 in
theorem ggX0_spin_X0_best : GoodIn wsX0_spin wsX0_best := goodIn_r _ [13, 1, 14, 9, 15, 16, 17, 18, 19, 20, 21, 22, 23, 24, 25, 26, 27, 6, 28, 29, 30, 31, 32, 33, 8, 34, 35, 36, 37, 38, 39, 40, 41, 10, 11, 12, 42, 43, 44, 45, 46, 47, 48, 49, 50, 51, 52, 53, 54, 55] (by decide +kernel) (by decide +kernel)
set_option maxRecDepth 20000 in
theorem gX0_spin_X0_best : GoodIn wsX0_spin (wsV RX0 39 RX0 yX0_best wsX0_best) := goodIn_app (goodIn_of _ (by decide +kernel)) ggX0_spin_X0_best
theorem dX0_spin_0 : decode cX0_spin 0 = .ok (.aload_n 0, 1) := by decide +kernel
theorem dX0_spin_1 : decode cX0_spin 1 = .ok (.iconst 1, 1) := by decide +kernel
theorem dX0_spin_2 : decode cX0_spin 2 = .ok (.putfield 19, 3) := by decide +kernel
theorem dX0_spin_5 : decode cX0_spin 5 = .ok (.aload_n 0, 1) := by decide +kernel
theorem dX0_spin_6 : decode cX0_spin 6 = .ok (.invokevirtual 36, 3) := by decide +kernel
theorem dX0_spin_9 : decode cX0_spin 9 = .ok (.aload_n 0, 1) := by decide +kernel
theorem dX0_spin_10 : decode cX0_spin 10 = .ok (.aload_n 0, 1) := by decide +kernel
theorem dX0_spin_11 : decode cX0_spin 11 = .ok (.iload_n 1, 1) := by decide +kernel
theorem dX0_spin_12 : decode cX0_spin 12 = .ok (.iload_n 2, 1) := by decide +kernel
theorem dX0_spin_13 : decode cX0_spin 13 = .ok (.iload_n 3, 1) := by decide +kernel
theorem dX0_spin_14 : decode cX0_spin 14 = .ok (.iload 4, 2) := by decide +kernel
theorem dX0_spin_16 : decode cX0_spin 16 = .ok (.iconst 0, 1) := by decide +kernel
theorem dX0_spin_17 : decode cX0_spin 17 = .ok (.invokevirtual 39, 3) := by decide +kernel
theorem dX0_spin_20 : decode cX0_spin 20 = .ok (.putfield 26, 3) := by decide +kernel
theorem dX0_spin_23 : decode cX0_spin 23 = .ok (.return_, 1) := by decide +kernel
theorem dX0_forget_0 : decode cX0_forget 0 = .ok (.aload_n 0, 1) := by decide +kernel
theorem dX0_forget_1 : decode cX0_forget 1 = .ok (.dup, 1) := by decide +kernel
theorem dX0_forget_2 : decode cX0_forget 2 = .ok (.getfield 15, 3) := by decide +kernel
theorem dX0_forget_5 : decode cX0_forget 5 = .ok (.iconst 1, 1) := by decide +kernel
theorem dX0_forget_6 : decode cX0_forget 6 = .ok (.iadd, 1) := by decide +kernel
theorem dX0_forget_7 : decode cX0_forget 7 = .ok (.putfield 15, 3) := by decide +kernel
theorem dX0_forget_10 : decode cX0_forget 10 = .ok (.aload_n 0, 1) := by decide +kernel
theorem dX0_forget_11 : decode cX0_forget 11 = .ok (.bipush (-6), 2) := by decide +kernel
theorem dX0_forget_13 : decode cX0_forget 13 = .ok (.putfield 29, 3) := by decide +kernel
theorem dX0_forget_16 : decode cX0_forget 16 = .ok (.return_, 1) := by decide +kernel
theorem dX0_moverPays_0 : decode cX0_moverPays 0 = .ok (.aload_n 0, 1) := by decide +kernel
theorem dX0_moverPays_1 : decode cX0_moverPays 1 = .ok (.getfield 26, 3) := by decide +kernel
theorem dX0_moverPays_4 : decode cX0_moverPays 4 = .ok (.bipush 20, 2) := by decide +kernel
theorem dX0_moverPays_6 : decode cX0_moverPays 6 = .ok (.if_icmp .ge 7, 3) := by decide +kernel
theorem dX0_moverPays_9 : decode cX0_moverPays 9 = .ok (.iconst 1, 1) := by decide +kernel
theorem dX0_moverPays_10 : decode cX0_moverPays 10 = .ok (.goto 4, 3) := by decide +kernel
theorem dX0_moverPays_13 : decode cX0_moverPays 13 = .ok (.iconst 0, 1) := by decide +kernel
theorem dX0_moverPays_14 : decode cX0_moverPays 14 = .ok (.ireturn, 1) := by decide +kernel
theorem dX0_howMany_0 : decode cX0_howMany 0 = .ok (.aload_n 0, 1) := by decide +kernel
theorem dX0_howMany_1 : decode cX0_howMany 1 = .ok (.getfield 26, 3) := by decide +kernel
theorem dX0_howMany_4 : decode cX0_howMany 4 = .ok (.bipush 20, 2) := by decide +kernel
theorem dX0_howMany_6 : decode cX0_howMany 6 = .ok (.if_icmp .ge 10, 3) := by decide +kernel
theorem dX0_howMany_9 : decode cX0_howMany 9 = .ok (.aload_n 0, 1) := by decide +kernel
theorem dX0_howMany_10 : decode cX0_howMany 10 = .ok (.getfield 26, 3) := by decide +kernel
theorem dX0_howMany_13 : decode cX0_howMany 13 = .ok (.goto 10, 3) := by decide +kernel
theorem dX0_howMany_16 : decode cX0_howMany 16 = .ok (.bipush 40, 2) := by decide +kernel
theorem dX0_howMany_18 : decode cX0_howMany 18 = .ok (.aload_n 0, 1) := by decide +kernel
theorem dX0_howMany_19 : decode cX0_howMany 19 = .ok (.getfield 26, 3) := by decide +kernel
theorem dX0_howMany_22 : decode cX0_howMany 22 = .ok (.isub, 1) := by decide +kernel
theorem dX0_howMany_23 : decode cX0_howMany 23 = .ok (.ireturn, 1) := by decide +kernel
theorem dX0_spun_0 : decode cX0_spun 0 = .ok (.aload_n 0, 1) := by decide +kernel
theorem dX0_spun_1 : decode cX0_spun 1 = .ok (.getfield 26, 3) := by decide +kernel
theorem dX0_spun_4 : decode cX0_spun 4 = .ok (.ireturn, 1) := by decide +kernel
theorem dX0_firstMove_0 : decode cX0_firstMove 0 = .ok (.aload_n 0, 1) := by decide +kernel
theorem dX0_firstMove_1 : decode cX0_firstMove 1 = .ok (.getfield 29, 3) := by decide +kernel
theorem dX0_firstMove_4 : decode cX0_firstMove 4 = .ok (.ireturn, 1) := by decide +kernel
set_option maxRecDepth 20000 in
theorem ggX0_best_J6_bitCount_0f7a4 : GoodIn wsX0_best wsJ6_bitCount_0f7a4 := goodIn_r _ [7, 8, 9, 10] (by decide +kernel) (by decide +kernel)
set_option maxRecDepth 20000 in
theorem gX0_best_J6_bitCount_0f7a4 : GoodIn wsX0_best (va_wsS RX0 43 yJ6_bitCount_0f7a4 wsJ6_bitCount_0f7a4) := goodIn_app (goodIn_of _ (by decide +kernel)) ggX0_best_J6_bitCount_0f7a4
set_option maxRecDepth 20000 in
theorem ggX0_best_X6_has : GoodIn wsX0_best wsX6_has := goodIn_r _ [13] (by decide +kernel) (by decide +kernel)
set_option maxRecDepth 20000 in
theorem gX0_best_X6_has_n49 : GoodIn wsX0_best (wsX6_has) := ggX0_best_X6_has
set_option maxRecDepth 20000 in
theorem ggX0_best_X0_afterwards : GoodIn wsX0_best wsX0_afterwards := goodIn_r _ [22, 23, 24, 25, 26, 12, 27, 28, 29, 30, 31, 32, 33, 34, 35, 17, 36, 37, 0, 1, 2, 3, 4, 5, 6, 7, 8, 9, 10, 11, 13, 14, 15, 16, 18, 19, 20, 21, 38, 39, 40, 41, 42, 43, 44, 45, 46, 47, 48, 49] (by decide +kernel) (by decide +kernel)
set_option maxRecDepth 20000 in
theorem gX0_best_X0_afterwards : GoodIn wsX0_best (wsV RX0 53 RX0 yX0_afterwards wsX0_afterwards) := goodIn_app (goodIn_of _ (by decide +kernel)) ggX0_best_X0_afterwards
set_option maxRecDepth 20000 in
theorem ggX0_best_X0_turned : GoodIn wsX0_best wsX0_turned := goodIn_r _ [21, 1, 38, 39, 40, 41, 42, 43, 44] (by decide +kernel) (by decide +kernel)
set_option maxRecDepth 20000 in
theorem gX0_best_X0_turned : GoodIn wsX0_best (wsV RX0 56 RX0 yX0_turned wsX0_turned) := goodIn_app (goodIn_of _ (by decide +kernel)) ggX0_best_X0_turned
theorem dX0_best_0 : decode cX0_best 0 = .ok (.iconst 0, 1) := by decide +kernel
theorem dX0_best_1 : decode cX0_best 1 = .ok (.istore 6, 2) := by decide +kernel
theorem dX0_best_3 : decode cX0_best 3 = .ok (.iload_n 1, 1) := by decide +kernel
theorem dX0_best_4 : decode cX0_best 4 = .ok (.ifCond .eq 10, 3) := by decide +kernel
theorem dX0_best_7 : decode cX0_best 7 = .ok (.iload 5, 2) := by decide +kernel
theorem dX0_best_9 : decode cX0_best 9 = .ok (.bipush 10, 2) := by decide +kernel
theorem dX0_best_11 : decode cX0_best 11 = .ok (.if_icmp .lt 6, 3) := by decide +kernel
theorem dX0_best_14 : decode cX0_best 14 = .ok (.iload 6, 2) := by decide +kernel
theorem dX0_best_16 : decode cX0_best 16 = .ok (.ireturn, 1) := by decide +kernel
theorem dX0_best_17 : decode cX0_best 17 = .ok (.aload_n 0, 1) := by decide +kernel
theorem dX0_best_18 : decode cX0_best 18 = .ok (.getfield 19, 3) := by decide +kernel
theorem dX0_best_21 : decode cX0_best 21 = .ok (.ifCond .eq 17, 3) := by decide +kernel
theorem dX0_best_24 : decode cX0_best 24 = .ok (.iload_n 3, 1) := by decide +kernel
theorem dX0_best_25 : decode cX0_best 25 = .ok (.iload 4, 2) := by decide +kernel
theorem dX0_best_27 : decode cX0_best 27 = .ok (.ior, 1) := by decide +kernel
theorem dX0_best_28 : decode cX0_best 28 = .ok (.iload_n 2, 1) := by decide +kernel
theorem dX0_best_29 : decode cX0_best 29 = .ok (.iconst (-1), 1) := by decide +kernel
theorem dX0_best_30 : decode cX0_best 30 = .ok (.ixor, 1) := by decide +kernel
theorem dX0_best_31 : decode cX0_best 31 = .ok (.iand, 1) := by decide +kernel
theorem dX0_best_32 : decode cX0_best 32 = .ok (.invokestatic 43, 3) := by decide +kernel
theorem dX0_best_35 : decode cX0_best 35 = .ok (.goto 7, 3) := by decide +kernel
theorem dX0_best_38 : decode cX0_best 38 = .ok (.aload_n 0, 1) := by decide +kernel
theorem dX0_best_39 : decode cX0_best 39 = .ok (.getfield 23, 3) := by decide +kernel
theorem dX0_best_42 : decode cX0_best 42 = .ok (.istore 7, 2) := by decide +kernel
theorem dX0_best_44 : decode cX0_best 44 = .ok (.iconst 0, 1) := by decide +kernel
theorem dX0_best_45 : decode cX0_best 45 = .ok (.istore 8, 2) := by decide +kernel
theorem dX0_best_47 : decode cX0_best 47 = .ok (.iload 8, 2) := by decide +kernel
theorem dX0_best_49 : decode cX0_best 49 = .ok (.bipush 10, 2) := by decide +kernel
theorem dX0_best_51 : decode cX0_best 51 = .ok (.if_icmp .ge 75, 3) := by decide +kernel
theorem dX0_best_54 : decode cX0_best 54 = .ok (.iload 6, 2) := by decide +kernel
theorem dX0_best_56 : decode cX0_best 56 = .ok (.iload 7, 2) := by decide +kernel
theorem dX0_best_58 : decode cX0_best 58 = .ok (.if_icmp .ge 68, 3) := by decide +kernel
theorem dX0_best_61 : decode cX0_best 61 = .ok (.iload_n 1, 1) := by decide +kernel
theorem dX0_best_62 : decode cX0_best 62 = .ok (.iload 8, 2) := by decide +kernel
theorem dX0_best_64 : decode cX0_best 64 = .ok (.invokestatic 49, 3) := by decide +kernel
theorem dX0_best_67 : decode cX0_best 67 = .ok (.ifCond .ne 6, 3) := by decide +kernel
theorem dX0_best_70 : decode cX0_best 70 = .ok (.goto 50, 3) := by decide +kernel
theorem dX0_best_73 : decode cX0_best 73 = .ok (.aload_n 0, 1) := by decide +kernel
theorem dX0_best_74 : decode cX0_best 74 = .ok (.aload_n 0, 1) := by decide +kernel
theorem dX0_best_75 : decode cX0_best 75 = .ok (.iload_n 2, 1) := by decide +kernel
theorem dX0_best_76 : decode cX0_best 76 = .ok (.iconst 1, 1) := by decide +kernel
theorem dX0_best_77 : decode cX0_best 77 = .ok (.iload 8, 2) := by decide +kernel
theorem dX0_best_79 : decode cX0_best 79 = .ok (.ishl, 1) := by decide +kernel
theorem dX0_best_80 : decode cX0_best 80 = .ok (.ior, 1) := by decide +kernel
theorem dX0_best_81 : decode cX0_best 81 = .ok (.iload 8, 2) := by decide +kernel
theorem dX0_best_83 : decode cX0_best 83 = .ok (.iload 4, 2) := by decide +kernel
theorem dX0_best_85 : decode cX0_best 85 = .ok (.iload_n 3, 1) := by decide +kernel
theorem dX0_best_86 : decode cX0_best 86 = .ok (.iload 5, 2) := by decide +kernel
theorem dX0_best_88 : decode cX0_best 88 = .ok (.iconst 1, 1) := by decide +kernel
theorem dX0_best_89 : decode cX0_best 89 = .ok (.iadd, 1) := by decide +kernel
theorem dX0_best_90 : decode cX0_best 90 = .ok (.invokevirtual 53, 3) := by decide +kernel
theorem dX0_best_93 : decode cX0_best 93 = .ok (.invokevirtual 56, 3) := by decide +kernel
theorem dX0_best_96 : decode cX0_best 96 = .ok (.istore 9, 2) := by decide +kernel
theorem dX0_best_98 : decode cX0_best 98 = .ok (.iload 9, 2) := by decide +kernel
theorem dX0_best_100 : decode cX0_best 100 = .ok (.iload 6, 2) := by decide +kernel
theorem dX0_best_102 : decode cX0_best 102 = .ok (.if_icmp .le 18, 3) := by decide +kernel
theorem dX0_best_105 : decode cX0_best 105 = .ok (.iload 9, 2) := by decide +kernel
theorem dX0_best_107 : decode cX0_best 107 = .ok (.istore 6, 2) := by decide +kernel
theorem dX0_best_109 : decode cX0_best 109 = .ok (.iload 5, 2) := by decide +kernel
theorem dX0_best_111 : decode cX0_best 111 = .ok (.ifCond .ne 9, 3) := by decide +kernel
theorem dX0_best_114 : decode cX0_best 114 = .ok (.aload_n 0, 1) := by decide +kernel
theorem dX0_best_115 : decode cX0_best 115 = .ok (.iload 8, 2) := by decide +kernel
theorem dX0_best_117 : decode cX0_best 117 = .ok (.putfield 29, 3) := by decide +kernel
theorem dX0_best_120 : decode cX0_best 120 = .ok (.iinc 8 1, 3) := by decide +kernel
theorem dX0_best_123 : decode cX0_best 123 = .ok (.goto (-76), 3) := by decide +kernel
theorem dX0_best_126 : decode cX0_best 126 = .ok (.iload 6, 2) := by decide +kernel
theorem dX0_best_128 : decode cX0_best 128 = .ok (.ireturn, 1) := by decide +kernel
set_option maxRecDepth 20000 in
theorem ggX0_afterwards_X6_at : GoodIn wsX0_afterwards wsX6_at := goodIn_r _ [6] (by decide +kernel) (by decide +kernel)
set_option maxRecDepth 20000 in
theorem gX0_afterwards_X6_at_n59 : GoodIn wsX0_afterwards (wsX6_at) := ggX0_afterwards_X6_at
set_option maxRecDepth 20000 in
theorem ggX0_afterwards_X4_worseThan : GoodIn wsX0_afterwards wsX4_worseThan := goodIn_r _ [10, 11, 4, 5, 6, 45, 46, 47, 48, 49] (by decide +kernel) (by decide +kernel)
set_option maxRecDepth 20000 in
theorem gX0_afterwards_X4_worseThan_n63 : GoodIn wsX0_afterwards (wsX4_worseThan) := ggX0_afterwards_X4_worseThan
set_option maxRecDepth 20000 in
theorem ggX0_afterwards_X0_best : GoodIn wsX0_afterwards wsX0_best := goodIn_r _ [18, 19, 20, 21, 22, 23, 24, 25, 26, 27, 28, 29, 5, 30, 31, 32, 33, 15, 34, 35, 36, 37, 0, 1, 2, 3, 4, 6, 7, 8, 9, 10, 11, 12, 13, 14, 16, 17, 38, 39, 40, 41, 42, 43, 44, 45, 46, 47, 48, 49] (by decide +kernel) (by decide +kernel)
set_option maxRecDepth 20000 in
theorem gX0_afterwards_X0_best : GoodIn wsX0_afterwards (wsV RX0 39 RX0 yX0_best wsX0_best) := goodIn_app (goodIn_of _ (by decide +kernel)) ggX0_afterwards_X0_best
set_option maxRecDepth 20000 in
theorem ggX0_afterwards_X6_store : GoodIn wsX0_afterwards wsX6_store := goodIn_r _ [17] (by decide +kernel) (by decide +kernel)
set_option maxRecDepth 20000 in
theorem gX0_afterwards_X6_store_n68 : GoodIn wsX0_afterwards (wsX6_store) := ggX0_afterwards_X6_store
theorem dX0_afterwards_0 : decode cX0_afterwards 0 = .ok (.iload_n 1, 1) := by decide +kernel
theorem dX0_afterwards_1 : decode cX0_afterwards 1 = .ok (.bipush 10, 2) := by decide +kernel
theorem dX0_afterwards_3 : decode cX0_afterwards 3 = .ok (.imul, 1) := by decide +kernel
theorem dX0_afterwards_4 : decode cX0_afterwards 4 = .ok (.iload_n 2, 1) := by decide +kernel
theorem dX0_afterwards_5 : decode cX0_afterwards 5 = .ok (.iadd, 1) := by decide +kernel
theorem dX0_afterwards_6 : decode cX0_afterwards 6 = .ok (.istore 6, 2) := by decide +kernel
theorem dX0_afterwards_8 : decode cX0_afterwards 8 = .ok (.aload_n 0, 1) := by decide +kernel
theorem dX0_afterwards_9 : decode cX0_afterwards 9 = .ok (.getfield 9, 3) := by decide +kernel
theorem dX0_afterwards_12 : decode cX0_afterwards 12 = .ok (.iload 6, 2) := by decide +kernel
theorem dX0_afterwards_14 : decode cX0_afterwards 14 = .ok (.invokestatic 59, 3) := by decide +kernel
theorem dX0_afterwards_17 : decode cX0_afterwards 17 = .ok (.istore 7, 2) := by decide +kernel
theorem dX0_afterwards_19 : decode cX0_afterwards 19 = .ok (.iload 7, 2) := by decide +kernel
theorem dX0_afterwards_21 : decode cX0_afterwards 21 = .ok (.bipush 64, 2) := by decide +kernel
theorem dX0_afterwards_23 : decode cX0_afterwards 23 = .ok (.idiv, 1) := by decide +kernel
theorem dX0_afterwards_24 : decode cX0_afterwards 24 = .ok (.aload_n 0, 1) := by decide +kernel
theorem dX0_afterwards_25 : decode cX0_afterwards 25 = .ok (.getfield 15, 3) := by decide +kernel
theorem dX0_afterwards_28 : decode cX0_afterwards 28 = .ok (.if_icmp .ne 9, 3) := by decide +kernel
theorem dX0_afterwards_31 : decode cX0_afterwards 31 = .ok (.iload 7, 2) := by decide +kernel
theorem dX0_afterwards_33 : decode cX0_afterwards 33 = .ok (.bipush 64, 2) := by decide +kernel
theorem dX0_afterwards_35 : decode cX0_afterwards 35 = .ok (.irem, 1) := by decide +kernel
theorem dX0_afterwards_36 : decode cX0_afterwards 36 = .ok (.ireturn, 1) := by decide +kernel
theorem dX0_afterwards_37 : decode cX0_afterwards 37 = .ok (.aload_n 0, 1) := by decide +kernel
theorem dX0_afterwards_38 : decode cX0_afterwards 38 = .ok (.getfield 32, 3) := by decide +kernel
theorem dX0_afterwards_41 : decode cX0_afterwards 41 = .ok (.iload_n 2, 1) := by decide +kernel
theorem dX0_afterwards_42 : decode cX0_afterwards 42 = .ok (.invokevirtual 63, 3) := by decide +kernel
theorem dX0_afterwards_45 : decode cX0_afterwards 45 = .ok (.iload_n 3, 1) := by decide +kernel
theorem dX0_afterwards_46 : decode cX0_afterwards 46 = .ok (.iand, 1) := by decide +kernel
theorem dX0_afterwards_47 : decode cX0_afterwards 47 = .ok (.iload_n 1, 1) := by decide +kernel
theorem dX0_afterwards_48 : decode cX0_afterwards 48 = .ok (.iconst (-1), 1) := by decide +kernel
theorem dX0_afterwards_49 : decode cX0_afterwards 49 = .ok (.ixor, 1) := by decide +kernel
theorem dX0_afterwards_50 : decode cX0_afterwards 50 = .ok (.iand, 1) := by decide +kernel
theorem dX0_afterwards_51 : decode cX0_afterwards 51 = .ok (.istore 8, 2) := by decide +kernel
theorem dX0_afterwards_53 : decode cX0_afterwards 53 = .ok (.aload_n 0, 1) := by decide +kernel
theorem dX0_afterwards_54 : decode cX0_afterwards 54 = .ok (.iload 8, 2) := by decide +kernel
theorem dX0_afterwards_56 : decode cX0_afterwards 56 = .ok (.iload_n 1, 1) := by decide +kernel
theorem dX0_afterwards_57 : decode cX0_afterwards 57 = .ok (.iload_n 3, 1) := by decide +kernel
theorem dX0_afterwards_58 : decode cX0_afterwards 58 = .ok (.iload 4, 2) := by decide +kernel
theorem dX0_afterwards_60 : decode cX0_afterwards 60 = .ok (.iload 5, 2) := by decide +kernel
theorem dX0_afterwards_62 : decode cX0_afterwards 62 = .ok (.invokevirtual 39, 3) := by decide +kernel
theorem dX0_afterwards_65 : decode cX0_afterwards 65 = .ok (.istore 9, 2) := by decide +kernel
theorem dX0_afterwards_67 : decode cX0_afterwards 67 = .ok (.aload_n 0, 1) := by decide +kernel
theorem dX0_afterwards_68 : decode cX0_afterwards 68 = .ok (.getfield 9, 3) := by decide +kernel
theorem dX0_afterwards_71 : decode cX0_afterwards 71 = .ok (.iload 6, 2) := by decide +kernel
theorem dX0_afterwards_73 : decode cX0_afterwards 73 = .ok (.aload_n 0, 1) := by decide +kernel
theorem dX0_afterwards_74 : decode cX0_afterwards 74 = .ok (.getfield 15, 3) := by decide +kernel
theorem dX0_afterwards_77 : decode cX0_afterwards 77 = .ok (.bipush 64, 2) := by decide +kernel
theorem dX0_afterwards_79 : decode cX0_afterwards 79 = .ok (.imul, 1) := by decide +kernel
theorem dX0_afterwards_80 : decode cX0_afterwards 80 = .ok (.iload 9, 2) := by decide +kernel
theorem dX0_afterwards_82 : decode cX0_afterwards 82 = .ok (.iadd, 1) := by decide +kernel
theorem dX0_afterwards_83 : decode cX0_afterwards 83 = .ok (.invokestatic 68, 3) := by decide +kernel
theorem dX0_afterwards_86 : decode cX0_afterwards 86 = .ok (.iload 9, 2) := by decide +kernel
theorem dX0_afterwards_88 : decode cX0_afterwards 88 = .ok (.ireturn, 1) := by decide +kernel
theorem dX0_turned_0 : decode cX0_turned 0 = .ok (.aload_n 0, 1) := by decide +kernel
theorem dX0_turned_1 : decode cX0_turned 1 = .ok (.getfield 19, 3) := by decide +kernel
theorem dX0_turned_4 : decode cX0_turned 4 = .ok (.ifCond .eq 7, 3) := by decide +kernel
theorem dX0_turned_7 : decode cX0_turned 7 = .ok (.iload_n 1, 1) := by decide +kernel
theorem dX0_turned_8 : decode cX0_turned 8 = .ok (.iconst 1, 1) := by decide +kernel
theorem dX0_turned_9 : decode cX0_turned 9 = .ok (.iadd, 1) := by decide +kernel
theorem dX0_turned_10 : decode cX0_turned 10 = .ok (.ireturn, 1) := by decide +kernel
theorem dX0_turned_11 : decode cX0_turned 11 = .ok (.iload_n 1, 1) := by decide +kernel
theorem dX0_turned_12 : decode cX0_turned 12 = .ok (.bipush 20, 2) := by decide +kernel
theorem dX0_turned_14 : decode cX0_turned 14 = .ok (.if_icmp .ge 10, 3) := by decide +kernel
theorem dX0_turned_17 : decode cX0_turned 17 = .ok (.bipush 40, 2) := by decide +kernel
theorem dX0_turned_19 : decode cX0_turned 19 = .ok (.iload_n 1, 1) := by decide +kernel
theorem dX0_turned_20 : decode cX0_turned 20 = .ok (.iconst 1, 1) := by decide +kernel
theorem dX0_turned_21 : decode cX0_turned 21 = .ok (.iadd, 1) := by decide +kernel
theorem dX0_turned_22 : decode cX0_turned 22 = .ok (.isub, 1) := by decide +kernel
theorem dX0_turned_23 : decode cX0_turned 23 = .ok (.ireturn, 1) := by decide +kernel
theorem dX0_turned_24 : decode cX0_turned 24 = .ok (.bipush 40, 2) := by decide +kernel
theorem dX0_turned_26 : decode cX0_turned 26 = .ok (.iload_n 1, 1) := by decide +kernel
theorem dX0_turned_27 : decode cX0_turned 27 = .ok (.isub, 1) := by decide +kernel
theorem dX0_turned_28 : decode cX0_turned 28 = .ok (.iconst 1, 1) := by decide +kernel
theorem dX0_turned_29 : decode cX0_turned 29 = .ok (.iadd, 1) := by decide +kernel
theorem dX0_turned_30 : decode cX0_turned 30 = .ok (.ireturn, 1) := by decide +kernel
theorem dX1_init_0 : decode cX1_init 0 = .ok (.aload_n 0, 1) := by decide +kernel
theorem dX1_init_1 : decode cX1_init 1 = .ok (.invokespecial 3, 3) := by decide +kernel
theorem dX1_init_4 : decode cX1_init 4 = .ok (.aload_n 0, 1) := by decide +kernel
theorem dX1_init_5 : decode cX1_init 5 = .ok (.iconst 5, 1) := by decide +kernel
theorem dX1_init_6 : decode cX1_init 6 = .ok (.newarray .int, 2) := by decide +kernel
theorem dX1_init_8 : decode cX1_init 8 = .ok (.putfield 9, 3) := by decide +kernel
theorem dX1_init_11 : decode cX1_init 11 = .ok (.aload_n 0, 1) := by decide +kernel
theorem dX1_init_12 : decode cX1_init 12 = .ok (.sipush 160, 3) := by decide +kernel
theorem dX1_init_15 : decode cX1_init 15 = .ok (.newarray .int, 2) := by decide +kernel
theorem dX1_init_17 : decode cX1_init 17 = .ok (.putfield 15, 3) := by decide +kernel
theorem dX1_init_20 : decode cX1_init 20 = .ok (.aload_n 0, 1) := by decide +kernel
theorem dX1_init_21 : decode cX1_init 21 = .ok (.bipush 32, 2) := by decide +kernel
theorem dX1_init_23 : decode cX1_init 23 = .ok (.newarray .boolean, 2) := by decide +kernel
theorem dX1_init_25 : decode cX1_init 25 = .ok (.putfield 18, 3) := by decide +kernel
theorem dX1_init_28 : decode cX1_init 28 = .ok (.aload_n 0, 1) := by decide +kernel
theorem dX1_init_29 : decode cX1_init 29 = .ok (.bipush 32, 2) := by decide +kernel
theorem dX1_init_31 : decode cX1_init 31 = .ok (.newarray .int, 2) := by decide +kernel
theorem dX1_init_33 : decode cX1_init 33 = .ok (.putfield 22, 3) := by decide +kernel
theorem dX1_init_36 : decode cX1_init 36 = .ok (.aload_n 0, 1) := by decide +kernel
theorem dX1_init_37 : decode cX1_init 37 = .ok (.aload_n 1, 1) := by decide +kernel
theorem dX1_init_38 : decode cX1_init 38 = .ok (.putfield 25, 3) := by decide +kernel
theorem dX1_init_41 : decode cX1_init 41 = .ok (.return_, 1) := by decide +kernel
set_option maxRecDepth 20000 in
theorem ggX1_isOneDayEnough_X1_prepare : GoodIn wsX1_isOneDayEnough wsX1_prepare := goodIn_r _ [5, 6, 7, 8, 9, 10, 11, 12, 13, 14, 15, 16, 17, 18, 19, 20, 21, 22, 23, 24, 25, 26, 27, 28, 29, 4, 30, 31, 32, 33, 34, 35, 36, 37, 38, 39, 40, 41, 42, 43, 44, 45, 46, 47, 48, 49, 62, 63, 64, 65, 66, 67, 68, 69, 70, 71] (by decide +kernel) (by decide +kernel)
set_option maxRecDepth 20000 in
theorem gX1_isOneDayEnough_X1_prepare : GoodIn wsX1_isOneDayEnough (wsV RX1 29 RX1 yX1_prepare wsX1_prepare) := goodIn_app (goodIn_of _ (by decide +kernel)) ggX1_isOneDayEnough_X1_prepare
set_option maxRecDepth 20000 in
theorem ggX1_isOneDayEnough_X1_canSpeak : GoodIn wsX1_isOneDayEnough wsX1_canSpeak := goodIn_r _ [53, 34, 35, 36, 4, 37, 31, 17, 18, 19, 54, 55, 56, 57, 32, 33, 58, 59, 60, 61, 7, 6, 42, 9, 43, 44, 45, 62, 63, 64, 65, 66, 67, 68, 69, 70, 71] (by decide +kernel) (by decide +kernel)
set_option maxRecDepth 20000 in
theorem gX1_isOneDayEnough_X1_canSpeak : GoodIn wsX1_isOneDayEnough (wsV RX1 33 RX1 yX1_canSpeak wsX1_canSpeak) := goodIn_app (goodIn_of _ (by decide +kernel)) ggX1_isOneDayEnough_X1_canSpeak
theorem dX1_isOneDayEnough_0 : decode cX1_isOneDayEnough 0 = .ok (.aload_n 0, 1) := by decide +kernel
theorem dX1_isOneDayEnough_1 : decode cX1_isOneDayEnough 1 = .ok (.iload_n 1, 1) := by decide +kernel
theorem dX1_isOneDayEnough_2 : decode cX1_isOneDayEnough 2 = .ok (.invokevirtual 29, 3) := by decide +kernel
theorem dX1_isOneDayEnough_5 : decode cX1_isOneDayEnough 5 = .ok (.aload_n 0, 1) := by decide +kernel
theorem dX1_isOneDayEnough_6 : decode cX1_isOneDayEnough 6 = .ok (.iload_n 1, 1) := by decide +kernel
theorem dX1_isOneDayEnough_7 : decode cX1_isOneDayEnough 7 = .ok (.invokevirtual 33, 3) := by decide +kernel
theorem dX1_isOneDayEnough_10 : decode cX1_isOneDayEnough 10 = .ok (.ireturn, 1) := by decide +kernel
set_option maxRecDepth 20000 in
theorem ggX1_fewestDays_X1_prepare : GoodIn wsX1_fewestDays wsX1_prepare := goodIn_r _ [7, 8, 9, 10, 11, 12, 13, 14, 15, 16, 17, 18, 19, 20, 21, 22, 23, 24, 25, 26, 27, 28, 29, 30, 31, 6, 32, 33, 34, 35, 36, 37, 38, 39, 40, 41, 42, 43, 44, 45, 46, 47, 48, 49, 50, 51, 68, 69, 70, 71, 72, 73, 74, 75, 76, 77] (by decide +kernel) (by decide +kernel)
set_option maxRecDepth 20000 in
theorem gX1_fewestDays_X1_prepare : GoodIn wsX1_fewestDays (wsV RX1 29 RX1 yX1_prepare wsX1_prepare) := goodIn_app (goodIn_of _ (by decide +kernel)) ggX1_fewestDays_X1_prepare
set_option maxRecDepth 20000 in
theorem ggX1_fewestDays_X1_canSpeak : GoodIn wsX1_fewestDays wsX1_canSpeak := goodIn_r _ [55, 36, 37, 38, 6, 39, 33, 19, 20, 21, 56, 57, 58, 59, 34, 35, 60, 61, 62, 63, 9, 8, 44, 11, 45, 46, 47, 68, 69, 70, 71, 72, 73, 74, 75, 76, 77] (by decide +kernel) (by decide +kernel)
set_option maxRecDepth 20000 in
theorem gX1_fewestDays_X1_canSpeak : GoodIn wsX1_fewestDays (wsV RX1 33 RX1 yX1_canSpeak wsX1_canSpeak) := goodIn_app (goodIn_of _ (by decide +kernel)) ggX1_fewestDays_X1_canSpeak
set_option maxRecDepth 20000 in
theorem ggX1_fewestDays_X1_fewestBySets : GoodIn wsX1_fewestDays wsX1_fewestBySets := goodIn_r _ [67, 1, 2, 19, 20, 21, 68, 69, 70, 71, 72] (by decide +kernel) (by decide +kernel)
set_option maxRecDepth 20000 in
theorem gX1_fewestDays_X1_fewestBySets : GoodIn wsX1_fewestDays (wsV RX1 37 RX1 yX1_fewestBySets wsX1_fewestBySets) := goodIn_app (goodIn_of _ (by decide +kernel)) ggX1_fewestDays_X1_fewestBySets
set_option maxRecDepth 20000 in
theorem ggX1_fewestDays_X6_store : GoodIn wsX1_fewestDays wsX6_store := goodIn_r _ [28] (by decide +kernel) (by decide +kernel)
set_option maxRecDepth 20000 in
theorem gX1_fewestDays_X6_store_n41 : GoodIn wsX1_fewestDays (wsX6_store) := ggX1_fewestDays_X6_store
set_option maxRecDepth 20000 in
theorem ggX1_fewestDays_X6_at : GoodIn wsX1_fewestDays wsX6_at := goodIn_r _ [21] (by decide +kernel) (by decide +kernel)
set_option maxRecDepth 20000 in
theorem gX1_fewestDays_X6_at_n45 : GoodIn wsX1_fewestDays (wsX6_at) := ggX1_fewestDays_X6_at
theorem dX1_fewestDays_0 : decode cX1_fewestDays 0 = .ok (.aload_n 0, 1) := by decide +kernel
theorem dX1_fewestDays_1 : decode cX1_fewestDays 1 = .ok (.iload_n 1, 1) := by decide +kernel
theorem dX1_fewestDays_2 : decode cX1_fewestDays 2 = .ok (.invokevirtual 29, 3) := by decide +kernel
theorem dX1_fewestDays_5 : decode cX1_fewestDays 5 = .ok (.iconst 0, 1) := by decide +kernel
theorem dX1_fewestDays_6 : decode cX1_fewestDays 6 = .ok (.istore_n 2, 1) := by decide +kernel
theorem dX1_fewestDays_7 : decode cX1_fewestDays 7 = .ok (.iload_n 2, 1) := by decide +kernel
theorem dX1_fewestDays_8 : decode cX1_fewestDays 8 = .ok (.aload_n 0, 1) := by decide +kernel
theorem dX1_fewestDays_9 : decode cX1_fewestDays 9 = .ok (.getfield 18, 3) := by decide +kernel
theorem dX1_fewestDays_12 : decode cX1_fewestDays 12 = .ok (.arraylength, 1) := by decide +kernel
theorem dX1_fewestDays_13 : decode cX1_fewestDays 13 = .ok (.if_icmp .ge 52, 3) := by decide +kernel
theorem dX1_fewestDays_16 : decode cX1_fewestDays 16 = .ok (.iload_n 2, 1) := by decide +kernel
theorem dX1_fewestDays_17 : decode cX1_fewestDays 17 = .ok (.iload_n 1, 1) := by decide +kernel
theorem dX1_fewestDays_18 : decode cX1_fewestDays 18 = .ok (.iconst (-1), 1) := by decide +kernel
theorem dX1_fewestDays_19 : decode cX1_fewestDays 19 = .ok (.ixor, 1) := by decide +kernel
theorem dX1_fewestDays_20 : decode cX1_fewestDays 20 = .ok (.iand, 1) := by decide +kernel
theorem dX1_fewestDays_21 : decode cX1_fewestDays 21 = .ok (.ifCond .eq 6, 3) := by decide +kernel
theorem dX1_fewestDays_24 : decode cX1_fewestDays 24 = .ok (.goto 35, 3) := by decide +kernel
theorem dX1_fewestDays_27 : decode cX1_fewestDays 27 = .ok (.aload_n 0, 1) := by decide +kernel
theorem dX1_fewestDays_28 : decode cX1_fewestDays 28 = .ok (.getfield 18, 3) := by decide +kernel
theorem dX1_fewestDays_31 : decode cX1_fewestDays 31 = .ok (.iload_n 2, 1) := by decide +kernel
theorem dX1_fewestDays_32 : decode cX1_fewestDays 32 = .ok (.aload_n 0, 1) := by decide +kernel
theorem dX1_fewestDays_33 : decode cX1_fewestDays 33 = .ok (.iload_n 2, 1) := by decide +kernel
theorem dX1_fewestDays_34 : decode cX1_fewestDays 34 = .ok (.invokevirtual 33, 3) := by decide +kernel
theorem dX1_fewestDays_37 : decode cX1_fewestDays 37 = .ok (.bastore, 1) := by decide +kernel
theorem dX1_fewestDays_38 : decode cX1_fewestDays 38 = .ok (.aload_n 0, 1) := by decide +kernel
theorem dX1_fewestDays_39 : decode cX1_fewestDays 39 = .ok (.getfield 22, 3) := by decide +kernel
theorem dX1_fewestDays_42 : decode cX1_fewestDays 42 = .ok (.iload_n 2, 1) := by decide +kernel
theorem dX1_fewestDays_43 : decode cX1_fewestDays 43 = .ok (.iload_n 2, 1) := by decide +kernel
theorem dX1_fewestDays_44 : decode cX1_fewestDays 44 = .ok (.ifCond .ne 7, 3) := by decide +kernel
theorem dX1_fewestDays_47 : decode cX1_fewestDays 47 = .ok (.iconst 0, 1) := by decide +kernel
theorem dX1_fewestDays_48 : decode cX1_fewestDays 48 = .ok (.goto 8, 3) := by decide +kernel
theorem dX1_fewestDays_51 : decode cX1_fewestDays 51 = .ok (.aload_n 0, 1) := by decide +kernel
theorem dX1_fewestDays_52 : decode cX1_fewestDays 52 = .ok (.iload_n 2, 1) := by decide +kernel
theorem dX1_fewestDays_53 : decode cX1_fewestDays 53 = .ok (.invokevirtual 37, 3) := by decide +kernel
theorem dX1_fewestDays_56 : decode cX1_fewestDays 56 = .ok (.invokestatic 41, 3) := by decide +kernel
theorem dX1_fewestDays_59 : decode cX1_fewestDays 59 = .ok (.iinc 2 1, 3) := by decide +kernel
theorem dX1_fewestDays_62 : decode cX1_fewestDays 62 = .ok (.goto (-55), 3) := by decide +kernel
theorem dX1_fewestDays_65 : decode cX1_fewestDays 65 = .ok (.aload_n 0, 1) := by decide +kernel
theorem dX1_fewestDays_66 : decode cX1_fewestDays 66 = .ok (.getfield 22, 3) := by decide +kernel
theorem dX1_fewestDays_69 : decode cX1_fewestDays 69 = .ok (.iload_n 1, 1) := by decide +kernel
theorem dX1_fewestDays_70 : decode cX1_fewestDays 70 = .ok (.invokestatic 45, 3) := by decide +kernel
theorem dX1_fewestDays_73 : decode cX1_fewestDays 73 = .ok (.ireturn, 1) := by decide +kernel
set_option maxRecDepth 20000 in
theorem ggX1_fewestBySets_X6_at : GoodIn wsX1_fewestBySets wsX6_at := goodIn_r _ [5] (by decide +kernel) (by decide +kernel)
set_option maxRecDepth 20000 in
theorem gX1_fewestBySets_X6_at_n45 : GoodIn wsX1_fewestBySets (wsX6_at) := ggX1_fewestBySets_X6_at
theorem dX1_fewestBySets_0 : decode cX1_fewestBySets 0 = .ok (.bipush (-6), 2) := by decide +kernel
theorem dX1_fewestBySets_2 : decode cX1_fewestBySets 2 = .ok (.istore_n 2, 1) := by decide +kernel
theorem dX1_fewestBySets_3 : decode cX1_fewestBySets 3 = .ok (.iconst 1, 1) := by decide +kernel
theorem dX1_fewestBySets_4 : decode cX1_fewestBySets 4 = .ok (.istore_n 3, 1) := by decide +kernel
theorem dX1_fewestBySets_5 : decode cX1_fewestBySets 5 = .ok (.iload_n 3, 1) := by decide +kernel
theorem dX1_fewestBySets_6 : decode cX1_fewestBySets 6 = .ok (.iload_n 1, 1) := by decide +kernel
theorem dX1_fewestBySets_7 : decode cX1_fewestBySets 7 = .ok (.if_icmp .gt 78, 3) := by decide +kernel
theorem dX1_fewestBySets_10 : decode cX1_fewestBySets 10 = .ok (.iload_n 3, 1) := by decide +kernel
theorem dX1_fewestBySets_11 : decode cX1_fewestBySets 11 = .ok (.aload_n 0, 1) := by decide +kernel
theorem dX1_fewestBySets_12 : decode cX1_fewestBySets 12 = .ok (.getfield 18, 3) := by decide +kernel
theorem dX1_fewestBySets_15 : decode cX1_fewestBySets 15 = .ok (.arraylength, 1) := by decide +kernel
theorem dX1_fewestBySets_16 : decode cX1_fewestBySets 16 = .ok (.if_icmp .ge 69, 3) := by decide +kernel
theorem dX1_fewestBySets_19 : decode cX1_fewestBySets 19 = .ok (.iload_n 3, 1) := by decide +kernel
theorem dX1_fewestBySets_20 : decode cX1_fewestBySets 20 = .ok (.iload_n 1, 1) := by decide +kernel
theorem dX1_fewestBySets_21 : decode cX1_fewestBySets 21 = .ok (.iconst (-1), 1) := by decide +kernel
theorem dX1_fewestBySets_22 : decode cX1_fewestBySets 22 = .ok (.ixor, 1) := by decide +kernel
theorem dX1_fewestBySets_23 : decode cX1_fewestBySets 23 = .ok (.iand, 1) := by decide +kernel
theorem dX1_fewestBySets_24 : decode cX1_fewestBySets 24 = .ok (.ifCond .ne 55, 3) := by decide +kernel
theorem dX1_fewestBySets_27 : decode cX1_fewestBySets 27 = .ok (.aload_n 0, 1) := by decide +kernel
theorem dX1_fewestBySets_28 : decode cX1_fewestBySets 28 = .ok (.getfield 18, 3) := by decide +kernel
theorem dX1_fewestBySets_31 : decode cX1_fewestBySets 31 = .ok (.iload_n 3, 1) := by decide +kernel
theorem dX1_fewestBySets_32 : decode cX1_fewestBySets 32 = .ok (.baload, 1) := by decide +kernel
theorem dX1_fewestBySets_33 : decode cX1_fewestBySets 33 = .ok (.ifCond .ne 6, 3) := by decide +kernel
theorem dX1_fewestBySets_36 : decode cX1_fewestBySets 36 = .ok (.goto 43, 3) := by decide +kernel
theorem dX1_fewestBySets_39 : decode cX1_fewestBySets 39 = .ok (.aload_n 0, 1) := by decide +kernel
theorem dX1_fewestBySets_40 : decode cX1_fewestBySets 40 = .ok (.getfield 22, 3) := by decide +kernel
theorem dX1_fewestBySets_43 : decode cX1_fewestBySets 43 = .ok (.iload_n 1, 1) := by decide +kernel
theorem dX1_fewestBySets_44 : decode cX1_fewestBySets 44 = .ok (.iload_n 3, 1) := by decide +kernel
theorem dX1_fewestBySets_45 : decode cX1_fewestBySets 45 = .ok (.iconst (-1), 1) := by decide +kernel
theorem dX1_fewestBySets_46 : decode cX1_fewestBySets 46 = .ok (.ixor, 1) := by decide +kernel
theorem dX1_fewestBySets_47 : decode cX1_fewestBySets 47 = .ok (.iand, 1) := by decide +kernel
theorem dX1_fewestBySets_48 : decode cX1_fewestBySets 48 = .ok (.invokestatic 45, 3) := by decide +kernel
theorem dX1_fewestBySets_51 : decode cX1_fewestBySets 51 = .ok (.istore 4, 2) := by decide +kernel
theorem dX1_fewestBySets_53 : decode cX1_fewestBySets 53 = .ok (.iload 4, 2) := by decide +kernel
theorem dX1_fewestBySets_55 : decode cX1_fewestBySets 55 = .ok (.bipush (-6), 2) := by decide +kernel
theorem dX1_fewestBySets_57 : decode cX1_fewestBySets 57 = .ok (.if_icmp .eq 22, 3) := by decide +kernel
theorem dX1_fewestBySets_60 : decode cX1_fewestBySets 60 = .ok (.iload_n 2, 1) := by decide +kernel
theorem dX1_fewestBySets_61 : decode cX1_fewestBySets 61 = .ok (.bipush (-6), 2) := by decide +kernel
theorem dX1_fewestBySets_63 : decode cX1_fewestBySets 63 = .ok (.if_icmp .eq 11, 3) := by decide +kernel
theorem dX1_fewestBySets_66 : decode cX1_fewestBySets 66 = .ok (.iload 4, 2) := by decide +kernel
theorem dX1_fewestBySets_68 : decode cX1_fewestBySets 68 = .ok (.iconst 1, 1) := by decide +kernel
theorem dX1_fewestBySets_69 : decode cX1_fewestBySets 69 = .ok (.iadd, 1) := by decide +kernel
theorem dX1_fewestBySets_70 : decode cX1_fewestBySets 70 = .ok (.iload_n 2, 1) := by decide +kernel
theorem dX1_fewestBySets_71 : decode cX1_fewestBySets 71 = .ok (.if_icmp .ge 8, 3) := by decide +kernel
theorem dX1_fewestBySets_74 : decode cX1_fewestBySets 74 = .ok (.iload 4, 2) := by decide +kernel
theorem dX1_fewestBySets_76 : decode cX1_fewestBySets 76 = .ok (.iconst 1, 1) := by decide +kernel
theorem dX1_fewestBySets_77 : decode cX1_fewestBySets 77 = .ok (.iadd, 1) := by decide +kernel
theorem dX1_fewestBySets_78 : decode cX1_fewestBySets 78 = .ok (.istore_n 2, 1) := by decide +kernel
theorem dX1_fewestBySets_79 : decode cX1_fewestBySets 79 = .ok (.iinc 3 1, 3) := by decide +kernel
theorem dX1_fewestBySets_82 : decode cX1_fewestBySets 82 = .ok (.goto (-77), 3) := by decide +kernel
theorem dX1_fewestBySets_85 : decode cX1_fewestBySets 85 = .ok (.iload_n 2, 1) := by decide +kernel
theorem dX1_fewestBySets_86 : decode cX1_fewestBySets 86 = .ok (.ireturn, 1) := by decide +kernel
set_option maxRecDepth 20000 in
theorem ggX1_prepare_X4_fitting : GoodIn wsX1_prepare wsX4_fitting := goodIn_r _ [6, 7, 8, 9, 4, 10, 11, 12, 13, 14, 15, 16, 17, 18, 19, 51, 52, 53, 54, 55] (by decide +kernel) (by decide +kernel)
set_option maxRecDepth 20000 in
theorem gX1_prepare_X4_fitting_n49 : GoodIn wsX1_prepare (wsX4_fitting) := ggX1_prepare_X4_fitting
set_option maxRecDepth 20000 in
theorem ggX1_prepare_X6_store : GoodIn wsX1_prepare wsX6_store := goodIn_r _ [21] (by decide +kernel) (by decide +kernel)
set_option maxRecDepth 20000 in
theorem gX1_prepare_X6_store_n41 : GoodIn wsX1_prepare (wsX6_store) := ggX1_prepare_X6_store
set_option maxRecDepth 20000 in
theorem ggX1_prepare_X1_hopeAheadOf : GoodIn wsX1_prepare wsX1_hopeAheadOf := goodIn_r _ [26, 1, 27, 2, 28, 13, 29, 30, 31, 32, 25, 33, 12, 14, 34, 35, 36, 37, 38, 4, 39, 40, 41, 42, 43, 44, 45, 20, 21, 46, 47, 48, 49, 50, 51, 52, 53, 54, 55] (by decide +kernel) (by decide +kernel)
set_option maxRecDepth 20000 in
theorem gX1_prepare_X1_hopeAheadOf : GoodIn wsX1_prepare (wsV RX1 53 RX1 yX1_hopeAheadOf wsX1_hopeAheadOf) := goodIn_app (goodIn_of _ (by decide +kernel)) ggX1_prepare_X1_hopeAheadOf
theorem dX1_prepare_0 : decode cX1_prepare 0 = .ok (.iconst 0, 1) := by decide +kernel
theorem dX1_prepare_1 : decode cX1_prepare 1 = .ok (.istore_n 2, 1) := by decide +kernel
theorem dX1_prepare_2 : decode cX1_prepare 2 = .ok (.iload_n 2, 1) := by decide +kernel
theorem dX1_prepare_3 : decode cX1_prepare 3 = .ok (.iconst 5, 1) := by decide +kernel
theorem dX1_prepare_4 : decode cX1_prepare 4 = .ok (.if_icmp .ge 25, 3) := by decide +kernel
theorem dX1_prepare_7 : decode cX1_prepare 7 = .ok (.aload_n 0, 1) := by decide +kernel
theorem dX1_prepare_8 : decode cX1_prepare 8 = .ok (.getfield 9, 3) := by decide +kernel
theorem dX1_prepare_11 : decode cX1_prepare 11 = .ok (.iload_n 2, 1) := by decide +kernel
theorem dX1_prepare_12 : decode cX1_prepare 12 = .ok (.aload_n 0, 1) := by decide +kernel
theorem dX1_prepare_13 : decode cX1_prepare 13 = .ok (.getfield 25, 3) := by decide +kernel
theorem dX1_prepare_16 : decode cX1_prepare 16 = .ok (.iload_n 2, 1) := by decide +kernel
theorem dX1_prepare_17 : decode cX1_prepare 17 = .ok (.invokevirtual 49, 3) := by decide +kernel
theorem dX1_prepare_20 : decode cX1_prepare 20 = .ok (.invokestatic 41, 3) := by decide +kernel
theorem dX1_prepare_23 : decode cX1_prepare 23 = .ok (.iinc 2 1, 3) := by decide +kernel
theorem dX1_prepare_26 : decode cX1_prepare 26 = .ok (.goto (-24), 3) := by decide +kernel
theorem dX1_prepare_29 : decode cX1_prepare 29 = .ok (.iconst 0, 1) := by decide +kernel
theorem dX1_prepare_30 : decode cX1_prepare 30 = .ok (.istore_n 2, 1) := by decide +kernel
theorem dX1_prepare_31 : decode cX1_prepare 31 = .ok (.iload_n 2, 1) := by decide +kernel
theorem dX1_prepare_32 : decode cX1_prepare 32 = .ok (.bipush 31, 2) := by decide +kernel
theorem dX1_prepare_34 : decode cX1_prepare 34 = .ok (.if_icmp .gt 22, 3) := by decide +kernel
theorem dX1_prepare_37 : decode cX1_prepare 37 = .ok (.iload_n 2, 1) := by decide +kernel
theorem dX1_prepare_38 : decode cX1_prepare 38 = .ok (.iload_n 1, 1) := by decide +kernel
theorem dX1_prepare_39 : decode cX1_prepare 39 = .ok (.iconst (-1), 1) := by decide +kernel
theorem dX1_prepare_40 : decode cX1_prepare 40 = .ok (.ixor, 1) := by decide +kernel
theorem dX1_prepare_41 : decode cX1_prepare 41 = .ok (.iand, 1) := by decide +kernel
theorem dX1_prepare_42 : decode cX1_prepare 42 = .ok (.ifCond .ne 8, 3) := by decide +kernel
theorem dX1_prepare_45 : decode cX1_prepare 45 = .ok (.aload_n 0, 1) := by decide +kernel
theorem dX1_prepare_46 : decode cX1_prepare 46 = .ok (.iload_n 2, 1) := by decide +kernel
theorem dX1_prepare_47 : decode cX1_prepare 47 = .ok (.invokevirtual 53, 3) := by decide +kernel
theorem dX1_prepare_50 : decode cX1_prepare 50 = .ok (.iinc 2 1, 3) := by decide +kernel
theorem dX1_prepare_53 : decode cX1_prepare 53 = .ok (.goto (-22), 3) := by decide +kernel
theorem dX1_prepare_56 : decode cX1_prepare 56 = .ok (.return_, 1) := by decide +kernel
set_option maxRecDepth 20000 in
theorem ggX1_hopeAheadOf_X6_has : GoodIn wsX1_hopeAheadOf wsX6_has := goodIn_r _ [6] (by decide +kernel) (by decide +kernel)
set_option maxRecDepth 20000 in
theorem gX1_hopeAheadOf_X6_has_n56 : GoodIn wsX1_hopeAheadOf (wsX6_has) := ggX1_hopeAheadOf_X6_has
set_option maxRecDepth 20000 in
theorem ggX1_hopeAheadOf_X1_hopeful : GoodIn wsX1_hopeAheadOf wsX1_hopeful := goodIn_r _ [11, 2, 12, 5, 13, 29, 30, 31, 32, 33] (by decide +kernel) (by decide +kernel)
set_option maxRecDepth 20000 in
theorem gX1_hopeAheadOf_X1_hopeful : GoodIn wsX1_hopeAheadOf (wsV RX1 60 RX1 yX1_hopeful wsX1_hopeful) := goodIn_app (goodIn_of _ (by decide +kernel)) ggX1_hopeAheadOf_X1_hopeful
set_option maxRecDepth 20000 in
theorem ggX1_hopeAheadOf_X6_at : GoodIn wsX1_hopeAheadOf wsX6_at := goodIn_r _ [13] (by decide +kernel) (by decide +kernel)
set_option maxRecDepth 20000 in
theorem gX1_hopeAheadOf_X6_at_n45 : GoodIn wsX1_hopeAheadOf (wsX6_at) := ggX1_hopeAheadOf_X6_at
set_option maxRecDepth 20000 in
theorem ggX1_hopeAheadOf_X1_leadingTo : GoodIn wsX1_hopeAheadOf wsX1_leadingTo := goodIn_r _ [17, 3, 18, 19, 20, 21, 22, 12, 5, 13, 29, 30, 31, 32, 33, 34, 35, 36, 37, 38] (by decide +kernel) (by decide +kernel)
set_option maxRecDepth 20000 in
theorem gX1_hopeAheadOf_X1_leadingTo : GoodIn wsX1_hopeAheadOf (wsV RX1 64 RX1 yX1_leadingTo wsX1_leadingTo) := goodIn_app (goodIn_of _ (by decide +kernel)) ggX1_hopeAheadOf_X1_leadingTo
set_option maxRecDepth 20000 in
theorem ggX1_hopeAheadOf_X4_knownTo : GoodIn wsX1_hopeAheadOf wsX4_knownTo := goodIn_r _ [25, 26, 12, 5, 13, 34, 35, 36, 37, 38] (by decide +kernel) (by decide +kernel)
set_option maxRecDepth 20000 in
theorem gX1_hopeAheadOf_X4_knownTo_n67 : GoodIn wsX1_hopeAheadOf (wsX4_knownTo) := ggX1_hopeAheadOf_X4_knownTo
set_option maxRecDepth 20000 in
theorem ggX1_hopeAheadOf_X6_store : GoodIn wsX1_hopeAheadOf wsX6_store := goodIn_r _ [28] (by decide +kernel) (by decide +kernel)
set_option maxRecDepth 20000 in
theorem gX1_hopeAheadOf_X6_store_n41 : GoodIn wsX1_hopeAheadOf (wsX6_store) := ggX1_hopeAheadOf_X6_store
theorem dX1_hopeAheadOf_0 : decode cX1_hopeAheadOf 0 = .ok (.iconst 0, 1) := by decide +kernel
theorem dX1_hopeAheadOf_1 : decode cX1_hopeAheadOf 1 = .ok (.istore_n 2, 1) := by decide +kernel
theorem dX1_hopeAheadOf_2 : decode cX1_hopeAheadOf 2 = .ok (.iconst 0, 1) := by decide +kernel
theorem dX1_hopeAheadOf_3 : decode cX1_hopeAheadOf 3 = .ok (.istore_n 3, 1) := by decide +kernel
theorem dX1_hopeAheadOf_4 : decode cX1_hopeAheadOf 4 = .ok (.iload_n 3, 1) := by decide +kernel
theorem dX1_hopeAheadOf_5 : decode cX1_hopeAheadOf 5 = .ok (.iconst 5, 1) := by decide +kernel
theorem dX1_hopeAheadOf_6 : decode cX1_hopeAheadOf 6 = .ok (.if_icmp .ge 32, 3) := by decide +kernel
theorem dX1_hopeAheadOf_9 : decode cX1_hopeAheadOf 9 = .ok (.iload_n 1, 1) := by decide +kernel
theorem dX1_hopeAheadOf_10 : decode cX1_hopeAheadOf 10 = .ok (.iload_n 3, 1) := by decide +kernel
theorem dX1_hopeAheadOf_11 : decode cX1_hopeAheadOf 11 = .ok (.invokestatic 56, 3) := by decide +kernel
theorem dX1_hopeAheadOf_14 : decode cX1_hopeAheadOf 14 = .ok (.ifCond .eq 18, 3) := by decide +kernel
theorem dX1_hopeAheadOf_17 : decode cX1_hopeAheadOf 17 = .ok (.iload_n 2, 1) := by decide +kernel
theorem dX1_hopeAheadOf_18 : decode cX1_hopeAheadOf 18 = .ok (.aload_n 0, 1) := by decide +kernel
theorem dX1_hopeAheadOf_19 : decode cX1_hopeAheadOf 19 = .ok (.iload_n 1, 1) := by decide +kernel
theorem dX1_hopeAheadOf_20 : decode cX1_hopeAheadOf 20 = .ok (.iconst 1, 1) := by decide +kernel
theorem dX1_hopeAheadOf_21 : decode cX1_hopeAheadOf 21 = .ok (.iload_n 3, 1) := by decide +kernel
theorem dX1_hopeAheadOf_22 : decode cX1_hopeAheadOf 22 = .ok (.ishl, 1) := by decide +kernel
theorem dX1_hopeAheadOf_23 : decode cX1_hopeAheadOf 23 = .ok (.iconst (-1), 1) := by decide +kernel
theorem dX1_hopeAheadOf_24 : decode cX1_hopeAheadOf 24 = .ok (.ixor, 1) := by decide +kernel
theorem dX1_hopeAheadOf_25 : decode cX1_hopeAheadOf 25 = .ok (.iand, 1) := by decide +kernel
theorem dX1_hopeAheadOf_26 : decode cX1_hopeAheadOf 26 = .ok (.iload_n 3, 1) := by decide +kernel
theorem dX1_hopeAheadOf_27 : decode cX1_hopeAheadOf 27 = .ok (.invokevirtual 60, 3) := by decide +kernel
theorem dX1_hopeAheadOf_30 : decode cX1_hopeAheadOf 30 = .ok (.ior, 1) := by decide +kernel
theorem dX1_hopeAheadOf_31 : decode cX1_hopeAheadOf 31 = .ok (.istore_n 2, 1) := by decide +kernel
theorem dX1_hopeAheadOf_32 : decode cX1_hopeAheadOf 32 = .ok (.iinc 3 1, 3) := by decide +kernel
theorem dX1_hopeAheadOf_35 : decode cX1_hopeAheadOf 35 = .ok (.goto (-31), 3) := by decide +kernel
theorem dX1_hopeAheadOf_38 : decode cX1_hopeAheadOf 38 = .ok (.iconst 0, 1) := by decide +kernel
theorem dX1_hopeAheadOf_39 : decode cX1_hopeAheadOf 39 = .ok (.istore_n 3, 1) := by decide +kernel
theorem dX1_hopeAheadOf_40 : decode cX1_hopeAheadOf 40 = .ok (.iload_n 3, 1) := by decide +kernel
theorem dX1_hopeAheadOf_41 : decode cX1_hopeAheadOf 41 = .ok (.iconst 5, 1) := by decide +kernel
theorem dX1_hopeAheadOf_42 : decode cX1_hopeAheadOf 42 = .ok (.if_icmp .ge 69, 3) := by decide +kernel
theorem dX1_hopeAheadOf_45 : decode cX1_hopeAheadOf 45 = .ok (.iload_n 1, 1) := by decide +kernel
theorem dX1_hopeAheadOf_46 : decode cX1_hopeAheadOf 46 = .ok (.iload_n 3, 1) := by decide +kernel
theorem dX1_hopeAheadOf_47 : decode cX1_hopeAheadOf 47 = .ok (.invokestatic 56, 3) := by decide +kernel
theorem dX1_hopeAheadOf_50 : decode cX1_hopeAheadOf 50 = .ok (.ifCond .eq 6, 3) := by decide +kernel
theorem dX1_hopeAheadOf_53 : decode cX1_hopeAheadOf 53 = .ok (.goto 52, 3) := by decide +kernel
theorem dX1_hopeAheadOf_56 : decode cX1_hopeAheadOf 56 = .ok (.iload_n 1, 1) := by decide +kernel
theorem dX1_hopeAheadOf_57 : decode cX1_hopeAheadOf 57 = .ok (.ifCond .ne 9, 3) := by decide +kernel
theorem dX1_hopeAheadOf_60 : decode cX1_hopeAheadOf 60 = .ok (.sipush 1023, 3) := by decide +kernel
theorem dX1_hopeAheadOf_63 : decode cX1_hopeAheadOf 63 = .ok (.goto 17, 3) := by decide +kernel
theorem dX1_hopeAheadOf_66 : decode cX1_hopeAheadOf 66 = .ok (.aload_n 0, 1) := by decide +kernel
theorem dX1_hopeAheadOf_67 : decode cX1_hopeAheadOf 67 = .ok (.iload_n 2, 1) := by decide +kernel
theorem dX1_hopeAheadOf_68 : decode cX1_hopeAheadOf 68 = .ok (.aload_n 0, 1) := by decide +kernel
theorem dX1_hopeAheadOf_69 : decode cX1_hopeAheadOf 69 = .ok (.getfield 9, 3) := by decide +kernel
theorem dX1_hopeAheadOf_72 : decode cX1_hopeAheadOf 72 = .ok (.iload_n 3, 1) := by decide +kernel
theorem dX1_hopeAheadOf_73 : decode cX1_hopeAheadOf 73 = .ok (.invokestatic 45, 3) := by decide +kernel
theorem dX1_hopeAheadOf_76 : decode cX1_hopeAheadOf 76 = .ok (.iand, 1) := by decide +kernel
theorem dX1_hopeAheadOf_77 : decode cX1_hopeAheadOf 77 = .ok (.invokevirtual 64, 3) := by decide +kernel
theorem dX1_hopeAheadOf_80 : decode cX1_hopeAheadOf 80 = .ok (.istore 4, 2) := by decide +kernel
theorem dX1_hopeAheadOf_82 : decode cX1_hopeAheadOf 82 = .ok (.aload_n 0, 1) := by decide +kernel
theorem dX1_hopeAheadOf_83 : decode cX1_hopeAheadOf 83 = .ok (.getfield 15, 3) := by decide +kernel
theorem dX1_hopeAheadOf_86 : decode cX1_hopeAheadOf 86 = .ok (.iload_n 1, 1) := by decide +kernel
theorem dX1_hopeAheadOf_87 : decode cX1_hopeAheadOf 87 = .ok (.iconst 5, 1) := by decide +kernel
theorem dX1_hopeAheadOf_88 : decode cX1_hopeAheadOf 88 = .ok (.imul, 1) := by decide +kernel
theorem dX1_hopeAheadOf_89 : decode cX1_hopeAheadOf 89 = .ok (.iload_n 3, 1) := by decide +kernel
theorem dX1_hopeAheadOf_90 : decode cX1_hopeAheadOf 90 = .ok (.iadd, 1) := by decide +kernel
theorem dX1_hopeAheadOf_91 : decode cX1_hopeAheadOf 91 = .ok (.iload 4, 2) := by decide +kernel
theorem dX1_hopeAheadOf_93 : decode cX1_hopeAheadOf 93 = .ok (.aload_n 0, 1) := by decide +kernel
theorem dX1_hopeAheadOf_94 : decode cX1_hopeAheadOf 94 = .ok (.getfield 25, 3) := by decide +kernel
theorem dX1_hopeAheadOf_97 : decode cX1_hopeAheadOf 97 = .ok (.iload_n 3, 1) := by decide +kernel
theorem dX1_hopeAheadOf_98 : decode cX1_hopeAheadOf 98 = .ok (.invokevirtual 67, 3) := by decide +kernel
theorem dX1_hopeAheadOf_101 : decode cX1_hopeAheadOf 101 = .ok (.iand, 1) := by decide +kernel
theorem dX1_hopeAheadOf_102 : decode cX1_hopeAheadOf 102 = .ok (.invokestatic 41, 3) := by decide +kernel
theorem dX1_hopeAheadOf_105 : decode cX1_hopeAheadOf 105 = .ok (.iinc 3 1, 3) := by decide +kernel
theorem dX1_hopeAheadOf_108 : decode cX1_hopeAheadOf 108 = .ok (.goto (-68), 3) := by decide +kernel
theorem dX1_hopeAheadOf_111 : decode cX1_hopeAheadOf 111 = .ok (.return_, 1) := by decide +kernel
set_option maxRecDepth 20000 in
theorem ggX1_leadingTo_X4_worseThan : GoodIn wsX1_leadingTo wsX4_worseThan := goodIn_r _ [5, 6, 7, 8, 9, 15, 16, 17, 18, 19] (by decide +kernel) (by decide +kernel)
set_option maxRecDepth 20000 in
theorem gX1_leadingTo_X4_worseThan_n70 : GoodIn wsX1_leadingTo (wsX4_worseThan) := ggX1_leadingTo_X4_worseThan
theorem dX1_leadingTo_0 : decode cX1_leadingTo 0 = .ok (.iconst 0, 1) := by decide +kernel
theorem dX1_leadingTo_1 : decode cX1_leadingTo 1 = .ok (.istore_n 2, 1) := by decide +kernel
theorem dX1_leadingTo_2 : decode cX1_leadingTo 2 = .ok (.iconst 0, 1) := by decide +kernel
theorem dX1_leadingTo_3 : decode cX1_leadingTo 3 = .ok (.istore_n 3, 1) := by decide +kernel
theorem dX1_leadingTo_4 : decode cX1_leadingTo 4 = .ok (.iload_n 3, 1) := by decide +kernel
theorem dX1_leadingTo_5 : decode cX1_leadingTo 5 = .ok (.bipush 10, 2) := by decide +kernel
theorem dX1_leadingTo_7 : decode cX1_leadingTo 7 = .ok (.if_icmp .ge 28, 3) := by decide +kernel
theorem dX1_leadingTo_10 : decode cX1_leadingTo 10 = .ok (.aload_n 0, 1) := by decide +kernel
theorem dX1_leadingTo_11 : decode cX1_leadingTo 11 = .ok (.getfield 25, 3) := by decide +kernel
theorem dX1_leadingTo_14 : decode cX1_leadingTo 14 = .ok (.iload_n 3, 1) := by decide +kernel
theorem dX1_leadingTo_15 : decode cX1_leadingTo 15 = .ok (.invokevirtual 70, 3) := by decide +kernel
theorem dX1_leadingTo_18 : decode cX1_leadingTo 18 = .ok (.iload_n 1, 1) := by decide +kernel
theorem dX1_leadingTo_19 : decode cX1_leadingTo 19 = .ok (.iand, 1) := by decide +kernel
theorem dX1_leadingTo_20 : decode cX1_leadingTo 20 = .ok (.ifCond .eq 9, 3) := by decide +kernel
theorem dX1_leadingTo_23 : decode cX1_leadingTo 23 = .ok (.iload_n 2, 1) := by decide +kernel
theorem dX1_leadingTo_24 : decode cX1_leadingTo 24 = .ok (.iconst 1, 1) := by decide +kernel
theorem dX1_leadingTo_25 : decode cX1_leadingTo 25 = .ok (.iload_n 3, 1) := by decide +kernel
theorem dX1_leadingTo_26 : decode cX1_leadingTo 26 = .ok (.ishl, 1) := by decide +kernel
theorem dX1_leadingTo_27 : decode cX1_leadingTo 27 = .ok (.ior, 1) := by decide +kernel
theorem dX1_leadingTo_28 : decode cX1_leadingTo 28 = .ok (.istore_n 2, 1) := by decide +kernel
theorem dX1_leadingTo_29 : decode cX1_leadingTo 29 = .ok (.iinc 3 1, 3) := by decide +kernel
theorem dX1_leadingTo_32 : decode cX1_leadingTo 32 = .ok (.goto (-28), 3) := by decide +kernel
theorem dX1_leadingTo_35 : decode cX1_leadingTo 35 = .ok (.iload_n 2, 1) := by decide +kernel
theorem dX1_leadingTo_36 : decode cX1_leadingTo 36 = .ok (.ireturn, 1) := by decide +kernel
set_option maxRecDepth 20000 in
theorem ggX1_hopeful_X6_at : GoodIn wsX1_hopeful wsX6_at := goodIn_r _ [4] (by decide +kernel) (by decide +kernel)
set_option maxRecDepth 20000 in
theorem gX1_hopeful_X6_at_n45 : GoodIn wsX1_hopeful (wsX6_at) := ggX1_hopeful_X6_at
theorem dX1_hopeful_0 : decode cX1_hopeful 0 = .ok (.aload_n 0, 1) := by decide +kernel
theorem dX1_hopeful_1 : decode cX1_hopeful 1 = .ok (.getfield 15, 3) := by decide +kernel
theorem dX1_hopeful_4 : decode cX1_hopeful 4 = .ok (.iload_n 1, 1) := by decide +kernel
theorem dX1_hopeful_5 : decode cX1_hopeful 5 = .ok (.iconst 5, 1) := by decide +kernel
theorem dX1_hopeful_6 : decode cX1_hopeful 6 = .ok (.imul, 1) := by decide +kernel
theorem dX1_hopeful_7 : decode cX1_hopeful 7 = .ok (.iload_n 2, 1) := by decide +kernel
theorem dX1_hopeful_8 : decode cX1_hopeful 8 = .ok (.iadd, 1) := by decide +kernel
theorem dX1_hopeful_9 : decode cX1_hopeful 9 = .ok (.invokestatic 45, 3) := by decide +kernel
theorem dX1_hopeful_12 : decode cX1_hopeful 12 = .ok (.ireturn, 1) := by decide +kernel
set_option maxRecDepth 20000 in
theorem ggX1_canSpeak_X1_hopeful : GoodIn wsX1_canSpeak wsX1_hopeful := goodIn_r _ [5, 6, 7, 8, 9, 27, 28, 29, 30, 31] (by decide +kernel) (by decide +kernel)
set_option maxRecDepth 20000 in
theorem gX1_canSpeak_X1_hopeful : GoodIn wsX1_canSpeak (wsV RX1 60 RX1 yX1_hopeful wsX1_hopeful) := goodIn_app (goodIn_of _ (by decide +kernel)) ggX1_canSpeak_X1_hopeful
set_option maxRecDepth 20000 in
theorem ggX1_canSpeak_X1_canSayOne : GoodIn wsX1_canSpeak wsX1_canSayOne := goodIn_r _ [13, 14, 8, 15, 16, 17, 18, 4, 19, 20, 21, 22, 23, 24, 25, 26, 7, 9, 1, 2, 3, 5, 6, 10, 11, 12, 27, 28, 29, 30, 31, 32, 33, 34, 35, 36] (by decide +kernel) (by decide +kernel)
set_option maxRecDepth 20000 in
theorem gX1_canSpeak_X1_canSayOne : GoodIn wsX1_canSpeak (wsV RX1 73 RX1 yX1_canSayOne wsX1_canSayOne) := goodIn_app (goodIn_of _ (by decide +kernel)) ggX1_canSpeak_X1_canSayOne
theorem dX1_canSpeak_0 : decode cX1_canSpeak 0 = .ok (.iload_n 1, 1) := by decide +kernel
theorem dX1_canSpeak_1 : decode cX1_canSpeak 1 = .ok (.ifCond .ne 5, 3) := by decide +kernel
theorem dX1_canSpeak_4 : decode cX1_canSpeak 4 = .ok (.iconst 1, 1) := by decide +kernel
theorem dX1_canSpeak_5 : decode cX1_canSpeak 5 = .ok (.ireturn, 1) := by decide +kernel
theorem dX1_canSpeak_6 : decode cX1_canSpeak 6 = .ok (.iconst 0, 1) := by decide +kernel
theorem dX1_canSpeak_7 : decode cX1_canSpeak 7 = .ok (.istore_n 2, 1) := by decide +kernel
theorem dX1_canSpeak_8 : decode cX1_canSpeak 8 = .ok (.iload_n 2, 1) := by decide +kernel
theorem dX1_canSpeak_9 : decode cX1_canSpeak 9 = .ok (.iconst 5, 1) := by decide +kernel
theorem dX1_canSpeak_10 : decode cX1_canSpeak 10 = .ok (.if_icmp .ge 40, 3) := by decide +kernel
theorem dX1_canSpeak_13 : decode cX1_canSpeak 13 = .ok (.iload_n 1, 1) := by decide +kernel
theorem dX1_canSpeak_14 : decode cX1_canSpeak 14 = .ok (.iconst 1, 1) := by decide +kernel
theorem dX1_canSpeak_15 : decode cX1_canSpeak 15 = .ok (.iload_n 2, 1) := by decide +kernel
theorem dX1_canSpeak_16 : decode cX1_canSpeak 16 = .ok (.ishl, 1) := by decide +kernel
theorem dX1_canSpeak_17 : decode cX1_canSpeak 17 = .ok (.iconst (-1), 1) := by decide +kernel
theorem dX1_canSpeak_18 : decode cX1_canSpeak 18 = .ok (.ixor, 1) := by decide +kernel
theorem dX1_canSpeak_19 : decode cX1_canSpeak 19 = .ok (.iand, 1) := by decide +kernel
theorem dX1_canSpeak_20 : decode cX1_canSpeak 20 = .ok (.istore_n 3, 1) := by decide +kernel
theorem dX1_canSpeak_21 : decode cX1_canSpeak 21 = .ok (.iload_n 3, 1) := by decide +kernel
theorem dX1_canSpeak_22 : decode cX1_canSpeak 22 = .ok (.iload_n 1, 1) := by decide +kernel
theorem dX1_canSpeak_23 : decode cX1_canSpeak 23 = .ok (.if_icmp .eq 21, 3) := by decide +kernel
theorem dX1_canSpeak_26 : decode cX1_canSpeak 26 = .ok (.aload_n 0, 1) := by decide +kernel
theorem dX1_canSpeak_27 : decode cX1_canSpeak 27 = .ok (.iload_n 3, 1) := by decide +kernel
theorem dX1_canSpeak_28 : decode cX1_canSpeak 28 = .ok (.iload_n 2, 1) := by decide +kernel
theorem dX1_canSpeak_29 : decode cX1_canSpeak 29 = .ok (.iconst 0, 1) := by decide +kernel
theorem dX1_canSpeak_30 : decode cX1_canSpeak 30 = .ok (.aload_n 0, 1) := by decide +kernel
theorem dX1_canSpeak_31 : decode cX1_canSpeak 31 = .ok (.iload_n 3, 1) := by decide +kernel
theorem dX1_canSpeak_32 : decode cX1_canSpeak 32 = .ok (.iload_n 2, 1) := by decide +kernel
theorem dX1_canSpeak_33 : decode cX1_canSpeak 33 = .ok (.invokevirtual 60, 3) := by decide +kernel
theorem dX1_canSpeak_36 : decode cX1_canSpeak 36 = .ok (.invokevirtual 73, 3) := by decide +kernel
theorem dX1_canSpeak_39 : decode cX1_canSpeak 39 = .ok (.ifCond .eq 5, 3) := by decide +kernel
theorem dX1_canSpeak_42 : decode cX1_canSpeak 42 = .ok (.iconst 1, 1) := by decide +kernel
theorem dX1_canSpeak_43 : decode cX1_canSpeak 43 = .ok (.ireturn, 1) := by decide +kernel
theorem dX1_canSpeak_44 : decode cX1_canSpeak 44 = .ok (.iinc 2 1, 3) := by decide +kernel
theorem dX1_canSpeak_47 : decode cX1_canSpeak 47 = .ok (.goto (-39), 3) := by decide +kernel
theorem dX1_canSpeak_50 : decode cX1_canSpeak 50 = .ok (.iconst 0, 1) := by decide +kernel
theorem dX1_canSpeak_51 : decode cX1_canSpeak 51 = .ok (.ireturn, 1) := by decide +kernel
set_option maxRecDepth 20000 in
theorem ggX1_canSayOne_X6_has : GoodIn wsX1_canSayOne wsX6_has := goodIn_r _ [3] (by decide +kernel) (by decide +kernel)
set_option maxRecDepth 20000 in
theorem gX1_canSayOne_X6_has_n56 : GoodIn wsX1_canSayOne (wsX6_has) := ggX1_canSayOne_X6_has
set_option maxRecDepth 20000 in
theorem ggX1_canSayOne_X1_canGoOn : GoodIn wsX1_canSayOne wsX1_canGoOn := goodIn_r _ [8, 9, 10, 11, 12, 13, 14, 15, 16, 2, 17, 1, 3, 18, 19, 20, 7, 21, 22, 23, 24, 25, 0, 4, 5, 6, 26, 27, 28, 29, 30, 31, 32, 33, 34, 35] (by decide +kernel) (by decide +kernel)
set_option maxRecDepth 20000 in
theorem gX1_canSayOne_X1_canGoOn : GoodIn wsX1_canSayOne (wsV RX1 77 RX1 yX1_canGoOn wsX1_canGoOn) := goodIn_app (goodIn_of _ (by decide +kernel)) ggX1_canSayOne_X1_canGoOn
theorem dX1_canSayOne_0 : decode cX1_canSayOne 0 = .ok (.iconst 0, 1) := by decide +kernel
theorem dX1_canSayOne_1 : decode cX1_canSayOne 1 = .ok (.istore 5, 2) := by decide +kernel
theorem dX1_canSayOne_3 : decode cX1_canSayOne 3 = .ok (.iload 5, 2) := by decide +kernel
theorem dX1_canSayOne_5 : decode cX1_canSayOne 5 = .ok (.bipush 10, 2) := by decide +kernel
theorem dX1_canSayOne_7 : decode cX1_canSayOne 7 = .ok (.if_icmp .ge 38, 3) := by decide +kernel
theorem dX1_canSayOne_10 : decode cX1_canSayOne 10 = .ok (.iload 4, 2) := by decide +kernel
theorem dX1_canSayOne_12 : decode cX1_canSayOne 12 = .ok (.iload 5, 2) := by decide +kernel
theorem dX1_canSayOne_14 : decode cX1_canSayOne 14 = .ok (.invokestatic 56, 3) := by decide +kernel
theorem dX1_canSayOne_17 : decode cX1_canSayOne 17 = .ok (.ifCond .eq 22, 3) := by decide +kernel
theorem dX1_canSayOne_20 : decode cX1_canSayOne 20 = .ok (.aload_n 0, 1) := by decide +kernel
theorem dX1_canSayOne_21 : decode cX1_canSayOne 21 = .ok (.iload_n 1, 1) := by decide +kernel
theorem dX1_canSayOne_22 : decode cX1_canSayOne 22 = .ok (.iload_n 2, 1) := by decide +kernel
theorem dX1_canSayOne_23 : decode cX1_canSayOne 23 = .ok (.iload_n 3, 1) := by decide +kernel
theorem dX1_canSayOne_24 : decode cX1_canSayOne 24 = .ok (.iconst 1, 1) := by decide +kernel
theorem dX1_canSayOne_25 : decode cX1_canSayOne 25 = .ok (.iload 5, 2) := by decide +kernel
theorem dX1_canSayOne_27 : decode cX1_canSayOne 27 = .ok (.ishl, 1) := by decide +kernel
theorem dX1_canSayOne_28 : decode cX1_canSayOne 28 = .ok (.ior, 1) := by decide +kernel
theorem dX1_canSayOne_29 : decode cX1_canSayOne 29 = .ok (.iload 5, 2) := by decide +kernel
theorem dX1_canSayOne_31 : decode cX1_canSayOne 31 = .ok (.invokevirtual 77, 3) := by decide +kernel
theorem dX1_canSayOne_34 : decode cX1_canSayOne 34 = .ok (.ifCond .eq 5, 3) := by decide +kernel
theorem dX1_canSayOne_37 : decode cX1_canSayOne 37 = .ok (.iconst 1, 1) := by decide +kernel
theorem dX1_canSayOne_38 : decode cX1_canSayOne 38 = .ok (.ireturn, 1) := by decide +kernel
theorem dX1_canSayOne_39 : decode cX1_canSayOne 39 = .ok (.iinc 5 1, 3) := by decide +kernel
theorem dX1_canSayOne_42 : decode cX1_canSayOne 42 = .ok (.goto (-39), 3) := by decide +kernel
theorem dX1_canSayOne_45 : decode cX1_canSayOne 45 = .ok (.iconst 0, 1) := by decide +kernel
theorem dX1_canSayOne_46 : decode cX1_canSayOne 46 = .ok (.ireturn, 1) := by decide +kernel
set_option maxRecDepth 20000 in
theorem ggX1_canGoOn_X4_worseThan : GoodIn wsX1_canGoOn wsX4_worseThan := goodIn_r _ [6, 7, 8, 9, 10, 31, 32, 33, 34, 35] (by decide +kernel) (by decide +kernel)
set_option maxRecDepth 20000 in
theorem gX1_canGoOn_X4_worseThan_n70 : GoodIn wsX1_canGoOn (wsX4_worseThan) := ggX1_canGoOn_X4_worseThan
set_option maxRecDepth 20000 in
theorem ggX1_canGoOn_X6_at : GoodIn wsX1_canGoOn wsX6_at := goodIn_r _ [10] (by decide +kernel) (by decide +kernel)
set_option maxRecDepth 20000 in
theorem gX1_canGoOn_X6_at_n45 : GoodIn wsX1_canGoOn (wsX6_at) := ggX1_canGoOn_X6_at
set_option maxRecDepth 20000 in
theorem ggX1_canGoOn_X6_has : GoodIn wsX1_canGoOn wsX6_has := goodIn_r _ [12] (by decide +kernel) (by decide +kernel)
set_option maxRecDepth 20000 in
theorem gX1_canGoOn_X6_has_n56 : GoodIn wsX1_canGoOn (wsX6_has) := ggX1_canGoOn_X6_has
set_option maxRecDepth 20000 in
theorem ggX1_canGoOn_X1_hopeful : GoodIn wsX1_canGoOn wsX1_hopeful := goodIn_r _ [17, 18, 8, 9, 10, 26, 27, 28, 29, 30] (by decide +kernel) (by decide +kernel)
set_option maxRecDepth 20000 in
theorem gX1_canGoOn_X1_hopeful : GoodIn wsX1_canGoOn (wsV RX1 60 RX1 yX1_hopeful wsX1_hopeful) := goodIn_app (goodIn_of _ (by decide +kernel)) ggX1_canGoOn_X1_hopeful
set_option maxRecDepth 20000 in
theorem ggX1_canGoOn_X1_canSayOne : GoodIn wsX1_canGoOn wsX1_canSayOne := goodIn_r _ [22, 11, 9, 12, 23, 24, 25, 16, 0, 1, 2, 3, 4, 5, 6, 7, 8, 10, 13, 14, 15, 17, 18, 19, 20, 21, 26, 27, 28, 29, 30, 31, 32, 33, 34, 35] (by decide +kernel) (by decide +kernel)
set_option maxRecDepth 20000 in
theorem gX1_canGoOn_X1_canSayOne : GoodIn wsX1_canGoOn (wsV RX1 73 RX1 yX1_canSayOne wsX1_canSayOne) := goodIn_app (goodIn_of _ (by decide +kernel)) ggX1_canGoOn_X1_canSayOne
theorem dX1_canGoOn_0 : decode cX1_canGoOn 0 = .ok (.iload_n 1, 1) := by decide +kernel
theorem dX1_canGoOn_1 : decode cX1_canGoOn 1 = .ok (.ifCond .ne 5, 3) := by decide +kernel
theorem dX1_canGoOn_4 : decode cX1_canGoOn 4 = .ok (.iconst 1, 1) := by decide +kernel
theorem dX1_canGoOn_5 : decode cX1_canGoOn 5 = .ok (.ireturn, 1) := by decide +kernel
theorem dX1_canGoOn_6 : decode cX1_canGoOn 6 = .ok (.aload_n 0, 1) := by decide +kernel
theorem dX1_canGoOn_7 : decode cX1_canGoOn 7 = .ok (.getfield 25, 3) := by decide +kernel
theorem dX1_canGoOn_10 : decode cX1_canGoOn 10 = .ok (.iload 4, 2) := by decide +kernel
theorem dX1_canGoOn_12 : decode cX1_canGoOn 12 = .ok (.invokevirtual 70, 3) := by decide +kernel
theorem dX1_canGoOn_15 : decode cX1_canGoOn 15 = .ok (.aload_n 0, 1) := by decide +kernel
theorem dX1_canGoOn_16 : decode cX1_canGoOn 16 = .ok (.getfield 9, 3) := by decide +kernel
theorem dX1_canGoOn_19 : decode cX1_canGoOn 19 = .ok (.iload_n 2, 1) := by decide +kernel
theorem dX1_canGoOn_20 : decode cX1_canGoOn 20 = .ok (.invokestatic 45, 3) := by decide +kernel
theorem dX1_canGoOn_23 : decode cX1_canGoOn 23 = .ok (.iand, 1) := by decide +kernel
theorem dX1_canGoOn_24 : decode cX1_canGoOn 24 = .ok (.iload_n 3, 1) := by decide +kernel
theorem dX1_canGoOn_25 : decode cX1_canGoOn 25 = .ok (.iconst (-1), 1) := by decide +kernel
theorem dX1_canGoOn_26 : decode cX1_canGoOn 26 = .ok (.ixor, 1) := by decide +kernel
theorem dX1_canGoOn_27 : decode cX1_canGoOn 27 = .ok (.iand, 1) := by decide +kernel
theorem dX1_canGoOn_28 : decode cX1_canGoOn 28 = .ok (.istore 5, 2) := by decide +kernel
theorem dX1_canGoOn_30 : decode cX1_canGoOn 30 = .ok (.iload 5, 2) := by decide +kernel
theorem dX1_canGoOn_32 : decode cX1_canGoOn 32 = .ok (.ifCond .ne 5, 3) := by decide +kernel
theorem dX1_canGoOn_35 : decode cX1_canGoOn 35 = .ok (.iconst 0, 1) := by decide +kernel
theorem dX1_canGoOn_36 : decode cX1_canGoOn 36 = .ok (.ireturn, 1) := by decide +kernel
theorem dX1_canGoOn_37 : decode cX1_canGoOn 37 = .ok (.iload_n 3, 1) := by decide +kernel
theorem dX1_canGoOn_38 : decode cX1_canGoOn 38 = .ok (.iconst 1, 1) := by decide +kernel
theorem dX1_canGoOn_39 : decode cX1_canGoOn 39 = .ok (.iload 4, 2) := by decide +kernel
theorem dX1_canGoOn_41 : decode cX1_canGoOn 41 = .ok (.ishl, 1) := by decide +kernel
theorem dX1_canGoOn_42 : decode cX1_canGoOn 42 = .ok (.if_icmp .ne 7, 3) := by decide +kernel
theorem dX1_canGoOn_45 : decode cX1_canGoOn 45 = .ok (.iconst 1, 1) := by decide +kernel
theorem dX1_canGoOn_46 : decode cX1_canGoOn 46 = .ok (.goto 4, 3) := by decide +kernel
theorem dX1_canGoOn_49 : decode cX1_canGoOn 49 = .ok (.iconst 0, 1) := by decide +kernel
theorem dX1_canGoOn_50 : decode cX1_canGoOn 50 = .ok (.istore 6, 2) := by decide +kernel
theorem dX1_canGoOn_52 : decode cX1_canGoOn 52 = .ok (.iconst 0, 1) := by decide +kernel
theorem dX1_canGoOn_53 : decode cX1_canGoOn 53 = .ok (.istore 7, 2) := by decide +kernel
theorem dX1_canGoOn_55 : decode cX1_canGoOn 55 = .ok (.iload 7, 2) := by decide +kernel
theorem dX1_canGoOn_57 : decode cX1_canGoOn 57 = .ok (.iconst 5, 1) := by decide +kernel
theorem dX1_canGoOn_58 : decode cX1_canGoOn 58 = .ok (.if_icmp .ge 75, 3) := by decide +kernel
theorem dX1_canGoOn_61 : decode cX1_canGoOn 61 = .ok (.iload_n 1, 1) := by decide +kernel
theorem dX1_canGoOn_62 : decode cX1_canGoOn 62 = .ok (.iconst 1, 1) := by decide +kernel
theorem dX1_canGoOn_63 : decode cX1_canGoOn 63 = .ok (.iload 7, 2) := by decide +kernel
theorem dX1_canGoOn_65 : decode cX1_canGoOn 65 = .ok (.ishl, 1) := by decide +kernel
theorem dX1_canGoOn_66 : decode cX1_canGoOn 66 = .ok (.iconst (-1), 1) := by decide +kernel
theorem dX1_canGoOn_67 : decode cX1_canGoOn 67 = .ok (.ixor, 1) := by decide +kernel
theorem dX1_canGoOn_68 : decode cX1_canGoOn 68 = .ok (.iand, 1) := by decide +kernel
theorem dX1_canGoOn_69 : decode cX1_canGoOn 69 = .ok (.istore 8, 2) := by decide +kernel
theorem dX1_canGoOn_71 : decode cX1_canGoOn 71 = .ok (.iload 8, 2) := by decide +kernel
theorem dX1_canGoOn_73 : decode cX1_canGoOn 73 = .ok (.iload_n 1, 1) := by decide +kernel
theorem dX1_canGoOn_74 : decode cX1_canGoOn 74 = .ok (.if_icmp .eq 53, 3) := by decide +kernel
theorem dX1_canGoOn_77 : decode cX1_canGoOn 77 = .ok (.iload 6, 2) := by decide +kernel
theorem dX1_canGoOn_79 : decode cX1_canGoOn 79 = .ok (.ifCond .eq 23, 3) := by decide +kernel
theorem dX1_canGoOn_82 : decode cX1_canGoOn 82 = .ok (.aload_n 0, 1) := by decide +kernel
theorem dX1_canGoOn_83 : decode cX1_canGoOn 83 = .ok (.getfield 9, 3) := by decide +kernel
theorem dX1_canGoOn_86 : decode cX1_canGoOn 86 = .ok (.iload 7, 2) := by decide +kernel
theorem dX1_canGoOn_88 : decode cX1_canGoOn 88 = .ok (.invokestatic 45, 3) := by decide +kernel
theorem dX1_canGoOn_91 : decode cX1_canGoOn 91 = .ok (.iload 4, 2) := by decide +kernel
theorem dX1_canGoOn_93 : decode cX1_canGoOn 93 = .ok (.invokestatic 56, 3) := by decide +kernel
theorem dX1_canGoOn_96 : decode cX1_canGoOn 96 = .ok (.ifCond .ne 6, 3) := by decide +kernel
theorem dX1_canGoOn_99 : decode cX1_canGoOn 99 = .ok (.goto 28, 3) := by decide +kernel
theorem dX1_canGoOn_102 : decode cX1_canGoOn 102 = .ok (.aload_n 0, 1) := by decide +kernel
theorem dX1_canGoOn_103 : decode cX1_canGoOn 103 = .ok (.iload 8, 2) := by decide +kernel
theorem dX1_canGoOn_105 : decode cX1_canGoOn 105 = .ok (.iload 7, 2) := by decide +kernel
theorem dX1_canGoOn_107 : decode cX1_canGoOn 107 = .ok (.iload_n 3, 1) := by decide +kernel
theorem dX1_canGoOn_108 : decode cX1_canGoOn 108 = .ok (.iload 5, 2) := by decide +kernel
theorem dX1_canGoOn_110 : decode cX1_canGoOn 110 = .ok (.aload_n 0, 1) := by decide +kernel
theorem dX1_canGoOn_111 : decode cX1_canGoOn 111 = .ok (.iload 8, 2) := by decide +kernel
theorem dX1_canGoOn_113 : decode cX1_canGoOn 113 = .ok (.iload 7, 2) := by decide +kernel
theorem dX1_canGoOn_115 : decode cX1_canGoOn 115 = .ok (.invokevirtual 60, 3) := by decide +kernel
theorem dX1_canGoOn_118 : decode cX1_canGoOn 118 = .ok (.iand, 1) := by decide +kernel
theorem dX1_canGoOn_119 : decode cX1_canGoOn 119 = .ok (.invokevirtual 73, 3) := by decide +kernel
theorem dX1_canGoOn_122 : decode cX1_canGoOn 122 = .ok (.ifCond .eq 5, 3) := by decide +kernel
theorem dX1_canGoOn_125 : decode cX1_canGoOn 125 = .ok (.iconst 1, 1) := by decide +kernel
theorem dX1_canGoOn_126 : decode cX1_canGoOn 126 = .ok (.ireturn, 1) := by decide +kernel
theorem dX1_canGoOn_127 : decode cX1_canGoOn 127 = .ok (.iinc 7 1, 3) := by decide +kernel
theorem dX1_canGoOn_130 : decode cX1_canGoOn 130 = .ok (.goto (-75), 3) := by decide +kernel
theorem dX1_canGoOn_133 : decode cX1_canGoOn 133 = .ok (.iconst 0, 1) := by decide +kernel
theorem dX1_canGoOn_134 : decode cX1_canGoOn 134 = .ok (.ireturn, 1) := by decide +kernel
theorem dX2_init_0 : decode cX2_init 0 = .ok (.aload_n 0, 1) := by decide +kernel
theorem dX2_init_1 : decode cX2_init 1 = .ok (.invokespecial 3, 3) := by decide +kernel
theorem dX2_init_4 : decode cX2_init 4 = .ok (.aload_n 0, 1) := by decide +kernel
theorem dX2_init_5 : decode cX2_init 5 = .ok (.bipush 10, 2) := by decide +kernel
theorem dX2_init_7 : decode cX2_init 7 = .ok (.newarray .int, 2) := by decide +kernel
theorem dX2_init_9 : decode cX2_init 9 = .ok (.putfield 9, 3) := by decide +kernel
theorem dX2_init_12 : decode cX2_init 12 = .ok (.aload_n 0, 1) := by decide +kernel
theorem dX2_init_13 : decode cX2_init 13 = .ok (.sipush 1024, 3) := by decide +kernel
theorem dX2_init_16 : decode cX2_init 16 = .ok (.newarray .int, 2) := by decide +kernel
theorem dX2_init_18 : decode cX2_init 18 = .ok (.putfield 15, 3) := by decide +kernel
theorem dX2_init_21 : decode cX2_init 21 = .ok (.aload_n 0, 1) := by decide +kernel
theorem dX2_init_22 : decode cX2_init 22 = .ok (.bipush 10, 2) := by decide +kernel
theorem dX2_init_24 : decode cX2_init 24 = .ok (.newarray .int, 2) := by decide +kernel
theorem dX2_init_26 : decode cX2_init 26 = .ok (.putfield 18, 3) := by decide +kernel
theorem dX2_init_29 : decode cX2_init 29 = .ok (.aload_n 0, 1) := by decide +kernel
theorem dX2_init_30 : decode cX2_init 30 = .ok (.bipush 10, 2) := by decide +kernel
theorem dX2_init_32 : decode cX2_init 32 = .ok (.newarray .int, 2) := by decide +kernel
theorem dX2_init_34 : decode cX2_init 34 = .ok (.putfield 21, 3) := by decide +kernel
theorem dX2_init_37 : decode cX2_init 37 = .ok (.aload_n 0, 1) := by decide +kernel
theorem dX2_init_38 : decode cX2_init 38 = .ok (.iconst 0, 1) := by decide +kernel
theorem dX2_init_39 : decode cX2_init 39 = .ok (.putfield 24, 3) := by decide +kernel
theorem dX2_init_42 : decode cX2_init 42 = .ok (.aload_n 0, 1) := by decide +kernel
theorem dX2_init_43 : decode cX2_init 43 = .ok (.aload_n 1, 1) := by decide +kernel
theorem dX2_init_44 : decode cX2_init 44 = .ok (.putfield 28, 3) := by decide +kernel
theorem dX2_init_47 : decode cX2_init 47 = .ok (.return_, 1) := by decide +kernel
set_option maxRecDepth 20000 in
theorem ggX2_tops_X4_worseThan : GoodIn wsX2_tops wsX4_worseThan := goodIn_r _ [5, 6, 7, 8, 9, 16, 17, 18, 19, 20] (by decide +kernel) (by decide +kernel)
set_option maxRecDepth 20000 in
theorem gX2_tops_X4_worseThan_n32 : GoodIn wsX2_tops (wsX4_worseThan) := ggX2_tops_X4_worseThan
theorem dX2_tops_0 : decode cX2_tops 0 = .ok (.iconst 0, 1) := by decide +kernel
theorem dX2_tops_1 : decode cX2_tops 1 = .ok (.istore_n 1, 1) := by decide +kernel
theorem dX2_tops_2 : decode cX2_tops 2 = .ok (.iconst 0, 1) := by decide +kernel
theorem dX2_tops_3 : decode cX2_tops 3 = .ok (.istore_n 2, 1) := by decide +kernel
theorem dX2_tops_4 : decode cX2_tops 4 = .ok (.iload_n 2, 1) := by decide +kernel
theorem dX2_tops_5 : decode cX2_tops 5 = .ok (.bipush 10, 2) := by decide +kernel
theorem dX2_tops_7 : decode cX2_tops 7 = .ok (.if_icmp .ge 26, 3) := by decide +kernel
theorem dX2_tops_10 : decode cX2_tops 10 = .ok (.aload_n 0, 1) := by decide +kernel
theorem dX2_tops_11 : decode cX2_tops 11 = .ok (.getfield 28, 3) := by decide +kernel
theorem dX2_tops_14 : decode cX2_tops 14 = .ok (.iload_n 2, 1) := by decide +kernel
theorem dX2_tops_15 : decode cX2_tops 15 = .ok (.invokevirtual 32, 3) := by decide +kernel
theorem dX2_tops_18 : decode cX2_tops 18 = .ok (.ifCond .ne 9, 3) := by decide +kernel
theorem dX2_tops_21 : decode cX2_tops 21 = .ok (.iload_n 1, 1) := by decide +kernel
theorem dX2_tops_22 : decode cX2_tops 22 = .ok (.iconst 1, 1) := by decide +kernel
theorem dX2_tops_23 : decode cX2_tops 23 = .ok (.iload_n 2, 1) := by decide +kernel
theorem dX2_tops_24 : decode cX2_tops 24 = .ok (.ishl, 1) := by decide +kernel
theorem dX2_tops_25 : decode cX2_tops 25 = .ok (.ior, 1) := by decide +kernel
theorem dX2_tops_26 : decode cX2_tops 26 = .ok (.istore_n 1, 1) := by decide +kernel
theorem dX2_tops_27 : decode cX2_tops 27 = .ok (.iinc 2 1, 3) := by decide +kernel
theorem dX2_tops_30 : decode cX2_tops 30 = .ok (.goto (-26), 3) := by decide +kernel
theorem dX2_tops_33 : decode cX2_tops 33 = .ok (.iload_n 1, 1) := by decide +kernel
theorem dX2_tops_34 : decode cX2_tops 34 = .ok (.ireturn, 1) := by decide +kernel
set_option maxRecDepth 20000 in
theorem ggX2_inRings_X4_worseThan : GoodIn wsX2_inRings wsX4_worseThan := goodIn_r _ [6, 7, 8, 9, 10, 21, 22, 23, 24, 25] (by decide +kernel) (by decide +kernel)
set_option maxRecDepth 20000 in
theorem gX2_inRings_X4_worseThan_n32 : GoodIn wsX2_inRings (wsX4_worseThan) := ggX2_inRings_X4_worseThan
set_option maxRecDepth 20000 in
theorem ggX2_inRings_X6_store : GoodIn wsX2_inRings wsX6_store := goodIn_r _ [12] (by decide +kernel) (by decide +kernel)
set_option maxRecDepth 20000 in
theorem gX2_inRings_X6_store_n38 : GoodIn wsX2_inRings (wsX6_store) := ggX2_inRings_X6_store
set_option maxRecDepth 20000 in
theorem ggX2_inRings_X6_at : GoodIn wsX2_inRings wsX6_at := goodIn_r _ [10] (by decide +kernel) (by decide +kernel)
set_option maxRecDepth 20000 in
theorem gX2_inRings_X6_at_n42 : GoodIn wsX2_inRings (wsX6_at) := ggX2_inRings_X6_at
set_option maxRecDepth 20000 in
theorem ggX2_inRings_X6_has : GoodIn wsX2_inRings wsX6_has := goodIn_r _ [14] (by decide +kernel) (by decide +kernel)
set_option maxRecDepth 20000 in
theorem gX2_inRings_X6_has_n46 : GoodIn wsX2_inRings (wsX6_has) := ggX2_inRings_X6_has
theorem dX2_inRings_0 : decode cX2_inRings 0 = .ok (.iconst 0, 1) := by decide +kernel
theorem dX2_inRings_1 : decode cX2_inRings 1 = .ok (.istore_n 1, 1) := by decide +kernel
theorem dX2_inRings_2 : decode cX2_inRings 2 = .ok (.iload_n 1, 1) := by decide +kernel
theorem dX2_inRings_3 : decode cX2_inRings 3 = .ok (.bipush 10, 2) := by decide +kernel
theorem dX2_inRings_5 : decode cX2_inRings 5 = .ok (.if_icmp .ge 25, 3) := by decide +kernel
theorem dX2_inRings_8 : decode cX2_inRings 8 = .ok (.aload_n 0, 1) := by decide +kernel
theorem dX2_inRings_9 : decode cX2_inRings 9 = .ok (.getfield 9, 3) := by decide +kernel
theorem dX2_inRings_12 : decode cX2_inRings 12 = .ok (.iload_n 1, 1) := by decide +kernel
theorem dX2_inRings_13 : decode cX2_inRings 13 = .ok (.aload_n 0, 1) := by decide +kernel
theorem dX2_inRings_14 : decode cX2_inRings 14 = .ok (.getfield 28, 3) := by decide +kernel
theorem dX2_inRings_17 : decode cX2_inRings 17 = .ok (.iload_n 1, 1) := by decide +kernel
theorem dX2_inRings_18 : decode cX2_inRings 18 = .ok (.invokevirtual 32, 3) := by decide +kernel
theorem dX2_inRings_21 : decode cX2_inRings 21 = .ok (.invokestatic 38, 3) := by decide +kernel
theorem dX2_inRings_24 : decode cX2_inRings 24 = .ok (.iinc 1 1, 3) := by decide +kernel
theorem dX2_inRings_27 : decode cX2_inRings 27 = .ok (.goto (-25), 3) := by decide +kernel
theorem dX2_inRings_30 : decode cX2_inRings 30 = .ok (.iconst 0, 1) := by decide +kernel
theorem dX2_inRings_31 : decode cX2_inRings 31 = .ok (.istore_n 1, 1) := by decide +kernel
theorem dX2_inRings_32 : decode cX2_inRings 32 = .ok (.iload_n 1, 1) := by decide +kernel
theorem dX2_inRings_33 : decode cX2_inRings 33 = .ok (.bipush 10, 2) := by decide +kernel
theorem dX2_inRings_35 : decode cX2_inRings 35 = .ok (.if_icmp .ge 63, 3) := by decide +kernel
theorem dX2_inRings_38 : decode cX2_inRings 38 = .ok (.iconst 0, 1) := by decide +kernel
theorem dX2_inRings_39 : decode cX2_inRings 39 = .ok (.istore_n 2, 1) := by decide +kernel
theorem dX2_inRings_40 : decode cX2_inRings 40 = .ok (.iload_n 2, 1) := by decide +kernel
theorem dX2_inRings_41 : decode cX2_inRings 41 = .ok (.bipush 10, 2) := by decide +kernel
theorem dX2_inRings_43 : decode cX2_inRings 43 = .ok (.if_icmp .ge 49, 3) := by decide +kernel
theorem dX2_inRings_46 : decode cX2_inRings 46 = .ok (.aload_n 0, 1) := by decide +kernel
theorem dX2_inRings_47 : decode cX2_inRings 47 = .ok (.getfield 9, 3) := by decide +kernel
theorem dX2_inRings_50 : decode cX2_inRings 50 = .ok (.iload_n 2, 1) := by decide +kernel
theorem dX2_inRings_51 : decode cX2_inRings 51 = .ok (.invokestatic 42, 3) := by decide +kernel
theorem dX2_inRings_54 : decode cX2_inRings 54 = .ok (.iload_n 1, 1) := by decide +kernel
theorem dX2_inRings_55 : decode cX2_inRings 55 = .ok (.invokestatic 46, 3) := by decide +kernel
theorem dX2_inRings_58 : decode cX2_inRings 58 = .ok (.ifCond .eq 28, 3) := by decide +kernel
theorem dX2_inRings_61 : decode cX2_inRings 61 = .ok (.aload_n 0, 1) := by decide +kernel
theorem dX2_inRings_62 : decode cX2_inRings 62 = .ok (.getfield 9, 3) := by decide +kernel
theorem dX2_inRings_65 : decode cX2_inRings 65 = .ok (.iload_n 2, 1) := by decide +kernel
theorem dX2_inRings_66 : decode cX2_inRings 66 = .ok (.aload_n 0, 1) := by decide +kernel
theorem dX2_inRings_67 : decode cX2_inRings 67 = .ok (.getfield 9, 3) := by decide +kernel
theorem dX2_inRings_70 : decode cX2_inRings 70 = .ok (.iload_n 2, 1) := by decide +kernel
theorem dX2_inRings_71 : decode cX2_inRings 71 = .ok (.invokestatic 42, 3) := by decide +kernel
theorem dX2_inRings_74 : decode cX2_inRings 74 = .ok (.aload_n 0, 1) := by decide +kernel
theorem dX2_inRings_75 : decode cX2_inRings 75 = .ok (.getfield 9, 3) := by decide +kernel
theorem dX2_inRings_78 : decode cX2_inRings 78 = .ok (.iload_n 1, 1) := by decide +kernel
theorem dX2_inRings_79 : decode cX2_inRings 79 = .ok (.invokestatic 42, 3) := by decide +kernel
theorem dX2_inRings_82 : decode cX2_inRings 82 = .ok (.ior, 1) := by decide +kernel
theorem dX2_inRings_83 : decode cX2_inRings 83 = .ok (.invokestatic 38, 3) := by decide +kernel
theorem dX2_inRings_86 : decode cX2_inRings 86 = .ok (.iinc 2 1, 3) := by decide +kernel
theorem dX2_inRings_89 : decode cX2_inRings 89 = .ok (.goto (-49), 3) := by decide +kernel
theorem dX2_inRings_92 : decode cX2_inRings 92 = .ok (.iinc 1 1, 3) := by decide +kernel
theorem dX2_inRings_95 : decode cX2_inRings 95 = .ok (.goto (-63), 3) := by decide +kernel
theorem dX2_inRings_98 : decode cX2_inRings 98 = .ok (.iconst 0, 1) := by decide +kernel
theorem dX2_inRings_99 : decode cX2_inRings 99 = .ok (.istore_n 1, 1) := by decide +kernel
theorem dX2_inRings_100 : decode cX2_inRings 100 = .ok (.iconst 0, 1) := by decide +kernel
theorem dX2_inRings_101 : decode cX2_inRings 101 = .ok (.istore_n 2, 1) := by decide +kernel
theorem dX2_inRings_102 : decode cX2_inRings 102 = .ok (.iload_n 2, 1) := by decide +kernel
theorem dX2_inRings_103 : decode cX2_inRings 103 = .ok (.bipush 10, 2) := by decide +kernel
theorem dX2_inRings_105 : decode cX2_inRings 105 = .ok (.if_icmp .ge 30, 3) := by decide +kernel
theorem dX2_inRings_108 : decode cX2_inRings 108 = .ok (.aload_n 0, 1) := by decide +kernel
theorem dX2_inRings_109 : decode cX2_inRings 109 = .ok (.getfield 9, 3) := by decide +kernel
theorem dX2_inRings_112 : decode cX2_inRings 112 = .ok (.iload_n 2, 1) := by decide +kernel
theorem dX2_inRings_113 : decode cX2_inRings 113 = .ok (.invokestatic 42, 3) := by decide +kernel
theorem dX2_inRings_116 : decode cX2_inRings 116 = .ok (.iload_n 2, 1) := by decide +kernel
theorem dX2_inRings_117 : decode cX2_inRings 117 = .ok (.invokestatic 46, 3) := by decide +kernel
theorem dX2_inRings_120 : decode cX2_inRings 120 = .ok (.ifCond .eq 9, 3) := by decide +kernel
theorem dX2_inRings_123 : decode cX2_inRings 123 = .ok (.iload_n 1, 1) := by decide +kernel
theorem dX2_inRings_124 : decode cX2_inRings 124 = .ok (.iconst 1, 1) := by decide +kernel
theorem dX2_inRings_125 : decode cX2_inRings 125 = .ok (.iload_n 2, 1) := by decide +kernel
theorem dX2_inRings_126 : decode cX2_inRings 126 = .ok (.ishl, 1) := by decide +kernel
theorem dX2_inRings_127 : decode cX2_inRings 127 = .ok (.ior, 1) := by decide +kernel
theorem dX2_inRings_128 : decode cX2_inRings 128 = .ok (.istore_n 1, 1) := by decide +kernel
theorem dX2_inRings_129 : decode cX2_inRings 129 = .ok (.iinc 2 1, 3) := by decide +kernel
theorem dX2_inRings_132 : decode cX2_inRings 132 = .ok (.goto (-30), 3) := by decide +kernel
theorem dX2_inRings_135 : decode cX2_inRings 135 = .ok (.iload_n 1, 1) := by decide +kernel
theorem dX2_inRings_136 : decode cX2_inRings 136 = .ok (.ireturn, 1) := by decide +kernel
set_option maxRecDepth 20000 in
theorem ggX2_arrange_X2_isSameBook : GoodIn wsX2_arrange wsX2_isSameBook := goodIn_r _ [10, 4, 5, 11, 12, 13, 14, 15, 16, 17, 18, 38, 39, 40, 41, 42, 43, 44, 45, 46, 47, 48] (by decide +kernel) (by decide +kernel)
set_option maxRecDepth 20000 in
theorem gX2_arrange_X2_isSameBook : GoodIn wsX2_arrange (wsV RX2 50 RX2 yX2_isSameBook wsX2_isSameBook) := goodIn_app (goodIn_of _ (by decide +kernel)) ggX2_arrange_X2_isSameBook
set_option maxRecDepth 20000 in
theorem ggX2_arrange_X6_store : GoodIn wsX2_arrange wsX6_store := goodIn_r _ [20] (by decide +kernel) (by decide +kernel)
set_option maxRecDepth 20000 in
theorem gX2_arrange_X6_store_n38 : GoodIn wsX2_arrange (wsX6_store) := ggX2_arrange_X6_store
set_option maxRecDepth 20000 in
theorem ggX2_arrange_X2_nextAfter : GoodIn wsX2_arrange wsX2_nextAfter := goodIn_r _ [24, 25, 12, 26, 27, 28, 29, 9, 30, 5, 2, 14, 15, 16, 17, 18, 11, 13, 31, 32, 33, 34, 35, 36, 37, 38, 39, 40, 41, 42, 43, 44, 45, 46, 47, 48] (by decide +kernel) (by decide +kernel)
set_option maxRecDepth 20000 in
theorem gX2_arrange_X2_nextAfter : GoodIn wsX2_arrange (wsV RX2 54 RX2 yX2_nextAfter wsX2_nextAfter) := goodIn_app (goodIn_of _ (by decide +kernel)) ggX2_arrange_X2_nextAfter
set_option maxRecDepth 20000 in
theorem ggX2_arrange_X2_backWith : GoodIn wsX2_arrange wsX2_backWith := goodIn_r _ [30, 5, 2, 14, 15, 16, 17, 18, 11, 12, 13, 31, 32, 33, 34, 35, 36, 37, 38, 39, 40, 41, 42, 43, 44, 45, 46, 47, 48] (by decide +kernel) (by decide +kernel)
set_option maxRecDepth 20000 in
theorem gX2_arrange_X2_backWith : GoodIn wsX2_arrange (wsV RX2 57 RX2 yX2_backWith wsX2_backWith) := goodIn_app (goodIn_of _ (by decide +kernel)) ggX2_arrange_X2_backWith
set_option maxRecDepth 20000 in
theorem ggX2_arrange_X4_worseThan : GoodIn wsX2_arrange wsX4_worseThan := goodIn_r _ [17, 18, 11, 12, 13, 44, 45, 46, 47, 48] (by decide +kernel) (by decide +kernel)
set_option maxRecDepth 20000 in
theorem gX2_arrange_X4_worseThan_n32 : GoodIn wsX2_arrange (wsX4_worseThan) := ggX2_arrange_X4_worseThan
theorem dX2_arrange_0 : decode cX2_arrange 0 = .ok (.aload_n 0, 1) := by decide +kernel
theorem dX2_arrange_1 : decode cX2_arrange 1 = .ok (.getfield 24, 3) := by decide +kernel
theorem dX2_arrange_4 : decode cX2_arrange 4 = .ok (.ifCond .eq 11, 3) := by decide +kernel
theorem dX2_arrange_7 : decode cX2_arrange 7 = .ok (.aload_n 0, 1) := by decide +kernel
theorem dX2_arrange_8 : decode cX2_arrange 8 = .ok (.invokevirtual 50, 3) := by decide +kernel
theorem dX2_arrange_11 : decode cX2_arrange 11 = .ok (.ifCond .eq 4, 3) := by decide +kernel
theorem dX2_arrange_14 : decode cX2_arrange 14 = .ok (.return_, 1) := by decide +kernel
theorem dX2_arrange_15 : decode cX2_arrange 15 = .ok (.aload_n 0, 1) := by decide +kernel
theorem dX2_arrange_16 : decode cX2_arrange 16 = .ok (.getfield 15, 3) := by decide +kernel
theorem dX2_arrange_19 : decode cX2_arrange 19 = .ok (.sipush 1023, 3) := by decide +kernel
theorem dX2_arrange_22 : decode cX2_arrange 22 = .ok (.iconst 0, 1) := by decide +kernel
theorem dX2_arrange_23 : decode cX2_arrange 23 = .ok (.invokestatic 38, 3) := by decide +kernel
theorem dX2_arrange_26 : decode cX2_arrange 26 = .ok (.sipush 1022, 3) := by decide +kernel
theorem dX2_arrange_29 : decode cX2_arrange 29 = .ok (.istore_n 1, 1) := by decide +kernel
theorem dX2_arrange_30 : decode cX2_arrange 30 = .ok (.iload_n 1, 1) := by decide +kernel
theorem dX2_arrange_31 : decode cX2_arrange 31 = .ok (.ifCond .lt 27, 3) := by decide +kernel
theorem dX2_arrange_34 : decode cX2_arrange 34 = .ok (.aload_n 0, 1) := by decide +kernel
theorem dX2_arrange_35 : decode cX2_arrange 35 = .ok (.getfield 15, 3) := by decide +kernel
theorem dX2_arrange_38 : decode cX2_arrange 38 = .ok (.iload_n 1, 1) := by decide +kernel
theorem dX2_arrange_39 : decode cX2_arrange 39 = .ok (.aload_n 0, 1) := by decide +kernel
theorem dX2_arrange_40 : decode cX2_arrange 40 = .ok (.iload_n 1, 1) := by decide +kernel
theorem dX2_arrange_41 : decode cX2_arrange 41 = .ok (.aload_n 0, 1) := by decide +kernel
theorem dX2_arrange_42 : decode cX2_arrange 42 = .ok (.iload_n 1, 1) := by decide +kernel
theorem dX2_arrange_43 : decode cX2_arrange 43 = .ok (.invokevirtual 54, 3) := by decide +kernel
theorem dX2_arrange_46 : decode cX2_arrange 46 = .ok (.invokevirtual 57, 3) := by decide +kernel
theorem dX2_arrange_49 : decode cX2_arrange 49 = .ok (.invokestatic 38, 3) := by decide +kernel
theorem dX2_arrange_52 : decode cX2_arrange 52 = .ok (.iinc 1 (-1), 3) := by decide +kernel
theorem dX2_arrange_55 : decode cX2_arrange 55 = .ok (.goto (-25), 3) := by decide +kernel
theorem dX2_arrange_58 : decode cX2_arrange 58 = .ok (.iconst 0, 1) := by decide +kernel
theorem dX2_arrange_59 : decode cX2_arrange 59 = .ok (.istore_n 1, 1) := by decide +kernel
theorem dX2_arrange_60 : decode cX2_arrange 60 = .ok (.iconst 0, 1) := by decide +kernel
theorem dX2_arrange_61 : decode cX2_arrange 61 = .ok (.istore_n 2, 1) := by decide +kernel
theorem dX2_arrange_62 : decode cX2_arrange 62 = .ok (.iload_n 2, 1) := by decide +kernel
theorem dX2_arrange_63 : decode cX2_arrange 63 = .ok (.bipush 10, 2) := by decide +kernel
theorem dX2_arrange_65 : decode cX2_arrange 65 = .ok (.if_icmp .ge 30, 3) := by decide +kernel
theorem dX2_arrange_68 : decode cX2_arrange 68 = .ok (.aload_n 0, 1) := by decide +kernel
theorem dX2_arrange_69 : decode cX2_arrange 69 = .ok (.iload_n 1, 1) := by decide +kernel
theorem dX2_arrange_70 : decode cX2_arrange 70 = .ok (.invokevirtual 54, 3) := by decide +kernel
theorem dX2_arrange_73 : decode cX2_arrange 73 = .ok (.istore_n 3, 1) := by decide +kernel
theorem dX2_arrange_74 : decode cX2_arrange 74 = .ok (.aload_n 0, 1) := by decide +kernel
theorem dX2_arrange_75 : decode cX2_arrange 75 = .ok (.getfield 18, 3) := by decide +kernel
theorem dX2_arrange_78 : decode cX2_arrange 78 = .ok (.iload_n 3, 1) := by decide +kernel
theorem dX2_arrange_79 : decode cX2_arrange 79 = .ok (.iload_n 2, 1) := by decide +kernel
theorem dX2_arrange_80 : decode cX2_arrange 80 = .ok (.invokestatic 38, 3) := by decide +kernel
theorem dX2_arrange_83 : decode cX2_arrange 83 = .ok (.iload_n 1, 1) := by decide +kernel
theorem dX2_arrange_84 : decode cX2_arrange 84 = .ok (.iconst 1, 1) := by decide +kernel
theorem dX2_arrange_85 : decode cX2_arrange 85 = .ok (.iload_n 3, 1) := by decide +kernel
theorem dX2_arrange_86 : decode cX2_arrange 86 = .ok (.ishl, 1) := by decide +kernel
theorem dX2_arrange_87 : decode cX2_arrange 87 = .ok (.ior, 1) := by decide +kernel
theorem dX2_arrange_88 : decode cX2_arrange 88 = .ok (.istore_n 1, 1) := by decide +kernel
theorem dX2_arrange_89 : decode cX2_arrange 89 = .ok (.iinc 2 1, 3) := by decide +kernel
theorem dX2_arrange_92 : decode cX2_arrange 92 = .ok (.goto (-30), 3) := by decide +kernel
theorem dX2_arrange_95 : decode cX2_arrange 95 = .ok (.iconst 0, 1) := by decide +kernel
theorem dX2_arrange_96 : decode cX2_arrange 96 = .ok (.istore_n 2, 1) := by decide +kernel
theorem dX2_arrange_97 : decode cX2_arrange 97 = .ok (.iload_n 2, 1) := by decide +kernel
theorem dX2_arrange_98 : decode cX2_arrange 98 = .ok (.bipush 10, 2) := by decide +kernel
theorem dX2_arrange_100 : decode cX2_arrange 100 = .ok (.if_icmp .ge 25, 3) := by decide +kernel
theorem dX2_arrange_103 : decode cX2_arrange 103 = .ok (.aload_n 0, 1) := by decide +kernel
theorem dX2_arrange_104 : decode cX2_arrange 104 = .ok (.getfield 21, 3) := by decide +kernel
theorem dX2_arrange_107 : decode cX2_arrange 107 = .ok (.iload_n 2, 1) := by decide +kernel
theorem dX2_arrange_108 : decode cX2_arrange 108 = .ok (.aload_n 0, 1) := by decide +kernel
theorem dX2_arrange_109 : decode cX2_arrange 109 = .ok (.getfield 28, 3) := by decide +kernel
theorem dX2_arrange_112 : decode cX2_arrange 112 = .ok (.iload_n 2, 1) := by decide +kernel
theorem dX2_arrange_113 : decode cX2_arrange 113 = .ok (.invokevirtual 32, 3) := by decide +kernel
theorem dX2_arrange_116 : decode cX2_arrange 116 = .ok (.invokestatic 38, 3) := by decide +kernel
theorem dX2_arrange_119 : decode cX2_arrange 119 = .ok (.iinc 2 1, 3) := by decide +kernel
theorem dX2_arrange_122 : decode cX2_arrange 122 = .ok (.goto (-25), 3) := by decide +kernel
theorem dX2_arrange_125 : decode cX2_arrange 125 = .ok (.aload_n 0, 1) := by decide +kernel
theorem dX2_arrange_126 : decode cX2_arrange 126 = .ok (.iconst 1, 1) := by decide +kernel
theorem dX2_arrange_127 : decode cX2_arrange 127 = .ok (.putfield 24, 3) := by decide +kernel
theorem dX2_arrange_130 : decode cX2_arrange 130 = .ok (.return_, 1) := by decide +kernel
set_option maxRecDepth 20000 in
theorem ggX2_isSameBook_X6_at : GoodIn wsX2_isSameBook wsX6_at := goodIn_r _ [5] (by decide +kernel) (by decide +kernel)
set_option maxRecDepth 20000 in
theorem gX2_isSameBook_X6_at_n42 : GoodIn wsX2_isSameBook (wsX6_at) := ggX2_isSameBook_X6_at
set_option maxRecDepth 20000 in
theorem ggX2_isSameBook_X4_worseThan : GoodIn wsX2_isSameBook wsX4_worseThan := goodIn_r _ [9, 10, 3, 4, 5, 17, 18, 19, 20, 21] (by decide +kernel) (by decide +kernel)
set_option maxRecDepth 20000 in
theorem gX2_isSameBook_X4_worseThan_n32 : GoodIn wsX2_isSameBook (wsX4_worseThan) := ggX2_isSameBook_X4_worseThan
theorem dX2_isSameBook_0 : decode cX2_isSameBook 0 = .ok (.iconst 0, 1) := by decide +kernel
theorem dX2_isSameBook_1 : decode cX2_isSameBook 1 = .ok (.istore_n 1, 1) := by decide +kernel
theorem dX2_isSameBook_2 : decode cX2_isSameBook 2 = .ok (.iload_n 1, 1) := by decide +kernel
theorem dX2_isSameBook_3 : decode cX2_isSameBook 3 = .ok (.bipush 10, 2) := by decide +kernel
theorem dX2_isSameBook_5 : decode cX2_isSameBook 5 = .ok (.if_icmp .ge 30, 3) := by decide +kernel
theorem dX2_isSameBook_8 : decode cX2_isSameBook 8 = .ok (.aload_n 0, 1) := by decide +kernel
theorem dX2_isSameBook_9 : decode cX2_isSameBook 9 = .ok (.getfield 21, 3) := by decide +kernel
theorem dX2_isSameBook_12 : decode cX2_isSameBook 12 = .ok (.iload_n 1, 1) := by decide +kernel
theorem dX2_isSameBook_13 : decode cX2_isSameBook 13 = .ok (.invokestatic 42, 3) := by decide +kernel
theorem dX2_isSameBook_16 : decode cX2_isSameBook 16 = .ok (.aload_n 0, 1) := by decide +kernel
theorem dX2_isSameBook_17 : decode cX2_isSameBook 17 = .ok (.getfield 28, 3) := by decide +kernel
theorem dX2_isSameBook_20 : decode cX2_isSameBook 20 = .ok (.iload_n 1, 1) := by decide +kernel
theorem dX2_isSameBook_21 : decode cX2_isSameBook 21 = .ok (.invokevirtual 32, 3) := by decide +kernel
theorem dX2_isSameBook_24 : decode cX2_isSameBook 24 = .ok (.if_icmp .eq 5, 3) := by decide +kernel
theorem dX2_isSameBook_27 : decode cX2_isSameBook 27 = .ok (.iconst 0, 1) := by decide +kernel
theorem dX2_isSameBook_28 : decode cX2_isSameBook 28 = .ok (.ireturn, 1) := by decide +kernel
theorem dX2_isSameBook_29 : decode cX2_isSameBook 29 = .ok (.iinc 1 1, 3) := by decide +kernel
theorem dX2_isSameBook_32 : decode cX2_isSameBook 32 = .ok (.goto (-30), 3) := by decide +kernel
theorem dX2_isSameBook_35 : decode cX2_isSameBook 35 = .ok (.iconst 1, 1) := by decide +kernel
theorem dX2_isSameBook_36 : decode cX2_isSameBook 36 = .ok (.ireturn, 1) := by decide +kernel
set_option maxRecDepth 20000 in
theorem ggX2_nextAfter_X6_has : GoodIn wsX2_nextAfter wsX6_has := goodIn_r _ [3] (by decide +kernel) (by decide +kernel)
set_option maxRecDepth 20000 in
theorem gX2_nextAfter_X6_has_n46 : GoodIn wsX2_nextAfter (wsX6_has) := ggX2_nextAfter_X6_has
set_option maxRecDepth 20000 in
theorem ggX2_nextAfter_X2_backWith : GoodIn wsX2_nextAfter wsX2_backWith := goodIn_r _ [8, 9, 10, 11, 12, 13, 14, 15, 16, 2, 17, 18, 19, 20, 21, 22, 23, 24, 25, 26, 27, 28, 29, 30, 31, 32, 33, 34, 35] (by decide +kernel) (by decide +kernel)
set_option maxRecDepth 20000 in
theorem gX2_nextAfter_X2_backWith : GoodIn wsX2_nextAfter (wsV RX2 57 RX2 yX2_backWith wsX2_backWith) := goodIn_app (goodIn_of _ (by decide +kernel)) ggX2_nextAfter_X2_backWith
theorem dX2_nextAfter_0 : decode cX2_nextAfter 0 = .ok (.sipush 1000, 3) := by decide +kernel
theorem dX2_nextAfter_3 : decode cX2_nextAfter 3 = .ok (.istore_n 2, 1) := by decide +kernel
theorem dX2_nextAfter_4 : decode cX2_nextAfter 4 = .ok (.iconst 0, 1) := by decide +kernel
theorem dX2_nextAfter_5 : decode cX2_nextAfter 5 = .ok (.istore_n 3, 1) := by decide +kernel
theorem dX2_nextAfter_6 : decode cX2_nextAfter 6 = .ok (.iconst 0, 1) := by decide +kernel
theorem dX2_nextAfter_7 : decode cX2_nextAfter 7 = .ok (.istore 4, 2) := by decide +kernel
theorem dX2_nextAfter_9 : decode cX2_nextAfter 9 = .ok (.iload 4, 2) := by decide +kernel
theorem dX2_nextAfter_11 : decode cX2_nextAfter 11 = .ok (.bipush 10, 2) := by decide +kernel
theorem dX2_nextAfter_13 : decode cX2_nextAfter 13 = .ok (.if_icmp .ge 42, 3) := by decide +kernel
theorem dX2_nextAfter_16 : decode cX2_nextAfter 16 = .ok (.iload_n 1, 1) := by decide +kernel
theorem dX2_nextAfter_17 : decode cX2_nextAfter 17 = .ok (.iload 4, 2) := by decide +kernel
theorem dX2_nextAfter_19 : decode cX2_nextAfter 19 = .ok (.invokestatic 46, 3) := by decide +kernel
theorem dX2_nextAfter_22 : decode cX2_nextAfter 22 = .ok (.ifCond .eq 6, 3) := by decide +kernel
theorem dX2_nextAfter_25 : decode cX2_nextAfter 25 = .ok (.goto 24, 3) := by decide +kernel
theorem dX2_nextAfter_28 : decode cX2_nextAfter 28 = .ok (.aload_n 0, 1) := by decide +kernel
theorem dX2_nextAfter_29 : decode cX2_nextAfter 29 = .ok (.iload_n 1, 1) := by decide +kernel
theorem dX2_nextAfter_30 : decode cX2_nextAfter 30 = .ok (.iload 4, 2) := by decide +kernel
theorem dX2_nextAfter_32 : decode cX2_nextAfter 32 = .ok (.invokevirtual 57, 3) := by decide +kernel
theorem dX2_nextAfter_35 : decode cX2_nextAfter 35 = .ok (.istore 5, 2) := by decide +kernel
theorem dX2_nextAfter_37 : decode cX2_nextAfter 37 = .ok (.iload 5, 2) := by decide +kernel
theorem dX2_nextAfter_39 : decode cX2_nextAfter 39 = .ok (.iload_n 2, 1) := by decide +kernel
theorem dX2_nextAfter_40 : decode cX2_nextAfter 40 = .ok (.if_icmp .ge 9, 3) := by decide +kernel
theorem dX2_nextAfter_43 : decode cX2_nextAfter 43 = .ok (.iload 5, 2) := by decide +kernel
theorem dX2_nextAfter_45 : decode cX2_nextAfter 45 = .ok (.istore_n 2, 1) := by decide +kernel
theorem dX2_nextAfter_46 : decode cX2_nextAfter 46 = .ok (.iload 4, 2) := by decide +kernel
theorem dX2_nextAfter_48 : decode cX2_nextAfter 48 = .ok (.istore_n 3, 1) := by decide +kernel
theorem dX2_nextAfter_49 : decode cX2_nextAfter 49 = .ok (.iinc 4 1, 3) := by decide +kernel
theorem dX2_nextAfter_52 : decode cX2_nextAfter 52 = .ok (.goto (-43), 3) := by decide +kernel
theorem dX2_nextAfter_55 : decode cX2_nextAfter 55 = .ok (.iload_n 3, 1) := by decide +kernel
theorem dX2_nextAfter_56 : decode cX2_nextAfter 56 = .ok (.ireturn, 1) := by decide +kernel
set_option maxRecDepth 20000 in
theorem ggX2_backWith_X4_worseThan : GoodIn wsX2_backWith wsX4_worseThan := goodIn_r _ [6, 7, 8, 9, 10, 24, 25, 26, 27, 28] (by decide +kernel) (by decide +kernel)
set_option maxRecDepth 20000 in
theorem gX2_backWith_X4_worseThan_n32 : GoodIn wsX2_backWith (wsX4_worseThan) := ggX2_backWith_X4_worseThan
set_option maxRecDepth 20000 in
theorem ggX2_backWith_J6_bitCount_0f7a4 : GoodIn wsX2_backWith wsJ6_bitCount_0f7a4 := goodIn_r _ [14, 15, 16, 17] (by decide +kernel) (by decide +kernel)
set_option maxRecDepth 20000 in
theorem gX2_backWith_J6_bitCount_0f7a4 : GoodIn wsX2_backWith (va_wsS RX2 61 yJ6_bitCount_0f7a4 wsJ6_bitCount_0f7a4) := goodIn_app (goodIn_of _ (by decide +kernel)) ggX2_backWith_J6_bitCount_0f7a4
set_option maxRecDepth 20000 in
theorem ggX2_backWith_X6_at : GoodIn wsX2_backWith wsX6_at := goodIn_r _ [10] (by decide +kernel) (by decide +kernel)
set_option maxRecDepth 20000 in
theorem gX2_backWith_X6_at_n42 : GoodIn wsX2_backWith (wsX6_at) := ggX2_backWith_X6_at
theorem dX2_backWith_0 : decode cX2_backWith 0 = .ok (.aload_n 0, 1) := by decide +kernel
theorem dX2_backWith_1 : decode cX2_backWith 1 = .ok (.getfield 28, 3) := by decide +kernel
theorem dX2_backWith_4 : decode cX2_backWith 4 = .ok (.iload_n 2, 1) := by decide +kernel
theorem dX2_backWith_5 : decode cX2_backWith 5 = .ok (.invokevirtual 32, 3) := by decide +kernel
theorem dX2_backWith_8 : decode cX2_backWith 8 = .ok (.iload_n 1, 1) := by decide +kernel
theorem dX2_backWith_9 : decode cX2_backWith 9 = .ok (.iand, 1) := by decide +kernel
theorem dX2_backWith_10 : decode cX2_backWith 10 = .ok (.invokestatic 61, 3) := by decide +kernel
theorem dX2_backWith_13 : decode cX2_backWith 13 = .ok (.aload_n 0, 1) := by decide +kernel
theorem dX2_backWith_14 : decode cX2_backWith 14 = .ok (.getfield 15, 3) := by decide +kernel
theorem dX2_backWith_17 : decode cX2_backWith 17 = .ok (.iload_n 1, 1) := by decide +kernel
theorem dX2_backWith_18 : decode cX2_backWith 18 = .ok (.iconst 1, 1) := by decide +kernel
theorem dX2_backWith_19 : decode cX2_backWith 19 = .ok (.iload_n 2, 1) := by decide +kernel
theorem dX2_backWith_20 : decode cX2_backWith 20 = .ok (.ishl, 1) := by decide +kernel
theorem dX2_backWith_21 : decode cX2_backWith 21 = .ok (.ior, 1) := by decide +kernel
theorem dX2_backWith_22 : decode cX2_backWith 22 = .ok (.invokestatic 42, 3) := by decide +kernel
theorem dX2_backWith_25 : decode cX2_backWith 25 = .ok (.iadd, 1) := by decide +kernel
theorem dX2_backWith_26 : decode cX2_backWith 26 = .ok (.ireturn, 1) := by decide +kernel
set_option maxRecDepth 20000 in
theorem ggX2_countStruck_X6_at : GoodIn wsX2_countStruck wsX6_at := goodIn_r _ [4] (by decide +kernel) (by decide +kernel)
set_option maxRecDepth 20000 in
theorem gX2_countStruck_X6_at_n42 : GoodIn wsX2_countStruck (wsX6_at) := ggX2_countStruck_X6_at
theorem dX2_countStruck_0 : decode cX2_countStruck 0 = .ok (.aload_n 0, 1) := by decide +kernel
theorem dX2_countStruck_1 : decode cX2_countStruck 1 = .ok (.getfield 15, 3) := by decide +kernel
theorem dX2_countStruck_4 : decode cX2_countStruck 4 = .ok (.iconst 0, 1) := by decide +kernel
theorem dX2_countStruck_5 : decode cX2_countStruck 5 = .ok (.invokestatic 42, 3) := by decide +kernel
theorem dX2_countStruck_8 : decode cX2_countStruck 8 = .ok (.ireturn, 1) := by decide +kernel
set_option maxRecDepth 20000 in
theorem ggX2_struck_X4_worseThan : GoodIn wsX2_struck wsX4_worseThan := goodIn_r _ [6, 7, 8, 9, 10, 19, 20, 21, 22, 23] (by decide +kernel) (by decide +kernel)
set_option maxRecDepth 20000 in
theorem gX2_struck_X4_worseThan_n32 : GoodIn wsX2_struck (wsX4_worseThan) := ggX2_struck_X4_worseThan
set_option maxRecDepth 20000 in
theorem ggX2_struck_X6_has : GoodIn wsX2_struck wsX6_has := goodIn_r _ [12] (by decide +kernel) (by decide +kernel)
set_option maxRecDepth 20000 in
theorem gX2_struck_X6_has_n46 : GoodIn wsX2_struck (wsX6_has) := ggX2_struck_X6_has
set_option maxRecDepth 20000 in
theorem ggX2_struck_X6_at : GoodIn wsX2_struck wsX6_at := goodIn_r _ [10] (by decide +kernel) (by decide +kernel)
set_option maxRecDepth 20000 in
theorem gX2_struck_X6_at_n42 : GoodIn wsX2_struck (wsX6_at) := ggX2_struck_X6_at
theorem dX2_struck_0 : decode cX2_struck 0 = .ok (.iconst 0, 1) := by decide +kernel
theorem dX2_struck_1 : decode cX2_struck 1 = .ok (.istore_n 2, 1) := by decide +kernel
theorem dX2_struck_2 : decode cX2_struck 2 = .ok (.iconst 0, 1) := by decide +kernel
theorem dX2_struck_3 : decode cX2_struck 3 = .ok (.istore_n 3, 1) := by decide +kernel
theorem dX2_struck_4 : decode cX2_struck 4 = .ok (.iload_n 3, 1) := by decide +kernel
theorem dX2_struck_5 : decode cX2_struck 5 = .ok (.bipush 10, 2) := by decide +kernel
theorem dX2_struck_7 : decode cX2_struck 7 = .ok (.if_icmp .ge 80, 3) := by decide +kernel
theorem dX2_struck_10 : decode cX2_struck 10 = .ok (.iconst 0, 1) := by decide +kernel
theorem dX2_struck_11 : decode cX2_struck 11 = .ok (.istore 4, 2) := by decide +kernel
theorem dX2_struck_13 : decode cX2_struck 13 = .ok (.iload 4, 2) := by decide +kernel
theorem dX2_struck_15 : decode cX2_struck 15 = .ok (.bipush 10, 2) := by decide +kernel
theorem dX2_struck_17 : decode cX2_struck 17 = .ok (.if_icmp .ge 64, 3) := by decide +kernel
theorem dX2_struck_20 : decode cX2_struck 20 = .ok (.aload_n 0, 1) := by decide +kernel
theorem dX2_struck_21 : decode cX2_struck 21 = .ok (.getfield 28, 3) := by decide +kernel
theorem dX2_struck_24 : decode cX2_struck 24 = .ok (.iload_n 3, 1) := by decide +kernel
theorem dX2_struck_25 : decode cX2_struck 25 = .ok (.invokevirtual 32, 3) := by decide +kernel
theorem dX2_struck_28 : decode cX2_struck 28 = .ok (.iload 4, 2) := by decide +kernel
theorem dX2_struck_30 : decode cX2_struck 30 = .ok (.invokestatic 46, 3) := by decide +kernel
theorem dX2_struck_33 : decode cX2_struck 33 = .ok (.ifCond .eq 42, 3) := by decide +kernel
theorem dX2_struck_36 : decode cX2_struck 36 = .ok (.aload_n 0, 1) := by decide +kernel
theorem dX2_struck_37 : decode cX2_struck 37 = .ok (.getfield 18, 3) := by decide +kernel
theorem dX2_struck_40 : decode cX2_struck 40 = .ok (.iload_n 3, 1) := by decide +kernel
theorem dX2_struck_41 : decode cX2_struck 41 = .ok (.invokestatic 42, 3) := by decide +kernel
theorem dX2_struck_44 : decode cX2_struck 44 = .ok (.aload_n 0, 1) := by decide +kernel
theorem dX2_struck_45 : decode cX2_struck 45 = .ok (.getfield 18, 3) := by decide +kernel
theorem dX2_struck_48 : decode cX2_struck 48 = .ok (.iload 4, 2) := by decide +kernel
theorem dX2_struck_50 : decode cX2_struck 50 = .ok (.invokestatic 42, 3) := by decide +kernel
theorem dX2_struck_53 : decode cX2_struck 53 = .ok (.if_icmp .ge 6, 3) := by decide +kernel
theorem dX2_struck_56 : decode cX2_struck 56 = .ok (.goto 19, 3) := by decide +kernel
theorem dX2_struck_59 : decode cX2_struck 59 = .ok (.iload_n 2, 1) := by decide +kernel
theorem dX2_struck_60 : decode cX2_struck 60 = .ok (.iload_n 1, 1) := by decide +kernel
theorem dX2_struck_61 : decode cX2_struck 61 = .ok (.if_icmp .ne 11, 3) := by decide +kernel
theorem dX2_struck_64 : decode cX2_struck 64 = .ok (.bipush 10, 2) := by decide +kernel
theorem dX2_struck_66 : decode cX2_struck 66 = .ok (.iload_n 3, 1) := by decide +kernel
theorem dX2_struck_67 : decode cX2_struck 67 = .ok (.imul, 1) := by decide +kernel
theorem dX2_struck_68 : decode cX2_struck 68 = .ok (.iload 4, 2) := by decide +kernel
theorem dX2_struck_70 : decode cX2_struck 70 = .ok (.iadd, 1) := by decide +kernel
theorem dX2_struck_71 : decode cX2_struck 71 = .ok (.ireturn, 1) := by decide +kernel
theorem dX2_struck_72 : decode cX2_struck 72 = .ok (.iinc 2 1, 3) := by decide +kernel
theorem dX2_struck_75 : decode cX2_struck 75 = .ok (.iinc 4 1, 3) := by decide +kernel
theorem dX2_struck_78 : decode cX2_struck 78 = .ok (.goto (-65), 3) := by decide +kernel
theorem dX2_struck_81 : decode cX2_struck 81 = .ok (.iinc 3 1, 3) := by decide +kernel
theorem dX2_struck_84 : decode cX2_struck 84 = .ok (.goto (-80), 3) := by decide +kernel
theorem dX2_struck_87 : decode cX2_struck 87 = .ok (.bipush (-6), 2) := by decide +kernel
theorem dX2_struck_89 : decode cX2_struck 89 = .ok (.ireturn, 1) := by decide +kernel
theorem dX3_init_0 : decode cX3_init 0 = .ok (.aload_n 0, 1) := by decide +kernel
theorem dX3_init_1 : decode cX3_init 1 = .ok (.invokespecial 3, 3) := by decide +kernel
theorem dX3_init_4 : decode cX3_init 4 = .ok (.aload_n 0, 1) := by decide +kernel
theorem dX3_init_5 : decode cX3_init 5 = .ok (.bipush 40, 2) := by decide +kernel
theorem dX3_init_7 : decode cX3_init 7 = .ok (.newarray .int, 2) := by decide +kernel
theorem dX3_init_9 : decode cX3_init 9 = .ok (.putfield 11, 3) := by decide +kernel
theorem dX3_init_12 : decode cX3_init 12 = .ok (.aload_n 0, 1) := by decide +kernel
theorem dX3_init_13 : decode cX3_init 13 = .ok (.iconst 0, 1) := by decide +kernel
theorem dX3_init_14 : decode cX3_init 14 = .ok (.putfield 15, 3) := by decide +kernel
theorem dX3_init_17 : decode cX3_init 17 = .ok (.return_, 1) := by decide +kernel
theorem dX3_size_0 : decode cX3_size 0 = .ok (.aload_n 0, 1) := by decide +kernel
theorem dX3_size_1 : decode cX3_size 1 = .ok (.getfield 15, 3) := by decide +kernel
theorem dX3_size_4 : decode cX3_size 4 = .ok (.ireturn, 1) := by decide +kernel
theorem dX3_isFull_0 : decode cX3_isFull 0 = .ok (.aload_n 0, 1) := by decide +kernel
theorem dX3_isFull_1 : decode cX3_isFull 1 = .ok (.getfield 15, 3) := by decide +kernel
theorem dX3_isFull_4 : decode cX3_isFull 4 = .ok (.bipush 40, 2) := by decide +kernel
theorem dX3_isFull_6 : decode cX3_isFull 6 = .ok (.if_icmp .lt 7, 3) := by decide +kernel
theorem dX3_isFull_9 : decode cX3_isFull 9 = .ok (.iconst 1, 1) := by decide +kernel
theorem dX3_isFull_10 : decode cX3_isFull 10 = .ok (.goto 4, 3) := by decide +kernel
theorem dX3_isFull_13 : decode cX3_isFull 13 = .ok (.iconst 0, 1) := by decide +kernel
theorem dX3_isFull_14 : decode cX3_isFull 14 = .ok (.ireturn, 1) := by decide +kernel
theorem dX3_put_0 : decode cX3_put 0 = .ok (.aload_n 0, 1) := by decide +kernel
theorem dX3_put_1 : decode cX3_put 1 = .ok (.getfield 15, 3) := by decide +kernel
theorem dX3_put_4 : decode cX3_put 4 = .ok (.ifCond .lt 15, 3) := by decide +kernel
theorem dX3_put_7 : decode cX3_put 7 = .ok (.aload_n 0, 1) := by decide +kernel
theorem dX3_put_8 : decode cX3_put 8 = .ok (.getfield 15, 3) := by decide +kernel
theorem dX3_put_11 : decode cX3_put 11 = .ok (.aload_n 0, 1) := by decide +kernel
theorem dX3_put_12 : decode cX3_put 12 = .ok (.getfield 11, 3) := by decide +kernel
theorem dX3_put_15 : decode cX3_put 15 = .ok (.arraylength, 1) := by decide +kernel
theorem dX3_put_16 : decode cX3_put 16 = .ok (.if_icmp .lt 4, 3) := by decide +kernel
theorem dX3_put_19 : decode cX3_put 19 = .ok (.return_, 1) := by decide +kernel
theorem dX3_put_20 : decode cX3_put 20 = .ok (.aload_n 0, 1) := by decide +kernel
theorem dX3_put_21 : decode cX3_put 21 = .ok (.getfield 11, 3) := by decide +kernel
theorem dX3_put_24 : decode cX3_put 24 = .ok (.aload_n 0, 1) := by decide +kernel
theorem dX3_put_25 : decode cX3_put 25 = .ok (.getfield 15, 3) := by decide +kernel
theorem dX3_put_28 : decode cX3_put 28 = .ok (.iload_n 1, 1) := by decide +kernel
theorem dX3_put_29 : decode cX3_put 29 = .ok (.iastore, 1) := by decide +kernel
theorem dX3_put_30 : decode cX3_put 30 = .ok (.aload_n 0, 1) := by decide +kernel
theorem dX3_put_31 : decode cX3_put 31 = .ok (.dup, 1) := by decide +kernel
theorem dX3_put_32 : decode cX3_put 32 = .ok (.getfield 15, 3) := by decide +kernel
theorem dX3_put_35 : decode cX3_put 35 = .ok (.iconst 1, 1) := by decide +kernel
theorem dX3_put_36 : decode cX3_put 36 = .ok (.iadd, 1) := by decide +kernel
theorem dX3_put_37 : decode cX3_put 37 = .ok (.putfield 15, 3) := by decide +kernel
theorem dX3_put_40 : decode cX3_put 40 = .ok (.return_, 1) := by decide +kernel
theorem dX3_clear_0 : decode cX3_clear 0 = .ok (.aload_n 0, 1) := by decide +kernel
theorem dX3_clear_1 : decode cX3_clear 1 = .ok (.iconst 0, 1) := by decide +kernel
theorem dX3_clear_2 : decode cX3_clear 2 = .ok (.putfield 15, 3) := by decide +kernel
theorem dX3_clear_5 : decode cX3_clear 5 = .ok (.return_, 1) := by decide +kernel
set_option maxRecDepth 20000 in
theorem ggX3_signAt_X6_at : GoodIn wsX3_signAt wsX6_at := goodIn_r _ [5] (by decide +kernel) (by decide +kernel)
set_option maxRecDepth 20000 in
theorem gX3_signAt_X6_at_n19 : GoodIn wsX3_signAt (wsX6_at) := ggX3_signAt_X6_at
theorem dX3_signAt_0 : decode cX3_signAt 0 = .ok (.iload_n 1, 1) := by decide +kernel
theorem dX3_signAt_1 : decode cX3_signAt 1 = .ok (.aload_n 0, 1) := by decide +kernel
theorem dX3_signAt_2 : decode cX3_signAt 2 = .ok (.getfield 15, 3) := by decide +kernel
theorem dX3_signAt_5 : decode cX3_signAt 5 = .ok (.if_icmp .ge 14, 3) := by decide +kernel
theorem dX3_signAt_8 : decode cX3_signAt 8 = .ok (.aload_n 0, 1) := by decide +kernel
theorem dX3_signAt_9 : decode cX3_signAt 9 = .ok (.getfield 11, 3) := by decide +kernel
theorem dX3_signAt_12 : decode cX3_signAt 12 = .ok (.iload_n 1, 1) := by decide +kernel
theorem dX3_signAt_13 : decode cX3_signAt 13 = .ok (.invokestatic 19, 3) := by decide +kernel
theorem dX3_signAt_16 : decode cX3_signAt 16 = .ok (.goto 4, 3) := by decide +kernel
theorem dX3_signAt_19 : decode cX3_signAt 19 = .ok (.iconst 0, 1) := by decide +kernel
theorem dX3_signAt_20 : decode cX3_signAt 20 = .ok (.ireturn, 1) := by decide +kernel
set_option maxRecDepth 20000 in
theorem ggX3_insultAt_X3_signAt : GoodIn wsX3_insultAt wsX3_signAt := goodIn_r _ [5, 6, 7, 8, 9, 10, 16, 17] (by decide +kernel) (by decide +kernel)
set_option maxRecDepth 20000 in
theorem gX3_insultAt_X3_signAt : GoodIn wsX3_insultAt (wsV RX3 23 RX3 yX3_signAt wsX3_signAt) := goodIn_app (goodIn_of _ (by decide +kernel)) ggX3_insultAt_X3_signAt
set_option maxRecDepth 20000 in
theorem ggX3_insultAt_X6_isInsult : GoodIn wsX3_insultAt wsX6_isInsult := goodIn_r _ [12, 13, 14, 9, 15] (by decide +kernel) (by decide +kernel)
set_option maxRecDepth 20000 in
theorem gX3_insultAt_X6_isInsult_n27 : GoodIn wsX3_insultAt (wsX6_isInsult) := ggX3_insultAt_X6_isInsult
theorem dX3_insultAt_0 : decode cX3_insultAt 0 = .ok (.aload_n 0, 1) := by decide +kernel
theorem dX3_insultAt_1 : decode cX3_insultAt 1 = .ok (.iload_n 1, 1) := by decide +kernel
theorem dX3_insultAt_2 : decode cX3_insultAt 2 = .ok (.invokevirtual 23, 3) := by decide +kernel
theorem dX3_insultAt_5 : decode cX3_insultAt 5 = .ok (.bipush 97, 2) := by decide +kernel
theorem dX3_insultAt_7 : decode cX3_insultAt 7 = .ok (.isub, 1) := by decide +kernel
theorem dX3_insultAt_8 : decode cX3_insultAt 8 = .ok (.istore_n 2, 1) := by decide +kernel
theorem dX3_insultAt_9 : decode cX3_insultAt 9 = .ok (.iload_n 2, 1) := by decide +kernel
theorem dX3_insultAt_10 : decode cX3_insultAt 10 = .ok (.invokestatic 27, 3) := by decide +kernel
theorem dX3_insultAt_13 : decode cX3_insultAt 13 = .ok (.ifCond .eq 7, 3) := by decide +kernel
theorem dX3_insultAt_16 : decode cX3_insultAt 16 = .ok (.iload_n 2, 1) := by decide +kernel
theorem dX3_insultAt_17 : decode cX3_insultAt 17 = .ok (.goto 4, 3) := by decide +kernel
theorem dX3_insultAt_20 : decode cX3_insultAt 20 = .ok (.iconst (-1), 1) := by decide +kernel
theorem dX3_insultAt_21 : decode cX3_insultAt 21 = .ok (.ireturn, 1) := by decide +kernel
set_option maxRecDepth 20000 in
theorem ggX3_manAt_X3_signAt : GoodIn wsX3_manAt wsX3_signAt := goodIn_r _ [5, 6, 7, 8, 9, 10, 16, 17] (by decide +kernel) (by decide +kernel)
set_option maxRecDepth 20000 in
theorem gX3_manAt_X3_signAt : GoodIn wsX3_manAt (wsV RX3 23 RX3 yX3_signAt wsX3_signAt) := goodIn_app (goodIn_of _ (by decide +kernel)) ggX3_manAt_X3_signAt
set_option maxRecDepth 20000 in
theorem ggX3_manAt_X6_isMan : GoodIn wsX3_manAt wsX6_isMan := goodIn_r _ [12, 13, 14, 9, 15] (by decide +kernel) (by decide +kernel)
set_option maxRecDepth 20000 in
theorem gX3_manAt_X6_isMan_n31 : GoodIn wsX3_manAt (wsX6_isMan) := ggX3_manAt_X6_isMan
theorem dX3_manAt_0 : decode cX3_manAt 0 = .ok (.aload_n 0, 1) := by decide +kernel
theorem dX3_manAt_1 : decode cX3_manAt 1 = .ok (.iload_n 1, 1) := by decide +kernel
theorem dX3_manAt_2 : decode cX3_manAt 2 = .ok (.invokevirtual 23, 3) := by decide +kernel
theorem dX3_manAt_5 : decode cX3_manAt 5 = .ok (.bipush 48, 2) := by decide +kernel
theorem dX3_manAt_7 : decode cX3_manAt 7 = .ok (.isub, 1) := by decide +kernel
theorem dX3_manAt_8 : decode cX3_manAt 8 = .ok (.istore_n 2, 1) := by decide +kernel
theorem dX3_manAt_9 : decode cX3_manAt 9 = .ok (.iload_n 2, 1) := by decide +kernel
theorem dX3_manAt_10 : decode cX3_manAt 10 = .ok (.invokestatic 31, 3) := by decide +kernel
theorem dX3_manAt_13 : decode cX3_manAt 13 = .ok (.ifCond .eq 7, 3) := by decide +kernel
theorem dX3_manAt_16 : decode cX3_manAt 16 = .ok (.iload_n 2, 1) := by decide +kernel
theorem dX3_manAt_17 : decode cX3_manAt 17 = .ok (.goto 4, 3) := by decide +kernel
theorem dX3_manAt_20 : decode cX3_manAt 20 = .ok (.iconst (-1), 1) := by decide +kernel
theorem dX3_manAt_21 : decode cX3_manAt 21 = .ok (.ireturn, 1) := by decide +kernel
set_option maxRecDepth 20000 in
theorem ggX3_faultAsSteps_X3_standsInSteps : GoodIn wsX3_faultAsSteps wsX3_standsInSteps := goodIn_r _ [6, 7, 8, 9, 5, 10, 11, 12, 13, 14, 1, 15, 16, 17, 18, 19, 20, 21, 22, 23, 24, 25] (by decide +kernel) (by decide +kernel)
set_option maxRecDepth 20000 in
theorem gX3_faultAsSteps_X3_standsInSteps : GoodIn wsX3_faultAsSteps (wsV RX3 34 RX3 yX3_standsInSteps wsX3_standsInSteps) := goodIn_app (goodIn_of _ (by decide +kernel)) ggX3_faultAsSteps_X3_standsInSteps
set_option maxRecDepth 20000 in
theorem ggX3_faultAsSteps_X3_signAt : GoodIn wsX3_faultAsSteps wsX3_signAt := goodIn_r _ [14, 1, 15, 16, 17, 18, 24, 25] (by decide +kernel) (by decide +kernel)
set_option maxRecDepth 20000 in
theorem gX3_faultAsSteps_X3_signAt : GoodIn wsX3_faultAsSteps (wsV RX3 23 RX3 yX3_signAt wsX3_signAt) := goodIn_app (goodIn_of _ (by decide +kernel)) ggX3_faultAsSteps_X3_signAt
theorem dX3_faultAsSteps_0 : decode cX3_faultAsSteps 0 = .ok (.iconst 0, 1) := by decide +kernel
theorem dX3_faultAsSteps_1 : decode cX3_faultAsSteps 1 = .ok (.istore_n 1, 1) := by decide +kernel
theorem dX3_faultAsSteps_2 : decode cX3_faultAsSteps 2 = .ok (.iload_n 1, 1) := by decide +kernel
theorem dX3_faultAsSteps_3 : decode cX3_faultAsSteps 3 = .ok (.aload_n 0, 1) := by decide +kernel
theorem dX3_faultAsSteps_4 : decode cX3_faultAsSteps 4 = .ok (.getfield 15, 3) := by decide +kernel
theorem dX3_faultAsSteps_7 : decode cX3_faultAsSteps 7 = .ok (.if_icmp .ge 19, 3) := by decide +kernel
theorem dX3_faultAsSteps_10 : decode cX3_faultAsSteps 10 = .ok (.aload_n 0, 1) := by decide +kernel
theorem dX3_faultAsSteps_11 : decode cX3_faultAsSteps 11 = .ok (.iload_n 1, 1) := by decide +kernel
theorem dX3_faultAsSteps_12 : decode cX3_faultAsSteps 12 = .ok (.invokevirtual 34, 3) := by decide +kernel
theorem dX3_faultAsSteps_15 : decode cX3_faultAsSteps 15 = .ok (.ifCond .ne 5, 3) := by decide +kernel
theorem dX3_faultAsSteps_18 : decode cX3_faultAsSteps 18 = .ok (.iload_n 1, 1) := by decide +kernel
theorem dX3_faultAsSteps_19 : decode cX3_faultAsSteps 19 = .ok (.ireturn, 1) := by decide +kernel
theorem dX3_faultAsSteps_20 : decode cX3_faultAsSteps 20 = .ok (.iinc 1 1, 3) := by decide +kernel
theorem dX3_faultAsSteps_23 : decode cX3_faultAsSteps 23 = .ok (.goto (-21), 3) := by decide +kernel
theorem dX3_faultAsSteps_26 : decode cX3_faultAsSteps 26 = .ok (.aload_n 0, 1) := by decide +kernel
theorem dX3_faultAsSteps_27 : decode cX3_faultAsSteps 27 = .ok (.getfield 15, 3) := by decide +kernel
theorem dX3_faultAsSteps_30 : decode cX3_faultAsSteps 30 = .ok (.iconst 2, 1) := by decide +kernel
theorem dX3_faultAsSteps_31 : decode cX3_faultAsSteps 31 = .ok (.irem, 1) := by decide +kernel
theorem dX3_faultAsSteps_32 : decode cX3_faultAsSteps 32 = .ok (.iconst 1, 1) := by decide +kernel
theorem dX3_faultAsSteps_33 : decode cX3_faultAsSteps 33 = .ok (.if_icmp .ne 22, 3) := by decide +kernel
theorem dX3_faultAsSteps_36 : decode cX3_faultAsSteps 36 = .ok (.aload_n 0, 1) := by decide +kernel
theorem dX3_faultAsSteps_37 : decode cX3_faultAsSteps 37 = .ok (.aload_n 0, 1) := by decide +kernel
theorem dX3_faultAsSteps_38 : decode cX3_faultAsSteps 38 = .ok (.getfield 15, 3) := by decide +kernel
theorem dX3_faultAsSteps_41 : decode cX3_faultAsSteps 41 = .ok (.iconst 2, 1) := by decide +kernel
theorem dX3_faultAsSteps_42 : decode cX3_faultAsSteps 42 = .ok (.isub, 1) := by decide +kernel
theorem dX3_faultAsSteps_43 : decode cX3_faultAsSteps 43 = .ok (.invokevirtual 23, 3) := by decide +kernel
theorem dX3_faultAsSteps_46 : decode cX3_faultAsSteps 46 = .ok (.bipush 62, 2) := by decide +kernel
theorem dX3_faultAsSteps_48 : decode cX3_faultAsSteps 48 = .ok (.if_icmp .ne 7, 3) := by decide +kernel
theorem dX3_faultAsSteps_51 : decode cX3_faultAsSteps 51 = .ok (.iconst 1, 1) := by decide +kernel
theorem dX3_faultAsSteps_52 : decode cX3_faultAsSteps 52 = .ok (.goto 4, 3) := by decide +kernel
theorem dX3_faultAsSteps_55 : decode cX3_faultAsSteps 55 = .ok (.iconst 0, 1) := by decide +kernel
theorem dX3_faultAsSteps_56 : decode cX3_faultAsSteps 56 = .ok (.istore_n 1, 1) := by decide +kernel
theorem dX3_faultAsSteps_57 : decode cX3_faultAsSteps 57 = .ok (.iload_n 1, 1) := by decide +kernel
theorem dX3_faultAsSteps_58 : decode cX3_faultAsSteps 58 = .ok (.ifCond .eq 8, 3) := by decide +kernel
theorem dX3_faultAsSteps_61 : decode cX3_faultAsSteps 61 = .ok (.bipush (-6), 2) := by decide +kernel
theorem dX3_faultAsSteps_63 : decode cX3_faultAsSteps 63 = .ok (.goto 7, 3) := by decide +kernel
theorem dX3_faultAsSteps_66 : decode cX3_faultAsSteps 66 = .ok (.aload_n 0, 1) := by decide +kernel
theorem dX3_faultAsSteps_67 : decode cX3_faultAsSteps 67 = .ok (.getfield 15, 3) := by decide +kernel
theorem dX3_faultAsSteps_70 : decode cX3_faultAsSteps 70 = .ok (.ireturn, 1) := by decide +kernel
set_option maxRecDepth 20000 in
theorem ggX3_standsInSteps_X3_insultAt : GoodIn wsX3_standsInSteps wsX3_insultAt := goodIn_r _ [5, 6, 7, 8, 4, 9, 10, 11, 12, 13, 14, 15, 16, 17, 18, 19, 20, 21] (by decide +kernel) (by decide +kernel)
set_option maxRecDepth 20000 in
theorem gX3_standsInSteps_X3_insultAt : GoodIn wsX3_standsInSteps (wsV RX3 37 RX3 yX3_insultAt wsX3_insultAt) := goodIn_app (goodIn_of _ (by decide +kernel)) ggX3_standsInSteps_X3_insultAt
set_option maxRecDepth 20000 in
theorem ggX3_standsInSteps_X3_signAt : GoodIn wsX3_standsInSteps wsX3_signAt := goodIn_r _ [9, 10, 11, 12, 13, 14, 20, 21] (by decide +kernel) (by decide +kernel)
set_option maxRecDepth 20000 in
theorem gX3_standsInSteps_X3_signAt : GoodIn wsX3_standsInSteps (wsV RX3 23 RX3 yX3_signAt wsX3_signAt) := goodIn_app (goodIn_of _ (by decide +kernel)) ggX3_standsInSteps_X3_signAt
theorem dX3_standsInSteps_0 : decode cX3_standsInSteps 0 = .ok (.iload_n 1, 1) := by decide +kernel
theorem dX3_standsInSteps_1 : decode cX3_standsInSteps 1 = .ok (.iconst 2, 1) := by decide +kernel
theorem dX3_standsInSteps_2 : decode cX3_standsInSteps 2 = .ok (.irem, 1) := by decide +kernel
theorem dX3_standsInSteps_3 : decode cX3_standsInSteps 3 = .ok (.ifCond .ne 52, 3) := by decide +kernel
theorem dX3_standsInSteps_6 : decode cX3_standsInSteps 6 = .ok (.aload_n 0, 1) := by decide +kernel
theorem dX3_standsInSteps_7 : decode cX3_standsInSteps 7 = .ok (.iload_n 1, 1) := by decide +kernel
theorem dX3_standsInSteps_8 : decode cX3_standsInSteps 8 = .ok (.invokevirtual 37, 3) := by decide +kernel
theorem dX3_standsInSteps_11 : decode cX3_standsInSteps 11 = .ok (.istore_n 2, 1) := by decide +kernel
theorem dX3_standsInSteps_12 : decode cX3_standsInSteps 12 = .ok (.aload_n 0, 1) := by decide +kernel
theorem dX3_standsInSteps_13 : decode cX3_standsInSteps 13 = .ok (.iload_n 1, 1) := by decide +kernel
theorem dX3_standsInSteps_14 : decode cX3_standsInSteps 14 = .ok (.iconst 1, 1) := by decide +kernel
theorem dX3_standsInSteps_15 : decode cX3_standsInSteps 15 = .ok (.isub, 1) := by decide +kernel
theorem dX3_standsInSteps_16 : decode cX3_standsInSteps 16 = .ok (.invokevirtual 23, 3) := by decide +kernel
theorem dX3_standsInSteps_19 : decode cX3_standsInSteps 19 = .ok (.bipush 62, 2) := by decide +kernel
theorem dX3_standsInSteps_21 : decode cX3_standsInSteps 21 = .ok (.if_icmp .ne 7, 3) := by decide +kernel
theorem dX3_standsInSteps_24 : decode cX3_standsInSteps 24 = .ok (.iconst 1, 1) := by decide +kernel
theorem dX3_standsInSteps_25 : decode cX3_standsInSteps 25 = .ok (.goto 4, 3) := by decide +kernel
theorem dX3_standsInSteps_28 : decode cX3_standsInSteps 28 = .ok (.iconst 0, 1) := by decide +kernel
theorem dX3_standsInSteps_29 : decode cX3_standsInSteps 29 = .ok (.istore_n 3, 1) := by decide +kernel
theorem dX3_standsInSteps_30 : decode cX3_standsInSteps 30 = .ok (.iload_n 2, 1) := by decide +kernel
theorem dX3_standsInSteps_31 : decode cX3_standsInSteps 31 = .ok (.ifCond .lt 22, 3) := by decide +kernel
theorem dX3_standsInSteps_34 : decode cX3_standsInSteps 34 = .ok (.iload_n 3, 1) := by decide +kernel
theorem dX3_standsInSteps_35 : decode cX3_standsInSteps 35 = .ok (.ifCond .eq 14, 3) := by decide +kernel
theorem dX3_standsInSteps_38 : decode cX3_standsInSteps 38 = .ok (.aload_n 0, 1) := by decide +kernel
theorem dX3_standsInSteps_39 : decode cX3_standsInSteps 39 = .ok (.iload_n 1, 1) := by decide +kernel
theorem dX3_standsInSteps_40 : decode cX3_standsInSteps 40 = .ok (.iconst 2, 1) := by decide +kernel
theorem dX3_standsInSteps_41 : decode cX3_standsInSteps 41 = .ok (.isub, 1) := by decide +kernel
theorem dX3_standsInSteps_42 : decode cX3_standsInSteps 42 = .ok (.invokevirtual 37, 3) := by decide +kernel
theorem dX3_standsInSteps_45 : decode cX3_standsInSteps 45 = .ok (.iload_n 2, 1) := by decide +kernel
theorem dX3_standsInSteps_46 : decode cX3_standsInSteps 46 = .ok (.if_icmp .eq 7, 3) := by decide +kernel
theorem dX3_standsInSteps_49 : decode cX3_standsInSteps 49 = .ok (.iconst 1, 1) := by decide +kernel
theorem dX3_standsInSteps_50 : decode cX3_standsInSteps 50 = .ok (.goto 4, 3) := by decide +kernel
theorem dX3_standsInSteps_53 : decode cX3_standsInSteps 53 = .ok (.iconst 0, 1) := by decide +kernel
theorem dX3_standsInSteps_54 : decode cX3_standsInSteps 54 = .ok (.ireturn, 1) := by decide +kernel
theorem dX3_standsInSteps_55 : decode cX3_standsInSteps 55 = .ok (.aload_n 0, 1) := by decide +kernel
theorem dX3_standsInSteps_56 : decode cX3_standsInSteps 56 = .ok (.iload_n 1, 1) := by decide +kernel
theorem dX3_standsInSteps_57 : decode cX3_standsInSteps 57 = .ok (.invokevirtual 23, 3) := by decide +kernel
theorem dX3_standsInSteps_60 : decode cX3_standsInSteps 60 = .ok (.bipush 62, 2) := by decide +kernel
theorem dX3_standsInSteps_62 : decode cX3_standsInSteps 62 = .ok (.if_icmp .ne 5, 3) := by decide +kernel
theorem dX3_standsInSteps_65 : decode cX3_standsInSteps 65 = .ok (.iconst 1, 1) := by decide +kernel
theorem dX3_standsInSteps_66 : decode cX3_standsInSteps 66 = .ok (.ireturn, 1) := by decide +kernel
theorem dX3_standsInSteps_67 : decode cX3_standsInSteps 67 = .ok (.aload_n 0, 1) := by decide +kernel
theorem dX3_standsInSteps_68 : decode cX3_standsInSteps 68 = .ok (.iload_n 1, 1) := by decide +kernel
theorem dX3_standsInSteps_69 : decode cX3_standsInSteps 69 = .ok (.invokevirtual 23, 3) := by decide +kernel
theorem dX3_standsInSteps_72 : decode cX3_standsInSteps 72 = .ok (.bipush 44, 2) := by decide +kernel
theorem dX3_standsInSteps_74 : decode cX3_standsInSteps 74 = .ok (.if_icmp .ne 19, 3) := by decide +kernel
theorem dX3_standsInSteps_77 : decode cX3_standsInSteps 77 = .ok (.aload_n 0, 1) := by decide +kernel
theorem dX3_standsInSteps_78 : decode cX3_standsInSteps 78 = .ok (.iload_n 1, 1) := by decide +kernel
theorem dX3_standsInSteps_79 : decode cX3_standsInSteps 79 = .ok (.iconst 2, 1) := by decide +kernel
theorem dX3_standsInSteps_80 : decode cX3_standsInSteps 80 = .ok (.isub, 1) := by decide +kernel
theorem dX3_standsInSteps_81 : decode cX3_standsInSteps 81 = .ok (.invokevirtual 23, 3) := by decide +kernel
theorem dX3_standsInSteps_84 : decode cX3_standsInSteps 84 = .ok (.bipush 62, 2) := by decide +kernel
theorem dX3_standsInSteps_86 : decode cX3_standsInSteps 86 = .ok (.if_icmp .ne 7, 3) := by decide +kernel
theorem dX3_standsInSteps_89 : decode cX3_standsInSteps 89 = .ok (.iconst 1, 1) := by decide +kernel
theorem dX3_standsInSteps_90 : decode cX3_standsInSteps 90 = .ok (.goto 4, 3) := by decide +kernel
theorem dX3_standsInSteps_93 : decode cX3_standsInSteps 93 = .ok (.iconst 0, 1) := by decide +kernel
theorem dX3_standsInSteps_94 : decode cX3_standsInSteps 94 = .ok (.ireturn, 1) := by decide +kernel
set_option maxRecDepth 20000 in
theorem ggX3_faultAsQuarrel_X3_standsInQuarrel : GoodIn wsX3_faultAsQuarrel wsX3_standsInQuarrel := goodIn_r _ [6, 7, 8, 9, 5, 10, 11, 12, 13, 14, 1, 15, 16, 17, 18, 19, 20, 21, 22, 23, 24, 25, 26, 27, 28, 29, 30, 31] (by decide +kernel) (by decide +kernel)
set_option maxRecDepth 20000 in
theorem gX3_faultAsQuarrel_X3_standsInQuarrel : GoodIn wsX3_faultAsQuarrel (wsV RX3 40 RX3 yX3_standsInQuarrel wsX3_standsInQuarrel) := goodIn_app (goodIn_of _ (by decide +kernel)) ggX3_faultAsQuarrel_X3_standsInQuarrel
theorem dX3_faultAsQuarrel_0 : decode cX3_faultAsQuarrel 0 = .ok (.iconst 0, 1) := by decide +kernel
theorem dX3_faultAsQuarrel_1 : decode cX3_faultAsQuarrel 1 = .ok (.istore_n 1, 1) := by decide +kernel
theorem dX3_faultAsQuarrel_2 : decode cX3_faultAsQuarrel 2 = .ok (.iload_n 1, 1) := by decide +kernel
theorem dX3_faultAsQuarrel_3 : decode cX3_faultAsQuarrel 3 = .ok (.aload_n 0, 1) := by decide +kernel
theorem dX3_faultAsQuarrel_4 : decode cX3_faultAsQuarrel 4 = .ok (.getfield 15, 3) := by decide +kernel
theorem dX3_faultAsQuarrel_7 : decode cX3_faultAsQuarrel 7 = .ok (.if_icmp .ge 19, 3) := by decide +kernel
theorem dX3_faultAsQuarrel_10 : decode cX3_faultAsQuarrel 10 = .ok (.aload_n 0, 1) := by decide +kernel
theorem dX3_faultAsQuarrel_11 : decode cX3_faultAsQuarrel 11 = .ok (.iload_n 1, 1) := by decide +kernel
theorem dX3_faultAsQuarrel_12 : decode cX3_faultAsQuarrel 12 = .ok (.invokevirtual 40, 3) := by decide +kernel
theorem dX3_faultAsQuarrel_15 : decode cX3_faultAsQuarrel 15 = .ok (.ifCond .ne 5, 3) := by decide +kernel
theorem dX3_faultAsQuarrel_18 : decode cX3_faultAsQuarrel 18 = .ok (.iload_n 1, 1) := by decide +kernel
theorem dX3_faultAsQuarrel_19 : decode cX3_faultAsQuarrel 19 = .ok (.ireturn, 1) := by decide +kernel
theorem dX3_faultAsQuarrel_20 : decode cX3_faultAsQuarrel 20 = .ok (.iinc 1 1, 3) := by decide +kernel
theorem dX3_faultAsQuarrel_23 : decode cX3_faultAsQuarrel 23 = .ok (.goto (-21), 3) := by decide +kernel
theorem dX3_faultAsQuarrel_26 : decode cX3_faultAsQuarrel 26 = .ok (.aload_n 0, 1) := by decide +kernel
theorem dX3_faultAsQuarrel_27 : decode cX3_faultAsQuarrel 27 = .ok (.getfield 15, 3) := by decide +kernel
theorem dX3_faultAsQuarrel_30 : decode cX3_faultAsQuarrel 30 = .ok (.ifCond .le 16, 3) := by decide +kernel
theorem dX3_faultAsQuarrel_33 : decode cX3_faultAsQuarrel 33 = .ok (.aload_n 0, 1) := by decide +kernel
theorem dX3_faultAsQuarrel_34 : decode cX3_faultAsQuarrel 34 = .ok (.getfield 15, 3) := by decide +kernel
theorem dX3_faultAsQuarrel_37 : decode cX3_faultAsQuarrel 37 = .ok (.iconst 2, 1) := by decide +kernel
theorem dX3_faultAsQuarrel_38 : decode cX3_faultAsQuarrel 38 = .ok (.irem, 1) := by decide +kernel
theorem dX3_faultAsQuarrel_39 : decode cX3_faultAsQuarrel 39 = .ok (.ifCond .ne 7, 3) := by decide +kernel
theorem dX3_faultAsQuarrel_42 : decode cX3_faultAsQuarrel 42 = .ok (.iconst 1, 1) := by decide +kernel
theorem dX3_faultAsQuarrel_43 : decode cX3_faultAsQuarrel 43 = .ok (.goto 4, 3) := by decide +kernel
theorem dX3_faultAsQuarrel_46 : decode cX3_faultAsQuarrel 46 = .ok (.iconst 0, 1) := by decide +kernel
theorem dX3_faultAsQuarrel_47 : decode cX3_faultAsQuarrel 47 = .ok (.istore_n 1, 1) := by decide +kernel
theorem dX3_faultAsQuarrel_48 : decode cX3_faultAsQuarrel 48 = .ok (.iload_n 1, 1) := by decide +kernel
theorem dX3_faultAsQuarrel_49 : decode cX3_faultAsQuarrel 49 = .ok (.ifCond .eq 8, 3) := by decide +kernel
theorem dX3_faultAsQuarrel_52 : decode cX3_faultAsQuarrel 52 = .ok (.bipush (-6), 2) := by decide +kernel
theorem dX3_faultAsQuarrel_54 : decode cX3_faultAsQuarrel 54 = .ok (.goto 7, 3) := by decide +kernel
theorem dX3_faultAsQuarrel_57 : decode cX3_faultAsQuarrel 57 = .ok (.aload_n 0, 1) := by decide +kernel
theorem dX3_faultAsQuarrel_58 : decode cX3_faultAsQuarrel 58 = .ok (.getfield 15, 3) := by decide +kernel
theorem dX3_faultAsQuarrel_61 : decode cX3_faultAsQuarrel 61 = .ok (.ireturn, 1) := by decide +kernel
set_option maxRecDepth 20000 in
theorem ggX3_standsInQuarrel_X3_insultAt : GoodIn wsX3_standsInQuarrel wsX3_insultAt := goodIn_r _ [5, 6, 7, 8, 4, 9, 10, 11, 12, 13, 14, 15, 16, 17, 18, 19, 26, 27] (by decide +kernel) (by decide +kernel)
set_option maxRecDepth 20000 in
theorem gX3_standsInQuarrel_X3_insultAt : GoodIn wsX3_standsInQuarrel (wsV RX3 37 RX3 yX3_insultAt wsX3_insultAt) := goodIn_app (goodIn_of _ (by decide +kernel)) ggX3_standsInQuarrel_X3_insultAt
set_option maxRecDepth 20000 in
theorem ggX3_standsInQuarrel_X3_manAt : GoodIn wsX3_standsInQuarrel wsX3_manAt := goodIn_r _ [23, 6, 7, 8, 4, 9, 10, 11, 12, 13, 14, 24, 25, 17, 18, 19, 26, 27] (by decide +kernel) (by decide +kernel)
set_option maxRecDepth 20000 in
theorem gX3_standsInQuarrel_X3_manAt : GoodIn wsX3_standsInQuarrel (wsV RX3 43 RX3 yX3_manAt wsX3_manAt) := goodIn_app (goodIn_of _ (by decide +kernel)) ggX3_standsInQuarrel_X3_manAt
theorem dX3_standsInQuarrel_0 : decode cX3_standsInQuarrel 0 = .ok (.iload_n 1, 1) := by decide +kernel
theorem dX3_standsInQuarrel_1 : decode cX3_standsInQuarrel 1 = .ok (.iconst 2, 1) := by decide +kernel
theorem dX3_standsInQuarrel_2 : decode cX3_standsInQuarrel 2 = .ok (.irem, 1) := by decide +kernel
theorem dX3_standsInQuarrel_3 : decode cX3_standsInQuarrel 3 = .ok (.iconst 1, 1) := by decide +kernel
theorem dX3_standsInQuarrel_4 : decode cX3_standsInQuarrel 4 = .ok (.if_icmp .ne 17, 3) := by decide +kernel
theorem dX3_standsInQuarrel_7 : decode cX3_standsInQuarrel 7 = .ok (.aload_n 0, 1) := by decide +kernel
theorem dX3_standsInQuarrel_8 : decode cX3_standsInQuarrel 8 = .ok (.iload_n 1, 1) := by decide +kernel
theorem dX3_standsInQuarrel_9 : decode cX3_standsInQuarrel 9 = .ok (.invokevirtual 37, 3) := by decide +kernel
theorem dX3_standsInQuarrel_12 : decode cX3_standsInQuarrel 12 = .ok (.ifCond .lt 7, 3) := by decide +kernel
theorem dX3_standsInQuarrel_15 : decode cX3_standsInQuarrel 15 = .ok (.iconst 1, 1) := by decide +kernel
theorem dX3_standsInQuarrel_16 : decode cX3_standsInQuarrel 16 = .ok (.goto 4, 3) := by decide +kernel
theorem dX3_standsInQuarrel_19 : decode cX3_standsInQuarrel 19 = .ok (.iconst 0, 1) := by decide +kernel
theorem dX3_standsInQuarrel_20 : decode cX3_standsInQuarrel 20 = .ok (.ireturn, 1) := by decide +kernel
theorem dX3_standsInQuarrel_21 : decode cX3_standsInQuarrel 21 = .ok (.aload_n 0, 1) := by decide +kernel
theorem dX3_standsInQuarrel_22 : decode cX3_standsInQuarrel 22 = .ok (.iload_n 1, 1) := by decide +kernel
theorem dX3_standsInQuarrel_23 : decode cX3_standsInQuarrel 23 = .ok (.invokevirtual 43, 3) := by decide +kernel
theorem dX3_standsInQuarrel_26 : decode cX3_standsInQuarrel 26 = .ok (.ifCond .lt 22, 3) := by decide +kernel
theorem dX3_standsInQuarrel_29 : decode cX3_standsInQuarrel 29 = .ok (.aload_n 0, 1) := by decide +kernel
theorem dX3_standsInQuarrel_30 : decode cX3_standsInQuarrel 30 = .ok (.iload_n 1, 1) := by decide +kernel
theorem dX3_standsInQuarrel_31 : decode cX3_standsInQuarrel 31 = .ok (.invokevirtual 43, 3) := by decide +kernel
theorem dX3_standsInQuarrel_34 : decode cX3_standsInQuarrel 34 = .ok (.aload_n 0, 1) := by decide +kernel
theorem dX3_standsInQuarrel_35 : decode cX3_standsInQuarrel 35 = .ok (.iload_n 1, 1) := by decide +kernel
theorem dX3_standsInQuarrel_36 : decode cX3_standsInQuarrel 36 = .ok (.iconst 2, 1) := by decide +kernel
theorem dX3_standsInQuarrel_37 : decode cX3_standsInQuarrel 37 = .ok (.isub, 1) := by decide +kernel
theorem dX3_standsInQuarrel_38 : decode cX3_standsInQuarrel 38 = .ok (.invokevirtual 43, 3) := by decide +kernel
theorem dX3_standsInQuarrel_41 : decode cX3_standsInQuarrel 41 = .ok (.if_icmp .eq 7, 3) := by decide +kernel
theorem dX3_standsInQuarrel_44 : decode cX3_standsInQuarrel 44 = .ok (.iconst 1, 1) := by decide +kernel
theorem dX3_standsInQuarrel_45 : decode cX3_standsInQuarrel 45 = .ok (.goto 4, 3) := by decide +kernel
theorem dX3_standsInQuarrel_48 : decode cX3_standsInQuarrel 48 = .ok (.iconst 0, 1) := by decide +kernel
theorem dX3_standsInQuarrel_49 : decode cX3_standsInQuarrel 49 = .ok (.ireturn, 1) := by decide +kernel
set_option maxRecDepth 20000 in
theorem ggX4_init_X6_store : GoodIn wsX4_init wsX6_store := goodIn_r _ [12] (by decide +kernel) (by decide +kernel)
set_option maxRecDepth 20000 in
theorem gX4_init_X6_store_n28 : GoodIn wsX4_init (wsX6_store) := ggX4_init_X6_store
theorem dX4_init_0 : decode cX4_init 0 = .ok (.aload_n 0, 1) := by decide +kernel
theorem dX4_init_1 : decode cX4_init 1 = .ok (.invokespecial 3, 3) := by decide +kernel
theorem dX4_init_4 : decode cX4_init 4 = .ok (.aload_n 0, 1) := by decide +kernel
theorem dX4_init_5 : decode cX4_init 5 = .ok (.bipush 10, 2) := by decide +kernel
theorem dX4_init_7 : decode cX4_init 7 = .ok (.newarray .int, 2) := by decide +kernel
theorem dX4_init_9 : decode cX4_init 9 = .ok (.putfield 9, 3) := by decide +kernel
theorem dX4_init_12 : decode cX4_init 12 = .ok (.aload_n 0, 1) := by decide +kernel
theorem dX4_init_13 : decode cX4_init 13 = .ok (.bipush 10, 2) := by decide +kernel
theorem dX4_init_15 : decode cX4_init 15 = .ok (.newarray .int, 2) := by decide +kernel
theorem dX4_init_17 : decode cX4_init 17 = .ok (.putfield 15, 3) := by decide +kernel
theorem dX4_init_20 : decode cX4_init 20 = .ok (.aload_n 0, 1) := by decide +kernel
theorem dX4_init_21 : decode cX4_init 21 = .ok (.iconst 5, 1) := by decide +kernel
theorem dX4_init_22 : decode cX4_init 22 = .ok (.newarray .int, 2) := by decide +kernel
theorem dX4_init_24 : decode cX4_init 24 = .ok (.putfield 18, 3) := by decide +kernel
theorem dX4_init_27 : decode cX4_init 27 = .ok (.aload_n 0, 1) := by decide +kernel
theorem dX4_init_28 : decode cX4_init 28 = .ok (.iconst 5, 1) := by decide +kernel
theorem dX4_init_29 : decode cX4_init 29 = .ok (.newarray .int, 2) := by decide +kernel
theorem dX4_init_31 : decode cX4_init 31 = .ok (.putfield 21, 3) := by decide +kernel
theorem dX4_init_34 : decode cX4_init 34 = .ok (.aload_n 0, 1) := by decide +kernel
theorem dX4_init_35 : decode cX4_init 35 = .ok (.iconst 0, 1) := by decide +kernel
theorem dX4_init_36 : decode cX4_init 36 = .ok (.putfield 24, 3) := by decide +kernel
theorem dX4_init_39 : decode cX4_init 39 = .ok (.iconst 0, 1) := by decide +kernel
theorem dX4_init_40 : decode cX4_init 40 = .ok (.istore_n 1, 1) := by decide +kernel
theorem dX4_init_41 : decode cX4_init 41 = .ok (.iload_n 1, 1) := by decide +kernel
theorem dX4_init_42 : decode cX4_init 42 = .ok (.iconst 5, 1) := by decide +kernel
theorem dX4_init_43 : decode cX4_init 43 = .ok (.if_icmp .ge 30, 3) := by decide +kernel
theorem dX4_init_46 : decode cX4_init 46 = .ok (.aload_n 0, 1) := by decide +kernel
theorem dX4_init_47 : decode cX4_init 47 = .ok (.getfield 18, 3) := by decide +kernel
theorem dX4_init_50 : decode cX4_init 50 = .ok (.iload_n 1, 1) := by decide +kernel
theorem dX4_init_51 : decode cX4_init 51 = .ok (.bipush 63, 2) := by decide +kernel
theorem dX4_init_53 : decode cX4_init 53 = .ok (.invokestatic 28, 3) := by decide +kernel
theorem dX4_init_56 : decode cX4_init 56 = .ok (.aload_n 0, 1) := by decide +kernel
theorem dX4_init_57 : decode cX4_init 57 = .ok (.getfield 21, 3) := by decide +kernel
theorem dX4_init_60 : decode cX4_init 60 = .ok (.iload_n 1, 1) := by decide +kernel
theorem dX4_init_61 : decode cX4_init 61 = .ok (.sipush 1023, 3) := by decide +kernel
theorem dX4_init_64 : decode cX4_init 64 = .ok (.invokestatic 28, 3) := by decide +kernel
theorem dX4_init_67 : decode cX4_init 67 = .ok (.iinc 1 1, 3) := by decide +kernel
theorem dX4_init_70 : decode cX4_init 70 = .ok (.goto (-29), 3) := by decide +kernel
theorem dX4_init_73 : decode cX4_init 73 = .ok (.return_, 1) := by decide +kernel
set_option maxRecDepth 20000 in
theorem ggX4_worseThan_X6_at : GoodIn wsX4_worseThan wsX6_at := goodIn_r _ [4] (by decide +kernel) (by decide +kernel)
set_option maxRecDepth 20000 in
theorem gX4_worseThan_X6_at_n32 : GoodIn wsX4_worseThan (wsX6_at) := ggX4_worseThan_X6_at
theorem dX4_worseThan_0 : decode cX4_worseThan 0 = .ok (.aload_n 0, 1) := by decide +kernel
theorem dX4_worseThan_1 : decode cX4_worseThan 1 = .ok (.getfield 9, 3) := by decide +kernel
theorem dX4_worseThan_4 : decode cX4_worseThan 4 = .ok (.iload_n 1, 1) := by decide +kernel
theorem dX4_worseThan_5 : decode cX4_worseThan 5 = .ok (.invokestatic 32, 3) := by decide +kernel
theorem dX4_worseThan_8 : decode cX4_worseThan 8 = .ok (.ireturn, 1) := by decide +kernel
set_option maxRecDepth 20000 in
theorem ggX4_neededBy_X6_at : GoodIn wsX4_neededBy wsX6_at := goodIn_r _ [4] (by decide +kernel) (by decide +kernel)
set_option maxRecDepth 20000 in
theorem gX4_neededBy_X6_at_n32 : GoodIn wsX4_neededBy (wsX6_at) := ggX4_neededBy_X6_at
theorem dX4_neededBy_0 : decode cX4_neededBy 0 = .ok (.aload_n 0, 1) := by decide +kernel
theorem dX4_neededBy_1 : decode cX4_neededBy 1 = .ok (.getfield 15, 3) := by decide +kernel
theorem dX4_neededBy_4 : decode cX4_neededBy 4 = .ok (.iload_n 1, 1) := by decide +kernel
theorem dX4_neededBy_5 : decode cX4_neededBy 5 = .ok (.invokestatic 32, 3) := by decide +kernel
theorem dX4_neededBy_8 : decode cX4_neededBy 8 = .ok (.ireturn, 1) := by decide +kernel
set_option maxRecDepth 20000 in
theorem ggX4_traitsOf_X6_at : GoodIn wsX4_traitsOf wsX6_at := goodIn_r _ [4] (by decide +kernel) (by decide +kernel)
set_option maxRecDepth 20000 in
theorem gX4_traitsOf_X6_at_n32 : GoodIn wsX4_traitsOf (wsX6_at) := ggX4_traitsOf_X6_at
theorem dX4_traitsOf_0 : decode cX4_traitsOf 0 = .ok (.aload_n 0, 1) := by decide +kernel
theorem dX4_traitsOf_1 : decode cX4_traitsOf 1 = .ok (.getfield 18, 3) := by decide +kernel
theorem dX4_traitsOf_4 : decode cX4_traitsOf 4 = .ok (.iload_n 1, 1) := by decide +kernel
theorem dX4_traitsOf_5 : decode cX4_traitsOf 5 = .ok (.invokestatic 32, 3) := by decide +kernel
theorem dX4_traitsOf_8 : decode cX4_traitsOf 8 = .ok (.ireturn, 1) := by decide +kernel
set_option maxRecDepth 20000 in
theorem ggX4_knownTo_X6_at : GoodIn wsX4_knownTo wsX6_at := goodIn_r _ [4] (by decide +kernel) (by decide +kernel)
set_option maxRecDepth 20000 in
theorem gX4_knownTo_X6_at_n32 : GoodIn wsX4_knownTo (wsX6_at) := ggX4_knownTo_X6_at
theorem dX4_knownTo_0 : decode cX4_knownTo 0 = .ok (.aload_n 0, 1) := by decide +kernel
theorem dX4_knownTo_1 : decode cX4_knownTo 1 = .ok (.getfield 21, 3) := by decide +kernel
theorem dX4_knownTo_4 : decode cX4_knownTo 4 = .ok (.iload_n 1, 1) := by decide +kernel
theorem dX4_knownTo_5 : decode cX4_knownTo 5 = .ok (.invokestatic 32, 3) := by decide +kernel
theorem dX4_knownTo_8 : decode cX4_knownTo 8 = .ok (.ireturn, 1) := by decide +kernel
set_option maxRecDepth 20000 in
theorem ggX4_setStep_X6_isInsult : GoodIn wsX4_setStep wsX6_isInsult := goodIn_r _ [4, 5, 6, 3, 7] (by decide +kernel) (by decide +kernel)
set_option maxRecDepth 20000 in
theorem gX4_setStep_X6_isInsult_n36 : GoodIn wsX4_setStep (wsX6_isInsult) := ggX4_setStep_X6_isInsult
set_option maxRecDepth 20000 in
theorem ggX4_setStep_X4_worseThan : GoodIn wsX4_setStep wsX4_worseThan := goodIn_r _ [12, 1, 13, 3, 14, 17, 18, 19, 20, 21] (by decide +kernel) (by decide +kernel)
set_option maxRecDepth 20000 in
theorem gX4_setStep_X4_worseThan : GoodIn wsX4_setStep (wsV RX4 40 RX4 yX4_worseThan wsX4_worseThan) := goodIn_app (goodIn_of _ (by decide +kernel)) ggX4_setStep_X4_worseThan
set_option maxRecDepth 20000 in
theorem ggX4_setStep_X6_store : GoodIn wsX4_setStep wsX6_store := goodIn_r _ [16] (by decide +kernel) (by decide +kernel)
set_option maxRecDepth 20000 in
theorem gX4_setStep_X6_store_n28 : GoodIn wsX4_setStep (wsX6_store) := ggX4_setStep_X6_store
theorem dX4_setStep_0 : decode cX4_setStep 0 = .ok (.iload_n 1, 1) := by decide +kernel
theorem dX4_setStep_1 : decode cX4_setStep 1 = .ok (.invokestatic 36, 3) := by decide +kernel
theorem dX4_setStep_4 : decode cX4_setStep 4 = .ok (.ifCond .eq 10, 3) := by decide +kernel
theorem dX4_setStep_7 : decode cX4_setStep 7 = .ok (.iload_n 2, 1) := by decide +kernel
theorem dX4_setStep_8 : decode cX4_setStep 8 = .ok (.invokestatic 36, 3) := by decide +kernel
theorem dX4_setStep_11 : decode cX4_setStep 11 = .ok (.ifCond .ne 4, 3) := by decide +kernel
theorem dX4_setStep_14 : decode cX4_setStep 14 = .ok (.return_, 1) := by decide +kernel
theorem dX4_setStep_15 : decode cX4_setStep 15 = .ok (.aload_n 0, 1) := by decide +kernel
theorem dX4_setStep_16 : decode cX4_setStep 16 = .ok (.iload_n 1, 1) := by decide +kernel
theorem dX4_setStep_17 : decode cX4_setStep 17 = .ok (.invokevirtual 40, 3) := by decide +kernel
theorem dX4_setStep_20 : decode cX4_setStep 20 = .ok (.iconst 1, 1) := by decide +kernel
theorem dX4_setStep_21 : decode cX4_setStep 21 = .ok (.iload_n 2, 1) := by decide +kernel
theorem dX4_setStep_22 : decode cX4_setStep 22 = .ok (.ishl, 1) := by decide +kernel
theorem dX4_setStep_23 : decode cX4_setStep 23 = .ok (.iconst (-1), 1) := by decide +kernel
theorem dX4_setStep_24 : decode cX4_setStep 24 = .ok (.ixor, 1) := by decide +kernel
theorem dX4_setStep_25 : decode cX4_setStep 25 = .ok (.iand, 1) := by decide +kernel
theorem dX4_setStep_26 : decode cX4_setStep 26 = .ok (.istore 4, 2) := by decide +kernel
theorem dX4_setStep_28 : decode cX4_setStep 28 = .ok (.aload_n 0, 1) := by decide +kernel
theorem dX4_setStep_29 : decode cX4_setStep 29 = .ok (.getfield 9, 3) := by decide +kernel
theorem dX4_setStep_32 : decode cX4_setStep 32 = .ok (.iload_n 1, 1) := by decide +kernel
theorem dX4_setStep_33 : decode cX4_setStep 33 = .ok (.iload_n 3, 1) := by decide +kernel
theorem dX4_setStep_34 : decode cX4_setStep 34 = .ok (.ifCond .eq 12, 3) := by decide +kernel
theorem dX4_setStep_37 : decode cX4_setStep 37 = .ok (.iload 4, 2) := by decide +kernel
theorem dX4_setStep_39 : decode cX4_setStep 39 = .ok (.iconst 1, 1) := by decide +kernel
theorem dX4_setStep_40 : decode cX4_setStep 40 = .ok (.iload_n 2, 1) := by decide +kernel
theorem dX4_setStep_41 : decode cX4_setStep 41 = .ok (.ishl, 1) := by decide +kernel
theorem dX4_setStep_42 : decode cX4_setStep 42 = .ok (.ior, 1) := by decide +kernel
theorem dX4_setStep_43 : decode cX4_setStep 43 = .ok (.goto 5, 3) := by decide +kernel
theorem dX4_setStep_46 : decode cX4_setStep 46 = .ok (.iload 4, 2) := by decide +kernel
theorem dX4_setStep_48 : decode cX4_setStep 48 = .ok (.invokestatic 28, 3) := by decide +kernel
theorem dX4_setStep_51 : decode cX4_setStep 51 = .ok (.return_, 1) := by decide +kernel
set_option maxRecDepth 20000 in
theorem ggX4_setNeeded_X6_store : GoodIn wsX4_setNeeded wsX6_store := goodIn_r _ [4] (by decide +kernel) (by decide +kernel)
set_option maxRecDepth 20000 in
theorem gX4_setNeeded_X6_store_n28 : GoodIn wsX4_setNeeded (wsX6_store) := ggX4_setNeeded_X6_store
theorem dX4_setNeeded_0 : decode cX4_setNeeded 0 = .ok (.aload_n 0, 1) := by decide +kernel
theorem dX4_setNeeded_1 : decode cX4_setNeeded 1 = .ok (.getfield 15, 3) := by decide +kernel
theorem dX4_setNeeded_4 : decode cX4_setNeeded 4 = .ok (.iload_n 1, 1) := by decide +kernel
theorem dX4_setNeeded_5 : decode cX4_setNeeded 5 = .ok (.iload_n 2, 1) := by decide +kernel
theorem dX4_setNeeded_6 : decode cX4_setNeeded 6 = .ok (.invokestatic 28, 3) := by decide +kernel
theorem dX4_setNeeded_9 : decode cX4_setNeeded 9 = .ok (.return_, 1) := by decide +kernel
set_option maxRecDepth 20000 in
theorem ggX4_setTraits_X6_store : GoodIn wsX4_setTraits wsX6_store := goodIn_r _ [4] (by decide +kernel) (by decide +kernel)
set_option maxRecDepth 20000 in
theorem gX4_setTraits_X6_store_n28 : GoodIn wsX4_setTraits (wsX6_store) := ggX4_setTraits_X6_store
theorem dX4_setTraits_0 : decode cX4_setTraits 0 = .ok (.aload_n 0, 1) := by decide +kernel
theorem dX4_setTraits_1 : decode cX4_setTraits 1 = .ok (.getfield 18, 3) := by decide +kernel
theorem dX4_setTraits_4 : decode cX4_setTraits 4 = .ok (.iload_n 1, 1) := by decide +kernel
theorem dX4_setTraits_5 : decode cX4_setTraits 5 = .ok (.iload_n 2, 1) := by decide +kernel
theorem dX4_setTraits_6 : decode cX4_setTraits 6 = .ok (.invokestatic 28, 3) := by decide +kernel
theorem dX4_setTraits_9 : decode cX4_setTraits 9 = .ok (.return_, 1) := by decide +kernel
set_option maxRecDepth 20000 in
theorem ggX4_setKnown_X6_store : GoodIn wsX4_setKnown wsX6_store := goodIn_r _ [4] (by decide +kernel) (by decide +kernel)
set_option maxRecDepth 20000 in
theorem gX4_setKnown_X6_store_n28 : GoodIn wsX4_setKnown (wsX6_store) := ggX4_setKnown_X6_store
theorem dX4_setKnown_0 : decode cX4_setKnown 0 = .ok (.aload_n 0, 1) := by decide +kernel
theorem dX4_setKnown_1 : decode cX4_setKnown 1 = .ok (.getfield 21, 3) := by decide +kernel
theorem dX4_setKnown_4 : decode cX4_setKnown 4 = .ok (.iload_n 1, 1) := by decide +kernel
theorem dX4_setKnown_5 : decode cX4_setKnown 5 = .ok (.iload_n 2, 1) := by decide +kernel
theorem dX4_setKnown_6 : decode cX4_setKnown 6 = .ok (.invokestatic 28, 3) := by decide +kernel
theorem dX4_setKnown_9 : decode cX4_setKnown 9 = .ok (.return_, 1) := by decide +kernel
set_option maxRecDepth 20000 in
theorem ggX4_fitting_X4_traitsOf : GoodIn wsX4_fitting wsX4_traitsOf := goodIn_r _ [5, 6, 7, 8, 9, 15, 16, 17, 18, 19] (by decide +kernel) (by decide +kernel)
set_option maxRecDepth 20000 in
theorem gX4_fitting_X4_traitsOf : GoodIn wsX4_fitting (wsV RX4 44 RX4 yX4_traitsOf wsX4_traitsOf) := goodIn_app (goodIn_of _ (by decide +kernel)) ggX4_fitting_X4_traitsOf
set_option maxRecDepth 20000 in
theorem ggX4_fitting_X4_neededBy : GoodIn wsX4_fitting wsX4_neededBy := goodIn_r _ [13, 14, 7, 8, 9, 15, 16, 17, 18, 19] (by decide +kernel) (by decide +kernel)
set_option maxRecDepth 20000 in
theorem gX4_fitting_X4_neededBy : GoodIn wsX4_fitting (wsV RX4 47 RX4 yX4_neededBy wsX4_neededBy) := goodIn_app (goodIn_of _ (by decide +kernel)) ggX4_fitting_X4_neededBy
theorem dX4_fitting_0 : decode cX4_fitting 0 = .ok (.aload_n 0, 1) := by decide +kernel
theorem dX4_fitting_1 : decode cX4_fitting 1 = .ok (.iload_n 1, 1) := by decide +kernel
theorem dX4_fitting_2 : decode cX4_fitting 2 = .ok (.invokevirtual 44, 3) := by decide +kernel
theorem dX4_fitting_5 : decode cX4_fitting 5 = .ok (.istore_n 2, 1) := by decide +kernel
theorem dX4_fitting_6 : decode cX4_fitting 6 = .ok (.iconst 0, 1) := by decide +kernel
theorem dX4_fitting_7 : decode cX4_fitting 7 = .ok (.istore_n 3, 1) := by decide +kernel
theorem dX4_fitting_8 : decode cX4_fitting 8 = .ok (.iconst 0, 1) := by decide +kernel
theorem dX4_fitting_9 : decode cX4_fitting 9 = .ok (.istore 4, 2) := by decide +kernel
theorem dX4_fitting_11 : decode cX4_fitting 11 = .ok (.iload 4, 2) := by decide +kernel
theorem dX4_fitting_13 : decode cX4_fitting 13 = .ok (.bipush 10, 2) := by decide +kernel
theorem dX4_fitting_15 : decode cX4_fitting 15 = .ok (.if_icmp .ge 29, 3) := by decide +kernel
theorem dX4_fitting_18 : decode cX4_fitting 18 = .ok (.aload_n 0, 1) := by decide +kernel
theorem dX4_fitting_19 : decode cX4_fitting 19 = .ok (.iload 4, 2) := by decide +kernel
theorem dX4_fitting_21 : decode cX4_fitting 21 = .ok (.invokevirtual 47, 3) := by decide +kernel
theorem dX4_fitting_24 : decode cX4_fitting 24 = .ok (.iload_n 2, 1) := by decide +kernel
theorem dX4_fitting_25 : decode cX4_fitting 25 = .ok (.iconst (-1), 1) := by decide +kernel
theorem dX4_fitting_26 : decode cX4_fitting 26 = .ok (.ixor, 1) := by decide +kernel
theorem dX4_fitting_27 : decode cX4_fitting 27 = .ok (.iand, 1) := by decide +kernel
theorem dX4_fitting_28 : decode cX4_fitting 28 = .ok (.ifCond .ne 10, 3) := by decide +kernel
theorem dX4_fitting_31 : decode cX4_fitting 31 = .ok (.iload_n 3, 1) := by decide +kernel
theorem dX4_fitting_32 : decode cX4_fitting 32 = .ok (.iconst 1, 1) := by decide +kernel
theorem dX4_fitting_33 : decode cX4_fitting 33 = .ok (.iload 4, 2) := by decide +kernel
theorem dX4_fitting_35 : decode cX4_fitting 35 = .ok (.ishl, 1) := by decide +kernel
theorem dX4_fitting_36 : decode cX4_fitting 36 = .ok (.ior, 1) := by decide +kernel
theorem dX4_fitting_37 : decode cX4_fitting 37 = .ok (.istore_n 3, 1) := by decide +kernel
theorem dX4_fitting_38 : decode cX4_fitting 38 = .ok (.iinc 4 1, 3) := by decide +kernel
theorem dX4_fitting_41 : decode cX4_fitting 41 = .ok (.goto (-30), 3) := by decide +kernel
theorem dX4_fitting_44 : decode cX4_fitting 44 = .ok (.iload_n 3, 1) := by decide +kernel
theorem dX4_fitting_45 : decode cX4_fitting 45 = .ok (.ireturn, 1) := by decide +kernel
set_option maxRecDepth 20000 in
theorem ggX4_sayable_X4_knownTo : GoodIn wsX4_sayable wsX4_knownTo := goodIn_r _ [5, 6, 7, 8, 9, 24, 25, 26, 27, 28] (by decide +kernel) (by decide +kernel)
set_option maxRecDepth 20000 in
theorem gX4_sayable_X4_knownTo : GoodIn wsX4_sayable (wsV RX4 50 RX4 yX4_knownTo wsX4_knownTo) := goodIn_app (goodIn_of _ (by decide +kernel)) ggX4_sayable_X4_knownTo
set_option maxRecDepth 20000 in
theorem ggX4_sayable_X4_fitting : GoodIn wsX4_sayable wsX4_fitting := goodIn_r _ [13, 14, 15, 16, 4, 17, 18, 7, 8, 9, 19, 20, 21, 22, 23, 24, 25, 26, 27, 28] (by decide +kernel) (by decide +kernel)
set_option maxRecDepth 20000 in
theorem gX4_sayable_X4_fitting : GoodIn wsX4_sayable (wsV RX4 53 RX4 yX4_fitting wsX4_fitting) := goodIn_app (goodIn_of _ (by decide +kernel)) ggX4_sayable_X4_fitting
theorem dX4_sayable_0 : decode cX4_sayable 0 = .ok (.aload_n 0, 1) := by decide +kernel
theorem dX4_sayable_1 : decode cX4_sayable 1 = .ok (.iload_n 1, 1) := by decide +kernel
theorem dX4_sayable_2 : decode cX4_sayable 2 = .ok (.invokevirtual 50, 3) := by decide +kernel
theorem dX4_sayable_5 : decode cX4_sayable 5 = .ok (.aload_n 0, 1) := by decide +kernel
theorem dX4_sayable_6 : decode cX4_sayable 6 = .ok (.iload_n 2, 1) := by decide +kernel
theorem dX4_sayable_7 : decode cX4_sayable 7 = .ok (.invokevirtual 53, 3) := by decide +kernel
theorem dX4_sayable_10 : decode cX4_sayable 10 = .ok (.iand, 1) := by decide +kernel
theorem dX4_sayable_11 : decode cX4_sayable 11 = .ok (.ireturn, 1) := by decide +kernel
set_option maxRecDepth 20000 in
theorem ggX4_countSteps_X4_worseThan : GoodIn wsX4_countSteps wsX4_worseThan := goodIn_r _ [5, 6, 7, 8, 9, 17, 18, 19, 20, 21] (by decide +kernel) (by decide +kernel)
set_option maxRecDepth 20000 in
theorem gX4_countSteps_X4_worseThan : GoodIn wsX4_countSteps (wsV RX4 40 RX4 yX4_worseThan wsX4_worseThan) := goodIn_app (goodIn_of _ (by decide +kernel)) ggX4_countSteps_X4_worseThan
set_option maxRecDepth 20000 in
theorem ggX4_countSteps_J6_bitCount_0f7a4 : GoodIn wsX4_countSteps wsJ6_bitCount_0f7a4 := goodIn_r _ [13, 14, 15, 16] (by decide +kernel) (by decide +kernel)
set_option maxRecDepth 20000 in
theorem gX4_countSteps_J6_bitCount_0f7a4 : GoodIn wsX4_countSteps (va_wsS RX4 56 yJ6_bitCount_0f7a4 wsJ6_bitCount_0f7a4) := goodIn_app (goodIn_of _ (by decide +kernel)) ggX4_countSteps_J6_bitCount_0f7a4
theorem dX4_countSteps_0 : decode cX4_countSteps 0 = .ok (.iconst 0, 1) := by decide +kernel
theorem dX4_countSteps_1 : decode cX4_countSteps 1 = .ok (.istore_n 1, 1) := by decide +kernel
theorem dX4_countSteps_2 : decode cX4_countSteps 2 = .ok (.iconst 0, 1) := by decide +kernel
theorem dX4_countSteps_3 : decode cX4_countSteps 3 = .ok (.istore_n 2, 1) := by decide +kernel
theorem dX4_countSteps_4 : decode cX4_countSteps 4 = .ok (.iload_n 2, 1) := by decide +kernel
theorem dX4_countSteps_5 : decode cX4_countSteps 5 = .ok (.bipush 10, 2) := by decide +kernel
theorem dX4_countSteps_7 : decode cX4_countSteps 7 = .ok (.if_icmp .ge 20, 3) := by decide +kernel
theorem dX4_countSteps_10 : decode cX4_countSteps 10 = .ok (.iload_n 1, 1) := by decide +kernel
theorem dX4_countSteps_11 : decode cX4_countSteps 11 = .ok (.aload_n 0, 1) := by decide +kernel
theorem dX4_countSteps_12 : decode cX4_countSteps 12 = .ok (.iload_n 2, 1) := by decide +kernel
theorem dX4_countSteps_13 : decode cX4_countSteps 13 = .ok (.invokevirtual 40, 3) := by decide +kernel
theorem dX4_countSteps_16 : decode cX4_countSteps 16 = .ok (.invokestatic 56, 3) := by decide +kernel
theorem dX4_countSteps_19 : decode cX4_countSteps 19 = .ok (.iadd, 1) := by decide +kernel
theorem dX4_countSteps_20 : decode cX4_countSteps 20 = .ok (.istore_n 1, 1) := by decide +kernel
theorem dX4_countSteps_21 : decode cX4_countSteps 21 = .ok (.iinc 2 1, 3) := by decide +kernel
theorem dX4_countSteps_24 : decode cX4_countSteps 24 = .ok (.goto (-20), 3) := by decide +kernel
theorem dX4_countSteps_27 : decode cX4_countSteps 27 = .ok (.iload_n 1, 1) := by decide +kernel
theorem dX4_countSteps_28 : decode cX4_countSteps 28 = .ok (.ireturn, 1) := by decide +kernel
set_option maxRecDepth 20000 in
theorem ggX4_addSteps_X4_worseThan : GoodIn wsX4_addSteps wsX4_worseThan := goodIn_r _ [6, 1, 7, 8, 9, 12, 13, 14, 15, 16] (by decide +kernel) (by decide +kernel)
set_option maxRecDepth 20000 in
theorem gX4_addSteps_X4_worseThan : GoodIn wsX4_addSteps (wsV RX4 40 RX4 yX4_worseThan wsX4_worseThan) := goodIn_app (goodIn_of _ (by decide +kernel)) ggX4_addSteps_X4_worseThan
set_option maxRecDepth 20000 in
theorem ggX4_addSteps_X6_store : GoodIn wsX4_addSteps wsX6_store := goodIn_r _ [11] (by decide +kernel) (by decide +kernel)
set_option maxRecDepth 20000 in
theorem gX4_addSteps_X6_store_n28 : GoodIn wsX4_addSteps (wsX6_store) := ggX4_addSteps_X6_store
theorem dX4_addSteps_0 : decode cX4_addSteps 0 = .ok (.iconst 0, 1) := by decide +kernel
theorem dX4_addSteps_1 : decode cX4_addSteps 1 = .ok (.istore_n 2, 1) := by decide +kernel
theorem dX4_addSteps_2 : decode cX4_addSteps 2 = .ok (.iload_n 2, 1) := by decide +kernel
theorem dX4_addSteps_3 : decode cX4_addSteps 3 = .ok (.bipush 10, 2) := by decide +kernel
theorem dX4_addSteps_5 : decode cX4_addSteps 5 = .ok (.if_icmp .ge 28, 3) := by decide +kernel
theorem dX4_addSteps_8 : decode cX4_addSteps 8 = .ok (.aload_n 0, 1) := by decide +kernel
theorem dX4_addSteps_9 : decode cX4_addSteps 9 = .ok (.getfield 9, 3) := by decide +kernel
theorem dX4_addSteps_12 : decode cX4_addSteps 12 = .ok (.iload_n 2, 1) := by decide +kernel
theorem dX4_addSteps_13 : decode cX4_addSteps 13 = .ok (.aload_n 0, 1) := by decide +kernel
theorem dX4_addSteps_14 : decode cX4_addSteps 14 = .ok (.iload_n 2, 1) := by decide +kernel
theorem dX4_addSteps_15 : decode cX4_addSteps 15 = .ok (.invokevirtual 40, 3) := by decide +kernel
theorem dX4_addSteps_18 : decode cX4_addSteps 18 = .ok (.aload_n 1, 1) := by decide +kernel
theorem dX4_addSteps_19 : decode cX4_addSteps 19 = .ok (.iload_n 2, 1) := by decide +kernel
theorem dX4_addSteps_20 : decode cX4_addSteps 20 = .ok (.invokevirtual 40, 3) := by decide +kernel
theorem dX4_addSteps_23 : decode cX4_addSteps 23 = .ok (.ior, 1) := by decide +kernel
theorem dX4_addSteps_24 : decode cX4_addSteps 24 = .ok (.invokestatic 28, 3) := by decide +kernel
theorem dX4_addSteps_27 : decode cX4_addSteps 27 = .ok (.iinc 2 1, 3) := by decide +kernel
theorem dX4_addSteps_30 : decode cX4_addSteps 30 = .ok (.goto (-28), 3) := by decide +kernel
theorem dX4_addSteps_33 : decode cX4_addSteps 33 = .ok (.return_, 1) := by decide +kernel
set_option maxRecDepth 20000 in
theorem ggX4_copy_X4_worseThan : GoodIn wsX4_copy wsX4_worseThan := goodIn_r _ [10, 1, 11, 12, 13, 28, 29, 30, 31, 32] (by decide +kernel) (by decide +kernel)
set_option maxRecDepth 20000 in
theorem gX4_copy_X4_worseThan : GoodIn wsX4_copy (wsV RX4 40 RX4 yX4_worseThan wsX4_worseThan) := goodIn_app (goodIn_of _ (by decide +kernel)) ggX4_copy_X4_worseThan
set_option maxRecDepth 20000 in
theorem ggX4_copy_X6_store : GoodIn wsX4_copy wsX6_store := goodIn_r _ [15] (by decide +kernel) (by decide +kernel)
set_option maxRecDepth 20000 in
theorem gX4_copy_X6_store_n28 : GoodIn wsX4_copy (wsX6_store) := ggX4_copy_X6_store
set_option maxRecDepth 20000 in
theorem ggX4_copy_X4_neededBy : GoodIn wsX4_copy wsX4_neededBy := goodIn_r _ [19, 2, 11, 12, 13, 28, 29, 30, 31, 32] (by decide +kernel) (by decide +kernel)
set_option maxRecDepth 20000 in
theorem gX4_copy_X4_neededBy : GoodIn wsX4_copy (wsV RX4 47 RX4 yX4_neededBy wsX4_neededBy) := goodIn_app (goodIn_of _ (by decide +kernel)) ggX4_copy_X4_neededBy
set_option maxRecDepth 20000 in
theorem ggX4_copy_X4_traitsOf : GoodIn wsX4_copy wsX4_traitsOf := goodIn_r _ [23, 3, 11, 12, 13, 28, 29, 30, 31, 32] (by decide +kernel) (by decide +kernel)
set_option maxRecDepth 20000 in
theorem gX4_copy_X4_traitsOf : GoodIn wsX4_copy (wsV RX4 44 RX4 yX4_traitsOf wsX4_traitsOf) := goodIn_app (goodIn_of _ (by decide +kernel)) ggX4_copy_X4_traitsOf
set_option maxRecDepth 20000 in
theorem ggX4_copy_X4_knownTo : GoodIn wsX4_copy wsX4_knownTo := goodIn_r _ [27, 4, 11, 12, 13, 28, 29, 30, 31, 32] (by decide +kernel) (by decide +kernel)
set_option maxRecDepth 20000 in
theorem gX4_copy_X4_knownTo : GoodIn wsX4_copy (wsV RX4 50 RX4 yX4_knownTo wsX4_knownTo) := goodIn_app (goodIn_of _ (by decide +kernel)) ggX4_copy_X4_knownTo
theorem dX4_copy_0 : decode cX4_copy 0 = .ok (.iconst 0, 1) := by decide +kernel
theorem dX4_copy_1 : decode cX4_copy 1 = .ok (.istore_n 2, 1) := by decide +kernel
theorem dX4_copy_2 : decode cX4_copy 2 = .ok (.iload_n 2, 1) := by decide +kernel
theorem dX4_copy_3 : decode cX4_copy 3 = .ok (.bipush 10, 2) := by decide +kernel
theorem dX4_copy_5 : decode cX4_copy 5 = .ok (.if_icmp .ge 35, 3) := by decide +kernel
theorem dX4_copy_8 : decode cX4_copy 8 = .ok (.aload_n 0, 1) := by decide +kernel
theorem dX4_copy_9 : decode cX4_copy 9 = .ok (.getfield 9, 3) := by decide +kernel
theorem dX4_copy_12 : decode cX4_copy 12 = .ok (.iload_n 2, 1) := by decide +kernel
theorem dX4_copy_13 : decode cX4_copy 13 = .ok (.aload_n 1, 1) := by decide +kernel
theorem dX4_copy_14 : decode cX4_copy 14 = .ok (.iload_n 2, 1) := by decide +kernel
theorem dX4_copy_15 : decode cX4_copy 15 = .ok (.invokevirtual 40, 3) := by decide +kernel
theorem dX4_copy_18 : decode cX4_copy 18 = .ok (.invokestatic 28, 3) := by decide +kernel
theorem dX4_copy_21 : decode cX4_copy 21 = .ok (.aload_n 0, 1) := by decide +kernel
theorem dX4_copy_22 : decode cX4_copy 22 = .ok (.getfield 15, 3) := by decide +kernel
theorem dX4_copy_25 : decode cX4_copy 25 = .ok (.iload_n 2, 1) := by decide +kernel
theorem dX4_copy_26 : decode cX4_copy 26 = .ok (.aload_n 1, 1) := by decide +kernel
theorem dX4_copy_27 : decode cX4_copy 27 = .ok (.iload_n 2, 1) := by decide +kernel
theorem dX4_copy_28 : decode cX4_copy 28 = .ok (.invokevirtual 47, 3) := by decide +kernel
theorem dX4_copy_31 : decode cX4_copy 31 = .ok (.invokestatic 28, 3) := by decide +kernel
theorem dX4_copy_34 : decode cX4_copy 34 = .ok (.iinc 2 1, 3) := by decide +kernel
theorem dX4_copy_37 : decode cX4_copy 37 = .ok (.goto (-35), 3) := by decide +kernel
theorem dX4_copy_40 : decode cX4_copy 40 = .ok (.iconst 0, 1) := by decide +kernel
theorem dX4_copy_41 : decode cX4_copy 41 = .ok (.istore_n 2, 1) := by decide +kernel
theorem dX4_copy_42 : decode cX4_copy 42 = .ok (.iload_n 2, 1) := by decide +kernel
theorem dX4_copy_43 : decode cX4_copy 43 = .ok (.iconst 5, 1) := by decide +kernel
theorem dX4_copy_44 : decode cX4_copy 44 = .ok (.if_icmp .ge 35, 3) := by decide +kernel
theorem dX4_copy_47 : decode cX4_copy 47 = .ok (.aload_n 0, 1) := by decide +kernel
theorem dX4_copy_48 : decode cX4_copy 48 = .ok (.getfield 18, 3) := by decide +kernel
theorem dX4_copy_51 : decode cX4_copy 51 = .ok (.iload_n 2, 1) := by decide +kernel
theorem dX4_copy_52 : decode cX4_copy 52 = .ok (.aload_n 1, 1) := by decide +kernel
theorem dX4_copy_53 : decode cX4_copy 53 = .ok (.iload_n 2, 1) := by decide +kernel
theorem dX4_copy_54 : decode cX4_copy 54 = .ok (.invokevirtual 44, 3) := by decide +kernel
theorem dX4_copy_57 : decode cX4_copy 57 = .ok (.invokestatic 28, 3) := by decide +kernel
theorem dX4_copy_60 : decode cX4_copy 60 = .ok (.aload_n 0, 1) := by decide +kernel
theorem dX4_copy_61 : decode cX4_copy 61 = .ok (.getfield 21, 3) := by decide +kernel
theorem dX4_copy_64 : decode cX4_copy 64 = .ok (.iload_n 2, 1) := by decide +kernel
theorem dX4_copy_65 : decode cX4_copy 65 = .ok (.aload_n 1, 1) := by decide +kernel
theorem dX4_copy_66 : decode cX4_copy 66 = .ok (.iload_n 2, 1) := by decide +kernel
theorem dX4_copy_67 : decode cX4_copy 67 = .ok (.invokevirtual 50, 3) := by decide +kernel
theorem dX4_copy_70 : decode cX4_copy 70 = .ok (.invokestatic 28, 3) := by decide +kernel
theorem dX4_copy_73 : decode cX4_copy 73 = .ok (.iinc 2 1, 3) := by decide +kernel
