theorem dX7_init_15 : decode cX7_init 15 = .ok (.newarray .int, 2) := by decide +kernel
theorem dX7_init_17 : decode cX7_init 17 = .ok (.putfield 13, 3) := by decide +kernel
theorem dX7_init_20 : decode cX7_init 20 = .ok (.aload_n 0, 1) := by decide +kernel
theorem dX7_init_21 : decode cX7_init 21 = .ok (.bipush 10, 2) := by decide +kernel
theorem dX7_init_23 : decode cX7_init 23 = .ok (.newarray .int, 2) := by decide +kernel
theorem dX7_init_25 : decode cX7_init 25 = .ok (.putfield 16, 3) := by decide +kernel
theorem dX7_init_28 : decode cX7_init 28 = .ok (.aload_n 0, 1) := by decide +kernel
theorem dX7_init_29 : decode cX7_init 29 = .ok (.iconst 5, 1) := by decide +kernel
theorem dX7_init_30 : decode cX7_init 30 = .ok (.newarray .int, 2) := by decide +kernel
theorem dX7_init_32 : decode cX7_init 32 = .ok (.putfield 19, 3) := by decide +kernel
theorem dX7_init_35 : decode cX7_init 35 = .ok (.aload_n 0, 1) := by decide +kernel
theorem dX7_init_36 : decode cX7_init 36 = .ok (.iconst 5, 1) := by decide +kernel
theorem dX7_init_37 : decode cX7_init 37 = .ok (.newarray .int, 2) := by decide +kernel
theorem dX7_init_39 : decode cX7_init 39 = .ok (.putfield 22, 3) := by decide +kernel
theorem dX7_init_42 : decode cX7_init 42 = .ok (.aload_n 0, 1) := by decide +kernel
theorem dX7_init_43 : decode cX7_init 43 = .ok (.sipush 20480, 3) := by decide +kernel
theorem dX7_init_46 : decode cX7_init 46 = .ok (.newarray .int, 2) := by decide +kernel
theorem dX7_init_48 : decode cX7_init 48 = .ok (.putfield 25, 3) := by decide +kernel
theorem dX7_init_51 : decode cX7_init 51 = .ok (.aload_n 0, 1) := by decide +kernel
theorem dX7_init_52 : decode cX7_init 52 = .ok (.iconst 2, 1) := by decide +kernel
theorem dX7_init_53 : decode cX7_init 53 = .ok (.newarray .int, 2) := by decide +kernel
theorem dX7_init_55 : decode cX7_init 55 = .ok (.putfield 28, 3) := by decide +kernel
theorem dX7_init_58 : decode cX7_init 58 = .ok (.aload_n 0, 1) := by decide +kernel
theorem dX7_init_59 : decode cX7_init 59 = .ok (.iconst 5, 1) := by decide +kernel
theorem dX7_init_60 : decode cX7_init 60 = .ok (.newarray .int, 2) := by decide +kernel
theorem dX7_init_62 : decode cX7_init 62 = .ok (.putfield 31, 3) := by decide +kernel
theorem dX7_init_65 : decode cX7_init 65 = .ok (.aload_n 0, 1) := by decide +kernel
theorem dX7_init_66 : decode cX7_init 66 = .ok (.iconst 5, 1) := by decide +kernel
theorem dX7_init_67 : decode cX7_init 67 = .ok (.newarray .int, 2) := by decide +kernel
theorem dX7_init_69 : decode cX7_init 69 = .ok (.putfield 34, 3) := by decide +kernel
theorem dX7_init_72 : decode cX7_init 72 = .ok (.aload_n 0, 1) := by decide +kernel
theorem dX7_init_73 : decode cX7_init 73 = .ok (.bipush 32, 2) := by decide +kernel
theorem dX7_init_75 : decode cX7_init 75 = .ok (.newarray .boolean, 2) := by decide +kernel
theorem dX7_init_77 : decode cX7_init 77 = .ok (.putfield 37, 3) := by decide +kernel
theorem dX7_init_80 : decode cX7_init 80 = .ok (.aload_n 0, 1) := by decide +kernel
theorem dX7_init_81 : decode cX7_init 81 = .ok (.bipush 32, 2) := by decide +kernel
theorem dX7_init_83 : decode cX7_init 83 = .ok (.newarray .int, 2) := by decide +kernel
theorem dX7_init_85 : decode cX7_init 85 = .ok (.putfield 41, 3) := by decide +kernel
theorem dX7_init_88 : decode cX7_init 88 = .ok (.aload_n 0, 1) := by decide +kernel
theorem dX7_init_89 : decode cX7_init 89 = .ok (.sipush 1024, 3) := by decide +kernel
theorem dX7_init_92 : decode cX7_init 92 = .ok (.newarray .int, 2) := by decide +kernel
theorem dX7_init_94 : decode cX7_init 94 = .ok (.putfield 44, 3) := by decide +kernel
theorem dX7_init_97 : decode cX7_init 97 = .ok (.aload_n 0, 1) := by decide +kernel
theorem dX7_init_98 : decode cX7_init 98 = .ok (.bipush 10, 2) := by decide +kernel
theorem dX7_init_100 : decode cX7_init 100 = .ok (.newarray .int, 2) := by decide +kernel
theorem dX7_init_102 : decode cX7_init 102 = .ok (.putfield 47, 3) := by decide +kernel
theorem dX7_init_105 : decode cX7_init 105 = .ok (.aload_n 0, 1) := by decide +kernel
theorem dX7_init_106 : decode cX7_init 106 = .ok (.sipush 10240, 3) := by decide +kernel
theorem dX7_init_109 : decode cX7_init 109 = .ok (.newarray .int, 2) := by decide +kernel
theorem dX7_init_111 : decode cX7_init 111 = .ok (.putfield 50, 3) := by decide +kernel
theorem dX7_init_114 : decode cX7_init 114 = .ok (.aload_n 0, 1) := by decide +kernel
theorem dX7_init_115 : decode cX7_init 115 = .ok (.bipush 60, 2) := by decide +kernel
theorem dX7_init_117 : decode cX7_init 117 = .ok (.newarray .int, 2) := by decide +kernel
theorem dX7_init_119 : decode cX7_init 119 = .ok (.putfield 53, 3) := by decide +kernel
theorem dX7_init_122 : decode cX7_init 122 = .ok (.aload_n 0, 1) := by decide +kernel
theorem dX7_init_123 : decode cX7_init 123 = .ok (.iconst 2, 1) := by decide +kernel
theorem dX7_init_124 : decode cX7_init 124 = .ok (.newarray .boolean, 2) := by decide +kernel
theorem dX7_init_126 : decode cX7_init 126 = .ok (.putfield 56, 3) := by decide +kernel
theorem dX7_init_129 : decode cX7_init 129 = .ok (.iconst 0, 1) := by decide +kernel
theorem dX7_init_130 : decode cX7_init 130 = .ok (.istore_n 1, 1) := by decide +kernel
theorem dX7_init_131 : decode cX7_init 131 = .ok (.iload_n 1, 1) := by decide +kernel
theorem dX7_init_132 : decode cX7_init 132 = .ok (.iconst 5, 1) := by decide +kernel
theorem dX7_init_133 : decode cX7_init 133 = .ok (.if_icmp .ge 26, 3) := by decide +kernel
theorem dX7_init_136 : decode cX7_init 136 = .ok (.aload_n 0, 1) := by decide +kernel
theorem dX7_init_137 : decode cX7_init 137 = .ok (.getfield 19, 3) := by decide +kernel
theorem dX7_init_140 : decode cX7_init 140 = .ok (.iload_n 1, 1) := by decide +kernel
theorem dX7_init_141 : decode cX7_init 141 = .ok (.bipush 63, 2) := by decide +kernel
theorem dX7_init_143 : decode cX7_init 143 = .ok (.iastore, 1) := by decide +kernel
theorem dX7_init_144 : decode cX7_init 144 = .ok (.aload_n 0, 1) := by decide +kernel
theorem dX7_init_145 : decode cX7_init 145 = .ok (.getfield 22, 3) := by decide +kernel
theorem dX7_init_148 : decode cX7_init 148 = .ok (.iload_n 1, 1) := by decide +kernel
theorem dX7_init_149 : decode cX7_init 149 = .ok (.sipush 1023, 3) := by decide +kernel
theorem dX7_init_152 : decode cX7_init 152 = .ok (.iastore, 1) := by decide +kernel
theorem dX7_init_153 : decode cX7_init 153 = .ok (.iinc 1 1, 3) := by decide +kernel
theorem dX7_init_156 : decode cX7_init 156 = .ok (.goto (-25), 3) := by decide +kernel
theorem dX7_init_159 : decode cX7_init 159 = .ok (.return_, 1) := by decide +kernel
theorem dX7_in_0 : decode cX7_in 0 = .ok (.iload_n 0, 1) := by decide +kernel
theorem dX7_in_1 : decode cX7_in 1 = .ok (.iload_n 1, 1) := by decide +kernel
theorem dX7_in_2 : decode cX7_in 2 = .ok (.if_icmp .lt 12, 3) := by decide +kernel
theorem dX7_in_5 : decode cX7_in 5 = .ok (.iload_n 0, 1) := by decide +kernel
theorem dX7_in_6 : decode cX7_in 6 = .ok (.iload_n 2, 1) := by decide +kernel
theorem dX7_in_7 : decode cX7_in 7 = .ok (.if_icmp .gt 7, 3) := by decide +kernel
theorem dX7_in_10 : decode cX7_in 10 = .ok (.iconst 1, 1) := by decide +kernel
theorem dX7_in_11 : decode cX7_in 11 = .ok (.goto 4, 3) := by decide +kernel
theorem dX7_in_14 : decode cX7_in 14 = .ok (.iconst 0, 1) := by decide +kernel
theorem dX7_in_15 : decode cX7_in 15 = .ok (.ireturn, 1) := by decide +kernel
theorem dX7_has_0 : decode cX7_has 0 = .ok (.iload_n 0, 1) := by decide +kernel
theorem dX7_has_1 : decode cX7_has 1 = .ok (.iload_n 1, 1) := by decide +kernel
theorem dX7_has_2 : decode cX7_has 2 = .ok (.ishr, 1) := by decide +kernel
theorem dX7_has_3 : decode cX7_has 3 = .ok (.iconst 1, 1) := by decide +kernel
theorem dX7_has_4 : decode cX7_has 4 = .ok (.iand, 1) := by decide +kernel
theorem dX7_has_5 : decode cX7_has 5 = .ok (.iconst 1, 1) := by decide +kernel
theorem dX7_has_6 : decode cX7_has 6 = .ok (.if_icmp .ne 7, 3) := by decide +kernel
theorem dX7_has_9 : decode cX7_has 9 = .ok (.iconst 1, 1) := by decide +kernel
theorem dX7_has_10 : decode cX7_has 10 = .ok (.goto 4, 3) := by decide +kernel
theorem dX7_has_13 : decode cX7_has 13 = .ok (.iconst 0, 1) := by decide +kernel
theorem dX7_has_14 : decode cX7_has 14 = .ok (.ireturn, 1) := by decide +kernel
theorem dX7_bits_0 : decode cX7_bits 0 = .ok (.iconst 0, 1) := by decide +kernel
theorem dX7_bits_1 : decode cX7_bits 1 = .ok (.istore_n 1, 1) := by decide +kernel
theorem dX7_bits_2 : decode cX7_bits 2 = .ok (.iconst 0, 1) := by decide +kernel
theorem dX7_bits_3 : decode cX7_bits 3 = .ok (.istore_n 2, 1) := by decide +kernel
theorem dX7_bits_4 : decode cX7_bits 4 = .ok (.iload_n 2, 1) := by decide +kernel
theorem dX7_bits_5 : decode cX7_bits 5 = .ok (.bipush 10, 2) := by decide +kernel
theorem dX7_bits_7 : decode cX7_bits 7 = .ok (.if_icmp .ge 17, 3) := by decide +kernel
theorem dX7_bits_10 : decode cX7_bits 10 = .ok (.iload_n 1, 1) := by decide +kernel
theorem dX7_bits_11 : decode cX7_bits 11 = .ok (.iload_n 0, 1) := by decide +kernel
theorem dX7_bits_12 : decode cX7_bits 12 = .ok (.iload_n 2, 1) := by decide +kernel
theorem dX7_bits_13 : decode cX7_bits 13 = .ok (.ishr, 1) := by decide +kernel
theorem dX7_bits_14 : decode cX7_bits 14 = .ok (.iconst 1, 1) := by decide +kernel
theorem dX7_bits_15 : decode cX7_bits 15 = .ok (.iand, 1) := by decide +kernel
theorem dX7_bits_16 : decode cX7_bits 16 = .ok (.iadd, 1) := by decide +kernel
theorem dX7_bits_17 : decode cX7_bits 17 = .ok (.istore_n 1, 1) := by decide +kernel
theorem dX7_bits_18 : decode cX7_bits 18 = .ok (.iinc 2 1, 3) := by decide +kernel
theorem dX7_bits_21 : decode cX7_bits 21 = .ok (.goto (-17), 3) := by decide +kernel
theorem dX7_bits_24 : decode cX7_bits 24 = .ok (.iload_n 1, 1) := by decide +kernel
theorem dX7_bits_25 : decode cX7_bits 25 = .ok (.ireturn, 1) := by decide +kernel
set_option maxRecDepth 20000 in
theorem ggX7_isInsult_X7_in : GoodIn wsX7_isInsult wsX7_in := goodIn_r _ [4] (by decide +kernel) (by decide +kernel)
set_option maxRecDepth 20000 in
theorem gX7_isInsult_X7_in : GoodIn wsX7_isInsult (va_wsS RX7 59 yX7_in wsX7_in) := goodIn_app (goodIn_of _ (by decide +kernel)) ggX7_isInsult_X7_in
theorem dX7_isInsult_0 : decode cX7_isInsult 0 = .ok (.iload_n 0, 1) := by decide +kernel
theorem dX7_isInsult_1 : decode cX7_isInsult 1 = .ok (.iconst 0, 1) := by decide +kernel
theorem dX7_isInsult_2 : decode cX7_isInsult 2 = .ok (.bipush 9, 2) := by decide +kernel
theorem dX7_isInsult_4 : decode cX7_isInsult 4 = .ok (.invokestatic 59, 3) := by decide +kernel
theorem dX7_isInsult_7 : decode cX7_isInsult 7 = .ok (.ireturn, 1) := by decide +kernel
set_option maxRecDepth 20000 in
theorem ggX7_isMan_X7_in : GoodIn wsX7_isMan wsX7_in := goodIn_r _ [4] (by decide +kernel) (by decide +kernel)
set_option maxRecDepth 20000 in
theorem gX7_isMan_X7_in : GoodIn wsX7_isMan (va_wsS RX7 59 yX7_in wsX7_in) := goodIn_app (goodIn_of _ (by decide +kernel)) ggX7_isMan_X7_in
theorem dX7_isMan_0 : decode cX7_isMan 0 = .ok (.iload_n 0, 1) := by decide +kernel
theorem dX7_isMan_1 : decode cX7_isMan 1 = .ok (.iconst 0, 1) := by decide +kernel
theorem dX7_isMan_2 : decode cX7_isMan 2 = .ok (.iconst 4, 1) := by decide +kernel
theorem dX7_isMan_3 : decode cX7_isMan 3 = .ok (.invokestatic 59, 3) := by decide +kernel
theorem dX7_isMan_6 : decode cX7_isMan 6 = .ok (.ireturn, 1) := by decide +kernel
set_option maxRecDepth 20000 in
theorem ggX7_areTwo_X7_isMan : GoodIn wsX7_areTwo wsX7_isMan := goodIn_r _ [4, 5, 6, 3, 7] (by decide +kernel) (by decide +kernel)
set_option maxRecDepth 20000 in
theorem gX7_areTwo_X7_isMan : GoodIn wsX7_areTwo (va_wsS RX7 63 yX7_isMan wsX7_isMan) := goodIn_app (goodIn_of _ (by decide +kernel)) ggX7_areTwo_X7_isMan
theorem dX7_areTwo_0 : decode cX7_areTwo 0 = .ok (.iload_n 0, 1) := by decide +kernel
theorem dX7_areTwo_1 : decode cX7_areTwo 1 = .ok (.invokestatic 63, 3) := by decide +kernel
theorem dX7_areTwo_4 : decode cX7_areTwo 4 = .ok (.ifCond .eq 19, 3) := by decide +kernel
theorem dX7_areTwo_7 : decode cX7_areTwo 7 = .ok (.iload_n 1, 1) := by decide +kernel
theorem dX7_areTwo_8 : decode cX7_areTwo 8 = .ok (.invokestatic 63, 3) := by decide +kernel
theorem dX7_areTwo_11 : decode cX7_areTwo 11 = .ok (.ifCond .eq 12, 3) := by decide +kernel
theorem dX7_areTwo_14 : decode cX7_areTwo 14 = .ok (.iload_n 0, 1) := by decide +kernel
theorem dX7_areTwo_15 : decode cX7_areTwo 15 = .ok (.iload_n 1, 1) := by decide +kernel
theorem dX7_areTwo_16 : decode cX7_areTwo 16 = .ok (.if_icmp .eq 7, 3) := by decide +kernel
theorem dX7_areTwo_19 : decode cX7_areTwo 19 = .ok (.iconst 1, 1) := by decide +kernel
theorem dX7_areTwo_20 : decode cX7_areTwo 20 = .ok (.goto 4, 3) := by decide +kernel
theorem dX7_areTwo_23 : decode cX7_areTwo 23 = .ok (.iconst 0, 1) := by decide +kernel
theorem dX7_areTwo_24 : decode cX7_areTwo 24 = .ok (.ireturn, 1) := by decide +kernel
set_option maxRecDepth 20000 in
theorem ggX7_say_X7_in : GoodIn wsX7_say wsX7_in := goodIn_r _ [6] (by decide +kernel) (by decide +kernel)
set_option maxRecDepth 20000 in
theorem gX7_say_X7_in : GoodIn wsX7_say (va_wsS RX7 59 yX7_in wsX7_in) := goodIn_app (goodIn_of _ (by decide +kernel)) ggX7_say_X7_in
theorem dX7_say_0 : decode cX7_say 0 = .ok (.iload_n 1, 1) := by decide +kernel
theorem dX7_say_1 : decode cX7_say 1 = .ok (.bipush 33, 2) := by decide +kernel
theorem dX7_say_3 : decode cX7_say 3 = .ok (.bipush 126, 2) := by decide +kernel
theorem dX7_say_5 : decode cX7_say 5 = .ok (.invokestatic 59, 3) := by decide +kernel
theorem dX7_say_8 : decode cX7_say 8 = .ok (.ifCond .ne 6, 3) := by decide +kernel
theorem dX7_say_11 : decode cX7_say 11 = .ok (.bipush (-2), 2) := by decide +kernel
theorem dX7_say_13 : decode cX7_say 13 = .ok (.ireturn, 1) := by decide +kernel
theorem dX7_say_14 : decode cX7_say 14 = .ok (.aload_n 0, 1) := by decide +kernel
theorem dX7_say_15 : decode cX7_say 15 = .ok (.getfield 67, 3) := by decide +kernel
theorem dX7_say_18 : decode cX7_say 18 = .ok (.bipush 40, 2) := by decide +kernel
theorem dX7_say_20 : decode cX7_say 20 = .ok (.if_icmp .ne 6, 3) := by decide +kernel
theorem dX7_say_23 : decode cX7_say 23 = .ok (.bipush (-4), 2) := by decide +kernel
theorem dX7_say_25 : decode cX7_say 25 = .ok (.ireturn, 1) := by decide +kernel
theorem dX7_say_26 : decode cX7_say 26 = .ok (.aload_n 0, 1) := by decide +kernel
theorem dX7_say_27 : decode cX7_say 27 = .ok (.getfield 7, 3) := by decide +kernel
theorem dX7_say_30 : decode cX7_say 30 = .ok (.aload_n 0, 1) := by decide +kernel
theorem dX7_say_31 : decode cX7_say 31 = .ok (.getfield 67, 3) := by decide +kernel
theorem dX7_say_34 : decode cX7_say 34 = .ok (.iload_n 1, 1) := by decide +kernel
theorem dX7_say_35 : decode cX7_say 35 = .ok (.iastore, 1) := by decide +kernel
theorem dX7_say_36 : decode cX7_say 36 = .ok (.aload_n 0, 1) := by decide +kernel
theorem dX7_say_37 : decode cX7_say 37 = .ok (.dup, 1) := by decide +kernel
theorem dX7_say_38 : decode cX7_say 38 = .ok (.getfield 67, 3) := by decide +kernel
theorem dX7_say_41 : decode cX7_say 41 = .ok (.iconst 1, 1) := by decide +kernel
theorem dX7_say_42 : decode cX7_say 42 = .ok (.iadd, 1) := by decide +kernel
theorem dX7_say_43 : decode cX7_say 43 = .ok (.putfield 67, 3) := by decide +kernel
theorem dX7_say_46 : decode cX7_say 46 = .ok (.aload_n 0, 1) := by decide +kernel
theorem dX7_say_47 : decode cX7_say 47 = .ok (.getfield 67, 3) := by decide +kernel
theorem dX7_say_50 : decode cX7_say 50 = .ok (.ireturn, 1) := by decide +kernel
theorem dX7_wipe_0 : decode cX7_wipe 0 = .ok (.aload_n 0, 1) := by decide +kernel
theorem dX7_wipe_1 : decode cX7_wipe 1 = .ok (.getfield 67, 3) := by decide +kernel
theorem dX7_wipe_4 : decode cX7_wipe 4 = .ok (.istore_n 1, 1) := by decide +kernel
theorem dX7_wipe_5 : decode cX7_wipe 5 = .ok (.aload_n 0, 1) := by decide +kernel
theorem dX7_wipe_6 : decode cX7_wipe 6 = .ok (.iconst 0, 1) := by decide +kernel
theorem dX7_wipe_7 : decode cX7_wipe 7 = .ok (.putfield 67, 3) := by decide +kernel
theorem dX7_wipe_10 : decode cX7_wipe 10 = .ok (.iload_n 1, 1) := by decide +kernel
theorem dX7_wipe_11 : decode cX7_wipe 11 = .ok (.ireturn, 1) := by decide +kernel
set_option maxRecDepth 20000 in
theorem ggX7_isName_X7_in : GoodIn wsX7_isName wsX7_in := goodIn_r _ [4] (by decide +kernel) (by decide +kernel)
set_option maxRecDepth 20000 in
theorem gX7_isName_X7_in : GoodIn wsX7_isName (va_wsS RX7 59 yX7_in wsX7_in) := goodIn_app (goodIn_of _ (by decide +kernel)) ggX7_isName_X7_in
theorem dX7_isName_0 : decode cX7_isName 0 = .ok (.iload_n 0, 1) := by decide +kernel
theorem dX7_isName_1 : decode cX7_isName 1 = .ok (.bipush 97, 2) := by decide +kernel
theorem dX7_isName_3 : decode cX7_isName 3 = .ok (.bipush 106, 2) := by decide +kernel
theorem dX7_isName_5 : decode cX7_isName 5 = .ok (.invokestatic 59, 3) := by decide +kernel
theorem dX7_isName_8 : decode cX7_isName 8 = .ok (.ireturn, 1) := by decide +kernel
set_option maxRecDepth 20000 in
theorem ggX7_stepsFault_X7_isName : GoodIn wsX7_stepsFault wsX7_isName := goodIn_r _ [6, 7, 8, 5, 9] (by decide +kernel) (by decide +kernel)
set_option maxRecDepth 20000 in
theorem gX7_stepsFault_X7_isName : GoodIn wsX7_stepsFault (va_wsS RX7 71 yX7_isName wsX7_isName) := goodIn_app (goodIn_of _ (by decide +kernel)) ggX7_stepsFault_X7_isName
theorem dX7_stepsFault_0 : decode cX7_stepsFault 0 = .ok (.iconst 0, 1) := by decide +kernel
theorem dX7_stepsFault_1 : decode cX7_stepsFault 1 = .ok (.istore_n 1, 1) := by decide +kernel
theorem dX7_stepsFault_2 : decode cX7_stepsFault 2 = .ok (.iconst 0, 1) := by decide +kernel
theorem dX7_stepsFault_3 : decode cX7_stepsFault 3 = .ok (.istore_n 2, 1) := by decide +kernel
theorem dX7_stepsFault_4 : decode cX7_stepsFault 4 = .ok (.iload_n 2, 1) := by decide +kernel
theorem dX7_stepsFault_5 : decode cX7_stepsFault 5 = .ok (.aload_n 0, 1) := by decide +kernel
theorem dX7_stepsFault_6 : decode cX7_stepsFault 6 = .ok (.getfield 67, 3) := by decide +kernel
theorem dX7_stepsFault_9 : decode cX7_stepsFault 9 = .ok (.if_icmp .ge 112, 3) := by decide +kernel
theorem dX7_stepsFault_12 : decode cX7_stepsFault 12 = .ok (.aload_n 0, 1) := by decide +kernel
theorem dX7_stepsFault_13 : decode cX7_stepsFault 13 = .ok (.getfield 7, 3) := by decide +kernel
theorem dX7_stepsFault_16 : decode cX7_stepsFault 16 = .ok (.iload_n 2, 1) := by decide +kernel
theorem dX7_stepsFault_17 : decode cX7_stepsFault 17 = .ok (.iaload, 1) := by decide +kernel
theorem dX7_stepsFault_18 : decode cX7_stepsFault 18 = .ok (.istore_n 3, 1) := by decide +kernel
theorem dX7_stepsFault_19 : decode cX7_stepsFault 19 = .ok (.iload_n 1, 1) := by decide +kernel
theorem dX7_stepsFault_20 : decode cX7_stepsFault 20 = .ok (.ifCond .ne 21, 3) := by decide +kernel
theorem dX7_stepsFault_23 : decode cX7_stepsFault 23 = .ok (.iload_n 3, 1) := by decide +kernel
theorem dX7_stepsFault_24 : decode cX7_stepsFault 24 = .ok (.invokestatic 71, 3) := by decide +kernel
theorem dX7_stepsFault_27 : decode cX7_stepsFault 27 = .ok (.ifCond .eq 7, 3) := by decide +kernel
theorem dX7_stepsFault_30 : decode cX7_stepsFault 30 = .ok (.iconst 1, 1) := by decide +kernel
theorem dX7_stepsFault_31 : decode cX7_stepsFault 31 = .ok (.goto 5, 3) := by decide +kernel
theorem dX7_stepsFault_34 : decode cX7_stepsFault 34 = .ok (.bipush (-6), 2) := by decide +kernel
theorem dX7_stepsFault_36 : decode cX7_stepsFault 36 = .ok (.istore 4, 2) := by decide +kernel
theorem dX7_stepsFault_38 : decode cX7_stepsFault 38 = .ok (.goto 67, 3) := by decide +kernel
theorem dX7_stepsFault_41 : decode cX7_stepsFault 41 = .ok (.iload_n 1, 1) := by decide +kernel
theorem dX7_stepsFault_42 : decode cX7_stepsFault 42 = .ok (.iconst 2, 1) := by decide +kernel
theorem dX7_stepsFault_43 : decode cX7_stepsFault 43 = .ok (.if_icmp .ne 33, 3) := by decide +kernel
theorem dX7_stepsFault_46 : decode cX7_stepsFault 46 = .ok (.iload_n 3, 1) := by decide +kernel
theorem dX7_stepsFault_47 : decode cX7_stepsFault 47 = .ok (.invokestatic 71, 3) := by decide +kernel
theorem dX7_stepsFault_50 : decode cX7_stepsFault 50 = .ok (.ifCond .eq 19, 3) := by decide +kernel
theorem dX7_stepsFault_53 : decode cX7_stepsFault 53 = .ok (.iload_n 3, 1) := by decide +kernel
theorem dX7_stepsFault_54 : decode cX7_stepsFault 54 = .ok (.aload_n 0, 1) := by decide +kernel
theorem dX7_stepsFault_55 : decode cX7_stepsFault 55 = .ok (.getfield 7, 3) := by decide +kernel
theorem dX7_stepsFault_58 : decode cX7_stepsFault 58 = .ok (.iload_n 2, 1) := by decide +kernel
theorem dX7_stepsFault_59 : decode cX7_stepsFault 59 = .ok (.iconst 2, 1) := by decide +kernel
theorem dX7_stepsFault_60 : decode cX7_stepsFault 60 = .ok (.isub, 1) := by decide +kernel
theorem dX7_stepsFault_61 : decode cX7_stepsFault 61 = .ok (.iaload, 1) := by decide +kernel
theorem dX7_stepsFault_62 : decode cX7_stepsFault 62 = .ok (.if_icmp .eq 7, 3) := by decide +kernel
theorem dX7_stepsFault_65 : decode cX7_stepsFault 65 = .ok (.iconst 3, 1) := by decide +kernel
theorem dX7_stepsFault_66 : decode cX7_stepsFault 66 = .ok (.goto 5, 3) := by decide +kernel
theorem dX7_stepsFault_69 : decode cX7_stepsFault 69 = .ok (.bipush (-6), 2) := by decide +kernel
theorem dX7_stepsFault_71 : decode cX7_stepsFault 71 = .ok (.istore 4, 2) := by decide +kernel
theorem dX7_stepsFault_73 : decode cX7_stepsFault 73 = .ok (.goto 32, 3) := by decide +kernel
theorem dX7_stepsFault_76 : decode cX7_stepsFault 76 = .ok (.iload_n 3, 1) := by decide +kernel
theorem dX7_stepsFault_77 : decode cX7_stepsFault 77 = .ok (.bipush 62, 2) := by decide +kernel
theorem dX7_stepsFault_79 : decode cX7_stepsFault 79 = .ok (.if_icmp .ne 7, 3) := by decide +kernel
theorem dX7_stepsFault_82 : decode cX7_stepsFault 82 = .ok (.iconst 2, 1) := by decide +kernel
theorem dX7_stepsFault_83 : decode cX7_stepsFault 83 = .ok (.goto 20, 3) := by decide +kernel
theorem dX7_stepsFault_86 : decode cX7_stepsFault 86 = .ok (.iload_n 3, 1) := by decide +kernel
theorem dX7_stepsFault_87 : decode cX7_stepsFault 87 = .ok (.bipush 44, 2) := by decide +kernel
theorem dX7_stepsFault_89 : decode cX7_stepsFault 89 = .ok (.if_icmp .ne 12, 3) := by decide +kernel
theorem dX7_stepsFault_92 : decode cX7_stepsFault 92 = .ok (.iload_n 1, 1) := by decide +kernel
theorem dX7_stepsFault_93 : decode cX7_stepsFault 93 = .ok (.iconst 3, 1) := by decide +kernel
theorem dX7_stepsFault_94 : decode cX7_stepsFault 94 = .ok (.if_icmp .ne 7, 3) := by decide +kernel
theorem dX7_stepsFault_97 : decode cX7_stepsFault 97 = .ok (.iconst 0, 1) := by decide +kernel
theorem dX7_stepsFault_98 : decode cX7_stepsFault 98 = .ok (.goto 5, 3) := by decide +kernel
theorem dX7_stepsFault_101 : decode cX7_stepsFault 101 = .ok (.bipush (-6), 2) := by decide +kernel
theorem dX7_stepsFault_103 : decode cX7_stepsFault 103 = .ok (.istore 4, 2) := by decide +kernel
theorem dX7_stepsFault_105 : decode cX7_stepsFault 105 = .ok (.iload 4, 2) := by decide +kernel
theorem dX7_stepsFault_107 : decode cX7_stepsFault 107 = .ok (.ifCond .ge 5, 3) := by decide +kernel
theorem dX7_stepsFault_110 : decode cX7_stepsFault 110 = .ok (.iload_n 2, 1) := by decide +kernel
theorem dX7_stepsFault_111 : decode cX7_stepsFault 111 = .ok (.ireturn, 1) := by decide +kernel
theorem dX7_stepsFault_112 : decode cX7_stepsFault 112 = .ok (.iload 4, 2) := by decide +kernel
theorem dX7_stepsFault_114 : decode cX7_stepsFault 114 = .ok (.istore_n 1, 1) := by decide +kernel
theorem dX7_stepsFault_115 : decode cX7_stepsFault 115 = .ok (.iinc 2 1, 3) := by decide +kernel
theorem dX7_stepsFault_118 : decode cX7_stepsFault 118 = .ok (.goto (-114), 3) := by decide +kernel
theorem dX7_stepsFault_121 : decode cX7_stepsFault 121 = .ok (.iload_n 1, 1) := by decide +kernel
theorem dX7_stepsFault_122 : decode cX7_stepsFault 122 = .ok (.iconst 3, 1) := by decide +kernel
theorem dX7_stepsFault_123 : decode cX7_stepsFault 123 = .ok (.if_icmp .ne 8, 3) := by decide +kernel
theorem dX7_stepsFault_126 : decode cX7_stepsFault 126 = .ok (.bipush (-6), 2) := by decide +kernel
theorem dX7_stepsFault_128 : decode cX7_stepsFault 128 = .ok (.goto 7, 3) := by decide +kernel
theorem dX7_stepsFault_131 : decode cX7_stepsFault 131 = .ok (.aload_n 0, 1) := by decide +kernel
theorem dX7_stepsFault_132 : decode cX7_stepsFault 132 = .ok (.getfield 67, 3) := by decide +kernel
theorem dX7_stepsFault_135 : decode cX7_stepsFault 135 = .ok (.ireturn, 1) := by decide +kernel
set_option maxRecDepth 20000 in
theorem ggX7_quarrelFault_X7_isName : GoodIn wsX7_quarrelFault wsX7_isName := goodIn_r _ [6, 7, 8, 5, 9] (by decide +kernel) (by decide +kernel)
set_option maxRecDepth 20000 in
theorem gX7_quarrelFault_X7_isName : GoodIn wsX7_quarrelFault (va_wsS RX7 71 yX7_isName wsX7_isName) := goodIn_app (goodIn_of _ (by decide +kernel)) ggX7_quarrelFault_X7_isName
set_option maxRecDepth 20000 in
theorem ggX7_quarrelFault_X7_in : GoodIn wsX7_quarrelFault wsX7_in := goodIn_r _ [9] (by decide +kernel) (by decide +kernel)
set_option maxRecDepth 20000 in
theorem gX7_quarrelFault_X7_in : GoodIn wsX7_quarrelFault (va_wsS RX7 59 yX7_in wsX7_in) := goodIn_app (goodIn_of _ (by decide +kernel)) ggX7_quarrelFault_X7_in
theorem dX7_quarrelFault_0 : decode cX7_quarrelFault 0 = .ok (.iconst 0, 1) := by decide +kernel
theorem dX7_quarrelFault_1 : decode cX7_quarrelFault 1 = .ok (.istore_n 1, 1) := by decide +kernel
theorem dX7_quarrelFault_2 : decode cX7_quarrelFault 2 = .ok (.iload_n 1, 1) := by decide +kernel
theorem dX7_quarrelFault_3 : decode cX7_quarrelFault 3 = .ok (.aload_n 0, 1) := by decide +kernel
theorem dX7_quarrelFault_4 : decode cX7_quarrelFault 4 = .ok (.getfield 67, 3) := by decide +kernel
theorem dX7_quarrelFault_7 : decode cX7_quarrelFault 7 = .ok (.if_icmp .ge 77, 3) := by decide +kernel
theorem dX7_quarrelFault_10 : decode cX7_quarrelFault 10 = .ok (.iload_n 1, 1) := by decide +kernel
theorem dX7_quarrelFault_11 : decode cX7_quarrelFault 11 = .ok (.iconst 2, 1) := by decide +kernel
theorem dX7_quarrelFault_12 : decode cX7_quarrelFault 12 = .ok (.irem, 1) := by decide +kernel
theorem dX7_quarrelFault_13 : decode cX7_quarrelFault 13 = .ok (.iconst 1, 1) := by decide +kernel
theorem dX7_quarrelFault_14 : decode cX7_quarrelFault 14 = .ok (.if_icmp .ne 15, 3) := by decide +kernel
theorem dX7_quarrelFault_17 : decode cX7_quarrelFault 17 = .ok (.aload_n 0, 1) := by decide +kernel
theorem dX7_quarrelFault_18 : decode cX7_quarrelFault 18 = .ok (.getfield 7, 3) := by decide +kernel
theorem dX7_quarrelFault_21 : decode cX7_quarrelFault 21 = .ok (.iload_n 1, 1) := by decide +kernel
theorem dX7_quarrelFault_22 : decode cX7_quarrelFault 22 = .ok (.iaload, 1) := by decide +kernel
theorem dX7_quarrelFault_23 : decode cX7_quarrelFault 23 = .ok (.invokestatic 71, 3) := by decide +kernel
theorem dX7_quarrelFault_26 : decode cX7_quarrelFault 26 = .ok (.goto 45, 3) := by decide +kernel
theorem dX7_quarrelFault_29 : decode cX7_quarrelFault 29 = .ok (.aload_n 0, 1) := by decide +kernel
theorem dX7_quarrelFault_30 : decode cX7_quarrelFault 30 = .ok (.getfield 7, 3) := by decide +kernel
theorem dX7_quarrelFault_33 : decode cX7_quarrelFault 33 = .ok (.iload_n 1, 1) := by decide +kernel
theorem dX7_quarrelFault_34 : decode cX7_quarrelFault 34 = .ok (.iaload, 1) := by decide +kernel
theorem dX7_quarrelFault_35 : decode cX7_quarrelFault 35 = .ok (.bipush 48, 2) := by decide +kernel
theorem dX7_quarrelFault_37 : decode cX7_quarrelFault 37 = .ok (.bipush 52, 2) := by decide +kernel
theorem dX7_quarrelFault_39 : decode cX7_quarrelFault 39 = .ok (.invokestatic 59, 3) := by decide +kernel
theorem dX7_quarrelFault_42 : decode cX7_quarrelFault 42 = .ok (.ifCond .eq 28, 3) := by decide +kernel
theorem dX7_quarrelFault_45 : decode cX7_quarrelFault 45 = .ok (.iload_n 1, 1) := by decide +kernel
theorem dX7_quarrelFault_46 : decode cX7_quarrelFault 46 = .ok (.ifCond .eq 20, 3) := by decide +kernel
theorem dX7_quarrelFault_49 : decode cX7_quarrelFault 49 = .ok (.aload_n 0, 1) := by decide +kernel
theorem dX7_quarrelFault_50 : decode cX7_quarrelFault 50 = .ok (.getfield 7, 3) := by decide +kernel
theorem dX7_quarrelFault_53 : decode cX7_quarrelFault 53 = .ok (.iload_n 1, 1) := by decide +kernel
theorem dX7_quarrelFault_54 : decode cX7_quarrelFault 54 = .ok (.iaload, 1) := by decide +kernel
theorem dX7_quarrelFault_55 : decode cX7_quarrelFault 55 = .ok (.aload_n 0, 1) := by decide +kernel
theorem dX7_quarrelFault_56 : decode cX7_quarrelFault 56 = .ok (.getfield 7, 3) := by decide +kernel
theorem dX7_quarrelFault_59 : decode cX7_quarrelFault 59 = .ok (.iload_n 1, 1) := by decide +kernel
theorem dX7_quarrelFault_60 : decode cX7_quarrelFault 60 = .ok (.iconst 2, 1) := by decide +kernel
theorem dX7_quarrelFault_61 : decode cX7_quarrelFault 61 = .ok (.isub, 1) := by decide +kernel
theorem dX7_quarrelFault_62 : decode cX7_quarrelFault 62 = .ok (.iaload, 1) := by decide +kernel
theorem dX7_quarrelFault_63 : decode cX7_quarrelFault 63 = .ok (.if_icmp .eq 7, 3) := by decide +kernel
theorem dX7_quarrelFault_66 : decode cX7_quarrelFault 66 = .ok (.iconst 1, 1) := by decide +kernel
theorem dX7_quarrelFault_67 : decode cX7_quarrelFault 67 = .ok (.goto 4, 3) := by decide +kernel
theorem dX7_quarrelFault_70 : decode cX7_quarrelFault 70 = .ok (.iconst 0, 1) := by decide +kernel
theorem dX7_quarrelFault_71 : decode cX7_quarrelFault 71 = .ok (.istore_n 2, 1) := by decide +kernel
theorem dX7_quarrelFault_72 : decode cX7_quarrelFault 72 = .ok (.iload_n 2, 1) := by decide +kernel
theorem dX7_quarrelFault_73 : decode cX7_quarrelFault 73 = .ok (.ifCond .ne 5, 3) := by decide +kernel
theorem dX7_quarrelFault_76 : decode cX7_quarrelFault 76 = .ok (.iload_n 1, 1) := by decide +kernel
theorem dX7_quarrelFault_77 : decode cX7_quarrelFault 77 = .ok (.ireturn, 1) := by decide +kernel
theorem dX7_quarrelFault_78 : decode cX7_quarrelFault 78 = .ok (.iinc 1 1, 3) := by decide +kernel
theorem dX7_quarrelFault_81 : decode cX7_quarrelFault 81 = .ok (.goto (-79), 3) := by decide +kernel
theorem dX7_quarrelFault_84 : decode cX7_quarrelFault 84 = .ok (.aload_n 0, 1) := by decide +kernel
theorem dX7_quarrelFault_85 : decode cX7_quarrelFault 85 = .ok (.getfield 67, 3) := by decide +kernel
theorem dX7_quarrelFault_88 : decode cX7_quarrelFault 88 = .ok (.ifCond .eq 13, 3) := by decide +kernel
theorem dX7_quarrelFault_91 : decode cX7_quarrelFault 91 = .ok (.aload_n 0, 1) := by decide +kernel
theorem dX7_quarrelFault_92 : decode cX7_quarrelFault 92 = .ok (.getfield 67, 3) := by decide +kernel
theorem dX7_quarrelFault_95 : decode cX7_quarrelFault 95 = .ok (.iconst 2, 1) := by decide +kernel
theorem dX7_quarrelFault_96 : decode cX7_quarrelFault 96 = .ok (.irem, 1) := by decide +kernel
theorem dX7_quarrelFault_97 : decode cX7_quarrelFault 97 = .ok (.iconst 1, 1) := by decide +kernel
theorem dX7_quarrelFault_98 : decode cX7_quarrelFault 98 = .ok (.if_icmp .ne 10, 3) := by decide +kernel
theorem dX7_quarrelFault_101 : decode cX7_quarrelFault 101 = .ok (.aload_n 0, 1) := by decide +kernel
theorem dX7_quarrelFault_102 : decode cX7_quarrelFault 102 = .ok (.getfield 67, 3) := by decide +kernel
theorem dX7_quarrelFault_105 : decode cX7_quarrelFault 105 = .ok (.goto 5, 3) := by decide +kernel
theorem dX7_quarrelFault_108 : decode cX7_quarrelFault 108 = .ok (.bipush (-6), 2) := by decide +kernel
theorem dX7_quarrelFault_110 : decode cX7_quarrelFault 110 = .ok (.ireturn, 1) := by decide +kernel
set_option maxRecDepth 20000 in
theorem ggX7_fault_X7_stepsFault : GoodIn wsX7_fault wsX7_stepsFault := goodIn_r _ [5, 6, 7, 8, 9, 4, 10, 11, 12, 13, 18, 19, 20, 21, 22, 23, 24, 25, 26, 27, 28, 29, 30, 31, 32, 33, 34, 35] (by decide +kernel) (by decide +kernel)
set_option maxRecDepth 20000 in
theorem gX7_fault_X7_stepsFault : GoodIn wsX7_fault (wsV RX7 74 RX7 yX7_stepsFault wsX7_stepsFault) := goodIn_app (goodIn_of _ (by decide +kernel)) ggX7_fault_X7_stepsFault
set_option maxRecDepth 20000 in
theorem ggX7_fault_X7_quarrelFault : GoodIn wsX7_fault wsX7_quarrelFault := goodIn_r _ [17, 6, 7, 8, 9, 4, 10, 11, 12, 13, 18, 19, 20, 21, 22, 23, 24, 25, 26, 27, 28, 29, 30, 31, 32, 33, 34, 35] (by decide +kernel) (by decide +kernel)
set_option maxRecDepth 20000 in
theorem gX7_fault_X7_quarrelFault : GoodIn wsX7_fault (wsV RX7 78 RX7 yX7_quarrelFault wsX7_quarrelFault) := goodIn_app (goodIn_of _ (by decide +kernel)) ggX7_fault_X7_quarrelFault
theorem dX7_fault_0 : decode cX7_fault 0 = .ok (.iload_n 1, 1) := by decide +kernel
theorem dX7_fault_1 : decode cX7_fault 1 = .ok (.ifCond .ne 10, 3) := by decide +kernel
theorem dX7_fault_4 : decode cX7_fault 4 = .ok (.aload_n 0, 1) := by decide +kernel
theorem dX7_fault_5 : decode cX7_fault 5 = .ok (.invokevirtual 74, 3) := by decide +kernel
theorem dX7_fault_8 : decode cX7_fault 8 = .ok (.goto 17, 3) := by decide +kernel
theorem dX7_fault_11 : decode cX7_fault 11 = .ok (.iload_n 1, 1) := by decide +kernel
theorem dX7_fault_12 : decode cX7_fault 12 = .ok (.iconst 1, 1) := by decide +kernel
theorem dX7_fault_13 : decode cX7_fault 13 = .ok (.if_icmp .ne 10, 3) := by decide +kernel
theorem dX7_fault_16 : decode cX7_fault 16 = .ok (.aload_n 0, 1) := by decide +kernel
theorem dX7_fault_17 : decode cX7_fault 17 = .ok (.invokevirtual 78, 3) := by decide +kernel
theorem dX7_fault_20 : decode cX7_fault 20 = .ok (.goto 5, 3) := by decide +kernel
theorem dX7_fault_23 : decode cX7_fault 23 = .ok (.bipush (-2), 2) := by decide +kernel
theorem dX7_fault_25 : decode cX7_fault 25 = .ok (.ireturn, 1) := by decide +kernel
set_option maxRecDepth 20000 in
theorem ggX7_allSteps_X7_bits : GoodIn wsX7_allSteps wsX7_bits := goodIn_r _ [5] (by decide +kernel) (by decide +kernel)
set_option maxRecDepth 20000 in
theorem gX7_allSteps_X7_bits : GoodIn wsX7_allSteps (va_wsS RX7 81 yX7_bits wsX7_bits) := goodIn_app (goodIn_of _ (by decide +kernel)) ggX7_allSteps_X7_bits
theorem dX7_allSteps_0 : decode cX7_allSteps 0 = .ok (.iconst 0, 1) := by decide +kernel
theorem dX7_allSteps_1 : decode cX7_allSteps 1 = .ok (.istore_n 1, 1) := by decide +kernel
theorem dX7_allSteps_2 : decode cX7_allSteps 2 = .ok (.iconst 0, 1) := by decide +kernel
theorem dX7_allSteps_3 : decode cX7_allSteps 3 = .ok (.istore_n 2, 1) := by decide +kernel
theorem dX7_allSteps_4 : decode cX7_allSteps 4 = .ok (.iload_n 2, 1) := by decide +kernel
theorem dX7_allSteps_5 : decode cX7_allSteps 5 = .ok (.bipush 10, 2) := by decide +kernel
theorem dX7_allSteps_7 : decode cX7_allSteps 7 = .ok (.if_icmp .ge 21, 3) := by decide +kernel
theorem dX7_allSteps_10 : decode cX7_allSteps 10 = .ok (.iload_n 1, 1) := by decide +kernel
theorem dX7_allSteps_11 : decode cX7_allSteps 11 = .ok (.aload_n 0, 1) := by decide +kernel
theorem dX7_allSteps_12 : decode cX7_allSteps 12 = .ok (.getfield 13, 3) := by decide +kernel
theorem dX7_allSteps_15 : decode cX7_allSteps 15 = .ok (.iload_n 2, 1) := by decide +kernel
theorem dX7_allSteps_16 : decode cX7_allSteps 16 = .ok (.iaload, 1) := by decide +kernel
theorem dX7_allSteps_17 : decode cX7_allSteps 17 = .ok (.invokestatic 81, 3) := by decide +kernel
theorem dX7_allSteps_20 : decode cX7_allSteps 20 = .ok (.iadd, 1) := by decide +kernel
theorem dX7_allSteps_21 : decode cX7_allSteps 21 = .ok (.istore_n 1, 1) := by decide +kernel
theorem dX7_allSteps_22 : decode cX7_allSteps 22 = .ok (.iinc 2 1, 3) := by decide +kernel
theorem dX7_allSteps_25 : decode cX7_allSteps 25 = .ok (.goto (-21), 3) := by decide +kernel
theorem dX7_allSteps_28 : decode cX7_allSteps 28 = .ok (.iload_n 1, 1) := by decide +kernel
theorem dX7_allSteps_29 : decode cX7_allSteps 29 = .ok (.ireturn, 1) := by decide +kernel
set_option maxRecDepth 20000 in
theorem ggX7_steps_X7_stepsFault : GoodIn wsX7_steps wsX7_stepsFault := goodIn_r _ [8, 1, 2, 9, 10, 7, 11, 12, 13, 14, 22, 23, 24, 25, 26, 27, 28, 29, 30, 31, 32, 33, 34, 35, 36, 37, 38, 39] (by decide +kernel) (by decide +kernel)
set_option maxRecDepth 20000 in
theorem gX7_steps_X7_stepsFault : GoodIn wsX7_steps (wsV RX7 74 RX7 yX7_stepsFault wsX7_stepsFault) := goodIn_app (goodIn_of _ (by decide +kernel)) ggX7_steps_X7_stepsFault
set_option maxRecDepth 20000 in
theorem ggX7_steps_X7_allSteps : GoodIn wsX7_steps wsX7_allSteps := goodIn_r _ [18, 3, 19, 20, 7, 21, 22, 23, 24, 25, 26, 27, 28, 29, 30, 31, 32, 33, 34, 35, 36, 37, 38, 39] (by decide +kernel) (by decide +kernel)
set_option maxRecDepth 20000 in
theorem gX7_steps_X7_allSteps : GoodIn wsX7_steps (wsV RX7 85 RX7 yX7_allSteps wsX7_allSteps) := goodIn_app (goodIn_of _ (by decide +kernel)) ggX7_steps_X7_allSteps
theorem dX7_steps_0 : decode cX7_steps 0 = .ok (.aload_n 0, 1) := by decide +kernel
theorem dX7_steps_1 : decode cX7_steps 1 = .ok (.invokevirtual 74, 3) := by decide +kernel
theorem dX7_steps_4 : decode cX7_steps 4 = .ok (.ifCond .lt 6, 3) := by decide +kernel
theorem dX7_steps_7 : decode cX7_steps 7 = .ok (.bipush (-5), 2) := by decide +kernel
theorem dX7_steps_9 : decode cX7_steps 9 = .ok (.ireturn, 1) := by decide +kernel
theorem dX7_steps_10 : decode cX7_steps 10 = .ok (.iconst 1, 1) := by decide +kernel
theorem dX7_steps_11 : decode cX7_steps 11 = .ok (.istore_n 1, 1) := by decide +kernel
theorem dX7_steps_12 : decode cX7_steps 12 = .ok (.iload_n 1, 1) := by decide +kernel
theorem dX7_steps_13 : decode cX7_steps 13 = .ok (.aload_n 0, 1) := by decide +kernel
theorem dX7_steps_14 : decode cX7_steps 14 = .ok (.getfield 67, 3) := by decide +kernel
theorem dX7_steps_17 : decode cX7_steps 17 = .ok (.if_icmp .ge 52, 3) := by decide +kernel
theorem dX7_steps_20 : decode cX7_steps 20 = .ok (.aload_n 0, 1) := by decide +kernel
theorem dX7_steps_21 : decode cX7_steps 21 = .ok (.getfield 7, 3) := by decide +kernel
theorem dX7_steps_24 : decode cX7_steps 24 = .ok (.iload_n 1, 1) := by decide +kernel
theorem dX7_steps_25 : decode cX7_steps 25 = .ok (.iaload, 1) := by decide +kernel
theorem dX7_steps_26 : decode cX7_steps 26 = .ok (.bipush 62, 2) := by decide +kernel
theorem dX7_steps_28 : decode cX7_steps 28 = .ok (.if_icmp .ne 35, 3) := by decide +kernel
theorem dX7_steps_31 : decode cX7_steps 31 = .ok (.aload_n 0, 1) := by decide +kernel
theorem dX7_steps_32 : decode cX7_steps 32 = .ok (.getfield 13, 3) := by decide +kernel
theorem dX7_steps_35 : decode cX7_steps 35 = .ok (.aload_n 0, 1) := by decide +kernel
theorem dX7_steps_36 : decode cX7_steps 36 = .ok (.getfield 7, 3) := by decide +kernel
theorem dX7_steps_39 : decode cX7_steps 39 = .ok (.iload_n 1, 1) := by decide +kernel
theorem dX7_steps_40 : decode cX7_steps 40 = .ok (.iconst 1, 1) := by decide +kernel
theorem dX7_steps_41 : decode cX7_steps 41 = .ok (.isub, 1) := by decide +kernel
theorem dX7_steps_42 : decode cX7_steps 42 = .ok (.iaload, 1) := by decide +kernel
theorem dX7_steps_43 : decode cX7_steps 43 = .ok (.bipush 97, 2) := by decide +kernel
theorem dX7_steps_45 : decode cX7_steps 45 = .ok (.isub, 1) := by decide +kernel
theorem dX7_steps_46 : decode cX7_steps 46 = .ok (.dup2, 1) := by decide +kernel
theorem dX7_steps_47 : decode cX7_steps 47 = .ok (.iaload, 1) := by decide +kernel
theorem dX7_steps_48 : decode cX7_steps 48 = .ok (.iconst 1, 1) := by decide +kernel
theorem dX7_steps_49 : decode cX7_steps 49 = .ok (.aload_n 0, 1) := by decide +kernel
theorem dX7_steps_50 : decode cX7_steps 50 = .ok (.getfield 7, 3) := by decide +kernel
theorem dX7_steps_53 : decode cX7_steps 53 = .ok (.iload_n 1, 1) := by decide +kernel
theorem dX7_steps_54 : decode cX7_steps 54 = .ok (.iconst 1, 1) := by decide +kernel
theorem dX7_steps_55 : decode cX7_steps 55 = .ok (.iadd, 1) := by decide +kernel
theorem dX7_steps_56 : decode cX7_steps 56 = .ok (.iaload, 1) := by decide +kernel
theorem dX7_steps_57 : decode cX7_steps 57 = .ok (.bipush 97, 2) := by decide +kernel
theorem dX7_steps_59 : decode cX7_steps 59 = .ok (.isub, 1) := by decide +kernel
theorem dX7_steps_60 : decode cX7_steps 60 = .ok (.ishl, 1) := by decide +kernel
theorem dX7_steps_61 : decode cX7_steps 61 = .ok (.ior, 1) := by decide +kernel
theorem dX7_steps_62 : decode cX7_steps 62 = .ok (.iastore, 1) := by decide +kernel
theorem dX7_steps_63 : decode cX7_steps 63 = .ok (.iinc 1 2, 3) := by decide +kernel
theorem dX7_steps_66 : decode cX7_steps 66 = .ok (.goto (-54), 3) := by decide +kernel
theorem dX7_steps_69 : decode cX7_steps 69 = .ok (.aload_n 0, 1) := by decide +kernel
theorem dX7_steps_70 : decode cX7_steps 70 = .ok (.iconst 0, 1) := by decide +kernel
theorem dX7_steps_71 : decode cX7_steps 71 = .ok (.putfield 67, 3) := by decide +kernel
theorem dX7_steps_74 : decode cX7_steps 74 = .ok (.aload_n 0, 1) := by decide +kernel
theorem dX7_steps_75 : decode cX7_steps 75 = .ok (.invokevirtual 85, 3) := by decide +kernel
theorem dX7_steps_78 : decode cX7_steps 78 = .ok (.ireturn, 1) := by decide +kernel
set_option maxRecDepth 20000 in
theorem ggX7_step_X7_isInsult : GoodIn wsX7_step wsX7_isInsult := goodIn_r _ [5, 6, 7, 4, 8] (by decide +kernel) (by decide +kernel)
set_option maxRecDepth 20000 in
theorem gX7_step_X7_isInsult : GoodIn wsX7_step (va_wsS RX7 88 yX7_isInsult wsX7_isInsult) := goodIn_app (goodIn_of _ (by decide +kernel)) ggX7_step_X7_isInsult
theorem dX7_step_0 : decode cX7_step 0 = .ok (.iload_n 1, 1) := by decide +kernel
theorem dX7_step_1 : decode cX7_step 1 = .ok (.invokestatic 88, 3) := by decide +kernel
theorem dX7_step_4 : decode cX7_step 4 = .ok (.ifCond .eq 15, 3) := by decide +kernel
theorem dX7_step_7 : decode cX7_step 7 = .ok (.iload_n 2, 1) := by decide +kernel
theorem dX7_step_8 : decode cX7_step 8 = .ok (.invokestatic 88, 3) := by decide +kernel
theorem dX7_step_11 : decode cX7_step 11 = .ok (.ifCond .eq 8, 3) := by decide +kernel
theorem dX7_step_14 : decode cX7_step 14 = .ok (.iload_n 1, 1) := by decide +kernel
theorem dX7_step_15 : decode cX7_step 15 = .ok (.iload_n 2, 1) := by decide +kernel
theorem dX7_step_16 : decode cX7_step 16 = .ok (.if_icmp .ne 5, 3) := by decide +kernel
theorem dX7_step_19 : decode cX7_step 19 = .ok (.iconst (-1), 1) := by decide +kernel
theorem dX7_step_20 : decode cX7_step 20 = .ok (.ireturn, 1) := by decide +kernel
theorem dX7_step_21 : decode cX7_step 21 = .ok (.aload_n 0, 1) := by decide +kernel
theorem dX7_step_22 : decode cX7_step 22 = .ok (.getfield 13, 3) := by decide +kernel
theorem dX7_step_25 : decode cX7_step 25 = .ok (.iload_n 1, 1) := by decide +kernel
theorem dX7_step_26 : decode cX7_step 26 = .ok (.iaload, 1) := by decide +kernel
theorem dX7_step_27 : decode cX7_step 27 = .ok (.iload_n 2, 1) := by decide +kernel
theorem dX7_step_28 : decode cX7_step 28 = .ok (.ishr, 1) := by decide +kernel
theorem dX7_step_29 : decode cX7_step 29 = .ok (.iconst 1, 1) := by decide +kernel
theorem dX7_step_30 : decode cX7_step 30 = .ok (.iand, 1) := by decide +kernel
theorem dX7_step_31 : decode cX7_step 31 = .ok (.istore 4, 2) := by decide +kernel
theorem dX7_step_33 : decode cX7_step 33 = .ok (.aload_n 0, 1) := by decide +kernel
theorem dX7_step_34 : decode cX7_step 34 = .ok (.getfield 13, 3) := by decide +kernel
theorem dX7_step_37 : decode cX7_step 37 = .ok (.iload_n 1, 1) := by decide +kernel
theorem dX7_step_38 : decode cX7_step 38 = .ok (.iload_n 3, 1) := by decide +kernel
theorem dX7_step_39 : decode cX7_step 39 = .ok (.ifCond .eq 16, 3) := by decide +kernel
theorem dX7_step_42 : decode cX7_step 42 = .ok (.aload_n 0, 1) := by decide +kernel
theorem dX7_step_43 : decode cX7_step 43 = .ok (.getfield 13, 3) := by decide +kernel
theorem dX7_step_46 : decode cX7_step 46 = .ok (.iload_n 1, 1) := by decide +kernel
theorem dX7_step_47 : decode cX7_step 47 = .ok (.iaload, 1) := by decide +kernel
theorem dX7_step_48 : decode cX7_step 48 = .ok (.iconst 1, 1) := by decide +kernel
theorem dX7_step_49 : decode cX7_step 49 = .ok (.iload_n 2, 1) := by decide +kernel
theorem dX7_step_50 : decode cX7_step 50 = .ok (.ishl, 1) := by decide +kernel
theorem dX7_step_51 : decode cX7_step 51 = .ok (.ior, 1) := by decide +kernel
theorem dX7_step_52 : decode cX7_step 52 = .ok (.goto 15, 3) := by decide +kernel
theorem dX7_step_55 : decode cX7_step 55 = .ok (.aload_n 0, 1) := by decide +kernel
theorem dX7_step_56 : decode cX7_step 56 = .ok (.getfield 13, 3) := by decide +kernel
theorem dX7_step_59 : decode cX7_step 59 = .ok (.iload_n 1, 1) := by decide +kernel
theorem dX7_step_60 : decode cX7_step 60 = .ok (.iaload, 1) := by decide +kernel
theorem dX7_step_61 : decode cX7_step 61 = .ok (.iconst 1, 1) := by decide +kernel
theorem dX7_step_62 : decode cX7_step 62 = .ok (.iload_n 2, 1) := by decide +kernel
theorem dX7_step_63 : decode cX7_step 63 = .ok (.ishl, 1) := by decide +kernel
theorem dX7_step_64 : decode cX7_step 64 = .ok (.iconst (-1), 1) := by decide +kernel
theorem dX7_step_65 : decode cX7_step 65 = .ok (.ixor, 1) := by decide +kernel
theorem dX7_step_66 : decode cX7_step 66 = .ok (.iand, 1) := by decide +kernel
theorem dX7_step_67 : decode cX7_step 67 = .ok (.iastore, 1) := by decide +kernel
theorem dX7_step_68 : decode cX7_step 68 = .ok (.iload 4, 2) := by decide +kernel
theorem dX7_step_70 : decode cX7_step 70 = .ok (.ireturn, 1) := by decide +kernel
set_option maxRecDepth 20000 in
theorem ggX7_needs_X7_isInsult : GoodIn wsX7_needs wsX7_isInsult := goodIn_r _ [5, 6, 7, 4, 8] (by decide +kernel) (by decide +kernel)
set_option maxRecDepth 20000 in
theorem gX7_needs_X7_isInsult : GoodIn wsX7_needs (va_wsS RX7 88 yX7_isInsult wsX7_isInsult) := goodIn_app (goodIn_of _ (by decide +kernel)) ggX7_needs_X7_isInsult
set_option maxRecDepth 20000 in
theorem ggX7_needs_X7_in : GoodIn wsX7_needs wsX7_in := goodIn_r _ [8] (by decide +kernel) (by decide +kernel)
set_option maxRecDepth 20000 in
theorem gX7_needs_X7_in : GoodIn wsX7_needs (va_wsS RX7 59 yX7_in wsX7_in) := goodIn_app (goodIn_of _ (by decide +kernel)) ggX7_needs_X7_in
theorem dX7_needs_0 : decode cX7_needs 0 = .ok (.iload_n 1, 1) := by decide +kernel
theorem dX7_needs_1 : decode cX7_needs 1 = .ok (.invokestatic 88, 3) := by decide +kernel
theorem dX7_needs_4 : decode cX7_needs 4 = .ok (.ifCond .ne 5, 3) := by decide +kernel
theorem dX7_needs_7 : decode cX7_needs 7 = .ok (.iconst (-1), 1) := by decide +kernel
theorem dX7_needs_8 : decode cX7_needs 8 = .ok (.ireturn, 1) := by decide +kernel
theorem dX7_needs_9 : decode cX7_needs 9 = .ok (.iload_n 2, 1) := by decide +kernel
theorem dX7_needs_10 : decode cX7_needs 10 = .ok (.iconst 0, 1) := by decide +kernel
theorem dX7_needs_11 : decode cX7_needs 11 = .ok (.bipush 63, 2) := by decide +kernel
theorem dX7_needs_13 : decode cX7_needs 13 = .ok (.invokestatic 59, 3) := by decide +kernel
theorem dX7_needs_16 : decode cX7_needs 16 = .ok (.ifCond .ne 6, 3) := by decide +kernel
theorem dX7_needs_19 : decode cX7_needs 19 = .ok (.bipush (-2), 2) := by decide +kernel
theorem dX7_needs_21 : decode cX7_needs 21 = .ok (.ireturn, 1) := by decide +kernel
theorem dX7_needs_22 : decode cX7_needs 22 = .ok (.aload_n 0, 1) := by decide +kernel
theorem dX7_needs_23 : decode cX7_needs 23 = .ok (.getfield 16, 3) := by decide +kernel
theorem dX7_needs_26 : decode cX7_needs 26 = .ok (.iload_n 1, 1) := by decide +kernel
theorem dX7_needs_27 : decode cX7_needs 27 = .ok (.iaload, 1) := by decide +kernel
theorem dX7_needs_28 : decode cX7_needs 28 = .ok (.istore_n 3, 1) := by decide +kernel
theorem dX7_needs_29 : decode cX7_needs 29 = .ok (.aload_n 0, 1) := by decide +kernel
theorem dX7_needs_30 : decode cX7_needs 30 = .ok (.getfield 16, 3) := by decide +kernel
theorem dX7_needs_33 : decode cX7_needs 33 = .ok (.iload_n 1, 1) := by decide +kernel
theorem dX7_needs_34 : decode cX7_needs 34 = .ok (.iload_n 2, 1) := by decide +kernel
theorem dX7_needs_35 : decode cX7_needs 35 = .ok (.iastore, 1) := by decide +kernel
theorem dX7_needs_36 : decode cX7_needs 36 = .ok (.iload_n 3, 1) := by decide +kernel
theorem dX7_needs_37 : decode cX7_needs 37 = .ok (.ireturn, 1) := by decide +kernel
set_option maxRecDepth 20000 in
theorem ggX7_man_X7_isMan : GoodIn wsX7_man wsX7_isMan := goodIn_r _ [6, 7, 8, 5, 9] (by decide +kernel) (by decide +kernel)
set_option maxRecDepth 20000 in
theorem gX7_man_X7_isMan : GoodIn wsX7_man (va_wsS RX7 63 yX7_isMan wsX7_isMan) := goodIn_app (goodIn_of _ (by decide +kernel)) ggX7_man_X7_isMan
set_option maxRecDepth 20000 in
theorem ggX7_man_X7_in : GoodIn wsX7_man wsX7_in := goodIn_r _ [9] (by decide +kernel) (by decide +kernel)
set_option maxRecDepth 20000 in
theorem gX7_man_X7_in : GoodIn wsX7_man (va_wsS RX7 59 yX7_in wsX7_in) := goodIn_app (goodIn_of _ (by decide +kernel)) ggX7_man_X7_in
theorem dX7_man_0 : decode cX7_man 0 = .ok (.iload_n 1, 1) := by decide +kernel
theorem dX7_man_1 : decode cX7_man 1 = .ok (.invokestatic 63, 3) := by decide +kernel
theorem dX7_man_4 : decode cX7_man 4 = .ok (.ifCond .ne 5, 3) := by decide +kernel
theorem dX7_man_7 : decode cX7_man 7 = .ok (.iconst (-1), 1) := by decide +kernel
theorem dX7_man_8 : decode cX7_man 8 = .ok (.ireturn, 1) := by decide +kernel
theorem dX7_man_9 : decode cX7_man 9 = .ok (.iload_n 2, 1) := by decide +kernel
theorem dX7_man_10 : decode cX7_man 10 = .ok (.iconst 0, 1) := by decide +kernel
theorem dX7_man_11 : decode cX7_man 11 = .ok (.iconst 1, 1) := by decide +kernel
theorem dX7_man_12 : decode cX7_man 12 = .ok (.invokestatic 59, 3) := by decide +kernel
theorem dX7_man_15 : decode cX7_man 15 = .ok (.ifCond .eq 23, 3) := by decide +kernel
theorem dX7_man_18 : decode cX7_man 18 = .ok (.iload_n 3, 1) := by decide +kernel
theorem dX7_man_19 : decode cX7_man 19 = .ok (.iconst 0, 1) := by decide +kernel
theorem dX7_man_20 : decode cX7_man 20 = .ok (.iload_n 2, 1) := by decide +kernel
theorem dX7_man_21 : decode cX7_man 21 = .ok (.ifCond .ne 8, 3) := by decide +kernel
theorem dX7_man_24 : decode cX7_man 24 = .ok (.bipush 63, 2) := by decide +kernel
theorem dX7_man_26 : decode cX7_man 26 = .ok (.goto 6, 3) := by decide +kernel
theorem dX7_man_29 : decode cX7_man 29 = .ok (.sipush 1023, 3) := by decide +kernel
theorem dX7_man_32 : decode cX7_man 32 = .ok (.invokestatic 59, 3) := by decide +kernel
theorem dX7_man_35 : decode cX7_man 35 = .ok (.ifCond .ne 6, 3) := by decide +kernel
theorem dX7_man_38 : decode cX7_man 38 = .ok (.bipush (-2), 2) := by decide +kernel
theorem dX7_man_40 : decode cX7_man 40 = .ok (.ireturn, 1) := by decide +kernel
theorem dX7_man_41 : decode cX7_man 41 = .ok (.iload_n 2, 1) := by decide +kernel
theorem dX7_man_42 : decode cX7_man 42 = .ok (.ifCond .ne 12, 3) := by decide +kernel
theorem dX7_man_45 : decode cX7_man 45 = .ok (.aload_n 0, 1) := by decide +kernel
theorem dX7_man_46 : decode cX7_man 46 = .ok (.getfield 19, 3) := by decide +kernel
theorem dX7_man_49 : decode cX7_man 49 = .ok (.iload_n 1, 1) := by decide +kernel
theorem dX7_man_50 : decode cX7_man 50 = .ok (.iaload, 1) := by decide +kernel
theorem dX7_man_51 : decode cX7_man 51 = .ok (.goto 9, 3) := by decide +kernel
theorem dX7_man_54 : decode cX7_man 54 = .ok (.aload_n 0, 1) := by decide +kernel
theorem dX7_man_55 : decode cX7_man 55 = .ok (.getfield 22, 3) := by decide +kernel
theorem dX7_man_58 : decode cX7_man 58 = .ok (.iload_n 1, 1) := by decide +kernel
theorem dX7_man_59 : decode cX7_man 59 = .ok (.iaload, 1) := by decide +kernel
theorem dX7_man_60 : decode cX7_man 60 = .ok (.istore 4, 2) := by decide +kernel
theorem dX7_man_62 : decode cX7_man 62 = .ok (.iload_n 2, 1) := by decide +kernel
theorem dX7_man_63 : decode cX7_man 63 = .ok (.ifCond .ne 13, 3) := by decide +kernel
theorem dX7_man_66 : decode cX7_man 66 = .ok (.aload_n 0, 1) := by decide +kernel
theorem dX7_man_67 : decode cX7_man 67 = .ok (.getfield 19, 3) := by decide +kernel
theorem dX7_man_70 : decode cX7_man 70 = .ok (.iload_n 1, 1) := by decide +kernel
theorem dX7_man_71 : decode cX7_man 71 = .ok (.iload_n 3, 1) := by decide +kernel
theorem dX7_man_72 : decode cX7_man 72 = .ok (.iastore, 1) := by decide +kernel
theorem dX7_man_73 : decode cX7_man 73 = .ok (.goto 10, 3) := by decide +kernel
theorem dX7_man_76 : decode cX7_man 76 = .ok (.aload_n 0, 1) := by decide +kernel
theorem dX7_man_77 : decode cX7_man 77 = .ok (.getfield 22, 3) := by decide +kernel
theorem dX7_man_80 : decode cX7_man 80 = .ok (.iload_n 1, 1) := by decide +kernel
theorem dX7_man_81 : decode cX7_man 81 = .ok (.iload_n 3, 1) := by decide +kernel
theorem dX7_man_82 : decode cX7_man 82 = .ok (.iastore, 1) := by decide +kernel
theorem dX7_man_83 : decode cX7_man 83 = .ok (.iload 4, 2) := by decide +kernel
theorem dX7_man_85 : decode cX7_man 85 = .ok (.ireturn, 1) := by decide +kernel
theorem dX7_fitOf_0 : decode cX7_fitOf 0 = .ok (.iconst 0, 1) := by decide +kernel
theorem dX7_fitOf_1 : decode cX7_fitOf 1 = .ok (.istore_n 2, 1) := by decide +kernel
theorem dX7_fitOf_2 : decode cX7_fitOf 2 = .ok (.iconst 0, 1) := by decide +kernel
theorem dX7_fitOf_3 : decode cX7_fitOf 3 = .ok (.istore_n 3, 1) := by decide +kernel
theorem dX7_fitOf_4 : decode cX7_fitOf 4 = .ok (.iload_n 3, 1) := by decide +kernel
theorem dX7_fitOf_5 : decode cX7_fitOf 5 = .ok (.bipush 10, 2) := by decide +kernel
theorem dX7_fitOf_7 : decode cX7_fitOf 7 = .ok (.if_icmp .ge 37, 3) := by decide +kernel
theorem dX7_fitOf_10 : decode cX7_fitOf 10 = .ok (.iload_n 2, 1) := by decide +kernel
theorem dX7_fitOf_11 : decode cX7_fitOf 11 = .ok (.aload_n 0, 1) := by decide +kernel
theorem dX7_fitOf_12 : decode cX7_fitOf 12 = .ok (.getfield 16, 3) := by decide +kernel
theorem dX7_fitOf_15 : decode cX7_fitOf 15 = .ok (.iload_n 3, 1) := by decide +kernel
theorem dX7_fitOf_16 : decode cX7_fitOf 16 = .ok (.iaload, 1) := by decide +kernel
theorem dX7_fitOf_17 : decode cX7_fitOf 17 = .ok (.aload_n 0, 1) := by decide +kernel
theorem dX7_fitOf_18 : decode cX7_fitOf 18 = .ok (.getfield 19, 3) := by decide +kernel
theorem dX7_fitOf_21 : decode cX7_fitOf 21 = .ok (.iload_n 1, 1) := by decide +kernel
theorem dX7_fitOf_22 : decode cX7_fitOf 22 = .ok (.iaload, 1) := by decide +kernel
theorem dX7_fitOf_23 : decode cX7_fitOf 23 = .ok (.iconst (-1), 1) := by decide +kernel
theorem dX7_fitOf_24 : decode cX7_fitOf 24 = .ok (.ixor, 1) := by decide +kernel
theorem dX7_fitOf_25 : decode cX7_fitOf 25 = .ok (.iand, 1) := by decide +kernel
theorem dX7_fitOf_26 : decode cX7_fitOf 26 = .ok (.ifCond .ne 9, 3) := by decide +kernel
theorem dX7_fitOf_29 : decode cX7_fitOf 29 = .ok (.iconst 1, 1) := by decide +kernel
theorem dX7_fitOf_30 : decode cX7_fitOf 30 = .ok (.iload_n 3, 1) := by decide +kernel
theorem dX7_fitOf_31 : decode cX7_fitOf 31 = .ok (.ishl, 1) := by decide +kernel
theorem dX7_fitOf_32 : decode cX7_fitOf 32 = .ok (.goto 4, 3) := by decide +kernel
theorem dX7_fitOf_35 : decode cX7_fitOf 35 = .ok (.iconst 0, 1) := by decide +kernel
theorem dX7_fitOf_36 : decode cX7_fitOf 36 = .ok (.ior, 1) := by decide +kernel
theorem dX7_fitOf_37 : decode cX7_fitOf 37 = .ok (.istore_n 2, 1) := by decide +kernel
theorem dX7_fitOf_38 : decode cX7_fitOf 38 = .ok (.iinc 3 1, 3) := by decide +kernel
theorem dX7_fitOf_41 : decode cX7_fitOf 41 = .ok (.goto (-37), 3) := by decide +kernel
theorem dX7_fitOf_44 : decode cX7_fitOf 44 = .ok (.iload_n 2, 1) := by decide +kernel
theorem dX7_fitOf_45 : decode cX7_fitOf 45 = .ok (.ireturn, 1) := by decide +kernel
set_option maxRecDepth 20000 in
theorem ggX7_fit_X7_isMan : GoodIn wsX7_fit wsX7_isMan := goodIn_r _ [4, 5, 6, 3, 7] (by decide +kernel) (by decide +kernel)
set_option maxRecDepth 20000 in
theorem gX7_fit_X7_isMan : GoodIn wsX7_fit (va_wsS RX7 63 yX7_isMan wsX7_isMan) := goodIn_app (goodIn_of _ (by decide +kernel)) ggX7_fit_X7_isMan
set_option maxRecDepth 20000 in
theorem ggX7_fit_X7_fitOf : GoodIn wsX7_fit wsX7_fitOf := goodIn_r _ [11, 12, 13, 14, 15, 16, 17, 18, 19, 20, 21, 22, 23, 24, 25, 26, 27, 28, 29, 30, 31] (by decide +kernel) (by decide +kernel)
set_option maxRecDepth 20000 in
theorem gX7_fit_X7_fitOf : GoodIn wsX7_fit (wsV RX7 91 RX7 yX7_fitOf wsX7_fitOf) := goodIn_app (goodIn_of _ (by decide +kernel)) ggX7_fit_X7_fitOf
theorem dX7_fit_0 : decode cX7_fit 0 = .ok (.iload_n 1, 1) := by decide +kernel
theorem dX7_fit_1 : decode cX7_fit 1 = .ok (.invokestatic 63, 3) := by decide +kernel
theorem dX7_fit_4 : decode cX7_fit 4 = .ok (.ifCond .eq 11, 3) := by decide +kernel
theorem dX7_fit_7 : decode cX7_fit 7 = .ok (.aload_n 0, 1) := by decide +kernel
theorem dX7_fit_8 : decode cX7_fit 8 = .ok (.iload_n 1, 1) := by decide +kernel
theorem dX7_fit_9 : decode cX7_fit 9 = .ok (.invokevirtual 91, 3) := by decide +kernel
theorem dX7_fit_12 : decode cX7_fit 12 = .ok (.goto 4, 3) := by decide +kernel
theorem dX7_fit_15 : decode cX7_fit 15 = .ok (.iconst (-1), 1) := by decide +kernel
theorem dX7_fit_16 : decode cX7_fit 16 = .ok (.ireturn, 1) := by decide +kernel
set_option maxRecDepth 20000 in
theorem ggX7_whyNot_X7_has : GoodIn wsX7_whyNot wsX7_has := goodIn_r _ [8] (by decide +kernel) (by decide +kernel)
set_option maxRecDepth 20000 in
theorem gX7_whyNot_X7_has : GoodIn wsX7_whyNot (va_wsS RX7 94 yX7_has wsX7_has) := goodIn_app (goodIn_of _ (by decide +kernel)) ggX7_whyNot_X7_has
set_option maxRecDepth 20000 in
theorem ggX7_whyNot_X7_fitOf : GoodIn wsX7_whyNot wsX7_fitOf := goodIn_r _ [12, 13, 14, 15, 16, 17, 18, 19, 20, 21, 22, 23, 24, 25, 26, 27, 28, 29, 30, 31, 32] (by decide +kernel) (by decide +kernel)
set_option maxRecDepth 20000 in
theorem gX7_whyNot_X7_fitOf : GoodIn wsX7_whyNot (wsV RX7 91 RX7 yX7_fitOf wsX7_fitOf) := goodIn_app (goodIn_of _ (by decide +kernel)) ggX7_whyNot_X7_fitOf
theorem dX7_whyNot_0 : decode cX7_whyNot 0 = .ok (.aload_n 0, 1) := by decide +kernel
theorem dX7_whyNot_1 : decode cX7_whyNot 1 = .ok (.getfield 7, 3) := by decide +kernel
theorem dX7_whyNot_4 : decode cX7_whyNot 4 = .ok (.iconst 2, 1) := by decide +kernel
theorem dX7_whyNot_5 : decode cX7_whyNot 5 = .ok (.iload_n 1, 1) := by decide +kernel
theorem dX7_whyNot_6 : decode cX7_whyNot 6 = .ok (.imul, 1) := by decide +kernel
theorem dX7_whyNot_7 : decode cX7_whyNot 7 = .ok (.iaload, 1) := by decide +kernel
theorem dX7_whyNot_8 : decode cX7_whyNot 8 = .ok (.bipush 48, 2) := by decide +kernel
theorem dX7_whyNot_10 : decode cX7_whyNot 10 = .ok (.isub, 1) := by decide +kernel
theorem dX7_whyNot_11 : decode cX7_whyNot 11 = .ok (.istore_n 2, 1) := by decide +kernel
theorem dX7_whyNot_12 : decode cX7_whyNot 12 = .ok (.aload_n 0, 1) := by decide +kernel
theorem dX7_whyNot_13 : decode cX7_whyNot 13 = .ok (.getfield 7, 3) := by decide +kernel
theorem dX7_whyNot_16 : decode cX7_whyNot 16 = .ok (.iconst 2, 1) := by decide +kernel
theorem dX7_whyNot_17 : decode cX7_whyNot 17 = .ok (.iload_n 1, 1) := by decide +kernel
theorem dX7_whyNot_18 : decode cX7_whyNot 18 = .ok (.imul, 1) := by decide +kernel
theorem dX7_whyNot_19 : decode cX7_whyNot 19 = .ok (.iconst 1, 1) := by decide +kernel
theorem dX7_whyNot_20 : decode cX7_whyNot 20 = .ok (.iadd, 1) := by decide +kernel
theorem dX7_whyNot_21 : decode cX7_whyNot 21 = .ok (.iaload, 1) := by decide +kernel
theorem dX7_whyNot_22 : decode cX7_whyNot 22 = .ok (.bipush 97, 2) := by decide +kernel
theorem dX7_whyNot_24 : decode cX7_whyNot 24 = .ok (.isub, 1) := by decide +kernel
theorem dX7_whyNot_25 : decode cX7_whyNot 25 = .ok (.istore_n 3, 1) := by decide +kernel
theorem dX7_whyNot_26 : decode cX7_whyNot 26 = .ok (.iload_n 1, 1) := by decide +kernel
theorem dX7_whyNot_27 : decode cX7_whyNot 27 = .ok (.ifCond .le 30, 3) := by decide +kernel
theorem dX7_whyNot_30 : decode cX7_whyNot 30 = .ok (.aload_n 0, 1) := by decide +kernel
theorem dX7_whyNot_31 : decode cX7_whyNot 31 = .ok (.getfield 13, 3) := by decide +kernel
theorem dX7_whyNot_34 : decode cX7_whyNot 34 = .ok (.aload_n 0, 1) := by decide +kernel
theorem dX7_whyNot_35 : decode cX7_whyNot 35 = .ok (.getfield 7, 3) := by decide +kernel
theorem dX7_whyNot_38 : decode cX7_whyNot 38 = .ok (.iconst 2, 1) := by decide +kernel
theorem dX7_whyNot_39 : decode cX7_whyNot 39 = .ok (.iload_n 1, 1) := by decide +kernel
theorem dX7_whyNot_40 : decode cX7_whyNot 40 = .ok (.imul, 1) := by decide +kernel
theorem dX7_whyNot_41 : decode cX7_whyNot 41 = .ok (.iconst 1, 1) := by decide +kernel
theorem dX7_whyNot_42 : decode cX7_whyNot 42 = .ok (.isub, 1) := by decide +kernel
theorem dX7_whyNot_43 : decode cX7_whyNot 43 = .ok (.iaload, 1) := by decide +kernel
theorem dX7_whyNot_44 : decode cX7_whyNot 44 = .ok (.bipush 97, 2) := by decide +kernel
theorem dX7_whyNot_46 : decode cX7_whyNot 46 = .ok (.isub, 1) := by decide +kernel
theorem dX7_whyNot_47 : decode cX7_whyNot 47 = .ok (.iaload, 1) := by decide +kernel
theorem dX7_whyNot_48 : decode cX7_whyNot 48 = .ok (.iload_n 3, 1) := by decide +kernel
theorem dX7_whyNot_49 : decode cX7_whyNot 49 = .ok (.invokestatic 94, 3) := by decide +kernel
theorem dX7_whyNot_52 : decode cX7_whyNot 52 = .ok (.ifCond .ne 5, 3) := by decide +kernel
theorem dX7_whyNot_55 : decode cX7_whyNot 55 = .ok (.iconst 1, 1) := by decide +kernel
theorem dX7_whyNot_56 : decode cX7_whyNot 56 = .ok (.ireturn, 1) := by decide +kernel
theorem dX7_whyNot_57 : decode cX7_whyNot 57 = .ok (.iconst 0, 1) := by decide +kernel
theorem dX7_whyNot_58 : decode cX7_whyNot 58 = .ok (.istore 4, 2) := by decide +kernel
theorem dX7_whyNot_60 : decode cX7_whyNot 60 = .ok (.iconst 0, 1) := by decide +kernel
theorem dX7_whyNot_61 : decode cX7_whyNot 61 = .ok (.istore 5, 2) := by decide +kernel
theorem dX7_whyNot_63 : decode cX7_whyNot 63 = .ok (.iload 5, 2) := by decide +kernel
theorem dX7_whyNot_65 : decode cX7_whyNot 65 = .ok (.iload_n 1, 1) := by decide +kernel
theorem dX7_whyNot_66 : decode cX7_whyNot 66 = .ok (.if_icmp .ge 39, 3) := by decide +kernel
theorem dX7_whyNot_69 : decode cX7_whyNot 69 = .ok (.iload 4, 2) := by decide +kernel
theorem dX7_whyNot_71 : decode cX7_whyNot 71 = .ok (.ifCond .ne 21, 3) := by decide +kernel
theorem dX7_whyNot_74 : decode cX7_whyNot 74 = .ok (.aload_n 0, 1) := by decide +kernel
theorem dX7_whyNot_75 : decode cX7_whyNot 75 = .ok (.getfield 7, 3) := by decide +kernel
theorem dX7_whyNot_78 : decode cX7_whyNot 78 = .ok (.iconst 2, 1) := by decide +kernel
theorem dX7_whyNot_79 : decode cX7_whyNot 79 = .ok (.iload 5, 2) := by decide +kernel
theorem dX7_whyNot_81 : decode cX7_whyNot 81 = .ok (.imul, 1) := by decide +kernel
theorem dX7_whyNot_82 : decode cX7_whyNot 82 = .ok (.iconst 1, 1) := by decide +kernel
theorem dX7_whyNot_83 : decode cX7_whyNot 83 = .ok (.iadd, 1) := by decide +kernel
theorem dX7_whyNot_84 : decode cX7_whyNot 84 = .ok (.iaload, 1) := by decide +kernel
theorem dX7_whyNot_85 : decode cX7_whyNot 85 = .ok (.bipush 97, 2) := by decide +kernel
theorem dX7_whyNot_87 : decode cX7_whyNot 87 = .ok (.isub, 1) := by decide +kernel
theorem dX7_whyNot_88 : decode cX7_whyNot 88 = .ok (.iload_n 3, 1) := by decide +kernel
theorem dX7_whyNot_89 : decode cX7_whyNot 89 = .ok (.if_icmp .ne 7, 3) := by decide +kernel
theorem dX7_whyNot_92 : decode cX7_whyNot 92 = .ok (.iconst 1, 1) := by decide +kernel
theorem dX7_whyNot_93 : decode cX7_whyNot 93 = .ok (.goto 4, 3) := by decide +kernel
theorem dX7_whyNot_96 : decode cX7_whyNot 96 = .ok (.iconst 0, 1) := by decide +kernel
theorem dX7_whyNot_97 : decode cX7_whyNot 97 = .ok (.istore 4, 2) := by decide +kernel
theorem dX7_whyNot_99 : decode cX7_whyNot 99 = .ok (.iinc 5 1, 3) := by decide +kernel
theorem dX7_whyNot_102 : decode cX7_whyNot 102 = .ok (.goto (-39), 3) := by decide +kernel
theorem dX7_whyNot_105 : decode cX7_whyNot 105 = .ok (.iload_n 1, 1) := by decide +kernel
theorem dX7_whyNot_106 : decode cX7_whyNot 106 = .ok (.ifCond .le 19, 3) := by decide +kernel
theorem dX7_whyNot_109 : decode cX7_whyNot 109 = .ok (.aload_n 0, 1) := by decide +kernel
theorem dX7_whyNot_110 : decode cX7_whyNot 110 = .ok (.getfield 7, 3) := by decide +kernel
theorem dX7_whyNot_113 : decode cX7_whyNot 113 = .ok (.iconst 2, 1) := by decide +kernel
theorem dX7_whyNot_114 : decode cX7_whyNot 114 = .ok (.iload_n 1, 1) := by decide +kernel
theorem dX7_whyNot_115 : decode cX7_whyNot 115 = .ok (.imul, 1) := by decide +kernel
theorem dX7_whyNot_116 : decode cX7_whyNot 116 = .ok (.iconst 2, 1) := by decide +kernel
theorem dX7_whyNot_117 : decode cX7_whyNot 117 = .ok (.isub, 1) := by decide +kernel
theorem dX7_whyNot_118 : decode cX7_whyNot 118 = .ok (.iaload, 1) := by decide +kernel
theorem dX7_whyNot_119 : decode cX7_whyNot 119 = .ok (.bipush 48, 2) := by decide +kernel
theorem dX7_whyNot_121 : decode cX7_whyNot 121 = .ok (.isub, 1) := by decide +kernel
theorem dX7_whyNot_122 : decode cX7_whyNot 122 = .ok (.goto 25, 3) := by decide +kernel
theorem dX7_whyNot_125 : decode cX7_whyNot 125 = .ok (.aload_n 0, 1) := by decide +kernel
theorem dX7_whyNot_126 : decode cX7_whyNot 126 = .ok (.getfield 67, 3) := by decide +kernel
theorem dX7_whyNot_129 : decode cX7_whyNot 129 = .ok (.iconst 2, 1) := by decide +kernel
theorem dX7_whyNot_130 : decode cX7_whyNot 130 = .ok (.if_icmp .le 15, 3) := by decide +kernel
theorem dX7_whyNot_133 : decode cX7_whyNot 133 = .ok (.aload_n 0, 1) := by decide +kernel
theorem dX7_whyNot_134 : decode cX7_whyNot 134 = .ok (.getfield 7, 3) := by decide +kernel
theorem dX7_whyNot_137 : decode cX7_whyNot 137 = .ok (.iconst 2, 1) := by decide +kernel
theorem dX7_whyNot_138 : decode cX7_whyNot 138 = .ok (.iaload, 1) := by decide +kernel
theorem dX7_whyNot_139 : decode cX7_whyNot 139 = .ok (.bipush 48, 2) := by decide +kernel
theorem dX7_whyNot_141 : decode cX7_whyNot 141 = .ok (.isub, 1) := by decide +kernel
theorem dX7_whyNot_142 : decode cX7_whyNot 142 = .ok (.goto 5, 3) := by decide +kernel
theorem dX7_whyNot_145 : decode cX7_whyNot 145 = .ok (.bipush (-6), 2) := by decide +kernel
theorem dX7_whyNot_147 : decode cX7_whyNot 147 = .ok (.istore 5, 2) := by decide +kernel
theorem dX7_whyNot_149 : decode cX7_whyNot 149 = .ok (.iload 4, 2) := by decide +kernel
theorem dX7_whyNot_151 : decode cX7_whyNot 151 = .ok (.ifCond .eq 7, 3) := by decide +kernel
theorem dX7_whyNot_154 : decode cX7_whyNot 154 = .ok (.iconst 2, 1) := by decide +kernel
theorem dX7_whyNot_155 : decode cX7_whyNot 155 = .ok (.goto 43, 3) := by decide +kernel
theorem dX7_whyNot_158 : decode cX7_whyNot 158 = .ok (.iload 5, 2) := by decide +kernel
theorem dX7_whyNot_160 : decode cX7_whyNot 160 = .ok (.ifCond .lt 20, 3) := by decide +kernel
theorem dX7_whyNot_163 : decode cX7_whyNot 163 = .ok (.aload_n 0, 1) := by decide +kernel
theorem dX7_whyNot_164 : decode cX7_whyNot 164 = .ok (.iload 5, 2) := by decide +kernel
theorem dX7_whyNot_166 : decode cX7_whyNot 166 = .ok (.invokevirtual 91, 3) := by decide +kernel
theorem dX7_whyNot_169 : decode cX7_whyNot 169 = .ok (.iload_n 3, 1) := by decide +kernel
theorem dX7_whyNot_170 : decode cX7_whyNot 170 = .ok (.invokestatic 94, 3) := by decide +kernel
theorem dX7_whyNot_173 : decode cX7_whyNot 173 = .ok (.ifCond .ne 7, 3) := by decide +kernel
theorem dX7_whyNot_176 : decode cX7_whyNot 176 = .ok (.iconst 3, 1) := by decide +kernel
theorem dX7_whyNot_177 : decode cX7_whyNot 177 = .ok (.goto 21, 3) := by decide +kernel
theorem dX7_whyNot_180 : decode cX7_whyNot 180 = .ok (.aload_n 0, 1) := by decide +kernel
theorem dX7_whyNot_181 : decode cX7_whyNot 181 = .ok (.getfield 22, 3) := by decide +kernel
theorem dX7_whyNot_184 : decode cX7_whyNot 184 = .ok (.iload_n 2, 1) := by decide +kernel
theorem dX7_whyNot_185 : decode cX7_whyNot 185 = .ok (.iaload, 1) := by decide +kernel
theorem dX7_whyNot_186 : decode cX7_whyNot 186 = .ok (.iload_n 3, 1) := by decide +kernel
theorem dX7_whyNot_187 : decode cX7_whyNot 187 = .ok (.invokestatic 94, 3) := by decide +kernel
theorem dX7_whyNot_190 : decode cX7_whyNot 190 = .ok (.ifCond .eq 7, 3) := by decide +kernel
theorem dX7_whyNot_193 : decode cX7_whyNot 193 = .ok (.iconst 0, 1) := by decide +kernel
theorem dX7_whyNot_194 : decode cX7_whyNot 194 = .ok (.goto 4, 3) := by decide +kernel
theorem dX7_whyNot_197 : decode cX7_whyNot 197 = .ok (.iconst 4, 1) := by decide +kernel
theorem dX7_whyNot_198 : decode cX7_whyNot 198 = .ok (.ireturn, 1) := by decide +kernel
set_option maxRecDepth 20000 in
theorem ggX7_judge_X7_in : GoodIn wsX7_judge wsX7_in := goodIn_r _ [5] (by decide +kernel) (by decide +kernel)
set_option maxRecDepth 20000 in
theorem gX7_judge_X7_in : GoodIn wsX7_judge (va_wsS RX7 59 yX7_in wsX7_in) := goodIn_app (goodIn_of _ (by decide +kernel)) ggX7_judge_X7_in
set_option maxRecDepth 20000 in
theorem ggX7_judge_X7_quarrelFault : GoodIn wsX7_judge wsX7_quarrelFault := goodIn_r _ [9, 1, 10, 11, 12, 4, 13, 2, 3, 5, 29, 30, 31, 32, 33, 34, 35, 36, 37, 38, 39, 40, 41, 42, 43, 44, 45, 46] (by decide +kernel) (by decide +kernel)
set_option maxRecDepth 20000 in
theorem gX7_judge_X7_quarrelFault : GoodIn wsX7_judge (wsV RX7 78 RX7 yX7_quarrelFault wsX7_quarrelFault) := goodIn_app (goodIn_of _ (by decide +kernel)) ggX7_judge_X7_quarrelFault
set_option maxRecDepth 20000 in
theorem ggX7_judge_X7_whyNot : GoodIn wsX7_judge wsX7_whyNot := goodIn_r _ [17, 10, 18, 1, 19, 20, 21, 4, 22, 23, 24, 25, 26, 27, 28, 29, 30, 31, 32, 33, 34, 35, 36, 37, 38, 39, 40, 41, 42, 43, 44, 45, 46] (by decide +kernel) (by decide +kernel)
set_option maxRecDepth 20000 in
theorem gX7_judge_X7_whyNot : GoodIn wsX7_judge (wsV RX7 98 RX7 yX7_whyNot wsX7_whyNot) := goodIn_app (goodIn_of _ (by decide +kernel)) ggX7_judge_X7_whyNot
theorem dX7_judge_0 : decode cX7_judge 0 = .ok (.iload_n 1, 1) := by decide +kernel
theorem dX7_judge_1 : decode cX7_judge 1 = .ok (.iconst 0, 1) := by decide +kernel
theorem dX7_judge_2 : decode cX7_judge 2 = .ok (.iconst 1, 1) := by decide +kernel
theorem dX7_judge_3 : decode cX7_judge 3 = .ok (.invokestatic 59, 3) := by decide +kernel
theorem dX7_judge_6 : decode cX7_judge 6 = .ok (.ifCond .ne 6, 3) := by decide +kernel
theorem dX7_judge_9 : decode cX7_judge 9 = .ok (.bipush (-2), 2) := by decide +kernel
theorem dX7_judge_11 : decode cX7_judge 11 = .ok (.ireturn, 1) := by decide +kernel
theorem dX7_judge_12 : decode cX7_judge 12 = .ok (.aload_n 0, 1) := by decide +kernel
theorem dX7_judge_13 : decode cX7_judge 13 = .ok (.invokevirtual 78, 3) := by decide +kernel
theorem dX7_judge_16 : decode cX7_judge 16 = .ok (.ifCond .lt 6, 3) := by decide +kernel
theorem dX7_judge_19 : decode cX7_judge 19 = .ok (.bipush (-5), 2) := by decide +kernel
theorem dX7_judge_21 : decode cX7_judge 21 = .ok (.ireturn, 1) := by decide +kernel
theorem dX7_judge_22 : decode cX7_judge 22 = .ok (.iconst 0, 1) := by decide +kernel
theorem dX7_judge_23 : decode cX7_judge 23 = .ok (.istore_n 2, 1) := by decide +kernel
theorem dX7_judge_24 : decode cX7_judge 24 = .ok (.iconst 2, 1) := by decide +kernel
theorem dX7_judge_25 : decode cX7_judge 25 = .ok (.iload_n 2, 1) := by decide +kernel
theorem dX7_judge_26 : decode cX7_judge 26 = .ok (.imul, 1) := by decide +kernel
theorem dX7_judge_27 : decode cX7_judge 27 = .ok (.aload_n 0, 1) := by decide +kernel
theorem dX7_judge_28 : decode cX7_judge 28 = .ok (.getfield 67, 3) := by decide +kernel
theorem dX7_judge_31 : decode cX7_judge 31 = .ok (.if_icmp .ge 29, 3) := by decide +kernel
theorem dX7_judge_34 : decode cX7_judge 34 = .ok (.aload_n 0, 1) := by decide +kernel
theorem dX7_judge_35 : decode cX7_judge 35 = .ok (.iload_n 2, 1) := by decide +kernel
theorem dX7_judge_36 : decode cX7_judge 36 = .ok (.invokevirtual 98, 3) := by decide +kernel
theorem dX7_judge_39 : decode cX7_judge 39 = .ok (.istore_n 3, 1) := by decide +kernel
theorem dX7_judge_40 : decode cX7_judge 40 = .ok (.iload_n 3, 1) := by decide +kernel
theorem dX7_judge_41 : decode cX7_judge 41 = .ok (.ifCond .le 13, 3) := by decide +kernel
theorem dX7_judge_44 : decode cX7_judge 44 = .ok (.iload_n 1, 1) := by decide +kernel
theorem dX7_judge_45 : decode cX7_judge 45 = .ok (.ifCond .ne 7, 3) := by decide +kernel
theorem dX7_judge_48 : decode cX7_judge 48 = .ok (.iload_n 2, 1) := by decide +kernel
theorem dX7_judge_49 : decode cX7_judge 49 = .ok (.goto 4, 3) := by decide +kernel
theorem dX7_judge_52 : decode cX7_judge 52 = .ok (.iload_n 3, 1) := by decide +kernel
theorem dX7_judge_53 : decode cX7_judge 53 = .ok (.ireturn, 1) := by decide +kernel
theorem dX7_judge_54 : decode cX7_judge 54 = .ok (.iinc 2 1, 3) := by decide +kernel
theorem dX7_judge_57 : decode cX7_judge 57 = .ok (.goto (-33), 3) := by decide +kernel
theorem dX7_judge_60 : decode cX7_judge 60 = .ok (.bipush (-6), 2) := by decide +kernel
theorem dX7_judge_62 : decode cX7_judge 62 = .ok (.ireturn, 1) := by decide +kernel
theorem dX7_at_0 : decode cX7_at 0 = .ok (.bipush 10, 2) := by decide +kernel
theorem dX7_at_2 : decode cX7_at 2 = .ok (.iload_n 0, 1) := by decide +kernel
theorem dX7_at_3 : decode cX7_at 3 = .ok (.imul, 1) := by decide +kernel
theorem dX7_at_4 : decode cX7_at 4 = .ok (.iload_n 1, 1) := by decide +kernel
theorem dX7_at_5 : decode cX7_at 5 = .ok (.iadd, 1) := by decide +kernel
theorem dX7_at_6 : decode cX7_at 6 = .ok (.sipush 1024, 3) := by decide +kernel
theorem dX7_at_9 : decode cX7_at 9 = .ok (.imul, 1) := by decide +kernel
theorem dX7_at_10 : decode cX7_at 10 = .ok (.iload_n 2, 1) := by decide +kernel
theorem dX7_at_11 : decode cX7_at 11 = .ok (.iadd, 1) := by decide +kernel
theorem dX7_at_12 : decode cX7_at 12 = .ok (.ireturn, 1) := by decide +kernel
theorem dX7_isBetter_0 : decode cX7_isBetter 0 = .ok (.iload_n 1, 1) := by decide +kernel
theorem dX7_isBetter_1 : decode cX7_isBetter 1 = .ok (.iconst 2, 1) := by decide +kernel
theorem dX7_isBetter_2 : decode cX7_isBetter 2 = .ok (.irem, 1) := by decide +kernel
theorem dX7_isBetter_3 : decode cX7_isBetter 3 = .ok (.iload_n 0, 1) := by decide +kernel
theorem dX7_isBetter_4 : decode cX7_isBetter 4 = .ok (.if_icmp .ne 7, 3) := by decide +kernel
theorem dX7_isBetter_7 : decode cX7_isBetter 7 = .ok (.iconst 1, 1) := by decide +kernel
theorem dX7_isBetter_8 : decode cX7_isBetter 8 = .ok (.goto 4, 3) := by decide +kernel
theorem dX7_isBetter_11 : decode cX7_isBetter 11 = .ok (.iconst 0, 1) := by decide +kernel
theorem dX7_isBetter_12 : decode cX7_isBetter 12 = .ok (.istore_n 3, 1) := by decide +kernel
theorem dX7_isBetter_13 : decode cX7_isBetter 13 = .ok (.iload_n 2, 1) := by decide +kernel
theorem dX7_isBetter_14 : decode cX7_isBetter 14 = .ok (.iconst 2, 1) := by decide +kernel
theorem dX7_isBetter_15 : decode cX7_isBetter 15 = .ok (.irem, 1) := by decide +kernel
theorem dX7_isBetter_16 : decode cX7_isBetter 16 = .ok (.iload_n 0, 1) := by decide +kernel
theorem dX7_isBetter_17 : decode cX7_isBetter 17 = .ok (.if_icmp .ne 7, 3) := by decide +kernel
theorem dX7_isBetter_20 : decode cX7_isBetter 20 = .ok (.iconst 1, 1) := by decide +kernel
theorem dX7_isBetter_21 : decode cX7_isBetter 21 = .ok (.goto 4, 3) := by decide +kernel
theorem dX7_isBetter_24 : decode cX7_isBetter 24 = .ok (.iconst 0, 1) := by decide +kernel
theorem dX7_isBetter_25 : decode cX7_isBetter 25 = .ok (.istore 4, 2) := by decide +kernel
theorem dX7_isBetter_27 : decode cX7_isBetter 27 = .ok (.iload_n 3, 1) := by decide +kernel
theorem dX7_isBetter_28 : decode cX7_isBetter 28 = .ok (.iload 4, 2) := by decide +kernel
theorem dX7_isBetter_30 : decode cX7_isBetter 30 = .ok (.if_icmp .eq 8, 3) := by decide +kernel
theorem dX7_isBetter_33 : decode cX7_isBetter 33 = .ok (.iload 4, 2) := by decide +kernel
theorem dX7_isBetter_35 : decode cX7_isBetter 35 = .ok (.goto 30, 3) := by decide +kernel
theorem dX7_isBetter_38 : decode cX7_isBetter 38 = .ok (.iload_n 3, 1) := by decide +kernel
theorem dX7_isBetter_39 : decode cX7_isBetter 39 = .ok (.ifCond .eq 16, 3) := by decide +kernel
theorem dX7_isBetter_42 : decode cX7_isBetter 42 = .ok (.iload_n 1, 1) := by decide +kernel
theorem dX7_isBetter_43 : decode cX7_isBetter 43 = .ok (.iload_n 2, 1) := by decide +kernel
theorem dX7_isBetter_44 : decode cX7_isBetter 44 = .ok (.if_icmp .le 7, 3) := by decide +kernel
theorem dX7_isBetter_47 : decode cX7_isBetter 47 = .ok (.iconst 1, 1) := by decide +kernel
theorem dX7_isBetter_48 : decode cX7_isBetter 48 = .ok (.goto 17, 3) := by decide +kernel
theorem dX7_isBetter_51 : decode cX7_isBetter 51 = .ok (.iconst 0, 1) := by decide +kernel
theorem dX7_isBetter_52 : decode cX7_isBetter 52 = .ok (.goto 13, 3) := by decide +kernel
theorem dX7_isBetter_55 : decode cX7_isBetter 55 = .ok (.iload_n 1, 1) := by decide +kernel
theorem dX7_isBetter_56 : decode cX7_isBetter 56 = .ok (.iload_n 2, 1) := by decide +kernel
theorem dX7_isBetter_57 : decode cX7_isBetter 57 = .ok (.if_icmp .ge 7, 3) := by decide +kernel
theorem dX7_isBetter_60 : decode cX7_isBetter 60 = .ok (.iconst 1, 1) := by decide +kernel
theorem dX7_isBetter_61 : decode cX7_isBetter 61 = .ok (.goto 4, 3) := by decide +kernel
theorem dX7_isBetter_64 : decode cX7_isBetter 64 = .ok (.iconst 0, 1) := by decide +kernel
theorem dX7_isBetter_65 : decode cX7_isBetter 65 = .ok (.ireturn, 1) := by decide +kernel
set_option maxRecDepth 20000 in
theorem ggX7_bestOf_X7_has : GoodIn wsX7_bestOf wsX7_has := goodIn_r _ [6] (by decide +kernel) (by decide +kernel)
set_option maxRecDepth 20000 in
theorem gX7_bestOf_X7_has : GoodIn wsX7_bestOf (va_wsS RX7 94 yX7_has wsX7_has) := goodIn_app (goodIn_of _ (by decide +kernel)) ggX7_bestOf_X7_has
set_option maxRecDepth 20000 in
theorem ggX7_bestOf_X7_at : GoodIn wsX7_bestOf wsX7_at := goodIn_r _ [9] (by decide +kernel) (by decide +kernel)
set_option maxRecDepth 20000 in
theorem gX7_bestOf_X7_at : GoodIn wsX7_bestOf (va_wsS RX7 104 yX7_at wsX7_at) := goodIn_app (goodIn_of _ (by decide +kernel)) ggX7_bestOf_X7_at
set_option maxRecDepth 20000 in
theorem ggX7_bestOf_X7_isBetter : GoodIn wsX7_bestOf wsX7_isBetter := goodIn_r _ [12] (by decide +kernel) (by decide +kernel)
set_option maxRecDepth 20000 in
theorem gX7_bestOf_X7_isBetter : GoodIn wsX7_bestOf (va_wsS RX7 108 yX7_isBetter wsX7_isBetter) := goodIn_app (goodIn_of _ (by decide +kernel)) ggX7_bestOf_X7_isBetter
theorem dX7_bestOf_0 : decode cX7_bestOf 0 = .ok (.bipush (-6), 2) := by decide +kernel
theorem dX7_bestOf_2 : decode cX7_bestOf 2 = .ok (.istore 4, 2) := by decide +kernel
theorem dX7_bestOf_4 : decode cX7_bestOf 4 = .ok (.aload_n 0, 1) := by decide +kernel
theorem dX7_bestOf_5 : decode cX7_bestOf 5 = .ok (.bipush (-6), 2) := by decide +kernel
theorem dX7_bestOf_7 : decode cX7_bestOf 7 = .ok (.putfield 101, 3) := by decide +kernel
theorem dX7_bestOf_10 : decode cX7_bestOf 10 = .ok (.iconst 0, 1) := by decide +kernel
theorem dX7_bestOf_11 : decode cX7_bestOf 11 = .ok (.istore 5, 2) := by decide +kernel
theorem dX7_bestOf_13 : decode cX7_bestOf 13 = .ok (.iload 5, 2) := by decide +kernel
theorem dX7_bestOf_15 : decode cX7_bestOf 15 = .ok (.bipush 10, 2) := by decide +kernel
theorem dX7_bestOf_17 : decode cX7_bestOf 17 = .ok (.if_icmp .ge 67, 3) := by decide +kernel
theorem dX7_bestOf_20 : decode cX7_bestOf 20 = .ok (.iload_n 2, 1) := by decide +kernel
theorem dX7_bestOf_21 : decode cX7_bestOf 21 = .ok (.iload 5, 2) := by decide +kernel
theorem dX7_bestOf_23 : decode cX7_bestOf 23 = .ok (.invokestatic 94, 3) := by decide +kernel
theorem dX7_bestOf_26 : decode cX7_bestOf 26 = .ok (.ifCond .eq 52, 3) := by decide +kernel
theorem dX7_bestOf_29 : decode cX7_bestOf 29 = .ok (.aload_n 0, 1) := by decide +kernel
theorem dX7_bestOf_30 : decode cX7_bestOf 30 = .ok (.getfield 25, 3) := by decide +kernel
theorem dX7_bestOf_33 : decode cX7_bestOf 33 = .ok (.iconst 1, 1) := by decide +kernel
theorem dX7_bestOf_34 : decode cX7_bestOf 34 = .ok (.iload_n 1, 1) := by decide +kernel
theorem dX7_bestOf_35 : decode cX7_bestOf 35 = .ok (.isub, 1) := by decide +kernel
theorem dX7_bestOf_36 : decode cX7_bestOf 36 = .ok (.iload 5, 2) := by decide +kernel
theorem dX7_bestOf_38 : decode cX7_bestOf 38 = .ok (.iload_n 3, 1) := by decide +kernel
theorem dX7_bestOf_39 : decode cX7_bestOf 39 = .ok (.iconst 1, 1) := by decide +kernel
theorem dX7_bestOf_40 : decode cX7_bestOf 40 = .ok (.iload 5, 2) := by decide +kernel
theorem dX7_bestOf_42 : decode cX7_bestOf 42 = .ok (.ishl, 1) := by decide +kernel
theorem dX7_bestOf_43 : decode cX7_bestOf 43 = .ok (.ior, 1) := by decide +kernel
theorem dX7_bestOf_44 : decode cX7_bestOf 44 = .ok (.invokestatic 104, 3) := by decide +kernel
theorem dX7_bestOf_47 : decode cX7_bestOf 47 = .ok (.iaload, 1) := by decide +kernel
theorem dX7_bestOf_48 : decode cX7_bestOf 48 = .ok (.iconst 2, 1) := by decide +kernel
theorem dX7_bestOf_49 : decode cX7_bestOf 49 = .ok (.iadd, 1) := by decide +kernel
theorem dX7_bestOf_50 : decode cX7_bestOf 50 = .ok (.istore 6, 2) := by decide +kernel
theorem dX7_bestOf_52 : decode cX7_bestOf 52 = .ok (.iload 4, 2) := by decide +kernel
theorem dX7_bestOf_54 : decode cX7_bestOf 54 = .ok (.ifCond .lt 14, 3) := by decide +kernel
theorem dX7_bestOf_57 : decode cX7_bestOf 57 = .ok (.iload_n 1, 1) := by decide +kernel
theorem dX7_bestOf_58 : decode cX7_bestOf 58 = .ok (.iload 6, 2) := by decide +kernel
theorem dX7_bestOf_60 : decode cX7_bestOf 60 = .ok (.iload 4, 2) := by decide +kernel
theorem dX7_bestOf_62 : decode cX7_bestOf 62 = .ok (.invokestatic 108, 3) := by decide +kernel
theorem dX7_bestOf_65 : decode cX7_bestOf 65 = .ok (.ifCond .eq 13, 3) := by decide +kernel
theorem dX7_bestOf_68 : decode cX7_bestOf 68 = .ok (.iload 6, 2) := by decide +kernel
theorem dX7_bestOf_70 : decode cX7_bestOf 70 = .ok (.istore 4, 2) := by decide +kernel
theorem dX7_bestOf_72 : decode cX7_bestOf 72 = .ok (.aload_n 0, 1) := by decide +kernel
theorem dX7_bestOf_73 : decode cX7_bestOf 73 = .ok (.iload 5, 2) := by decide +kernel
theorem dX7_bestOf_75 : decode cX7_bestOf 75 = .ok (.putfield 101, 3) := by decide +kernel
theorem dX7_bestOf_78 : decode cX7_bestOf 78 = .ok (.iinc 5 1, 3) := by decide +kernel
theorem dX7_bestOf_81 : decode cX7_bestOf 81 = .ok (.goto (-68), 3) := by decide +kernel
theorem dX7_bestOf_84 : decode cX7_bestOf 84 = .ok (.iload 4, 2) := by decide +kernel
theorem dX7_bestOf_86 : decode cX7_bestOf 86 = .ok (.ifCond .ge 7, 3) := by decide +kernel
theorem dX7_bestOf_89 : decode cX7_bestOf 89 = .ok (.iload_n 1, 1) := by decide +kernel
theorem dX7_bestOf_90 : decode cX7_bestOf 90 = .ok (.goto 5, 3) := by decide +kernel
theorem dX7_bestOf_93 : decode cX7_bestOf 93 = .ok (.iload 4, 2) := by decide +kernel
theorem dX7_bestOf_95 : decode cX7_bestOf 95 = .ok (.ireturn, 1) := by decide +kernel
set_option maxRecDepth 20000 in
theorem ggX7_layMatch_X7_fitOf : GoodIn wsX7_layMatch wsX7_fitOf := goodIn_r _ [9, 10, 11, 26, 27, 28, 29, 30, 31, 32, 33, 34, 35, 36, 37, 38, 39, 40, 41, 42, 43] (by decide +kernel) (by decide +kernel)
set_option maxRecDepth 20000 in
theorem gX7_layMatch_X7_fitOf : GoodIn wsX7_layMatch (wsV RX7 91 RX7 yX7_fitOf wsX7_fitOf) := goodIn_app (goodIn_of _ (by decide +kernel)) ggX7_layMatch_X7_fitOf
set_option maxRecDepth 20000 in
theorem ggX7_layMatch_X7_has : GoodIn wsX7_layMatch wsX7_has := goodIn_r _ [14] (by decide +kernel) (by decide +kernel)
set_option maxRecDepth 20000 in
theorem gX7_layMatch_X7_has : GoodIn wsX7_layMatch (va_wsS RX7 94 yX7_has wsX7_has) := goodIn_app (goodIn_of _ (by decide +kernel)) ggX7_layMatch_X7_has
set_option maxRecDepth 20000 in
theorem ggX7_layMatch_X7_at : GoodIn wsX7_layMatch wsX7_at := goodIn_r _ [17] (by decide +kernel) (by decide +kernel)
set_option maxRecDepth 20000 in
theorem gX7_layMatch_X7_at : GoodIn wsX7_layMatch (va_wsS RX7 104 yX7_at wsX7_at) := goodIn_app (goodIn_of _ (by decide +kernel)) ggX7_layMatch_X7_at
set_option maxRecDepth 20000 in
theorem ggX7_layMatch_X7_bestOf : GoodIn wsX7_layMatch wsX7_bestOf := goodIn_r _ [21, 22, 3, 12, 13, 8, 14, 15, 16, 17, 23, 24, 25, 26, 27, 28, 29, 30, 31, 32, 33, 34, 35, 36, 37, 38, 39, 40, 41, 42, 43] (by decide +kernel) (by decide +kernel)
set_option maxRecDepth 20000 in
theorem gX7_layMatch_X7_bestOf : GoodIn wsX7_layMatch (wsV RX7 111 RX7 yX7_bestOf wsX7_bestOf) := goodIn_app (goodIn_of _ (by decide +kernel)) ggX7_layMatch_X7_bestOf
theorem dX7_layMatch_0 : decode cX7_layMatch 0 = .ok (.aload_n 0, 1) := by decide +kernel
theorem dX7_layMatch_1 : decode cX7_layMatch 1 = .ok (.getfield 28, 3) := by decide +kernel
theorem dX7_layMatch_4 : decode cX7_layMatch 4 = .ok (.iconst 0, 1) := by decide +kernel
theorem dX7_layMatch_5 : decode cX7_layMatch 5 = .ok (.aload_n 0, 1) := by decide +kernel
theorem dX7_layMatch_6 : decode cX7_layMatch 6 = .ok (.getfield 22, 3) := by decide +kernel
theorem dX7_layMatch_9 : decode cX7_layMatch 9 = .ok (.iload_n 1, 1) := by decide +kernel
theorem dX7_layMatch_10 : decode cX7_layMatch 10 = .ok (.iaload, 1) := by decide +kernel
theorem dX7_layMatch_11 : decode cX7_layMatch 11 = .ok (.aload_n 0, 1) := by decide +kernel
theorem dX7_layMatch_12 : decode cX7_layMatch 12 = .ok (.iload_n 2, 1) := by decide +kernel
theorem dX7_layMatch_13 : decode cX7_layMatch 13 = .ok (.invokevirtual 91, 3) := by decide +kernel
theorem dX7_layMatch_16 : decode cX7_layMatch 16 = .ok (.iand, 1) := by decide +kernel
theorem dX7_layMatch_17 : decode cX7_layMatch 17 = .ok (.iastore, 1) := by decide +kernel
theorem dX7_layMatch_18 : decode cX7_layMatch 18 = .ok (.aload_n 0, 1) := by decide +kernel
theorem dX7_layMatch_19 : decode cX7_layMatch 19 = .ok (.getfield 28, 3) := by decide +kernel
theorem dX7_layMatch_22 : decode cX7_layMatch 22 = .ok (.iconst 1, 1) := by decide +kernel
theorem dX7_layMatch_23 : decode cX7_layMatch 23 = .ok (.aload_n 0, 1) := by decide +kernel
theorem dX7_layMatch_24 : decode cX7_layMatch 24 = .ok (.getfield 22, 3) := by decide +kernel
theorem dX7_layMatch_27 : decode cX7_layMatch 27 = .ok (.iload_n 2, 1) := by decide +kernel
theorem dX7_layMatch_28 : decode cX7_layMatch 28 = .ok (.iaload, 1) := by decide +kernel
theorem dX7_layMatch_29 : decode cX7_layMatch 29 = .ok (.aload_n 0, 1) := by decide +kernel
theorem dX7_layMatch_30 : decode cX7_layMatch 30 = .ok (.iload_n 1, 1) := by decide +kernel
theorem dX7_layMatch_31 : decode cX7_layMatch 31 = .ok (.invokevirtual 91, 3) := by decide +kernel
theorem dX7_layMatch_34 : decode cX7_layMatch 34 = .ok (.iand, 1) := by decide +kernel
theorem dX7_layMatch_35 : decode cX7_layMatch 35 = .ok (.iastore, 1) := by decide +kernel
theorem dX7_layMatch_36 : decode cX7_layMatch 36 = .ok (.sipush 1023, 3) := by decide +kernel
theorem dX7_layMatch_39 : decode cX7_layMatch 39 = .ok (.istore_n 3, 1) := by decide +kernel
theorem dX7_layMatch_40 : decode cX7_layMatch 40 = .ok (.iload_n 3, 1) := by decide +kernel
theorem dX7_layMatch_41 : decode cX7_layMatch 41 = .ok (.ifCond .le 88, 3) := by decide +kernel
theorem dX7_layMatch_44 : decode cX7_layMatch 44 = .ok (.iconst 0, 1) := by decide +kernel
theorem dX7_layMatch_45 : decode cX7_layMatch 45 = .ok (.istore 4, 2) := by decide +kernel
theorem dX7_layMatch_47 : decode cX7_layMatch 47 = .ok (.iload 4, 2) := by decide +kernel
theorem dX7_layMatch_49 : decode cX7_layMatch 49 = .ok (.bipush 10, 2) := by decide +kernel
theorem dX7_layMatch_51 : decode cX7_layMatch 51 = .ok (.if_icmp .ge 72, 3) := by decide +kernel
theorem dX7_layMatch_54 : decode cX7_layMatch 54 = .ok (.iconst 0, 1) := by decide +kernel
theorem dX7_layMatch_55 : decode cX7_layMatch 55 = .ok (.istore 5, 2) := by decide +kernel
theorem dX7_layMatch_57 : decode cX7_layMatch 57 = .ok (.iload 5, 2) := by decide +kernel
theorem dX7_layMatch_59 : decode cX7_layMatch 59 = .ok (.iconst 2, 1) := by decide +kernel
theorem dX7_layMatch_60 : decode cX7_layMatch 60 = .ok (.if_icmp .ge 57, 3) := by decide +kernel
theorem dX7_layMatch_63 : decode cX7_layMatch 63 = .ok (.iload_n 3, 1) := by decide +kernel
theorem dX7_layMatch_64 : decode cX7_layMatch 64 = .ok (.iload 4, 2) := by decide +kernel
theorem dX7_layMatch_66 : decode cX7_layMatch 66 = .ok (.invokestatic 94, 3) := by decide +kernel
theorem dX7_layMatch_69 : decode cX7_layMatch 69 = .ok (.ifCond .eq 48, 3) := by decide +kernel
theorem dX7_layMatch_72 : decode cX7_layMatch 72 = .ok (.aload_n 0, 1) := by decide +kernel
theorem dX7_layMatch_73 : decode cX7_layMatch 73 = .ok (.getfield 25, 3) := by decide +kernel
theorem dX7_layMatch_76 : decode cX7_layMatch 76 = .ok (.iload 5, 2) := by decide +kernel
theorem dX7_layMatch_78 : decode cX7_layMatch 78 = .ok (.iload 4, 2) := by decide +kernel
theorem dX7_layMatch_80 : decode cX7_layMatch 80 = .ok (.iload_n 3, 1) := by decide +kernel
theorem dX7_layMatch_81 : decode cX7_layMatch 81 = .ok (.invokestatic 104, 3) := by decide +kernel
theorem dX7_layMatch_84 : decode cX7_layMatch 84 = .ok (.aload_n 0, 1) := by decide +kernel
theorem dX7_layMatch_85 : decode cX7_layMatch 85 = .ok (.iload 5, 2) := by decide +kernel
theorem dX7_layMatch_87 : decode cX7_layMatch 87 = .ok (.aload_n 0, 1) := by decide +kernel
theorem dX7_layMatch_88 : decode cX7_layMatch 88 = .ok (.getfield 13, 3) := by decide +kernel
theorem dX7_layMatch_91 : decode cX7_layMatch 91 = .ok (.iload 4, 2) := by decide +kernel
theorem dX7_layMatch_93 : decode cX7_layMatch 93 = .ok (.iaload, 1) := by decide +kernel
theorem dX7_layMatch_94 : decode cX7_layMatch 94 = .ok (.aload_n 0, 1) := by decide +kernel
theorem dX7_layMatch_95 : decode cX7_layMatch 95 = .ok (.getfield 28, 3) := by decide +kernel
theorem dX7_layMatch_98 : decode cX7_layMatch 98 = .ok (.iload 5, 2) := by decide +kernel
theorem dX7_layMatch_100 : decode cX7_layMatch 100 = .ok (.iaload, 1) := by decide +kernel
theorem dX7_layMatch_101 : decode cX7_layMatch 101 = .ok (.iand, 1) := by decide +kernel
theorem dX7_layMatch_102 : decode cX7_layMatch 102 = .ok (.iload_n 3, 1) := by decide +kernel
theorem dX7_layMatch_103 : decode cX7_layMatch 103 = .ok (.iconst (-1), 1) := by decide +kernel
theorem dX7_layMatch_104 : decode cX7_layMatch 104 = .ok (.ixor, 1) := by decide +kernel
theorem dX7_layMatch_105 : decode cX7_layMatch 105 = .ok (.iand, 1) := by decide +kernel
theorem dX7_layMatch_106 : decode cX7_layMatch 106 = .ok (.iload_n 3, 1) := by decide +kernel
theorem dX7_layMatch_107 : decode cX7_layMatch 107 = .ok (.invokevirtual 111, 3) := by decide +kernel
theorem dX7_layMatch_110 : decode cX7_layMatch 110 = .ok (.iastore, 1) := by decide +kernel
theorem dX7_layMatch_111 : decode cX7_layMatch 111 = .ok (.iinc 5 1, 3) := by decide +kernel
theorem dX7_layMatch_114 : decode cX7_layMatch 114 = .ok (.goto (-57), 3) := by decide +kernel
theorem dX7_layMatch_117 : decode cX7_layMatch 117 = .ok (.iinc 4 1, 3) := by decide +kernel
theorem dX7_layMatch_120 : decode cX7_layMatch 120 = .ok (.goto (-73), 3) := by decide +kernel
theorem dX7_layMatch_123 : decode cX7_layMatch 123 = .ok (.iinc 3 (-1), 3) := by decide +kernel
theorem dX7_layMatch_126 : decode cX7_layMatch 126 = .ok (.goto (-86), 3) := by decide +kernel
theorem dX7_layMatch_129 : decode cX7_layMatch 129 = .ok (.return_, 1) := by decide +kernel
theorem dX7_toldOf_0 : decode cX7_toldOf 0 = .ok (.iload_n 1, 1) := by decide +kernel
theorem dX7_toldOf_1 : decode cX7_toldOf 1 = .ok (.ifCond .ne 17, 3) := by decide +kernel
theorem dX7_toldOf_4 : decode cX7_toldOf 4 = .ok (.iload_n 0, 1) := by decide +kernel
theorem dX7_toldOf_5 : decode cX7_toldOf 5 = .ok (.iconst 2, 1) := by decide +kernel
theorem dX7_toldOf_6 : decode cX7_toldOf 6 = .ok (.irem, 1) := by decide +kernel
theorem dX7_toldOf_7 : decode cX7_toldOf 7 = .ok (.ifCond .ne 7, 3) := by decide +kernel
theorem dX7_toldOf_10 : decode cX7_toldOf 10 = .ok (.iload_n 2, 1) := by decide +kernel
theorem dX7_toldOf_11 : decode cX7_toldOf 11 = .ok (.goto 20, 3) := by decide +kernel
theorem dX7_toldOf_14 : decode cX7_toldOf 14 = .ok (.iload_n 3, 1) := by decide +kernel
theorem dX7_toldOf_15 : decode cX7_toldOf 15 = .ok (.goto 16, 3) := by decide +kernel
theorem dX7_toldOf_18 : decode cX7_toldOf 18 = .ok (.iload_n 1, 1) := by decide +kernel
theorem dX7_toldOf_19 : decode cX7_toldOf 19 = .ok (.iconst 1, 1) := by decide +kernel
theorem dX7_toldOf_20 : decode cX7_toldOf 20 = .ok (.if_icmp .ne 9, 3) := by decide +kernel
theorem dX7_toldOf_23 : decode cX7_toldOf 23 = .ok (.iload_n 0, 1) := by decide +kernel
theorem dX7_toldOf_24 : decode cX7_toldOf 24 = .ok (.iconst 2, 1) := by decide +kernel
theorem dX7_toldOf_25 : decode cX7_toldOf 25 = .ok (.idiv, 1) := by decide +kernel
theorem dX7_toldOf_26 : decode cX7_toldOf 26 = .ok (.goto 5, 3) := by decide +kernel
theorem dX7_toldOf_29 : decode cX7_toldOf 29 = .ok (.iload 4, 2) := by decide +kernel
theorem dX7_toldOf_31 : decode cX7_toldOf 31 = .ok (.ireturn, 1) := by decide +kernel
set_option maxRecDepth 20000 in
theorem ggX7_match_X7_areTwo : GoodIn wsX7_match wsX7_areTwo := goodIn_r _ [6, 7, 8, 5, 9, 10, 11, 12] (by decide +kernel) (by decide +kernel)
set_option maxRecDepth 20000 in
theorem gX7_match_X7_areTwo : GoodIn wsX7_match (va_wsS RX7 114 yX7_areTwo wsX7_areTwo) := goodIn_app (goodIn_of _ (by decide +kernel)) ggX7_match_X7_areTwo
set_option maxRecDepth 20000 in
theorem ggX7_match_X7_in : GoodIn wsX7_match wsX7_in := goodIn_r _ [12] (by decide +kernel) (by decide +kernel)
set_option maxRecDepth 20000 in
theorem gX7_match_X7_in : GoodIn wsX7_match (va_wsS RX7 59 yX7_in wsX7_in) := goodIn_app (goodIn_of _ (by decide +kernel)) ggX7_match_X7_in
set_option maxRecDepth 20000 in
theorem ggX7_match_X7_layMatch : GoodIn wsX7_match wsX7_layMatch := goodIn_r _ [16, 1, 17, 18, 19, 20, 21, 22, 5, 23, 24, 25, 26, 27, 28, 29, 30, 31, 32, 33, 34, 35, 2, 36, 37, 38, 42, 43, 44, 45, 46, 47, 48, 49, 50, 51, 52, 53, 54, 55, 56, 57, 58, 59] (by decide +kernel) (by decide +kernel)
set_option maxRecDepth 20000 in
theorem gX7_match_X7_layMatch : GoodIn wsX7_match (wsV RX7 117 RX7 yX7_layMatch wsX7_layMatch) := goodIn_app (goodIn_of _ (by decide +kernel)) ggX7_match_X7_layMatch
set_option maxRecDepth 20000 in
theorem ggX7_match_X7_bestOf : GoodIn wsX7_match wsX7_bestOf := goodIn_r _ [35, 2, 18, 26, 27, 5, 28, 29, 30, 31, 36, 37, 38, 42, 43, 44, 45, 46, 47, 48, 49, 50, 51, 52, 53, 54, 55, 56, 57, 58, 59] (by decide +kernel) (by decide +kernel)
set_option maxRecDepth 20000 in
theorem gX7_match_X7_bestOf : GoodIn wsX7_match (wsV RX7 111 RX7 yX7_bestOf wsX7_bestOf) := goodIn_app (goodIn_of _ (by decide +kernel)) ggX7_match_X7_bestOf
set_option maxRecDepth 20000 in
theorem ggX7_match_X7_toldOf : GoodIn wsX7_match wsX7_toldOf := goodIn_r _ [41] (by decide +kernel) (by decide +kernel)
set_option maxRecDepth 20000 in
theorem gX7_match_X7_toldOf : GoodIn wsX7_match (va_wsS RX7 121 yX7_toldOf wsX7_toldOf) := goodIn_app (goodIn_of _ (by decide +kernel)) ggX7_match_X7_toldOf
theorem dX7_match_0 : decode cX7_match 0 = .ok (.iload_n 1, 1) := by decide +kernel
theorem dX7_match_1 : decode cX7_match 1 = .ok (.iload_n 2, 1) := by decide +kernel
theorem dX7_match_2 : decode cX7_match 2 = .ok (.invokestatic 114, 3) := by decide +kernel
theorem dX7_match_5 : decode cX7_match 5 = .ok (.ifCond .ne 5, 3) := by decide +kernel
theorem dX7_match_8 : decode cX7_match 8 = .ok (.iconst (-1), 1) := by decide +kernel
theorem dX7_match_9 : decode cX7_match 9 = .ok (.ireturn, 1) := by decide +kernel
theorem dX7_match_10 : decode cX7_match 10 = .ok (.iload_n 3, 1) := by decide +kernel
theorem dX7_match_11 : decode cX7_match 11 = .ok (.iconst 0, 1) := by decide +kernel
theorem dX7_match_12 : decode cX7_match 12 = .ok (.iconst 2, 1) := by decide +kernel
theorem dX7_match_13 : decode cX7_match 13 = .ok (.invokestatic 59, 3) := by decide +kernel
theorem dX7_match_16 : decode cX7_match 16 = .ok (.ifCond .ne 6, 3) := by decide +kernel
theorem dX7_match_19 : decode cX7_match 19 = .ok (.bipush (-2), 2) := by decide +kernel
theorem dX7_match_21 : decode cX7_match 21 = .ok (.ireturn, 1) := by decide +kernel
theorem dX7_match_22 : decode cX7_match 22 = .ok (.aload_n 0, 1) := by decide +kernel
theorem dX7_match_23 : decode cX7_match 23 = .ok (.iload_n 1, 1) := by decide +kernel
theorem dX7_match_24 : decode cX7_match 24 = .ok (.iload_n 2, 1) := by decide +kernel
theorem dX7_match_25 : decode cX7_match 25 = .ok (.invokevirtual 117, 3) := by decide +kernel
theorem dX7_match_28 : decode cX7_match 28 = .ok (.aload_n 0, 1) := by decide +kernel
theorem dX7_match_29 : decode cX7_match 29 = .ok (.iconst 0, 1) := by decide +kernel
theorem dX7_match_30 : decode cX7_match 30 = .ok (.aload_n 0, 1) := by decide +kernel
theorem dX7_match_31 : decode cX7_match 31 = .ok (.getfield 28, 3) := by decide +kernel
theorem dX7_match_34 : decode cX7_match 34 = .ok (.iconst 0, 1) := by decide +kernel
theorem dX7_match_35 : decode cX7_match 35 = .ok (.iaload, 1) := by decide +kernel
theorem dX7_match_36 : decode cX7_match 36 = .ok (.iconst 0, 1) := by decide +kernel
theorem dX7_match_37 : decode cX7_match 37 = .ok (.invokevirtual 111, 3) := by decide +kernel
theorem dX7_match_40 : decode cX7_match 40 = .ok (.istore 4, 2) := by decide +kernel
theorem dX7_match_42 : decode cX7_match 42 = .ok (.iload 4, 2) := by decide +kernel
theorem dX7_match_44 : decode cX7_match 44 = .ok (.iload_n 3, 1) := by decide +kernel
theorem dX7_match_45 : decode cX7_match 45 = .ok (.iload_n 1, 1) := by decide +kernel
theorem dX7_match_46 : decode cX7_match 46 = .ok (.iload_n 2, 1) := by decide +kernel
theorem dX7_match_47 : decode cX7_match 47 = .ok (.aload_n 0, 1) := by decide +kernel
theorem dX7_match_48 : decode cX7_match 48 = .ok (.getfield 101, 3) := by decide +kernel
theorem dX7_match_51 : decode cX7_match 51 = .ok (.invokestatic 121, 3) := by decide +kernel
theorem dX7_match_54 : decode cX7_match 54 = .ok (.ireturn, 1) := by decide +kernel
set_option maxRecDepth 20000 in
theorem ggX7_middle_X7_areTwo : GoodIn wsX7_middle wsX7_areTwo := goodIn_r _ [7, 8, 9, 6, 10, 11, 12, 13] (by decide +kernel) (by decide +kernel)
set_option maxRecDepth 20000 in
theorem gX7_middle_X7_areTwo : GoodIn wsX7_middle (va_wsS RX7 114 yX7_areTwo wsX7_areTwo) := goodIn_app (goodIn_of _ (by decide +kernel)) ggX7_middle_X7_areTwo
set_option maxRecDepth 20000 in
theorem ggX7_middle_X7_isInsult : GoodIn wsX7_middle wsX7_isInsult := goodIn_r _ [16, 11, 12, 6, 13] (by decide +kernel) (by decide +kernel)
set_option maxRecDepth 20000 in
theorem gX7_middle_X7_isInsult : GoodIn wsX7_middle (va_wsS RX7 88 yX7_isInsult wsX7_isInsult) := goodIn_app (goodIn_of _ (by decide +kernel)) ggX7_middle_X7_isInsult
set_option maxRecDepth 20000 in
theorem ggX7_middle_X7_in : GoodIn wsX7_middle wsX7_in := goodIn_r _ [13] (by decide +kernel) (by decide +kernel)
set_option maxRecDepth 20000 in
theorem gX7_middle_X7_in : GoodIn wsX7_middle (va_wsS RX7 59 yX7_in wsX7_in) := goodIn_app (goodIn_of _ (by decide +kernel)) ggX7_middle_X7_in
set_option maxRecDepth 20000 in
theorem ggX7_middle_X7_has : GoodIn wsX7_middle wsX7_has := goodIn_r _ [19] (by decide +kernel) (by decide +kernel)
set_option maxRecDepth 20000 in
theorem gX7_middle_X7_has : GoodIn wsX7_middle (va_wsS RX7 94 yX7_has wsX7_has) := goodIn_app (goodIn_of _ (by decide +kernel)) ggX7_middle_X7_has
set_option maxRecDepth 20000 in
theorem ggX7_middle_X7_layMatch : GoodIn wsX7_middle wsX7_layMatch := goodIn_r _ [23, 2, 24, 25, 1, 26, 27, 28, 6, 29, 30, 31, 17, 18, 19, 32, 33, 34, 35, 36, 37, 38, 3, 39, 40, 41, 45, 46, 47, 48, 49, 50, 51, 52, 53, 54, 55, 56, 57, 58, 59, 60, 61, 62] (by decide +kernel) (by decide +kernel)
set_option maxRecDepth 20000 in
theorem gX7_middle_X7_layMatch : GoodIn wsX7_middle (wsV RX7 117 RX7 yX7_layMatch wsX7_layMatch) := goodIn_app (goodIn_of _ (by decide +kernel)) ggX7_middle_X7_layMatch
set_option maxRecDepth 20000 in
theorem ggX7_middle_X7_bestOf : GoodIn wsX7_middle wsX7_bestOf := goodIn_r _ [38, 3, 25, 17, 18, 6, 19, 32, 33, 34, 39, 40, 41, 45, 46, 47, 48, 49, 50, 51, 52, 53, 54, 55, 56, 57, 58, 59, 60, 61, 62] (by decide +kernel) (by decide +kernel)
set_option maxRecDepth 20000 in
theorem gX7_middle_X7_bestOf : GoodIn wsX7_middle (wsV RX7 111 RX7 yX7_bestOf wsX7_bestOf) := goodIn_app (goodIn_of _ (by decide +kernel)) ggX7_middle_X7_bestOf
set_option maxRecDepth 20000 in
theorem ggX7_middle_X7_toldOf : GoodIn wsX7_middle wsX7_toldOf := goodIn_r _ [44] (by decide +kernel) (by decide +kernel)
set_option maxRecDepth 20000 in
theorem gX7_middle_X7_toldOf : GoodIn wsX7_middle (va_wsS RX7 121 yX7_toldOf wsX7_toldOf) := goodIn_app (goodIn_of _ (by decide +kernel)) ggX7_middle_X7_toldOf
theorem dX7_middle_0 : decode cX7_middle 0 = .ok (.iload_n 1, 1) := by decide +kernel
theorem dX7_middle_1 : decode cX7_middle 1 = .ok (.iload_n 2, 1) := by decide +kernel
theorem dX7_middle_2 : decode cX7_middle 2 = .ok (.invokestatic 114, 3) := by decide +kernel
theorem dX7_middle_5 : decode cX7_middle 5 = .ok (.ifCond .eq 10, 3) := by decide +kernel
theorem dX7_middle_8 : decode cX7_middle 8 = .ok (.iload_n 3, 1) := by decide +kernel
theorem dX7_middle_9 : decode cX7_middle 9 = .ok (.invokestatic 88, 3) := by decide +kernel
theorem dX7_middle_12 : decode cX7_middle 12 = .ok (.ifCond .ne 5, 3) := by decide +kernel
theorem dX7_middle_15 : decode cX7_middle 15 = .ok (.iconst (-1), 1) := by decide +kernel
theorem dX7_middle_16 : decode cX7_middle 16 = .ok (.ireturn, 1) := by decide +kernel
theorem dX7_middle_17 : decode cX7_middle 17 = .ok (.iload 4, 2) := by decide +kernel
theorem dX7_middle_19 : decode cX7_middle 19 = .ok (.iconst 0, 1) := by decide +kernel
theorem dX7_middle_20 : decode cX7_middle 20 = .ok (.sipush 1023, 3) := by decide +kernel
theorem dX7_middle_23 : decode cX7_middle 23 = .ok (.invokestatic 59, 3) := by decide +kernel
theorem dX7_middle_26 : decode cX7_middle 26 = .ok (.ifCond .eq 22, 3) := by decide +kernel
theorem dX7_middle_29 : decode cX7_middle 29 = .ok (.iload 4, 2) := by decide +kernel
theorem dX7_middle_31 : decode cX7_middle 31 = .ok (.iload_n 3, 1) := by decide +kernel
theorem dX7_middle_32 : decode cX7_middle 32 = .ok (.invokestatic 94, 3) := by decide +kernel
theorem dX7_middle_35 : decode cX7_middle 35 = .ok (.ifCond .eq 13, 3) := by decide +kernel
theorem dX7_middle_38 : decode cX7_middle 38 = .ok (.iload 5, 2) := by decide +kernel
theorem dX7_middle_40 : decode cX7_middle 40 = .ok (.iconst 0, 1) := by decide +kernel
theorem dX7_middle_41 : decode cX7_middle 41 = .ok (.iconst 2, 1) := by decide +kernel
theorem dX7_middle_42 : decode cX7_middle 42 = .ok (.invokestatic 59, 3) := by decide +kernel
theorem dX7_middle_45 : decode cX7_middle 45 = .ok (.ifCond .ne 6, 3) := by decide +kernel
theorem dX7_middle_48 : decode cX7_middle 48 = .ok (.bipush (-2), 2) := by decide +kernel
theorem dX7_middle_50 : decode cX7_middle 50 = .ok (.ireturn, 1) := by decide +kernel
theorem dX7_middle_51 : decode cX7_middle 51 = .ok (.aload_n 0, 1) := by decide +kernel
theorem dX7_middle_52 : decode cX7_middle 52 = .ok (.iload_n 1, 1) := by decide +kernel
theorem dX7_middle_53 : decode cX7_middle 53 = .ok (.iload_n 2, 1) := by decide +kernel
theorem dX7_middle_54 : decode cX7_middle 54 = .ok (.invokevirtual 117, 3) := by decide +kernel
theorem dX7_middle_57 : decode cX7_middle 57 = .ok (.aload_n 0, 1) := by decide +kernel
theorem dX7_middle_58 : decode cX7_middle 58 = .ok (.iconst 0, 1) := by decide +kernel
theorem dX7_middle_59 : decode cX7_middle 59 = .ok (.aload_n 0, 1) := by decide +kernel
theorem dX7_middle_60 : decode cX7_middle 60 = .ok (.getfield 13, 3) := by decide +kernel
theorem dX7_middle_63 : decode cX7_middle 63 = .ok (.iload_n 3, 1) := by decide +kernel
theorem dX7_middle_64 : decode cX7_middle 64 = .ok (.iaload, 1) := by decide +kernel
theorem dX7_middle_65 : decode cX7_middle 65 = .ok (.aload_n 0, 1) := by decide +kernel
theorem dX7_middle_66 : decode cX7_middle 66 = .ok (.getfield 28, 3) := by decide +kernel
theorem dX7_middle_69 : decode cX7_middle 69 = .ok (.iconst 0, 1) := by decide +kernel
theorem dX7_middle_70 : decode cX7_middle 70 = .ok (.iaload, 1) := by decide +kernel
theorem dX7_middle_71 : decode cX7_middle 71 = .ok (.iand, 1) := by decide +kernel
theorem dX7_middle_72 : decode cX7_middle 72 = .ok (.iload 4, 2) := by decide +kernel
theorem dX7_middle_74 : decode cX7_middle 74 = .ok (.iconst (-1), 1) := by decide +kernel
theorem dX7_middle_75 : decode cX7_middle 75 = .ok (.ixor, 1) := by decide +kernel
theorem dX7_middle_76 : decode cX7_middle 76 = .ok (.iand, 1) := by decide +kernel
theorem dX7_middle_77 : decode cX7_middle 77 = .ok (.iload 4, 2) := by decide +kernel
theorem dX7_middle_79 : decode cX7_middle 79 = .ok (.invokevirtual 111, 3) := by decide +kernel
theorem dX7_middle_82 : decode cX7_middle 82 = .ok (.istore 6, 2) := by decide +kernel
theorem dX7_middle_84 : decode cX7_middle 84 = .ok (.iload 6, 2) := by decide +kernel
theorem dX7_middle_86 : decode cX7_middle 86 = .ok (.iload 5, 2) := by decide +kernel
theorem dX7_middle_88 : decode cX7_middle 88 = .ok (.iload_n 1, 1) := by decide +kernel
theorem dX7_middle_89 : decode cX7_middle 89 = .ok (.iload_n 2, 1) := by decide +kernel
theorem dX7_middle_90 : decode cX7_middle 90 = .ok (.aload_n 0, 1) := by decide +kernel
theorem dX7_middle_91 : decode cX7_middle 91 = .ok (.getfield 101, 3) := by decide +kernel
theorem dX7_middle_94 : decode cX7_middle 94 = .ok (.invokestatic 121, 3) := by decide +kernel
theorem dX7_middle_97 : decode cX7_middle 97 = .ok (.ireturn, 1) := by decide +kernel
set_option maxRecDepth 20000 in
theorem ggX7_last_X7_areTwo : GoodIn wsX7_last wsX7_areTwo := goodIn_r _ [8, 9, 10, 7, 11, 12, 13, 14] (by decide +kernel) (by decide +kernel)
set_option maxRecDepth 20000 in
theorem gX7_last_X7_areTwo : GoodIn wsX7_last (va_wsS RX7 114 yX7_areTwo wsX7_areTwo) := goodIn_app (goodIn_of _ (by decide +kernel)) ggX7_last_X7_areTwo
set_option maxRecDepth 20000 in
theorem ggX7_last_X7_in : GoodIn wsX7_last wsX7_in := goodIn_r _ [14] (by decide +kernel) (by decide +kernel)
set_option maxRecDepth 20000 in
theorem gX7_last_X7_in : GoodIn wsX7_last (va_wsS RX7 59 yX7_in wsX7_in) := goodIn_app (goodIn_of _ (by decide +kernel)) ggX7_last_X7_in
set_option maxRecDepth 20000 in
theorem ggX7_last_X7_fitOf : GoodIn wsX7_last wsX7_fitOf := goodIn_r _ [18, 19, 20, 27, 28, 29, 30, 31, 32, 33, 34, 35, 36, 37, 38, 39, 40, 41, 42, 43, 44] (by decide +kernel) (by decide +kernel)
set_option maxRecDepth 20000 in
theorem gX7_last_X7_fitOf : GoodIn wsX7_last (wsV RX7 91 RX7 yX7_fitOf wsX7_fitOf) := goodIn_app (goodIn_of _ (by decide +kernel)) ggX7_last_X7_fitOf
set_option maxRecDepth 20000 in
theorem ggX7_last_X7_has : GoodIn wsX7_last wsX7_has := goodIn_r _ [23] (by decide +kernel) (by decide +kernel)
set_option maxRecDepth 20000 in
theorem gX7_last_X7_has : GoodIn wsX7_last (va_wsS RX7 94 yX7_has wsX7_has) := goodIn_app (goodIn_of _ (by decide +kernel)) ggX7_last_X7_has
set_option maxRecDepth 20000 in
theorem ggX7_last_X7_at : GoodIn wsX7_last wsX7_at := goodIn_r _ [26] (by decide +kernel) (by decide +kernel)
set_option maxRecDepth 20000 in
theorem gX7_last_X7_at : GoodIn wsX7_last (va_wsS RX7 104 yX7_at wsX7_at) := goodIn_app (goodIn_of _ (by decide +kernel)) ggX7_last_X7_at
theorem dX7_last_0 : decode cX7_last 0 = .ok (.iload_n 1, 1) := by decide +kernel
theorem dX7_last_1 : decode cX7_last 1 = .ok (.iload_n 2, 1) := by decide +kernel
theorem dX7_last_2 : decode cX7_last 2 = .ok (.invokestatic 114, 3) := by decide +kernel
theorem dX7_last_5 : decode cX7_last 5 = .ok (.ifCond .ne 5, 3) := by decide +kernel
theorem dX7_last_8 : decode cX7_last 8 = .ok (.iconst (-1), 1) := by decide +kernel
theorem dX7_last_9 : decode cX7_last 9 = .ok (.ireturn, 1) := by decide +kernel
theorem dX7_last_10 : decode cX7_last 10 = .ok (.iload_n 3, 1) := by decide +kernel
theorem dX7_last_11 : decode cX7_last 11 = .ok (.iconst 0, 1) := by decide +kernel
theorem dX7_last_12 : decode cX7_last 12 = .ok (.iconst 1, 1) := by decide +kernel
theorem dX7_last_13 : decode cX7_last 13 = .ok (.invokestatic 59, 3) := by decide +kernel
theorem dX7_last_16 : decode cX7_last 16 = .ok (.ifCond .ne 6, 3) := by decide +kernel
theorem dX7_last_19 : decode cX7_last 19 = .ok (.bipush (-2), 2) := by decide +kernel
theorem dX7_last_21 : decode cX7_last 21 = .ok (.ireturn, 1) := by decide +kernel
theorem dX7_last_22 : decode cX7_last 22 = .ok (.aload_n 0, 1) := by decide +kernel
theorem dX7_last_23 : decode cX7_last 23 = .ok (.getfield 28, 3) := by decide +kernel
theorem dX7_last_26 : decode cX7_last 26 = .ok (.iconst 0, 1) := by decide +kernel
theorem dX7_last_27 : decode cX7_last 27 = .ok (.aload_n 0, 1) := by decide +kernel
theorem dX7_last_28 : decode cX7_last 28 = .ok (.getfield 22, 3) := by decide +kernel
theorem dX7_last_31 : decode cX7_last 31 = .ok (.iload_n 1, 1) := by decide +kernel
theorem dX7_last_32 : decode cX7_last 32 = .ok (.iaload, 1) := by decide +kernel
theorem dX7_last_33 : decode cX7_last 33 = .ok (.aload_n 0, 1) := by decide +kernel
theorem dX7_last_34 : decode cX7_last 34 = .ok (.iload_n 2, 1) := by decide +kernel
theorem dX7_last_35 : decode cX7_last 35 = .ok (.invokevirtual 91, 3) := by decide +kernel
theorem dX7_last_38 : decode cX7_last 38 = .ok (.iand, 1) := by decide +kernel
theorem dX7_last_39 : decode cX7_last 39 = .ok (.iastore, 1) := by decide +kernel
theorem dX7_last_40 : decode cX7_last 40 = .ok (.aload_n 0, 1) := by decide +kernel
theorem dX7_last_41 : decode cX7_last 41 = .ok (.getfield 28, 3) := by decide +kernel
theorem dX7_last_44 : decode cX7_last 44 = .ok (.iconst 1, 1) := by decide +kernel
theorem dX7_last_45 : decode cX7_last 45 = .ok (.aload_n 0, 1) := by decide +kernel
theorem dX7_last_46 : decode cX7_last 46 = .ok (.getfield 22, 3) := by decide +kernel
theorem dX7_last_49 : decode cX7_last 49 = .ok (.iload_n 2, 1) := by decide +kernel
theorem dX7_last_50 : decode cX7_last 50 = .ok (.iaload, 1) := by decide +kernel
theorem dX7_last_51 : decode cX7_last 51 = .ok (.aload_n 0, 1) := by decide +kernel
theorem dX7_last_52 : decode cX7_last 52 = .ok (.iload_n 1, 1) := by decide +kernel
theorem dX7_last_53 : decode cX7_last 53 = .ok (.invokevirtual 91, 3) := by decide +kernel
theorem dX7_last_56 : decode cX7_last 56 = .ok (.iand, 1) := by decide +kernel
theorem dX7_last_57 : decode cX7_last 57 = .ok (.iastore, 1) := by decide +kernel
theorem dX7_last_58 : decode cX7_last 58 = .ok (.sipush 1023, 3) := by decide +kernel
theorem dX7_last_61 : decode cX7_last 61 = .ok (.istore 4, 2) := by decide +kernel
theorem dX7_last_63 : decode cX7_last 63 = .ok (.iload 4, 2) := by decide +kernel
theorem dX7_last_65 : decode cX7_last 65 = .ok (.ifCond .le 162, 3) := by decide +kernel
theorem dX7_last_68 : decode cX7_last 68 = .ok (.iconst 0, 1) := by decide +kernel
theorem dX7_last_69 : decode cX7_last 69 = .ok (.istore 5, 2) := by decide +kernel
theorem dX7_last_71 : decode cX7_last 71 = .ok (.iload 5, 2) := by decide +kernel
theorem dX7_last_73 : decode cX7_last 73 = .ok (.bipush 10, 2) := by decide +kernel
theorem dX7_last_75 : decode cX7_last 75 = .ok (.if_icmp .ge 146, 3) := by decide +kernel
theorem dX7_last_78 : decode cX7_last 78 = .ok (.iconst 0, 1) := by decide +kernel
theorem dX7_last_79 : decode cX7_last 79 = .ok (.istore 6, 2) := by decide +kernel
theorem dX7_last_81 : decode cX7_last 81 = .ok (.iload 6, 2) := by decide +kernel
theorem dX7_last_83 : decode cX7_last 83 = .ok (.iconst 2, 1) := by decide +kernel
theorem dX7_last_84 : decode cX7_last 84 = .ok (.if_icmp .ge 131, 3) := by decide +kernel
theorem dX7_last_87 : decode cX7_last 87 = .ok (.iload 4, 2) := by decide +kernel
theorem dX7_last_89 : decode cX7_last 89 = .ok (.iload 5, 2) := by decide +kernel
theorem dX7_last_91 : decode cX7_last 91 = .ok (.invokestatic 94, 3) := by decide +kernel
theorem dX7_last_94 : decode cX7_last 94 = .ok (.ifCond .eq 121, 3) := by decide +kernel
theorem dX7_last_97 : decode cX7_last 97 = .ok (.iconst 0, 1) := by decide +kernel
theorem dX7_last_98 : decode cX7_last 98 = .ok (.istore 7, 2) := by decide +kernel
theorem dX7_last_100 : decode cX7_last 100 = .ok (.iconst 0, 1) := by decide +kernel
theorem dX7_last_101 : decode cX7_last 101 = .ok (.istore 8, 2) := by decide +kernel
theorem dX7_last_103 : decode cX7_last 103 = .ok (.iload 8, 2) := by decide +kernel
theorem dX7_last_105 : decode cX7_last 105 = .ok (.bipush 10, 2) := by decide +kernel
theorem dX7_last_107 : decode cX7_last 107 = .ok (.if_icmp .ge 86, 3) := by decide +kernel
theorem dX7_last_110 : decode cX7_last 110 = .ok (.aload_n 0, 1) := by decide +kernel
theorem dX7_last_111 : decode cX7_last 111 = .ok (.getfield 13, 3) := by decide +kernel
theorem dX7_last_114 : decode cX7_last 114 = .ok (.iload 5, 2) := by decide +kernel
theorem dX7_last_116 : decode cX7_last 116 = .ok (.iaload, 1) := by decide +kernel
theorem dX7_last_117 : decode cX7_last 117 = .ok (.aload_n 0, 1) := by decide +kernel
theorem dX7_last_118 : decode cX7_last 118 = .ok (.getfield 28, 3) := by decide +kernel
theorem dX7_last_121 : decode cX7_last 121 = .ok (.iload 6, 2) := by decide +kernel
theorem dX7_last_123 : decode cX7_last 123 = .ok (.iaload, 1) := by decide +kernel
theorem dX7_last_124 : decode cX7_last 124 = .ok (.iand, 1) := by decide +kernel
theorem dX7_last_125 : decode cX7_last 125 = .ok (.iload 4, 2) := by decide +kernel
theorem dX7_last_127 : decode cX7_last 127 = .ok (.iconst (-1), 1) := by decide +kernel
theorem dX7_last_128 : decode cX7_last 128 = .ok (.ixor, 1) := by decide +kernel
theorem dX7_last_129 : decode cX7_last 129 = .ok (.iand, 1) := by decide +kernel
theorem dX7_last_130 : decode cX7_last 130 = .ok (.iload 8, 2) := by decide +kernel
theorem dX7_last_132 : decode cX7_last 132 = .ok (.invokestatic 94, 3) := by decide +kernel
theorem dX7_last_135 : decode cX7_last 135 = .ok (.istore 9, 2) := by decide +kernel
theorem dX7_last_137 : decode cX7_last 137 = .ok (.iload 9, 2) := by decide +kernel
theorem dX7_last_139 : decode cX7_last 139 = .ok (.ifCond .eq 29, 3) := by decide +kernel
theorem dX7_last_142 : decode cX7_last 142 = .ok (.aload_n 0, 1) := by decide +kernel
theorem dX7_last_143 : decode cX7_last 143 = .ok (.getfield 25, 3) := by decide +kernel
theorem dX7_last_146 : decode cX7_last 146 = .ok (.iconst 1, 1) := by decide +kernel
theorem dX7_last_147 : decode cX7_last 147 = .ok (.iload 6, 2) := by decide +kernel
theorem dX7_last_149 : decode cX7_last 149 = .ok (.isub, 1) := by decide +kernel
theorem dX7_last_150 : decode cX7_last 150 = .ok (.iload 8, 2) := by decide +kernel
theorem dX7_last_152 : decode cX7_last 152 = .ok (.iload 4, 2) := by decide +kernel
theorem dX7_last_154 : decode cX7_last 154 = .ok (.iconst 1, 1) := by decide +kernel
theorem dX7_last_155 : decode cX7_last 155 = .ok (.iload 8, 2) := by decide +kernel
theorem dX7_last_157 : decode cX7_last 157 = .ok (.ishl, 1) := by decide +kernel
theorem dX7_last_158 : decode cX7_last 158 = .ok (.ior, 1) := by decide +kernel
theorem dX7_last_159 : decode cX7_last 159 = .ok (.invokestatic 104, 3) := by decide +kernel
theorem dX7_last_162 : decode cX7_last 162 = .ok (.iaload, 1) := by decide +kernel
theorem dX7_last_163 : decode cX7_last 163 = .ok (.iconst 1, 1) := by decide +kernel
theorem dX7_last_164 : decode cX7_last 164 = .ok (.iadd, 1) := by decide +kernel
theorem dX7_last_165 : decode cX7_last 165 = .ok (.goto 4, 3) := by decide +kernel
theorem dX7_last_168 : decode cX7_last 168 = .ok (.iconst 0, 1) := by decide +kernel
theorem dX7_last_169 : decode cX7_last 169 = .ok (.istore 10, 2) := by decide +kernel
theorem dX7_last_171 : decode cX7_last 171 = .ok (.iload 10, 2) := by decide +kernel
theorem dX7_last_173 : decode cX7_last 173 = .ok (.iload 7, 2) := by decide +kernel
theorem dX7_last_175 : decode cX7_last 175 = .ok (.if_icmp .le 8, 3) := by decide +kernel
theorem dX7_last_178 : decode cX7_last 178 = .ok (.iload 10, 2) := by decide +kernel
theorem dX7_last_180 : decode cX7_last 180 = .ok (.goto 5, 3) := by decide +kernel
theorem dX7_last_183 : decode cX7_last 183 = .ok (.iload 7, 2) := by decide +kernel
theorem dX7_last_185 : decode cX7_last 185 = .ok (.istore 7, 2) := by decide +kernel
theorem dX7_last_187 : decode cX7_last 187 = .ok (.iinc 8 1, 3) := by decide +kernel
theorem dX7_last_190 : decode cX7_last 190 = .ok (.goto (-87), 3) := by decide +kernel
theorem dX7_last_193 : decode cX7_last 193 = .ok (.aload_n 0, 1) := by decide +kernel
theorem dX7_last_194 : decode cX7_last 194 = .ok (.getfield 25, 3) := by decide +kernel
theorem dX7_last_197 : decode cX7_last 197 = .ok (.iload 6, 2) := by decide +kernel
theorem dX7_last_199 : decode cX7_last 199 = .ok (.iload 5, 2) := by decide +kernel
theorem dX7_last_201 : decode cX7_last 201 = .ok (.iload 4, 2) := by decide +kernel
theorem dX7_last_203 : decode cX7_last 203 = .ok (.invokestatic 104, 3) := by decide +kernel
theorem dX7_last_206 : decode cX7_last 206 = .ok (.iload 7, 2) := by decide +kernel
theorem dX7_last_208 : decode cX7_last 208 = .ok (.iastore, 1) := by decide +kernel
theorem dX7_last_209 : decode cX7_last 209 = .ok (.iinc 6 1, 3) := by decide +kernel
theorem dX7_last_212 : decode cX7_last 212 = .ok (.goto (-131), 3) := by decide +kernel
theorem dX7_last_215 : decode cX7_last 215 = .ok (.iinc 5 1, 3) := by decide +kernel
theorem dX7_last_218 : decode cX7_last 218 = .ok (.goto (-147), 3) := by decide +kernel
theorem dX7_last_221 : decode cX7_last 221 = .ok (.iinc 4 (-1), 3) := by decide +kernel
theorem dX7_last_224 : decode cX7_last 224 = .ok (.goto (-161), 3) := by decide +kernel
theorem dX7_last_227 : decode cX7_last 227 = .ok (.iconst 0, 1) := by decide +kernel
theorem dX7_last_228 : decode cX7_last 228 = .ok (.istore 4, 2) := by decide +kernel
theorem dX7_last_230 : decode cX7_last 230 = .ok (.bipush (-6), 2) := by decide +kernel
theorem dX7_last_232 : decode cX7_last 232 = .ok (.istore 5, 2) := by decide +kernel
theorem dX7_last_234 : decode cX7_last 234 = .ok (.iconst 0, 1) := by decide +kernel
theorem dX7_last_235 : decode cX7_last 235 = .ok (.istore 6, 2) := by decide +kernel
theorem dX7_last_237 : decode cX7_last 237 = .ok (.iload 6, 2) := by decide +kernel
theorem dX7_last_239 : decode cX7_last 239 = .ok (.bipush 10, 2) := by decide +kernel
theorem dX7_last_241 : decode cX7_last 241 = .ok (.if_icmp .ge 78, 3) := by decide +kernel
theorem dX7_last_244 : decode cX7_last 244 = .ok (.aload_n 0, 1) := by decide +kernel
theorem dX7_last_245 : decode cX7_last 245 = .ok (.getfield 28, 3) := by decide +kernel
theorem dX7_last_248 : decode cX7_last 248 = .ok (.iconst 0, 1) := by decide +kernel
theorem dX7_last_249 : decode cX7_last 249 = .ok (.iaload, 1) := by decide +kernel
theorem dX7_last_250 : decode cX7_last 250 = .ok (.iload 6, 2) := by decide +kernel
theorem dX7_last_252 : decode cX7_last 252 = .ok (.invokestatic 94, 3) := by decide +kernel
theorem dX7_last_255 : decode cX7_last 255 = .ok (.ifCond .eq 23, 3) := by decide +kernel
theorem dX7_last_258 : decode cX7_last 258 = .ok (.aload_n 0, 1) := by decide +kernel
theorem dX7_last_259 : decode cX7_last 259 = .ok (.getfield 25, 3) := by decide +kernel
theorem dX7_last_262 : decode cX7_last 262 = .ok (.iconst 1, 1) := by decide +kernel
theorem dX7_last_263 : decode cX7_last 263 = .ok (.iload 6, 2) := by decide +kernel
theorem dX7_last_265 : decode cX7_last 265 = .ok (.iconst 1, 1) := by decide +kernel
theorem dX7_last_266 : decode cX7_last 266 = .ok (.iload 6, 2) := by decide +kernel
theorem dX7_last_268 : decode cX7_last 268 = .ok (.ishl, 1) := by decide +kernel
theorem dX7_last_269 : decode cX7_last 269 = .ok (.invokestatic 104, 3) := by decide +kernel
theorem dX7_last_272 : decode cX7_last 272 = .ok (.iaload, 1) := by decide +kernel
theorem dX7_last_273 : decode cX7_last 273 = .ok (.iconst 1, 1) := by decide +kernel
theorem dX7_last_274 : decode cX7_last 274 = .ok (.iadd, 1) := by decide +kernel
theorem dX7_last_275 : decode cX7_last 275 = .ok (.goto 4, 3) := by decide +kernel
theorem dX7_last_278 : decode cX7_last 278 = .ok (.iconst 0, 1) := by decide +kernel
theorem dX7_last_279 : decode cX7_last 279 = .ok (.istore 7, 2) := by decide +kernel
theorem dX7_last_281 : decode cX7_last 281 = .ok (.iload 7, 2) := by decide +kernel
theorem dX7_last_283 : decode cX7_last 283 = .ok (.iload 4, 2) := by decide +kernel
theorem dX7_last_285 : decode cX7_last 285 = .ok (.if_icmp .le 8, 3) := by decide +kernel
theorem dX7_last_288 : decode cX7_last 288 = .ok (.iload 6, 2) := by decide +kernel
theorem dX7_last_290 : decode cX7_last 290 = .ok (.goto 5, 3) := by decide +kernel
theorem dX7_last_293 : decode cX7_last 293 = .ok (.iload 5, 2) := by decide +kernel
theorem dX7_last_295 : decode cX7_last 295 = .ok (.istore 5, 2) := by decide +kernel
theorem dX7_last_297 : decode cX7_last 297 = .ok (.iload 7, 2) := by decide +kernel
theorem dX7_last_299 : decode cX7_last 299 = .ok (.iload 4, 2) := by decide +kernel
theorem dX7_last_301 : decode cX7_last 301 = .ok (.if_icmp .le 8, 3) := by decide +kernel
theorem dX7_last_304 : decode cX7_last 304 = .ok (.iload 7, 2) := by decide +kernel
theorem dX7_last_306 : decode cX7_last 306 = .ok (.goto 5, 3) := by decide +kernel
theorem dX7_last_309 : decode cX7_last 309 = .ok (.iload 4, 2) := by decide +kernel
theorem dX7_last_311 : decode cX7_last 311 = .ok (.istore 4, 2) := by decide +kernel
theorem dX7_last_313 : decode cX7_last 313 = .ok (.iinc 6 1, 3) := by decide +kernel
theorem dX7_last_316 : decode cX7_last 316 = .ok (.goto (-79), 3) := by decide +kernel
theorem dX7_last_319 : decode cX7_last 319 = .ok (.iload_n 3, 1) := by decide +kernel
theorem dX7_last_320 : decode cX7_last 320 = .ok (.ifCond .ne 8, 3) := by decide +kernel
theorem dX7_last_323 : decode cX7_last 323 = .ok (.iload 4, 2) := by decide +kernel
theorem dX7_last_325 : decode cX7_last 325 = .ok (.goto 5, 3) := by decide +kernel
theorem dX7_last_328 : decode cX7_last 328 = .ok (.iload 5, 2) := by decide +kernel
theorem dX7_last_330 : decode cX7_last 330 = .ok (.ireturn, 1) := by decide +kernel
set_option maxRecDepth 20000 in
theorem ggX7_payer_X7_layMatch : GoodIn wsX7_payer wsX7_layMatch := goodIn_r _ [6, 1, 7, 8, 9, 10, 11, 12, 5, 13, 14, 15, 16, 17, 18, 19, 20, 21, 22, 23, 24, 25, 26, 27, 28, 29, 30, 31, 32, 33, 34, 35, 36, 37, 38, 39, 40, 41, 42, 43, 44, 45, 46, 47] (by decide +kernel) (by decide +kernel)
set_option maxRecDepth 20000 in
theorem gX7_payer_X7_layMatch : GoodIn wsX7_payer (wsV RX7 117 RX7 yX7_layMatch wsX7_layMatch) := goodIn_app (goodIn_of _ (by decide +kernel)) ggX7_payer_X7_layMatch
set_option maxRecDepth 20000 in
theorem ggX7_payer_X7_bestOf : GoodIn wsX7_payer wsX7_bestOf := goodIn_r _ [25, 26, 8, 16, 17, 5, 18, 19, 20, 21, 27, 28, 29, 30, 31, 32, 33, 34, 35, 36, 37, 38, 39, 40, 41, 42, 43, 44, 45, 46, 47] (by decide +kernel) (by decide +kernel)
set_option maxRecDepth 20000 in
theorem gX7_payer_X7_bestOf : GoodIn wsX7_payer (wsV RX7 111 RX7 yX7_bestOf wsX7_bestOf) := goodIn_app (goodIn_of _ (by decide +kernel)) ggX7_payer_X7_bestOf
theorem dX7_payer_0 : decode cX7_payer 0 = .ok (.aload_n 0, 1) := by decide +kernel
theorem dX7_payer_1 : decode cX7_payer 1 = .ok (.iload_n 1, 1) := by decide +kernel
theorem dX7_payer_2 : decode cX7_payer 2 = .ok (.iload_n 2, 1) := by decide +kernel
theorem dX7_payer_3 : decode cX7_payer 3 = .ok (.invokevirtual 117, 3) := by decide +kernel
theorem dX7_payer_6 : decode cX7_payer 6 = .ok (.aload_n 0, 1) := by decide +kernel
theorem dX7_payer_7 : decode cX7_payer 7 = .ok (.iconst 0, 1) := by decide +kernel
theorem dX7_payer_8 : decode cX7_payer 8 = .ok (.aload_n 0, 1) := by decide +kernel
theorem dX7_payer_9 : decode cX7_payer 9 = .ok (.getfield 28, 3) := by decide +kernel
theorem dX7_payer_12 : decode cX7_payer 12 = .ok (.iconst 0, 1) := by decide +kernel
theorem dX7_payer_13 : decode cX7_payer 13 = .ok (.iaload, 1) := by decide +kernel
theorem dX7_payer_14 : decode cX7_payer 14 = .ok (.iconst 0, 1) := by decide +kernel
theorem dX7_payer_15 : decode cX7_payer 15 = .ok (.invokevirtual 111, 3) := by decide +kernel
theorem dX7_payer_18 : decode cX7_payer 18 = .ok (.iconst 2, 1) := by decide +kernel
theorem dX7_payer_19 : decode cX7_payer 19 = .ok (.irem, 1) := by decide +kernel
theorem dX7_payer_20 : decode cX7_payer 20 = .ok (.ifCond .ne 7, 3) := by decide +kernel
theorem dX7_payer_23 : decode cX7_payer 23 = .ok (.iload_n 1, 1) := by decide +kernel
theorem dX7_payer_24 : decode cX7_payer 24 = .ok (.goto 4, 3) := by decide +kernel
theorem dX7_payer_27 : decode cX7_payer 27 = .ok (.iload_n 2, 1) := by decide +kernel
theorem dX7_payer_28 : decode cX7_payer 28 = .ok (.ireturn, 1) := by decide +kernel
set_option maxRecDepth 20000 in
theorem ggX7_sent_X7_isMan : GoodIn wsX7_sent wsX7_isMan := goodIn_r _ [4, 5, 6, 3, 7] (by decide +kernel) (by decide +kernel)
set_option maxRecDepth 20000 in
theorem gX7_sent_X7_isMan : GoodIn wsX7_sent (va_wsS RX7 63 yX7_isMan wsX7_isMan) := goodIn_app (goodIn_of _ (by decide +kernel)) ggX7_sent_X7_isMan
set_option maxRecDepth 20000 in
theorem ggX7_sent_X7_payer : GoodIn wsX7_sent wsX7_payer := goodIn_r _ [11, 12, 13, 14, 15, 3, 16, 17, 18, 19, 20, 21, 22, 23, 24, 25, 26, 27, 28, 29, 30, 31, 32, 33, 34, 35, 36, 37, 38, 39, 40, 41, 42, 43, 44, 45, 46, 47, 48, 49, 50, 51, 52, 53, 54, 55, 56, 57] (by decide +kernel) (by decide +kernel)
set_option maxRecDepth 20000 in
theorem gX7_sent_X7_payer : GoodIn wsX7_sent (wsV RX7 125 RX7 yX7_payer wsX7_payer) := goodIn_app (goodIn_of _ (by decide +kernel)) ggX7_sent_X7_payer
theorem dX7_sent_0 : decode cX7_sent 0 = .ok (.iload_n 1, 1) := by decide +kernel
theorem dX7_sent_1 : decode cX7_sent 1 = .ok (.invokestatic 63, 3) := by decide +kernel
theorem dX7_sent_4 : decode cX7_sent 4 = .ok (.ifCond .ne 5, 3) := by decide +kernel
theorem dX7_sent_7 : decode cX7_sent 7 = .ok (.iconst (-1), 1) := by decide +kernel
theorem dX7_sent_8 : decode cX7_sent 8 = .ok (.ireturn, 1) := by decide +kernel
theorem dX7_sent_9 : decode cX7_sent 9 = .ok (.iconst 0, 1) := by decide +kernel
theorem dX7_sent_10 : decode cX7_sent 10 = .ok (.istore_n 3, 1) := by decide +kernel
theorem dX7_sent_11 : decode cX7_sent 11 = .ok (.iconst 0, 1) := by decide +kernel
theorem dX7_sent_12 : decode cX7_sent 12 = .ok (.istore 4, 2) := by decide +kernel
theorem dX7_sent_14 : decode cX7_sent 14 = .ok (.iload 4, 2) := by decide +kernel
theorem dX7_sent_16 : decode cX7_sent 16 = .ok (.iconst 5, 1) := by decide +kernel
theorem dX7_sent_17 : decode cX7_sent 17 = .ok (.if_icmp .ge 56, 3) := by decide +kernel
theorem dX7_sent_20 : decode cX7_sent 20 = .ok (.iload 4, 2) := by decide +kernel
theorem dX7_sent_22 : decode cX7_sent 22 = .ok (.iload_n 1, 1) := by decide +kernel
theorem dX7_sent_23 : decode cX7_sent 23 = .ok (.if_icmp .eq 44, 3) := by decide +kernel
theorem dX7_sent_26 : decode cX7_sent 26 = .ok (.iload_n 2, 1) := by decide +kernel
theorem dX7_sent_27 : decode cX7_sent 27 = .ok (.ifCond .eq 13, 3) := by decide +kernel
theorem dX7_sent_30 : decode cX7_sent 30 = .ok (.aload_n 0, 1) := by decide +kernel
theorem dX7_sent_31 : decode cX7_sent 31 = .ok (.iload 4, 2) := by decide +kernel
theorem dX7_sent_33 : decode cX7_sent 33 = .ok (.iload_n 1, 1) := by decide +kernel
theorem dX7_sent_34 : decode cX7_sent 34 = .ok (.invokevirtual 125, 3) := by decide +kernel
theorem dX7_sent_37 : decode cX7_sent 37 = .ok (.goto 10, 3) := by decide +kernel
theorem dX7_sent_40 : decode cX7_sent 40 = .ok (.aload_n 0, 1) := by decide +kernel
theorem dX7_sent_41 : decode cX7_sent 41 = .ok (.iload_n 1, 1) := by decide +kernel
theorem dX7_sent_42 : decode cX7_sent 42 = .ok (.iload 4, 2) := by decide +kernel
theorem dX7_sent_44 : decode cX7_sent 44 = .ok (.invokevirtual 125, 3) := by decide +kernel
theorem dX7_sent_47 : decode cX7_sent 47 = .ok (.istore 5, 2) := by decide +kernel
theorem dX7_sent_49 : decode cX7_sent 49 = .ok (.iload_n 3, 1) := by decide +kernel
theorem dX7_sent_50 : decode cX7_sent 50 = .ok (.iload 5, 2) := by decide +kernel
theorem dX7_sent_52 : decode cX7_sent 52 = .ok (.iload 4, 2) := by decide +kernel
theorem dX7_sent_54 : decode cX7_sent 54 = .ok (.if_icmp .ne 7, 3) := by decide +kernel
theorem dX7_sent_57 : decode cX7_sent 57 = .ok (.iconst 0, 1) := by decide +kernel
theorem dX7_sent_58 : decode cX7_sent 58 = .ok (.goto 7, 3) := by decide +kernel
theorem dX7_sent_61 : decode cX7_sent 61 = .ok (.iconst 1, 1) := by decide +kernel
theorem dX7_sent_62 : decode cX7_sent 62 = .ok (.iload 4, 2) := by decide +kernel
theorem dX7_sent_64 : decode cX7_sent 64 = .ok (.ishl, 1) := by decide +kernel
theorem dX7_sent_65 : decode cX7_sent 65 = .ok (.ior, 1) := by decide +kernel
theorem dX7_sent_66 : decode cX7_sent 66 = .ok (.istore_n 3, 1) := by decide +kernel
theorem dX7_sent_67 : decode cX7_sent 67 = .ok (.iinc 4 1, 3) := by decide +kernel
theorem dX7_sent_70 : decode cX7_sent 70 = .ok (.goto (-56), 3) := by decide +kernel
theorem dX7_sent_73 : decode cX7_sent 73 = .ok (.iload_n 3, 1) := by decide +kernel
theorem dX7_sent_74 : decode cX7_sent 74 = .ok (.ireturn, 1) := by decide +kernel
set_option maxRecDepth 20000 in
theorem ggX7_safe_X7_isMan : GoodIn wsX7_safe wsX7_isMan := goodIn_r _ [5, 6, 7, 4, 8] (by decide +kernel) (by decide +kernel)
set_option maxRecDepth 20000 in
theorem gX7_safe_X7_isMan : GoodIn wsX7_safe (va_wsS RX7 63 yX7_isMan wsX7_isMan) := goodIn_app (goodIn_of _ (by decide +kernel)) ggX7_safe_X7_isMan
set_option maxRecDepth 20000 in
theorem ggX7_safe_X7_fitOf : GoodIn wsX7_safe wsX7_fitOf := goodIn_r _ [12, 13, 14, 15, 16, 17, 18, 19, 20, 21, 22, 23, 24, 25, 26, 27, 28, 29, 30, 31, 32] (by decide +kernel) (by decide +kernel)
set_option maxRecDepth 20000 in
theorem gX7_safe_X7_fitOf : GoodIn wsX7_safe (wsV RX7 91 RX7 yX7_fitOf wsX7_fitOf) := goodIn_app (goodIn_of _ (by decide +kernel)) ggX7_safe_X7_fitOf
theorem dX7_safe_0 : decode cX7_safe 0 = .ok (.iload_n 1, 1) := by decide +kernel
theorem dX7_safe_1 : decode cX7_safe 1 = .ok (.invokestatic 63, 3) := by decide +kernel
theorem dX7_safe_4 : decode cX7_safe 4 = .ok (.ifCond .ne 5, 3) := by decide +kernel
theorem dX7_safe_7 : decode cX7_safe 7 = .ok (.iconst (-1), 1) := by decide +kernel
theorem dX7_safe_8 : decode cX7_safe 8 = .ok (.ireturn, 1) := by decide +kernel
theorem dX7_safe_9 : decode cX7_safe 9 = .ok (.iconst 0, 1) := by decide +kernel
theorem dX7_safe_10 : decode cX7_safe 10 = .ok (.istore_n 2, 1) := by decide +kernel
theorem dX7_safe_11 : decode cX7_safe 11 = .ok (.iconst 0, 1) := by decide +kernel
theorem dX7_safe_12 : decode cX7_safe 12 = .ok (.istore_n 3, 1) := by decide +kernel
theorem dX7_safe_13 : decode cX7_safe 13 = .ok (.iload_n 3, 1) := by decide +kernel
theorem dX7_safe_14 : decode cX7_safe 14 = .ok (.iconst 5, 1) := by decide +kernel
theorem dX7_safe_15 : decode cX7_safe 15 = .ok (.if_icmp .ge 27, 3) := by decide +kernel
theorem dX7_safe_18 : decode cX7_safe 18 = .ok (.iload_n 2, 1) := by decide +kernel
theorem dX7_safe_19 : decode cX7_safe 19 = .ok (.iload_n 3, 1) := by decide +kernel
theorem dX7_safe_20 : decode cX7_safe 20 = .ok (.iload_n 1, 1) := by decide +kernel
theorem dX7_safe_21 : decode cX7_safe 21 = .ok (.if_icmp .ne 7, 3) := by decide +kernel
theorem dX7_safe_24 : decode cX7_safe 24 = .ok (.iconst 0, 1) := by decide +kernel
theorem dX7_safe_25 : decode cX7_safe 25 = .ok (.goto 9, 3) := by decide +kernel
theorem dX7_safe_28 : decode cX7_safe 28 = .ok (.aload_n 0, 1) := by decide +kernel
theorem dX7_safe_29 : decode cX7_safe 29 = .ok (.getfield 22, 3) := by decide +kernel
theorem dX7_safe_32 : decode cX7_safe 32 = .ok (.iload_n 3, 1) := by decide +kernel
theorem dX7_safe_33 : decode cX7_safe 33 = .ok (.iaload, 1) := by decide +kernel
theorem dX7_safe_34 : decode cX7_safe 34 = .ok (.ior, 1) := by decide +kernel
theorem dX7_safe_35 : decode cX7_safe 35 = .ok (.istore_n 2, 1) := by decide +kernel
theorem dX7_safe_36 : decode cX7_safe 36 = .ok (.iinc 3 1, 3) := by decide +kernel
theorem dX7_safe_39 : decode cX7_safe 39 = .ok (.goto (-26), 3) := by decide +kernel
theorem dX7_safe_42 : decode cX7_safe 42 = .ok (.iload_n 2, 1) := by decide +kernel
theorem dX7_safe_43 : decode cX7_safe 43 = .ok (.aload_n 0, 1) := by decide +kernel
theorem dX7_safe_44 : decode cX7_safe 44 = .ok (.iload_n 1, 1) := by decide +kernel
theorem dX7_safe_45 : decode cX7_safe 45 = .ok (.invokevirtual 91, 3) := by decide +kernel
theorem dX7_safe_48 : decode cX7_safe 48 = .ok (.iand, 1) := by decide +kernel
theorem dX7_safe_49 : decode cX7_safe 49 = .ok (.ifCond .ne 7, 3) := by decide +kernel
theorem dX7_safe_52 : decode cX7_safe 52 = .ok (.iconst 1, 1) := by decide +kernel
theorem dX7_safe_53 : decode cX7_safe 53 = .ok (.goto 4, 3) := by decide +kernel
theorem dX7_safe_56 : decode cX7_safe 56 = .ok (.iconst 0, 1) := by decide +kernel
theorem dX7_safe_57 : decode cX7_safe 57 = .ok (.ireturn, 1) := by decide +kernel
set_option maxRecDepth 20000 in
theorem ggX7_freeMatches_X7_payer : GoodIn wsX7_freeMatches wsX7_payer := goodIn_r _ [5, 6, 7, 8, 9, 4, 10, 11, 12, 13, 14, 15, 16, 17, 18, 19, 20, 21, 22, 23, 24, 25, 26, 27, 28, 29, 30, 31, 32, 33, 34, 35, 36, 37, 38, 39, 40, 41, 42, 43, 44, 45, 46, 47, 48, 49, 50, 51] (by decide +kernel) (by decide +kernel)
set_option maxRecDepth 20000 in
theorem gX7_freeMatches_X7_payer : GoodIn wsX7_freeMatches (wsV RX7 125 RX7 yX7_payer wsX7_payer) := goodIn_app (goodIn_of _ (by decide +kernel)) ggX7_freeMatches_X7_payer
theorem dX7_freeMatches_0 : decode cX7_freeMatches 0 = .ok (.iconst 0, 1) := by decide +kernel
theorem dX7_freeMatches_1 : decode cX7_freeMatches 1 = .ok (.istore_n 2, 1) := by decide +kernel
theorem dX7_freeMatches_2 : decode cX7_freeMatches 2 = .ok (.iconst 0, 1) := by decide +kernel
theorem dX7_freeMatches_3 : decode cX7_freeMatches 3 = .ok (.istore_n 3, 1) := by decide +kernel
theorem dX7_freeMatches_4 : decode cX7_freeMatches 4 = .ok (.iload_n 3, 1) := by decide +kernel
theorem dX7_freeMatches_5 : decode cX7_freeMatches 5 = .ok (.iconst 5, 1) := by decide +kernel
theorem dX7_freeMatches_6 : decode cX7_freeMatches 6 = .ok (.if_icmp .ge 50, 3) := by decide +kernel
theorem dX7_freeMatches_9 : decode cX7_freeMatches 9 = .ok (.iload_n 3, 1) := by decide +kernel
theorem dX7_freeMatches_10 : decode cX7_freeMatches 10 = .ok (.iload_n 1, 1) := by decide +kernel
theorem dX7_freeMatches_11 : decode cX7_freeMatches 11 = .ok (.if_icmp .eq 39, 3) := by decide +kernel
theorem dX7_freeMatches_14 : decode cX7_freeMatches 14 = .ok (.iload_n 2, 1) := by decide +kernel
theorem dX7_freeMatches_15 : decode cX7_freeMatches 15 = .ok (.aload_n 0, 1) := by decide +kernel
theorem dX7_freeMatches_16 : decode cX7_freeMatches 16 = .ok (.iload_n 1, 1) := by decide +kernel
theorem dX7_freeMatches_17 : decode cX7_freeMatches 17 = .ok (.iload_n 3, 1) := by decide +kernel
theorem dX7_freeMatches_18 : decode cX7_freeMatches 18 = .ok (.invokevirtual 125, 3) := by decide +kernel
theorem dX7_freeMatches_21 : decode cX7_freeMatches 21 = .ok (.iload_n 1, 1) := by decide +kernel
theorem dX7_freeMatches_22 : decode cX7_freeMatches 22 = .ok (.if_icmp .ne 7, 3) := by decide +kernel
theorem dX7_freeMatches_25 : decode cX7_freeMatches 25 = .ok (.iconst 0, 1) := by decide +kernel
theorem dX7_freeMatches_26 : decode cX7_freeMatches 26 = .ok (.goto 4, 3) := by decide +kernel
theorem dX7_freeMatches_29 : decode cX7_freeMatches 29 = .ok (.iconst 1, 1) := by decide +kernel
theorem dX7_freeMatches_30 : decode cX7_freeMatches 30 = .ok (.iadd, 1) := by decide +kernel
theorem dX7_freeMatches_31 : decode cX7_freeMatches 31 = .ok (.istore_n 2, 1) := by decide +kernel
theorem dX7_freeMatches_32 : decode cX7_freeMatches 32 = .ok (.iload_n 2, 1) := by decide +kernel
theorem dX7_freeMatches_33 : decode cX7_freeMatches 33 = .ok (.aload_n 0, 1) := by decide +kernel
theorem dX7_freeMatches_34 : decode cX7_freeMatches 34 = .ok (.iload_n 3, 1) := by decide +kernel
theorem dX7_freeMatches_35 : decode cX7_freeMatches 35 = .ok (.iload_n 1, 1) := by decide +kernel
theorem dX7_freeMatches_36 : decode cX7_freeMatches 36 = .ok (.invokevirtual 125, 3) := by decide +kernel
theorem dX7_freeMatches_39 : decode cX7_freeMatches 39 = .ok (.iload_n 1, 1) := by decide +kernel
theorem dX7_freeMatches_40 : decode cX7_freeMatches 40 = .ok (.if_icmp .ne 7, 3) := by decide +kernel
theorem dX7_freeMatches_43 : decode cX7_freeMatches 43 = .ok (.iconst 0, 1) := by decide +kernel
theorem dX7_freeMatches_44 : decode cX7_freeMatches 44 = .ok (.goto 4, 3) := by decide +kernel
theorem dX7_freeMatches_47 : decode cX7_freeMatches 47 = .ok (.iconst 1, 1) := by decide +kernel
theorem dX7_freeMatches_48 : decode cX7_freeMatches 48 = .ok (.iadd, 1) := by decide +kernel
theorem dX7_freeMatches_49 : decode cX7_freeMatches 49 = .ok (.istore_n 2, 1) := by decide +kernel
theorem dX7_freeMatches_50 : decode cX7_freeMatches 50 = .ok (.iinc 3 1, 3) := by decide +kernel
theorem dX7_freeMatches_53 : decode cX7_freeMatches 53 = .ok (.goto (-49), 3) := by decide +kernel
theorem dX7_freeMatches_56 : decode cX7_freeMatches 56 = .ok (.iload_n 2, 1) := by decide +kernel
theorem dX7_freeMatches_57 : decode cX7_freeMatches 57 = .ok (.ireturn, 1) := by decide +kernel
set_option maxRecDepth 20000 in
theorem ggX7_worth_X7_isInsult : GoodIn wsX7_worth wsX7_isInsult := goodIn_r _ [5, 6, 7, 4, 8] (by decide +kernel) (by decide +kernel)
set_option maxRecDepth 20000 in
theorem gX7_worth_X7_isInsult : GoodIn wsX7_worth (va_wsS RX7 88 yX7_isInsult wsX7_isInsult) := goodIn_app (goodIn_of _ (by decide +kernel)) ggX7_worth_X7_isInsult
set_option maxRecDepth 20000 in
theorem ggX7_worth_X7_isMan : GoodIn wsX7_worth wsX7_isMan := goodIn_r _ [11, 6, 7, 4, 8] (by decide +kernel) (by decide +kernel)
set_option maxRecDepth 20000 in
theorem gX7_worth_X7_isMan : GoodIn wsX7_worth (va_wsS RX7 63 yX7_isMan wsX7_isMan) := goodIn_app (goodIn_of _ (by decide +kernel)) ggX7_worth_X7_isMan
set_option maxRecDepth 20000 in
theorem ggX7_worth_X7_has : GoodIn wsX7_worth wsX7_has := goodIn_r _ [14] (by decide +kernel) (by decide +kernel)
set_option maxRecDepth 20000 in
theorem gX7_worth_X7_has : GoodIn wsX7_worth (va_wsS RX7 94 yX7_has wsX7_has) := goodIn_app (goodIn_of _ (by decide +kernel)) ggX7_worth_X7_has
set_option maxRecDepth 20000 in
theorem ggX7_worth_X7_freeMatches : GoodIn wsX7_worth wsX7_freeMatches := goodIn_r _ [18, 19, 20, 21, 4, 22, 23, 24, 25, 26, 27, 1, 28, 29, 30, 31, 32, 33, 34, 35, 12, 13, 14, 36, 37, 38, 39, 40, 41, 42, 43, 44, 45, 46, 47, 48, 49, 50, 51, 52, 53, 54, 55, 56, 57, 58, 59, 60, 61, 62, 63, 64] (by decide +kernel) (by decide +kernel)
set_option maxRecDepth 20000 in
theorem gX7_worth_X7_freeMatches : GoodIn wsX7_worth (wsV RX7 129 RX7 yX7_freeMatches wsX7_freeMatches) := goodIn_app (goodIn_of _ (by decide +kernel)) ggX7_worth_X7_freeMatches
theorem dX7_worth_0 : decode cX7_worth 0 = .ok (.iload_n 1, 1) := by decide +kernel
theorem dX7_worth_1 : decode cX7_worth 1 = .ok (.invokestatic 88, 3) := by decide +kernel
theorem dX7_worth_4 : decode cX7_worth 4 = .ok (.ifCond .eq 10, 3) := by decide +kernel
theorem dX7_worth_7 : decode cX7_worth 7 = .ok (.iload_n 2, 1) := by decide +kernel
theorem dX7_worth_8 : decode cX7_worth 8 = .ok (.invokestatic 63, 3) := by decide +kernel
theorem dX7_worth_11 : decode cX7_worth 11 = .ok (.ifCond .ne 5, 3) := by decide +kernel
theorem dX7_worth_14 : decode cX7_worth 14 = .ok (.iconst (-1), 1) := by decide +kernel
theorem dX7_worth_15 : decode cX7_worth 15 = .ok (.ireturn, 1) := by decide +kernel
theorem dX7_worth_16 : decode cX7_worth 16 = .ok (.aload_n 0, 1) := by decide +kernel
theorem dX7_worth_17 : decode cX7_worth 17 = .ok (.getfield 22, 3) := by decide +kernel
theorem dX7_worth_20 : decode cX7_worth 20 = .ok (.iload_n 2, 1) := by decide +kernel
theorem dX7_worth_21 : decode cX7_worth 21 = .ok (.iaload, 1) := by decide +kernel
theorem dX7_worth_22 : decode cX7_worth 22 = .ok (.iload_n 1, 1) := by decide +kernel
theorem dX7_worth_23 : decode cX7_worth 23 = .ok (.invokestatic 94, 3) := by decide +kernel
theorem dX7_worth_26 : decode cX7_worth 26 = .ok (.ifCond .eq 6, 3) := by decide +kernel
theorem dX7_worth_29 : decode cX7_worth 29 = .ok (.bipush (-3), 2) := by decide +kernel
theorem dX7_worth_31 : decode cX7_worth 31 = .ok (.ireturn, 1) := by decide +kernel
theorem dX7_worth_32 : decode cX7_worth 32 = .ok (.aload_n 0, 1) := by decide +kernel
theorem dX7_worth_33 : decode cX7_worth 33 = .ok (.iload_n 2, 1) := by decide +kernel
theorem dX7_worth_34 : decode cX7_worth 34 = .ok (.invokevirtual 129, 3) := by decide +kernel
theorem dX7_worth_37 : decode cX7_worth 37 = .ok (.istore_n 3, 1) := by decide +kernel
theorem dX7_worth_38 : decode cX7_worth 38 = .ok (.aload_n 0, 1) := by decide +kernel
theorem dX7_worth_39 : decode cX7_worth 39 = .ok (.getfield 22, 3) := by decide +kernel
theorem dX7_worth_42 : decode cX7_worth 42 = .ok (.iload_n 2, 1) := by decide +kernel
theorem dX7_worth_43 : decode cX7_worth 43 = .ok (.dup2, 1) := by decide +kernel
theorem dX7_worth_44 : decode cX7_worth 44 = .ok (.iaload, 1) := by decide +kernel
theorem dX7_worth_45 : decode cX7_worth 45 = .ok (.iconst 1, 1) := by decide +kernel
theorem dX7_worth_46 : decode cX7_worth 46 = .ok (.iload_n 1, 1) := by decide +kernel
theorem dX7_worth_47 : decode cX7_worth 47 = .ok (.ishl, 1) := by decide +kernel
theorem dX7_worth_48 : decode cX7_worth 48 = .ok (.ior, 1) := by decide +kernel
theorem dX7_worth_49 : decode cX7_worth 49 = .ok (.iastore, 1) := by decide +kernel
theorem dX7_worth_50 : decode cX7_worth 50 = .ok (.aload_n 0, 1) := by decide +kernel
theorem dX7_worth_51 : decode cX7_worth 51 = .ok (.iload_n 2, 1) := by decide +kernel
theorem dX7_worth_52 : decode cX7_worth 52 = .ok (.invokevirtual 129, 3) := by decide +kernel
theorem dX7_worth_55 : decode cX7_worth 55 = .ok (.istore 4, 2) := by decide +kernel
theorem dX7_worth_57 : decode cX7_worth 57 = .ok (.aload_n 0, 1) := by decide +kernel
theorem dX7_worth_58 : decode cX7_worth 58 = .ok (.getfield 22, 3) := by decide +kernel
theorem dX7_worth_61 : decode cX7_worth 61 = .ok (.iload_n 2, 1) := by decide +kernel
theorem dX7_worth_62 : decode cX7_worth 62 = .ok (.dup2, 1) := by decide +kernel
theorem dX7_worth_63 : decode cX7_worth 63 = .ok (.iaload, 1) := by decide +kernel
theorem dX7_worth_64 : decode cX7_worth 64 = .ok (.iconst 1, 1) := by decide +kernel
theorem dX7_worth_65 : decode cX7_worth 65 = .ok (.iload_n 1, 1) := by decide +kernel
theorem dX7_worth_66 : decode cX7_worth 66 = .ok (.ishl, 1) := by decide +kernel
theorem dX7_worth_67 : decode cX7_worth 67 = .ok (.iconst (-1), 1) := by decide +kernel
theorem dX7_worth_68 : decode cX7_worth 68 = .ok (.ixor, 1) := by decide +kernel
theorem dX7_worth_69 : decode cX7_worth 69 = .ok (.iand, 1) := by decide +kernel
theorem dX7_worth_70 : decode cX7_worth 70 = .ok (.iastore, 1) := by decide +kernel
theorem dX7_worth_71 : decode cX7_worth 71 = .ok (.iload 4, 2) := by decide +kernel
theorem dX7_worth_73 : decode cX7_worth 73 = .ok (.iload_n 3, 1) := by decide +kernel
theorem dX7_worth_74 : decode cX7_worth 74 = .ok (.isub, 1) := by decide +kernel
theorem dX7_worth_75 : decode cX7_worth 75 = .ok (.bipush 100, 2) := by decide +kernel
theorem dX7_worth_77 : decode cX7_worth 77 = .ok (.iadd, 1) := by decide +kernel
theorem dX7_worth_78 : decode cX7_worth 78 = .ok (.ireturn, 1) := by decide +kernel
set_option maxRecDepth 20000 in
theorem ggX7_fitsAt_X7_has : GoodIn wsX7_fitsAt wsX7_has := goodIn_r _ [8] (by decide +kernel) (by decide +kernel)
set_option maxRecDepth 20000 in
theorem gX7_fitsAt_X7_has : GoodIn wsX7_fitsAt (va_wsS RX7 94 yX7_has wsX7_has) := goodIn_app (goodIn_of _ (by decide +kernel)) ggX7_fitsAt_X7_has
set_option maxRecDepth 20000 in
theorem ggX7_fitsAt_X7_fitOf : GoodIn wsX7_fitsAt wsX7_fitOf := goodIn_r _ [12, 13, 14, 15, 16, 17, 18, 19, 20, 21, 22, 23, 24, 25, 26, 27, 28, 29, 30, 31, 32] (by decide +kernel) (by decide +kernel)
set_option maxRecDepth 20000 in
theorem gX7_fitsAt_X7_fitOf : GoodIn wsX7_fitsAt (wsV RX7 91 RX7 yX7_fitOf wsX7_fitOf) := goodIn_app (goodIn_of _ (by decide +kernel)) ggX7_fitsAt_X7_fitOf
theorem dX7_fitsAt_0 : decode cX7_fitsAt 0 = .ok (.aload_n 0, 1) := by decide +kernel
theorem dX7_fitsAt_1 : decode cX7_fitsAt 1 = .ok (.getfield 34, 3) := by decide +kernel
theorem dX7_fitsAt_4 : decode cX7_fitsAt 4 = .ok (.iload_n 1, 1) := by decide +kernel
theorem dX7_fitsAt_5 : decode cX7_fitsAt 5 = .ok (.iaload, 1) := by decide +kernel
theorem dX7_fitsAt_6 : decode cX7_fitsAt 6 = .ok (.istore_n 3, 1) := by decide +kernel
theorem dX7_fitsAt_7 : decode cX7_fitsAt 7 = .ok (.aload_n 0, 1) := by decide +kernel
theorem dX7_fitsAt_8 : decode cX7_fitsAt 8 = .ok (.getfield 22, 3) := by decide +kernel
theorem dX7_fitsAt_11 : decode cX7_fitsAt 11 = .ok (.aload_n 0, 1) := by decide +kernel
theorem dX7_fitsAt_12 : decode cX7_fitsAt 12 = .ok (.getfield 31, 3) := by decide +kernel
theorem dX7_fitsAt_15 : decode cX7_fitsAt 15 = .ok (.iload_n 1, 1) := by decide +kernel
theorem dX7_fitsAt_16 : decode cX7_fitsAt 16 = .ok (.iaload, 1) := by decide +kernel
theorem dX7_fitsAt_17 : decode cX7_fitsAt 17 = .ok (.iaload, 1) := by decide +kernel
theorem dX7_fitsAt_18 : decode cX7_fitsAt 18 = .ok (.iload_n 3, 1) := by decide +kernel
theorem dX7_fitsAt_19 : decode cX7_fitsAt 19 = .ok (.invokestatic 94, 3) := by decide +kernel
theorem dX7_fitsAt_22 : decode cX7_fitsAt 22 = .ok (.istore 4, 2) := by decide +kernel
theorem dX7_fitsAt_24 : decode cX7_fitsAt 24 = .ok (.iload_n 1, 1) := by decide +kernel
theorem dX7_fitsAt_25 : decode cX7_fitsAt 25 = .ok (.ifCond .le 57, 3) := by decide +kernel
theorem dX7_fitsAt_28 : decode cX7_fitsAt 28 = .ok (.iload 4, 2) := by decide +kernel
theorem dX7_fitsAt_30 : decode cX7_fitsAt 30 = .ok (.ifCond .eq 46, 3) := by decide +kernel
theorem dX7_fitsAt_33 : decode cX7_fitsAt 33 = .ok (.aload_n 0, 1) := by decide +kernel
theorem dX7_fitsAt_34 : decode cX7_fitsAt 34 = .ok (.getfield 13, 3) := by decide +kernel
theorem dX7_fitsAt_37 : decode cX7_fitsAt 37 = .ok (.aload_n 0, 1) := by decide +kernel
theorem dX7_fitsAt_38 : decode cX7_fitsAt 38 = .ok (.getfield 34, 3) := by decide +kernel
theorem dX7_fitsAt_41 : decode cX7_fitsAt 41 = .ok (.iload_n 1, 1) := by decide +kernel
theorem dX7_fitsAt_42 : decode cX7_fitsAt 42 = .ok (.iconst 1, 1) := by decide +kernel
theorem dX7_fitsAt_43 : decode cX7_fitsAt 43 = .ok (.isub, 1) := by decide +kernel
theorem dX7_fitsAt_44 : decode cX7_fitsAt 44 = .ok (.iaload, 1) := by decide +kernel
theorem dX7_fitsAt_45 : decode cX7_fitsAt 45 = .ok (.iaload, 1) := by decide +kernel
theorem dX7_fitsAt_46 : decode cX7_fitsAt 46 = .ok (.iload_n 3, 1) := by decide +kernel
theorem dX7_fitsAt_47 : decode cX7_fitsAt 47 = .ok (.invokestatic 94, 3) := by decide +kernel
theorem dX7_fitsAt_50 : decode cX7_fitsAt 50 = .ok (.ifCond .eq 26, 3) := by decide +kernel
theorem dX7_fitsAt_53 : decode cX7_fitsAt 53 = .ok (.aload_n 0, 1) := by decide +kernel
theorem dX7_fitsAt_54 : decode cX7_fitsAt 54 = .ok (.aload_n 0, 1) := by decide +kernel
theorem dX7_fitsAt_55 : decode cX7_fitsAt 55 = .ok (.getfield 31, 3) := by decide +kernel
theorem dX7_fitsAt_58 : decode cX7_fitsAt 58 = .ok (.iload_n 1, 1) := by decide +kernel
theorem dX7_fitsAt_59 : decode cX7_fitsAt 59 = .ok (.iconst 1, 1) := by decide +kernel
theorem dX7_fitsAt_60 : decode cX7_fitsAt 60 = .ok (.isub, 1) := by decide +kernel
theorem dX7_fitsAt_61 : decode cX7_fitsAt 61 = .ok (.iaload, 1) := by decide +kernel
theorem dX7_fitsAt_62 : decode cX7_fitsAt 62 = .ok (.invokevirtual 91, 3) := by decide +kernel
theorem dX7_fitsAt_65 : decode cX7_fitsAt 65 = .ok (.iload_n 3, 1) := by decide +kernel
theorem dX7_fitsAt_66 : decode cX7_fitsAt 66 = .ok (.invokestatic 94, 3) := by decide +kernel
theorem dX7_fitsAt_69 : decode cX7_fitsAt 69 = .ok (.ifCond .eq 7, 3) := by decide +kernel
theorem dX7_fitsAt_72 : decode cX7_fitsAt 72 = .ok (.iconst 1, 1) := by decide +kernel
theorem dX7_fitsAt_73 : decode cX7_fitsAt 73 = .ok (.goto 4, 3) := by decide +kernel
theorem dX7_fitsAt_76 : decode cX7_fitsAt 76 = .ok (.iconst 0, 1) := by decide +kernel
theorem dX7_fitsAt_77 : decode cX7_fitsAt 77 = .ok (.istore 4, 2) := by decide +kernel
theorem dX7_fitsAt_79 : decode cX7_fitsAt 79 = .ok (.goto 37, 3) := by decide +kernel
theorem dX7_fitsAt_82 : decode cX7_fitsAt 82 = .ok (.iload_n 2, 1) := by decide +kernel
theorem dX7_fitsAt_83 : decode cX7_fitsAt 83 = .ok (.iconst 1, 1) := by decide +kernel
theorem dX7_fitsAt_84 : decode cX7_fitsAt 84 = .ok (.if_icmp .le 32, 3) := by decide +kernel
theorem dX7_fitsAt_87 : decode cX7_fitsAt 87 = .ok (.iload 4, 2) := by decide +kernel
theorem dX7_fitsAt_89 : decode cX7_fitsAt 89 = .ok (.ifCond .eq 24, 3) := by decide +kernel
theorem dX7_fitsAt_92 : decode cX7_fitsAt 92 = .ok (.aload_n 0, 1) := by decide +kernel
theorem dX7_fitsAt_93 : decode cX7_fitsAt 93 = .ok (.aload_n 0, 1) := by decide +kernel
theorem dX7_fitsAt_94 : decode cX7_fitsAt 94 = .ok (.getfield 31, 3) := by decide +kernel
theorem dX7_fitsAt_97 : decode cX7_fitsAt 97 = .ok (.iconst 1, 1) := by decide +kernel
theorem dX7_fitsAt_98 : decode cX7_fitsAt 98 = .ok (.iaload, 1) := by decide +kernel
theorem dX7_fitsAt_99 : decode cX7_fitsAt 99 = .ok (.invokevirtual 91, 3) := by decide +kernel
theorem dX7_fitsAt_102 : decode cX7_fitsAt 102 = .ok (.iload_n 3, 1) := by decide +kernel
theorem dX7_fitsAt_103 : decode cX7_fitsAt 103 = .ok (.invokestatic 94, 3) := by decide +kernel
theorem dX7_fitsAt_106 : decode cX7_fitsAt 106 = .ok (.ifCond .eq 7, 3) := by decide +kernel
theorem dX7_fitsAt_109 : decode cX7_fitsAt 109 = .ok (.iconst 1, 1) := by decide +kernel
theorem dX7_fitsAt_110 : decode cX7_fitsAt 110 = .ok (.goto 4, 3) := by decide +kernel
theorem dX7_fitsAt_113 : decode cX7_fitsAt 113 = .ok (.iconst 0, 1) := by decide +kernel
theorem dX7_fitsAt_114 : decode cX7_fitsAt 114 = .ok (.istore 4, 2) := by decide +kernel
theorem dX7_fitsAt_116 : decode cX7_fitsAt 116 = .ok (.iconst 0, 1) := by decide +kernel
theorem dX7_fitsAt_117 : decode cX7_fitsAt 117 = .ok (.istore 5, 2) := by decide +kernel
theorem dX7_fitsAt_119 : decode cX7_fitsAt 119 = .ok (.iload 5, 2) := by decide +kernel
theorem dX7_fitsAt_121 : decode cX7_fitsAt 121 = .ok (.iload_n 1, 1) := by decide +kernel
theorem dX7_fitsAt_122 : decode cX7_fitsAt 122 = .ok (.if_icmp .ge 32, 3) := by decide +kernel
theorem dX7_fitsAt_125 : decode cX7_fitsAt 125 = .ok (.iload 4, 2) := by decide +kernel
theorem dX7_fitsAt_127 : decode cX7_fitsAt 127 = .ok (.ifCond .eq 18, 3) := by decide +kernel
theorem dX7_fitsAt_130 : decode cX7_fitsAt 130 = .ok (.aload_n 0, 1) := by decide +kernel
theorem dX7_fitsAt_131 : decode cX7_fitsAt 131 = .ok (.getfield 34, 3) := by decide +kernel
theorem dX7_fitsAt_134 : decode cX7_fitsAt 134 = .ok (.iload 5, 2) := by decide +kernel
theorem dX7_fitsAt_136 : decode cX7_fitsAt 136 = .ok (.iaload, 1) := by decide +kernel
theorem dX7_fitsAt_137 : decode cX7_fitsAt 137 = .ok (.iload_n 3, 1) := by decide +kernel
theorem dX7_fitsAt_138 : decode cX7_fitsAt 138 = .ok (.if_icmp .eq 7, 3) := by decide +kernel
theorem dX7_fitsAt_141 : decode cX7_fitsAt 141 = .ok (.iconst 1, 1) := by decide +kernel
theorem dX7_fitsAt_142 : decode cX7_fitsAt 142 = .ok (.goto 4, 3) := by decide +kernel
theorem dX7_fitsAt_145 : decode cX7_fitsAt 145 = .ok (.iconst 0, 1) := by decide +kernel
theorem dX7_fitsAt_146 : decode cX7_fitsAt 146 = .ok (.istore 4, 2) := by decide +kernel
theorem dX7_fitsAt_148 : decode cX7_fitsAt 148 = .ok (.iinc 5 1, 3) := by decide +kernel
theorem dX7_fitsAt_151 : decode cX7_fitsAt 151 = .ok (.goto (-32), 3) := by decide +kernel
theorem dX7_fitsAt_154 : decode cX7_fitsAt 154 = .ok (.iload 4, 2) := by decide +kernel
theorem dX7_fitsAt_156 : decode cX7_fitsAt 156 = .ok (.ireturn, 1) := by decide +kernel
set_option maxRecDepth 20000 in
theorem ggX7_canSay_X7_fitsAt : GoodIn wsX7_canSay wsX7_fitsAt := goodIn_r _ [6, 1, 7, 8, 9, 10, 11, 5, 12, 13, 14, 15, 16, 17, 18, 19, 20, 21, 22, 23, 24, 25, 26, 27, 28, 29, 30, 31, 32, 33, 34, 35, 36] (by decide +kernel) (by decide +kernel)
set_option maxRecDepth 20000 in
theorem gX7_canSay_X7_fitsAt : GoodIn wsX7_canSay (wsV RX7 132 RX7 yX7_fitsAt wsX7_fitsAt) := goodIn_app (goodIn_of _ (by decide +kernel)) ggX7_canSay_X7_fitsAt
theorem dX7_canSay_0 : decode cX7_canSay 0 = .ok (.iconst 0, 1) := by decide +kernel
theorem dX7_canSay_1 : decode cX7_canSay 1 = .ok (.istore_n 2, 1) := by decide +kernel
theorem dX7_canSay_2 : decode cX7_canSay 2 = .ok (.aload_n 0, 1) := by decide +kernel
theorem dX7_canSay_3 : decode cX7_canSay 3 = .ok (.getfield 34, 3) := by decide +kernel
theorem dX7_canSay_6 : decode cX7_canSay 6 = .ok (.iconst 0, 1) := by decide +kernel
theorem dX7_canSay_7 : decode cX7_canSay 7 = .ok (.iconst (-1), 1) := by decide +kernel
theorem dX7_canSay_8 : decode cX7_canSay 8 = .ok (.iastore, 1) := by decide +kernel
theorem dX7_canSay_9 : decode cX7_canSay 9 = .ok (.iload_n 2, 1) := by decide +kernel
theorem dX7_canSay_10 : decode cX7_canSay 10 = .ok (.ifCond .lt 62, 3) := by decide +kernel
theorem dX7_canSay_13 : decode cX7_canSay 13 = .ok (.iload_n 2, 1) := by decide +kernel
theorem dX7_canSay_14 : decode cX7_canSay 14 = .ok (.iload_n 1, 1) := by decide +kernel
theorem dX7_canSay_15 : decode cX7_canSay 15 = .ok (.if_icmp .ge 57, 3) := by decide +kernel
