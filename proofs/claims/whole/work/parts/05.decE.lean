set_option maxRecDepth 20000 in
theorem ggX6_tests_X6_isLess : GoodIn wsX6_tests wsX6_isLess := goodIn_r _ [6, 7, 8, 9, 5, 10, 11, 12, 13, 14, 15, 16, 17, 18, 19, 20, 21, 22, 23, 24, 25, 26, 27, 28, 29, 30, 31, 32, 33, 34, 35, 36] rfl (by decide +kernel)
set_option maxRecDepth 20000 in
theorem gX6_tests_X6_isLess : GoodIn wsX6_tests (wsV RX6 105 RX6 yX6_isLess wsX6_isLess) := goodIn_app (goodIn_of _ (by decide +kernel)) ggX6_tests_X6_isLess
theorem dX6_tests_0 : decode cX6_tests 0 = .ok (.aload_n 0, 1) := by decide +kernel
theorem dX6_tests_1 : decode cX6_tests 1 = .ok (.getfield 37, 3) := by decide +kernel
theorem dX6_tests_4 : decode cX6_tests 4 = .ok (.iconst 0, 1) := by decide +kernel
theorem dX6_tests_5 : decode cX6_tests 5 = .ok (.dup2, 1) := by decide +kernel
theorem dX6_tests_6 : decode cX6_tests 6 = .ok (.iaload, 1) := by decide +kernel
theorem dX6_tests_7 : decode cX6_tests 7 = .ok (.iconst 1, 1) := by decide +kernel
theorem dX6_tests_8 : decode cX6_tests 8 = .ok (.iadd, 1) := by decide +kernel
theorem dX6_tests_9 : decode cX6_tests 9 = .ok (.iastore, 1) := by decide +kernel
theorem dX6_tests_10 : decode cX6_tests 10 = .ok (.aload_n 0, 1) := by decide +kernel
theorem dX6_tests_11 : decode cX6_tests 11 = .ok (.iload_n 1, 1) := by decide +kernel
theorem dX6_tests_12 : decode cX6_tests 12 = .ok (.iload_n 2, 1) := by decide +kernel
theorem dX6_tests_13 : decode cX6_tests 13 = .ok (.invokevirtual 105, 3) := by decide +kernel
theorem dX6_tests_16 : decode cX6_tests 16 = .ok (.ireturn, 1) := by decide +kernel
set_option maxRecDepth 20000 in
theorem ggX6_less_X6_in : GoodIn wsX6_less wsX6_in := goodIn_r _ [5] rfl (by decide +kernel)
set_option maxRecDepth 20000 in
theorem gX6_less_X6_in : GoodIn wsX6_less (va_wsS RX6 66 yX6_in wsX6_in) := goodIn_app (goodIn_of _ (by decide +kernel)) ggX6_less_X6_in
set_option maxRecDepth 20000 in
theorem ggX6_less_X6_isLess : GoodIn wsX6_less wsX6_isLess := goodIn_r _ [9, 10, 11, 12, 4, 13, 14, 15, 16, 17, 18, 19, 20, 21, 22, 23, 24, 25, 26, 27, 28, 29, 30, 31, 32, 33, 34, 35, 36, 37, 38, 39] rfl (by decide +kernel)
set_option maxRecDepth 20000 in
theorem gX6_less_X6_isLess : GoodIn wsX6_less (wsV RX6 105 RX6 yX6_isLess wsX6_isLess) := goodIn_app (goodIn_of _ (by decide +kernel)) ggX6_less_X6_isLess
theorem dX6_less_0 : decode cX6_less 0 = .ok (.iload_n 1, 1) := by decide +kernel
theorem dX6_less_1 : decode cX6_less 1 = .ok (.i2l, 1) := by decide +kernel
theorem dX6_less_2 : decode cX6_less 2 = .ok (.lconst 0, 1) := by decide +kernel
theorem dX6_less_3 : decode cX6_less 3 = .ok (.ldc2_w 100, 3) := by decide +kernel
theorem dX6_less_6 : decode cX6_less 6 = .ok (.invokestatic 66, 3) := by decide +kernel
theorem dX6_less_9 : decode cX6_less 9 = .ok (.ifCond .eq 32, 3) := by decide +kernel
theorem dX6_less_12 : decode cX6_less 12 = .ok (.iload_n 2, 1) := by decide +kernel
theorem dX6_less_13 : decode cX6_less 13 = .ok (.i2l, 1) := by decide +kernel
theorem dX6_less_14 : decode cX6_less 14 = .ok (.lconst 0, 1) := by decide +kernel
theorem dX6_less_15 : decode cX6_less 15 = .ok (.ldc2_w 100, 3) := by decide +kernel
theorem dX6_less_18 : decode cX6_less 18 = .ok (.invokestatic 66, 3) := by decide +kernel
theorem dX6_less_21 : decode cX6_less 21 = .ok (.ifCond .eq 20, 3) := by decide +kernel
theorem dX6_less_24 : decode cX6_less 24 = .ok (.aload_n 0, 1) := by decide +kernel
theorem dX6_less_25 : decode cX6_less 25 = .ok (.iload_n 1, 1) := by decide +kernel
theorem dX6_less_26 : decode cX6_less 26 = .ok (.iload_n 2, 1) := by decide +kernel
theorem dX6_less_27 : decode cX6_less 27 = .ok (.invokevirtual 105, 3) := by decide +kernel
theorem dX6_less_30 : decode cX6_less 30 = .ok (.ifCond .eq 7, 3) := by decide +kernel
theorem dX6_less_33 : decode cX6_less 33 = .ok (.iconst 1, 1) := by decide +kernel
theorem dX6_less_34 : decode cX6_less 34 = .ok (.goto 8, 3) := by decide +kernel
theorem dX6_less_37 : decode cX6_less 37 = .ok (.iconst 0, 1) := by decide +kernel
theorem dX6_less_38 : decode cX6_less 38 = .ok (.goto 4, 3) := by decide +kernel
theorem dX6_less_41 : decode cX6_less 41 = .ok (.iconst (-1), 1) := by decide +kernel
theorem dX6_less_42 : decode cX6_less 42 = .ok (.ireturn, 1) := by decide +kernel
theorem dX6_inRuns_0 : decode cX6_inRuns 0 = .ok (.aload_n 0, 1) := by decide +kernel
theorem dX6_inRuns_1 : decode cX6_inRuns 1 = .ok (.getfield 87, 3) := by decide +kernel
theorem dX6_inRuns_4 : decode cX6_inRuns 4 = .ok (.istore_n 1, 1) := by decide +kernel
theorem dX6_inRuns_5 : decode cX6_inRuns 5 = .ok (.iconst 0, 1) := by decide +kernel
theorem dX6_inRuns_6 : decode cX6_inRuns 6 = .ok (.istore_n 2, 1) := by decide +kernel
theorem dX6_inRuns_7 : decode cX6_inRuns 7 = .ok (.iload_n 2, 1) := by decide +kernel
theorem dX6_inRuns_8 : decode cX6_inRuns 8 = .ok (.aload_n 0, 1) := by decide +kernel
theorem dX6_inRuns_9 : decode cX6_inRuns 9 = .ok (.getfield 81, 3) := by decide +kernel
theorem dX6_inRuns_12 : decode cX6_inRuns 12 = .ok (.if_icmp .ge 18, 3) := by decide +kernel
theorem dX6_inRuns_15 : decode cX6_inRuns 15 = .ok (.iload_n 1, 1) := by decide +kernel
theorem dX6_inRuns_16 : decode cX6_inRuns 16 = .ok (.aload_n 0, 1) := by decide +kernel
theorem dX6_inRuns_17 : decode cX6_inRuns 17 = .ok (.getfield 34, 3) := by decide +kernel
theorem dX6_inRuns_20 : decode cX6_inRuns 20 = .ok (.iload_n 2, 1) := by decide +kernel
theorem dX6_inRuns_21 : decode cX6_inRuns 21 = .ok (.iaload, 1) := by decide +kernel
theorem dX6_inRuns_22 : decode cX6_inRuns 22 = .ok (.iadd, 1) := by decide +kernel
theorem dX6_inRuns_23 : decode cX6_inRuns 23 = .ok (.istore_n 1, 1) := by decide +kernel
theorem dX6_inRuns_24 : decode cX6_inRuns 24 = .ok (.iinc 2 1, 3) := by decide +kernel
theorem dX6_inRuns_27 : decode cX6_inRuns 27 = .ok (.goto (-20), 3) := by decide +kernel
theorem dX6_inRuns_30 : decode cX6_inRuns 30 = .ok (.iload_n 1, 1) := by decide +kernel
theorem dX6_inRuns_31 : decode cX6_inRuns 31 = .ok (.ireturn, 1) := by decide +kernel
set_option maxRecDepth 20000 in
theorem ggX6_find_X6_inRuns : GoodIn wsX6_find wsX6_inRuns := goodIn_r _ [11, 6, 12, 13, 34, 35, 36, 37, 38, 39, 40, 41, 42, 43, 44, 45, 46, 47, 48, 49, 50, 51, 52, 53, 54, 55, 56, 57, 58, 59] rfl (by decide +kernel)
set_option maxRecDepth 20000 in
theorem gX6_find_X6_inRuns : GoodIn wsX6_find (wsV RX6 109 RX6 yX6_inRuns wsX6_inRuns) := goodIn_app (goodIn_of _ (by decide +kernel)) ggX6_find_X6_inRuns
set_option maxRecDepth 20000 in
theorem ggX6_find_X6_tests : GoodIn wsX6_find wsX6_tests := goodIn_r _ [17, 3, 18, 19, 20, 10, 21, 4, 22, 23, 24, 34, 35, 36, 37, 38, 39, 40, 41, 42, 43, 44, 45, 46, 47, 48, 49, 50, 51, 52, 53, 54, 55, 56, 57, 58, 59] rfl (by decide +kernel)
set_option maxRecDepth 20000 in
theorem gX6_find_X6_tests : GoodIn wsX6_find (wsV RX6 112 RX6 yX6_tests wsX6_tests) := goodIn_app (goodIn_of _ (by decide +kernel)) ggX6_find_X6_tests
set_option maxRecDepth 20000 in
theorem ggX6_find_X6_turn : GoodIn wsX6_find wsX6_turn := goodIn_r _ [28, 3, 2, 29, 34, 35, 36, 37, 38, 39, 40, 41, 42, 43, 44, 45, 46, 47, 48, 49, 50, 51, 52, 53, 54, 55, 56, 57, 58, 59] rfl (by decide +kernel)
set_option maxRecDepth 20000 in
theorem gX6_find_X6_turn : GoodIn wsX6_find (wsV RX6 115 RX6 yX6_turn wsX6_turn) := goodIn_app (goodIn_of _ (by decide +kernel)) ggX6_find_X6_turn
set_option maxRecDepth 20000 in
theorem ggX6_find_X6_put1 : GoodIn wsX6_find wsX6_put1 := goodIn_r _ [33, 2, 29, 3, 14, 15, 16, 10, 17, 18, 19, 20, 21, 4, 22, 23, 24, 34, 35, 36, 37, 38, 39, 40, 41, 42, 43, 44, 45, 46, 47, 48, 49, 50, 51, 52, 53, 54, 55, 56, 57, 58, 59] rfl (by decide +kernel)
set_option maxRecDepth 20000 in
theorem gX6_find_X6_put1 : GoodIn wsX6_find (wsV RX6 119 RX6 yX6_put1 wsX6_put1) := goodIn_app (goodIn_of _ (by decide +kernel)) ggX6_find_X6_put1
theorem dX6_find_0 : decode cX6_find 0 = .ok (.aload_n 0, 1) := by decide +kernel
theorem dX6_find_1 : decode cX6_find 1 = .ok (.invokevirtual 109, 3) := by decide +kernel
theorem dX6_find_4 : decode cX6_find 4 = .ok (.istore_n 1, 1) := by decide +kernel
theorem dX6_find_5 : decode cX6_find 5 = .ok (.iload_n 1, 1) := by decide +kernel
theorem dX6_find_6 : decode cX6_find 6 = .ok (.iconst 1, 1) := by decide +kernel
theorem dX6_find_7 : decode cX6_find 7 = .ok (.iadd, 1) := by decide +kernel
theorem dX6_find_8 : decode cX6_find 8 = .ok (.istore_n 2, 1) := by decide +kernel
theorem dX6_find_9 : decode cX6_find 9 = .ok (.iload_n 2, 1) := by decide +kernel
theorem dX6_find_10 : decode cX6_find 10 = .ok (.aload_n 0, 1) := by decide +kernel
theorem dX6_find_11 : decode cX6_find 11 = .ok (.getfield 55, 3) := by decide +kernel
theorem dX6_find_14 : decode cX6_find 14 = .ok (.if_icmp .ge 69, 3) := by decide +kernel
theorem dX6_find_17 : decode cX6_find 17 = .ok (.aload_n 0, 1) := by decide +kernel
theorem dX6_find_18 : decode cX6_find 18 = .ok (.aload_n 0, 1) := by decide +kernel
theorem dX6_find_19 : decode cX6_find 19 = .ok (.getfield 19, 3) := by decide +kernel
theorem dX6_find_22 : decode cX6_find 22 = .ok (.iload_n 2, 1) := by decide +kernel
theorem dX6_find_23 : decode cX6_find 23 = .ok (.iaload, 1) := by decide +kernel
theorem dX6_find_24 : decode cX6_find 24 = .ok (.aload_n 0, 1) := by decide +kernel
theorem dX6_find_25 : decode cX6_find 25 = .ok (.getfield 19, 3) := by decide +kernel
theorem dX6_find_28 : decode cX6_find 28 = .ok (.iload_n 1, 1) := by decide +kernel
theorem dX6_find_29 : decode cX6_find 29 = .ok (.iaload, 1) := by decide +kernel
theorem dX6_find_30 : decode cX6_find 30 = .ok (.invokevirtual 112, 3) := by decide +kernel
theorem dX6_find_33 : decode cX6_find 33 = .ok (.istore_n 3, 1) := by decide +kernel
theorem dX6_find_34 : decode cX6_find 34 = .ok (.iinc 2 1, 3) := by decide +kernel
theorem dX6_find_37 : decode cX6_find 37 = .ok (.iload_n 2, 1) := by decide +kernel
theorem dX6_find_38 : decode cX6_find 38 = .ok (.aload_n 0, 1) := by decide +kernel
theorem dX6_find_39 : decode cX6_find 39 = .ok (.getfield 55, 3) := by decide +kernel
theorem dX6_find_42 : decode cX6_find 42 = .ok (.if_icmp .ge 31, 3) := by decide +kernel
theorem dX6_find_45 : decode cX6_find 45 = .ok (.aload_n 0, 1) := by decide +kernel
theorem dX6_find_46 : decode cX6_find 46 = .ok (.aload_n 0, 1) := by decide +kernel
theorem dX6_find_47 : decode cX6_find 47 = .ok (.getfield 19, 3) := by decide +kernel
theorem dX6_find_50 : decode cX6_find 50 = .ok (.iload_n 2, 1) := by decide +kernel
theorem dX6_find_51 : decode cX6_find 51 = .ok (.iaload, 1) := by decide +kernel
theorem dX6_find_52 : decode cX6_find 52 = .ok (.aload_n 0, 1) := by decide +kernel
theorem dX6_find_53 : decode cX6_find 53 = .ok (.getfield 19, 3) := by decide +kernel
theorem dX6_find_56 : decode cX6_find 56 = .ok (.iload_n 2, 1) := by decide +kernel
theorem dX6_find_57 : decode cX6_find 57 = .ok (.iconst 1, 1) := by decide +kernel
theorem dX6_find_58 : decode cX6_find 58 = .ok (.isub, 1) := by decide +kernel
theorem dX6_find_59 : decode cX6_find 59 = .ok (.iaload, 1) := by decide +kernel
theorem dX6_find_60 : decode cX6_find 60 = .ok (.invokevirtual 112, 3) := by decide +kernel
theorem dX6_find_63 : decode cX6_find 63 = .ok (.iload_n 3, 1) := by decide +kernel
theorem dX6_find_64 : decode cX6_find 64 = .ok (.if_icmp .ne 9, 3) := by decide +kernel
theorem dX6_find_67 : decode cX6_find 67 = .ok (.iinc 2 1, 3) := by decide +kernel
theorem dX6_find_70 : decode cX6_find 70 = .ok (.goto (-33), 3) := by decide +kernel
theorem dX6_find_73 : decode cX6_find 73 = .ok (.iload_n 3, 1) := by decide +kernel
theorem dX6_find_74 : decode cX6_find 74 = .ok (.ifCond .eq 9, 3) := by decide +kernel
theorem dX6_find_77 : decode cX6_find 77 = .ok (.aload_n 0, 1) := by decide +kernel
theorem dX6_find_78 : decode cX6_find 78 = .ok (.iload_n 1, 1) := by decide +kernel
theorem dX6_find_79 : decode cX6_find 79 = .ok (.iload_n 2, 1) := by decide +kernel
theorem dX6_find_80 : decode cX6_find 80 = .ok (.invokevirtual 115, 3) := by decide +kernel
theorem dX6_find_83 : decode cX6_find 83 = .ok (.aload_n 0, 1) := by decide +kernel
theorem dX6_find_84 : decode cX6_find 84 = .ok (.getfield 37, 3) := by decide +kernel
theorem dX6_find_87 : decode cX6_find 87 = .ok (.iconst 2, 1) := by decide +kernel
theorem dX6_find_88 : decode cX6_find 88 = .ok (.dup2, 1) := by decide +kernel
theorem dX6_find_89 : decode cX6_find 89 = .ok (.iaload, 1) := by decide +kernel
theorem dX6_find_90 : decode cX6_find 90 = .ok (.iconst 1, 1) := by decide +kernel
theorem dX6_find_91 : decode cX6_find 91 = .ok (.iadd, 1) := by decide +kernel
theorem dX6_find_92 : decode cX6_find 92 = .ok (.iastore, 1) := by decide +kernel
theorem dX6_find_93 : decode cX6_find 93 = .ok (.iload_n 2, 1) := by decide +kernel
theorem dX6_find_94 : decode cX6_find 94 = .ok (.iload_n 1, 1) := by decide +kernel
theorem dX6_find_95 : decode cX6_find 95 = .ok (.isub, 1) := by decide +kernel
theorem dX6_find_96 : decode cX6_find 96 = .ok (.aload_n 0, 1) := by decide +kernel
theorem dX6_find_97 : decode cX6_find 97 = .ok (.getfield 13, 3) := by decide +kernel
theorem dX6_find_100 : decode cX6_find 100 = .ok (.iconst 2, 1) := by decide +kernel
theorem dX6_find_101 : decode cX6_find 101 = .ok (.iaload, 1) := by decide +kernel
theorem dX6_find_102 : decode cX6_find 102 = .ok (.if_icmp .ge 53, 3) := by decide +kernel
theorem dX6_find_105 : decode cX6_find 105 = .ok (.iload_n 2, 1) := by decide +kernel
theorem dX6_find_106 : decode cX6_find 106 = .ok (.aload_n 0, 1) := by decide +kernel
theorem dX6_find_107 : decode cX6_find 107 = .ok (.getfield 55, 3) := by decide +kernel
theorem dX6_find_110 : decode cX6_find 110 = .ok (.if_icmp .ge 45, 3) := by decide +kernel
theorem dX6_find_113 : decode cX6_find 113 = .ok (.aload_n 0, 1) := by decide +kernel
theorem dX6_find_114 : decode cX6_find 114 = .ok (.getfield 37, 3) := by decide +kernel
theorem dX6_find_117 : decode cX6_find 117 = .ok (.iconst 4, 1) := by decide +kernel
theorem dX6_find_118 : decode cX6_find 118 = .ok (.dup2, 1) := by decide +kernel
theorem dX6_find_119 : decode cX6_find 119 = .ok (.iaload, 1) := by decide +kernel
theorem dX6_find_120 : decode cX6_find 120 = .ok (.iconst 1, 1) := by decide +kernel
theorem dX6_find_121 : decode cX6_find 121 = .ok (.iadd, 1) := by decide +kernel
theorem dX6_find_122 : decode cX6_find 122 = .ok (.iastore, 1) := by decide +kernel
theorem dX6_find_123 : decode cX6_find 123 = .ok (.iload_n 2, 1) := by decide +kernel
theorem dX6_find_124 : decode cX6_find 124 = .ok (.iload_n 1, 1) := by decide +kernel
theorem dX6_find_125 : decode cX6_find 125 = .ok (.isub, 1) := by decide +kernel
theorem dX6_find_126 : decode cX6_find 126 = .ok (.aload_n 0, 1) := by decide +kernel
theorem dX6_find_127 : decode cX6_find 127 = .ok (.getfield 13, 3) := by decide +kernel
theorem dX6_find_130 : decode cX6_find 130 = .ok (.iconst 2, 1) := by decide +kernel
theorem dX6_find_131 : decode cX6_find 131 = .ok (.iaload, 1) := by decide +kernel
theorem dX6_find_132 : decode cX6_find 132 = .ok (.if_icmp .ge 23, 3) := by decide +kernel
theorem dX6_find_135 : decode cX6_find 135 = .ok (.iload_n 2, 1) := by decide +kernel
theorem dX6_find_136 : decode cX6_find 136 = .ok (.aload_n 0, 1) := by decide +kernel
theorem dX6_find_137 : decode cX6_find 137 = .ok (.getfield 55, 3) := by decide +kernel
theorem dX6_find_140 : decode cX6_find 140 = .ok (.if_icmp .ge 15, 3) := by decide +kernel
theorem dX6_find_143 : decode cX6_find 143 = .ok (.aload_n 0, 1) := by decide +kernel
theorem dX6_find_144 : decode cX6_find 144 = .ok (.iload_n 1, 1) := by decide +kernel
theorem dX6_find_145 : decode cX6_find 145 = .ok (.iload_n 2, 1) := by decide +kernel
theorem dX6_find_146 : decode cX6_find 146 = .ok (.invokevirtual 119, 3) := by decide +kernel
theorem dX6_find_149 : decode cX6_find 149 = .ok (.iinc 2 1, 3) := by decide +kernel
theorem dX6_find_152 : decode cX6_find 152 = .ok (.goto (-29), 3) := by decide +kernel
theorem dX6_find_155 : decode cX6_find 155 = .ok (.aload_n 0, 1) := by decide +kernel
theorem dX6_find_156 : decode cX6_find 156 = .ok (.iload_n 1, 1) := by decide +kernel
theorem dX6_find_157 : decode cX6_find 157 = .ok (.putfield 84, 3) := by decide +kernel
theorem dX6_find_160 : decode cX6_find 160 = .ok (.aload_n 0, 1) := by decide +kernel
theorem dX6_find_161 : decode cX6_find 161 = .ok (.iload_n 2, 1) := by decide +kernel
theorem dX6_find_162 : decode cX6_find 162 = .ok (.iload_n 1, 1) := by decide +kernel
theorem dX6_find_163 : decode cX6_find 163 = .ok (.isub, 1) := by decide +kernel
theorem dX6_find_164 : decode cX6_find 164 = .ok (.putfield 87, 3) := by decide +kernel
theorem dX6_find_167 : decode cX6_find 167 = .ok (.return_, 1) := by decide +kernel
theorem dX6_turn_0 : decode cX6_turn 0 = .ok (.aload_n 0, 1) := by decide +kernel
theorem dX6_turn_1 : decode cX6_turn 1 = .ok (.getfield 37, 3) := by decide +kernel
theorem dX6_turn_4 : decode cX6_turn 4 = .ok (.iconst 3, 1) := by decide +kernel
theorem dX6_turn_5 : decode cX6_turn 5 = .ok (.dup2, 1) := by decide +kernel
theorem dX6_turn_6 : decode cX6_turn 6 = .ok (.iaload, 1) := by decide +kernel
theorem dX6_turn_7 : decode cX6_turn 7 = .ok (.iconst 1, 1) := by decide +kernel
theorem dX6_turn_8 : decode cX6_turn 8 = .ok (.iadd, 1) := by decide +kernel
theorem dX6_turn_9 : decode cX6_turn 9 = .ok (.iastore, 1) := by decide +kernel
theorem dX6_turn_10 : decode cX6_turn 10 = .ok (.iload_n 1, 1) := by decide +kernel
theorem dX6_turn_11 : decode cX6_turn 11 = .ok (.istore_n 3, 1) := by decide +kernel
theorem dX6_turn_12 : decode cX6_turn 12 = .ok (.iload_n 2, 1) := by decide +kernel
theorem dX6_turn_13 : decode cX6_turn 13 = .ok (.iconst 1, 1) := by decide +kernel
theorem dX6_turn_14 : decode cX6_turn 14 = .ok (.isub, 1) := by decide +kernel
theorem dX6_turn_15 : decode cX6_turn 15 = .ok (.istore 4, 2) := by decide +kernel
theorem dX6_turn_17 : decode cX6_turn 17 = .ok (.iload_n 3, 1) := by decide +kernel
theorem dX6_turn_18 : decode cX6_turn 18 = .ok (.iload 4, 2) := by decide +kernel
theorem dX6_turn_20 : decode cX6_turn 20 = .ok (.if_icmp .ge 82, 3) := by decide +kernel
theorem dX6_turn_23 : decode cX6_turn 23 = .ok (.aload_n 0, 1) := by decide +kernel
theorem dX6_turn_24 : decode cX6_turn 24 = .ok (.getfield 19, 3) := by decide +kernel
theorem dX6_turn_27 : decode cX6_turn 27 = .ok (.iload_n 3, 1) := by decide +kernel
theorem dX6_turn_28 : decode cX6_turn 28 = .ok (.iaload, 1) := by decide +kernel
theorem dX6_turn_29 : decode cX6_turn 29 = .ok (.istore 5, 2) := by decide +kernel
theorem dX6_turn_31 : decode cX6_turn 31 = .ok (.aload_n 0, 1) := by decide +kernel
theorem dX6_turn_32 : decode cX6_turn 32 = .ok (.getfield 22, 3) := by decide +kernel
theorem dX6_turn_35 : decode cX6_turn 35 = .ok (.iload_n 3, 1) := by decide +kernel
theorem dX6_turn_36 : decode cX6_turn 36 = .ok (.iaload, 1) := by decide +kernel
theorem dX6_turn_37 : decode cX6_turn 37 = .ok (.istore 6, 2) := by decide +kernel
theorem dX6_turn_39 : decode cX6_turn 39 = .ok (.aload_n 0, 1) := by decide +kernel
theorem dX6_turn_40 : decode cX6_turn 40 = .ok (.getfield 19, 3) := by decide +kernel
theorem dX6_turn_43 : decode cX6_turn 43 = .ok (.iload_n 3, 1) := by decide +kernel
theorem dX6_turn_44 : decode cX6_turn 44 = .ok (.aload_n 0, 1) := by decide +kernel
theorem dX6_turn_45 : decode cX6_turn 45 = .ok (.getfield 19, 3) := by decide +kernel
theorem dX6_turn_48 : decode cX6_turn 48 = .ok (.iload 4, 2) := by decide +kernel
theorem dX6_turn_50 : decode cX6_turn 50 = .ok (.iaload, 1) := by decide +kernel
theorem dX6_turn_51 : decode cX6_turn 51 = .ok (.iastore, 1) := by decide +kernel
theorem dX6_turn_52 : decode cX6_turn 52 = .ok (.aload_n 0, 1) := by decide +kernel
theorem dX6_turn_53 : decode cX6_turn 53 = .ok (.getfield 22, 3) := by decide +kernel
theorem dX6_turn_56 : decode cX6_turn 56 = .ok (.iload_n 3, 1) := by decide +kernel
theorem dX6_turn_57 : decode cX6_turn 57 = .ok (.aload_n 0, 1) := by decide +kernel
theorem dX6_turn_58 : decode cX6_turn 58 = .ok (.getfield 22, 3) := by decide +kernel
theorem dX6_turn_61 : decode cX6_turn 61 = .ok (.iload 4, 2) := by decide +kernel
theorem dX6_turn_63 : decode cX6_turn 63 = .ok (.iaload, 1) := by decide +kernel
theorem dX6_turn_64 : decode cX6_turn 64 = .ok (.iastore, 1) := by decide +kernel
theorem dX6_turn_65 : decode cX6_turn 65 = .ok (.aload_n 0, 1) := by decide +kernel
theorem dX6_turn_66 : decode cX6_turn 66 = .ok (.getfield 19, 3) := by decide +kernel
theorem dX6_turn_69 : decode cX6_turn 69 = .ok (.iload 4, 2) := by decide +kernel
theorem dX6_turn_71 : decode cX6_turn 71 = .ok (.iload 5, 2) := by decide +kernel
theorem dX6_turn_73 : decode cX6_turn 73 = .ok (.iastore, 1) := by decide +kernel
theorem dX6_turn_74 : decode cX6_turn 74 = .ok (.aload_n 0, 1) := by decide +kernel
theorem dX6_turn_75 : decode cX6_turn 75 = .ok (.getfield 22, 3) := by decide +kernel
theorem dX6_turn_78 : decode cX6_turn 78 = .ok (.iload 4, 2) := by decide +kernel
theorem dX6_turn_80 : decode cX6_turn 80 = .ok (.iload 6, 2) := by decide +kernel
theorem dX6_turn_82 : decode cX6_turn 82 = .ok (.iastore, 1) := by decide +kernel
theorem dX6_turn_83 : decode cX6_turn 83 = .ok (.aload_n 0, 1) := by decide +kernel
theorem dX6_turn_84 : decode cX6_turn 84 = .ok (.getfield 37, 3) := by decide +kernel
theorem dX6_turn_87 : decode cX6_turn 87 = .ok (.iconst 1, 1) := by decide +kernel
theorem dX6_turn_88 : decode cX6_turn 88 = .ok (.dup2, 1) := by decide +kernel
theorem dX6_turn_89 : decode cX6_turn 89 = .ok (.iaload, 1) := by decide +kernel
theorem dX6_turn_90 : decode cX6_turn 90 = .ok (.iconst 2, 1) := by decide +kernel
theorem dX6_turn_91 : decode cX6_turn 91 = .ok (.iadd, 1) := by decide +kernel
theorem dX6_turn_92 : decode cX6_turn 92 = .ok (.iastore, 1) := by decide +kernel
theorem dX6_turn_93 : decode cX6_turn 93 = .ok (.iinc 3 1, 3) := by decide +kernel
theorem dX6_turn_96 : decode cX6_turn 96 = .ok (.iinc 4 (-1), 3) := by decide +kernel
theorem dX6_turn_99 : decode cX6_turn 99 = .ok (.goto (-82), 3) := by decide +kernel
theorem dX6_turn_102 : decode cX6_turn 102 = .ok (.return_, 1) := by decide +kernel
set_option maxRecDepth 20000 in
theorem ggX6_put1_X6_tests : GoodIn wsX6_put1 wsX6_tests := goodIn_r _ [8, 3, 9, 10, 11, 7, 12, 13, 14, 15, 16, 17, 18, 19, 20, 21, 22, 23, 24, 25, 26, 27, 28, 29, 30, 31, 32, 33, 34, 35, 36, 37, 38, 39, 40, 41, 42] rfl (by decide +kernel)
set_option maxRecDepth 20000 in
theorem gX6_put1_X6_tests : GoodIn wsX6_put1 (wsV RX6 112 RX6 yX6_tests wsX6_tests) := goodIn_app (goodIn_of _ (by decide +kernel)) ggX6_put1_X6_tests
theorem dX6_put1_0 : decode cX6_put1 0 = .ok (.aload_n 0, 1) := by decide +kernel
theorem dX6_put1_1 : decode cX6_put1 1 = .ok (.getfield 19, 3) := by decide +kernel
theorem dX6_put1_4 : decode cX6_put1 4 = .ok (.iload_n 2, 1) := by decide +kernel
theorem dX6_put1_5 : decode cX6_put1 5 = .ok (.iaload, 1) := by decide +kernel
theorem dX6_put1_6 : decode cX6_put1 6 = .ok (.istore_n 3, 1) := by decide +kernel
theorem dX6_put1_7 : decode cX6_put1 7 = .ok (.aload_n 0, 1) := by decide +kernel
theorem dX6_put1_8 : decode cX6_put1 8 = .ok (.getfield 22, 3) := by decide +kernel
theorem dX6_put1_11 : decode cX6_put1 11 = .ok (.iload_n 2, 1) := by decide +kernel
theorem dX6_put1_12 : decode cX6_put1 12 = .ok (.iaload, 1) := by decide +kernel
theorem dX6_put1_13 : decode cX6_put1 13 = .ok (.istore 4, 2) := by decide +kernel
theorem dX6_put1_15 : decode cX6_put1 15 = .ok (.iconst 0, 1) := by decide +kernel
theorem dX6_put1_16 : decode cX6_put1 16 = .ok (.istore 5, 2) := by decide +kernel
theorem dX6_put1_18 : decode cX6_put1 18 = .ok (.iload_n 2, 1) := by decide +kernel
theorem dX6_put1_19 : decode cX6_put1 19 = .ok (.iload_n 1, 1) := by decide +kernel
theorem dX6_put1_20 : decode cX6_put1 20 = .ok (.isub, 1) := by decide +kernel
theorem dX6_put1_21 : decode cX6_put1 21 = .ok (.istore 6, 2) := by decide +kernel
theorem dX6_put1_23 : decode cX6_put1 23 = .ok (.iload 5, 2) := by decide +kernel
theorem dX6_put1_25 : decode cX6_put1 25 = .ok (.iload 6, 2) := by decide +kernel
theorem dX6_put1_27 : decode cX6_put1 27 = .ok (.if_icmp .ge 45, 3) := by decide +kernel
theorem dX6_put1_30 : decode cX6_put1 30 = .ok (.iload 5, 2) := by decide +kernel
theorem dX6_put1_32 : decode cX6_put1 32 = .ok (.iload 6, 2) := by decide +kernel
theorem dX6_put1_34 : decode cX6_put1 34 = .ok (.iadd, 1) := by decide +kernel
theorem dX6_put1_35 : decode cX6_put1 35 = .ok (.iconst 2, 1) := by decide +kernel
theorem dX6_put1_36 : decode cX6_put1 36 = .ok (.idiv, 1) := by decide +kernel
theorem dX6_put1_37 : decode cX6_put1 37 = .ok (.istore 7, 2) := by decide +kernel
theorem dX6_put1_39 : decode cX6_put1 39 = .ok (.aload_n 0, 1) := by decide +kernel
theorem dX6_put1_40 : decode cX6_put1 40 = .ok (.iload_n 3, 1) := by decide +kernel
theorem dX6_put1_41 : decode cX6_put1 41 = .ok (.aload_n 0, 1) := by decide +kernel
theorem dX6_put1_42 : decode cX6_put1 42 = .ok (.getfield 19, 3) := by decide +kernel
theorem dX6_put1_45 : decode cX6_put1 45 = .ok (.iload_n 1, 1) := by decide +kernel
theorem dX6_put1_46 : decode cX6_put1 46 = .ok (.iload 7, 2) := by decide +kernel
theorem dX6_put1_48 : decode cX6_put1 48 = .ok (.iadd, 1) := by decide +kernel
theorem dX6_put1_49 : decode cX6_put1 49 = .ok (.iaload, 1) := by decide +kernel
theorem dX6_put1_50 : decode cX6_put1 50 = .ok (.invokevirtual 112, 3) := by decide +kernel
theorem dX6_put1_53 : decode cX6_put1 53 = .ok (.ifCond .eq 10, 3) := by decide +kernel
theorem dX6_put1_56 : decode cX6_put1 56 = .ok (.iload 7, 2) := by decide +kernel
theorem dX6_put1_58 : decode cX6_put1 58 = .ok (.istore 6, 2) := by decide +kernel
theorem dX6_put1_60 : decode cX6_put1 60 = .ok (.goto 9, 3) := by decide +kernel
theorem dX6_put1_63 : decode cX6_put1 63 = .ok (.iload 7, 2) := by decide +kernel
theorem dX6_put1_65 : decode cX6_put1 65 = .ok (.iconst 1, 1) := by decide +kernel
theorem dX6_put1_66 : decode cX6_put1 66 = .ok (.iadd, 1) := by decide +kernel
theorem dX6_put1_67 : decode cX6_put1 67 = .ok (.istore 5, 2) := by decide +kernel
theorem dX6_put1_69 : decode cX6_put1 69 = .ok (.goto (-46), 3) := by decide +kernel
theorem dX6_put1_72 : decode cX6_put1 72 = .ok (.iload_n 1, 1) := by decide +kernel
theorem dX6_put1_73 : decode cX6_put1 73 = .ok (.iload 5, 2) := by decide +kernel
theorem dX6_put1_75 : decode cX6_put1 75 = .ok (.iadd, 1) := by decide +kernel
theorem dX6_put1_76 : decode cX6_put1 76 = .ok (.istore 7, 2) := by decide +kernel
theorem dX6_put1_78 : decode cX6_put1 78 = .ok (.iload 7, 2) := by decide +kernel
theorem dX6_put1_80 : decode cX6_put1 80 = .ok (.iload_n 2, 1) := by decide +kernel
theorem dX6_put1_81 : decode cX6_put1 81 = .ok (.if_icmp .ne 4, 3) := by decide +kernel
theorem dX6_put1_84 : decode cX6_put1 84 = .ok (.return_, 1) := by decide +kernel
theorem dX6_put1_85 : decode cX6_put1 85 = .ok (.iload_n 2, 1) := by decide +kernel
theorem dX6_put1_86 : decode cX6_put1 86 = .ok (.istore 8, 2) := by decide +kernel
theorem dX6_put1_88 : decode cX6_put1 88 = .ok (.iload 8, 2) := by decide +kernel
theorem dX6_put1_90 : decode cX6_put1 90 = .ok (.iload 7, 2) := by decide +kernel
theorem dX6_put1_92 : decode cX6_put1 92 = .ok (.if_icmp .le 41, 3) := by decide +kernel
theorem dX6_put1_95 : decode cX6_put1 95 = .ok (.aload_n 0, 1) := by decide +kernel
theorem dX6_put1_96 : decode cX6_put1 96 = .ok (.getfield 19, 3) := by decide +kernel
theorem dX6_put1_99 : decode cX6_put1 99 = .ok (.iload 8, 2) := by decide +kernel
theorem dX6_put1_101 : decode cX6_put1 101 = .ok (.aload_n 0, 1) := by decide +kernel
theorem dX6_put1_102 : decode cX6_put1 102 = .ok (.getfield 19, 3) := by decide +kernel
theorem dX6_put1_105 : decode cX6_put1 105 = .ok (.iload 8, 2) := by decide +kernel
theorem dX6_put1_107 : decode cX6_put1 107 = .ok (.iconst 1, 1) := by decide +kernel
theorem dX6_put1_108 : decode cX6_put1 108 = .ok (.isub, 1) := by decide +kernel
theorem dX6_put1_109 : decode cX6_put1 109 = .ok (.iaload, 1) := by decide +kernel
theorem dX6_put1_110 : decode cX6_put1 110 = .ok (.iastore, 1) := by decide +kernel
theorem dX6_put1_111 : decode cX6_put1 111 = .ok (.aload_n 0, 1) := by decide +kernel
theorem dX6_put1_112 : decode cX6_put1 112 = .ok (.getfield 22, 3) := by decide +kernel
theorem dX6_put1_115 : decode cX6_put1 115 = .ok (.iload 8, 2) := by decide +kernel
theorem dX6_put1_117 : decode cX6_put1 117 = .ok (.aload_n 0, 1) := by decide +kernel
theorem dX6_put1_118 : decode cX6_put1 118 = .ok (.getfield 22, 3) := by decide +kernel
theorem dX6_put1_121 : decode cX6_put1 121 = .ok (.iload 8, 2) := by decide +kernel
theorem dX6_put1_123 : decode cX6_put1 123 = .ok (.iconst 1, 1) := by decide +kernel
theorem dX6_put1_124 : decode cX6_put1 124 = .ok (.isub, 1) := by decide +kernel
theorem dX6_put1_125 : decode cX6_put1 125 = .ok (.iaload, 1) := by decide +kernel
theorem dX6_put1_126 : decode cX6_put1 126 = .ok (.iastore, 1) := by decide +kernel
theorem dX6_put1_127 : decode cX6_put1 127 = .ok (.iinc 8 (-1), 3) := by decide +kernel
theorem dX6_put1_130 : decode cX6_put1 130 = .ok (.goto (-42), 3) := by decide +kernel
theorem dX6_put1_133 : decode cX6_put1 133 = .ok (.aload_n 0, 1) := by decide +kernel
theorem dX6_put1_134 : decode cX6_put1 134 = .ok (.getfield 19, 3) := by decide +kernel
theorem dX6_put1_137 : decode cX6_put1 137 = .ok (.iload 7, 2) := by decide +kernel
theorem dX6_put1_139 : decode cX6_put1 139 = .ok (.iload_n 3, 1) := by decide +kernel
theorem dX6_put1_140 : decode cX6_put1 140 = .ok (.iastore, 1) := by decide +kernel
theorem dX6_put1_141 : decode cX6_put1 141 = .ok (.aload_n 0, 1) := by decide +kernel
theorem dX6_put1_142 : decode cX6_put1 142 = .ok (.getfield 22, 3) := by decide +kernel
theorem dX6_put1_145 : decode cX6_put1 145 = .ok (.iload 7, 2) := by decide +kernel
theorem dX6_put1_147 : decode cX6_put1 147 = .ok (.iload 4, 2) := by decide +kernel
theorem dX6_put1_149 : decode cX6_put1 149 = .ok (.iastore, 1) := by decide +kernel
theorem dX6_put1_150 : decode cX6_put1 150 = .ok (.aload_n 0, 1) := by decide +kernel
theorem dX6_put1_151 : decode cX6_put1 151 = .ok (.getfield 37, 3) := by decide +kernel
theorem dX6_put1_154 : decode cX6_put1 154 = .ok (.iconst 1, 1) := by decide +kernel
theorem dX6_put1_155 : decode cX6_put1 155 = .ok (.dup2, 1) := by decide +kernel
theorem dX6_put1_156 : decode cX6_put1 156 = .ok (.iaload, 1) := by decide +kernel
theorem dX6_put1_157 : decode cX6_put1 157 = .ok (.iload_n 2, 1) := by decide +kernel
theorem dX6_put1_158 : decode cX6_put1 158 = .ok (.iload 7, 2) := by decide +kernel
theorem dX6_put1_160 : decode cX6_put1 160 = .ok (.isub, 1) := by decide +kernel
theorem dX6_put1_161 : decode cX6_put1 161 = .ok (.iconst 1, 1) := by decide +kernel
theorem dX6_put1_162 : decode cX6_put1 162 = .ok (.iadd, 1) := by decide +kernel
theorem dX6_put1_163 : decode cX6_put1 163 = .ok (.iadd, 1) := by decide +kernel
theorem dX6_put1_164 : decode cX6_put1 164 = .ok (.iastore, 1) := by decide +kernel
theorem dX6_put1_165 : decode cX6_put1 165 = .ok (.return_, 1) := by decide +kernel
theorem dX6_power_0 : decode cX6_power 0 = .ok (.iconst 1, 1) := by decide +kernel
theorem dX6_power_1 : decode cX6_power 1 = .ok (.istore 4, 2) := by decide +kernel
theorem dX6_power_3 : decode cX6_power 3 = .ok (.ldc2_w 92, 3) := by decide +kernel
theorem dX6_power_6 : decode cX6_power 6 = .ok (.iload_n 1, 1) := by decide +kernel
theorem dX6_power_7 : decode cX6_power 7 = .ok (.i2l, 1) := by decide +kernel
theorem dX6_power_8 : decode cX6_power 8 = .ok (.lmul, 1) := by decide +kernel
theorem dX6_power_9 : decode cX6_power 9 = .ok (.iload_n 2, 1) := by decide +kernel
theorem dX6_power_10 : decode cX6_power 10 = .ok (.i2l, 1) := by decide +kernel
theorem dX6_power_11 : decode cX6_power 11 = .ok (.ladd, 1) := by decide +kernel
theorem dX6_power_12 : decode cX6_power 12 = .ok (.iload 4, 2) := by decide +kernel
theorem dX6_power_14 : decode cX6_power 14 = .ok (.lshl, 1) := by decide +kernel
theorem dX6_power_15 : decode cX6_power 15 = .ok (.ldc2_w 92, 3) := by decide +kernel
theorem dX6_power_18 : decode cX6_power 18 = .ok (.aload_n 0, 1) := by decide +kernel
theorem dX6_power_19 : decode cX6_power 19 = .ok (.getfield 55, 3) := by decide +kernel
theorem dX6_power_22 : decode cX6_power 22 = .ok (.i2l, 1) := by decide +kernel
theorem dX6_power_23 : decode cX6_power 23 = .ok (.lmul, 1) := by decide +kernel
theorem dX6_power_24 : decode cX6_power 24 = .ok (.ldiv, 1) := by decide +kernel
theorem dX6_power_25 : decode cX6_power 25 = .ok (.ldc2_w 92, 3) := by decide +kernel
theorem dX6_power_28 : decode cX6_power 28 = .ok (.iload_n 1, 1) := by decide +kernel
theorem dX6_power_29 : decode cX6_power 29 = .ok (.i2l, 1) := by decide +kernel
theorem dX6_power_30 : decode cX6_power 30 = .ok (.lmul, 1) := by decide +kernel
theorem dX6_power_31 : decode cX6_power 31 = .ok (.ldc2_w 92, 3) := by decide +kernel
theorem dX6_power_34 : decode cX6_power 34 = .ok (.iload_n 2, 1) := by decide +kernel
theorem dX6_power_35 : decode cX6_power 35 = .ok (.i2l, 1) := by decide +kernel
theorem dX6_power_36 : decode cX6_power 36 = .ok (.lmul, 1) := by decide +kernel
theorem dX6_power_37 : decode cX6_power 37 = .ok (.ladd, 1) := by decide +kernel
theorem dX6_power_38 : decode cX6_power 38 = .ok (.iload_n 3, 1) := by decide +kernel
theorem dX6_power_39 : decode cX6_power 39 = .ok (.i2l, 1) := by decide +kernel
theorem dX6_power_40 : decode cX6_power 40 = .ok (.ladd, 1) := by decide +kernel
theorem dX6_power_41 : decode cX6_power 41 = .ok (.iload 4, 2) := by decide +kernel
theorem dX6_power_43 : decode cX6_power 43 = .ok (.lshl, 1) := by decide +kernel
theorem dX6_power_44 : decode cX6_power 44 = .ok (.ldc2_w 92, 3) := by decide +kernel
theorem dX6_power_47 : decode cX6_power 47 = .ok (.aload_n 0, 1) := by decide +kernel
theorem dX6_power_48 : decode cX6_power 48 = .ok (.getfield 55, 3) := by decide +kernel
theorem dX6_power_51 : decode cX6_power 51 = .ok (.i2l, 1) := by decide +kernel
theorem dX6_power_52 : decode cX6_power 52 = .ok (.lmul, 1) := by decide +kernel
theorem dX6_power_53 : decode cX6_power 53 = .ok (.ldiv, 1) := by decide +kernel
theorem dX6_power_54 : decode cX6_power 54 = .ok (.lcmp, 1) := by decide +kernel
theorem dX6_power_55 : decode cX6_power 55 = .ok (.ifCond .ne 9, 3) := by decide +kernel
theorem dX6_power_58 : decode cX6_power 58 = .ok (.iinc 4 1, 3) := by decide +kernel
theorem dX6_power_61 : decode cX6_power 61 = .ok (.goto (-58), 3) := by decide +kernel
theorem dX6_power_64 : decode cX6_power 64 = .ok (.iload 4, 2) := by decide +kernel
theorem dX6_power_66 : decode cX6_power 66 = .ok (.ireturn, 1) := by decide +kernel
set_option maxRecDepth 20000 in
theorem ggX6_mergeNext_X6_power : GoodIn wsX6_mergeNext wsX6_power := goodIn_r _ [11, 12, 6, 17, 18, 19, 20, 21, 22, 23, 24, 25, 26, 27, 28, 29, 30, 31, 32, 33, 34, 35, 36, 37, 38, 39, 40, 41, 42] rfl (by decide +kernel)
set_option maxRecDepth 20000 in
theorem gX6_mergeNext_X6_power : GoodIn wsX6_mergeNext (wsV RX6 122 RX6 yX6_power wsX6_power) := goodIn_app (goodIn_of _ (by decide +kernel)) ggX6_mergeNext_X6_power
set_option maxRecDepth 20000 in
theorem ggX6_mergeNext_X6_inRuns : GoodIn wsX6_mergeNext wsX6_inRuns := goodIn_r _ [16, 3, 1, 2, 17, 18, 19, 20, 21, 22, 23, 24, 25, 26, 27, 28, 29, 30, 31, 32, 33, 34, 35, 36, 37, 38, 39, 40, 41, 42] rfl (by decide +kernel)
set_option maxRecDepth 20000 in
theorem gX6_mergeNext_X6_inRuns : GoodIn wsX6_mergeNext (wsV RX6 109 RX6 yX6_inRuns wsX6_inRuns) := goodIn_app (goodIn_of _ (by decide +kernel)) ggX6_mergeNext_X6_inRuns
theorem dX6_mergeNext_0 : decode cX6_mergeNext 0 = .ok (.aload_n 0, 1) := by decide +kernel
theorem dX6_mergeNext_1 : decode cX6_mergeNext 1 = .ok (.getfield 81, 3) := by decide +kernel
theorem dX6_mergeNext_4 : decode cX6_mergeNext 4 = .ok (.ifCond .le 17, 3) := by decide +kernel
theorem dX6_mergeNext_7 : decode cX6_mergeNext 7 = .ok (.aload_n 0, 1) := by decide +kernel
theorem dX6_mergeNext_8 : decode cX6_mergeNext 8 = .ok (.getfield 34, 3) := by decide +kernel
theorem dX6_mergeNext_11 : decode cX6_mergeNext 11 = .ok (.aload_n 0, 1) := by decide +kernel
theorem dX6_mergeNext_12 : decode cX6_mergeNext 12 = .ok (.getfield 81, 3) := by decide +kernel
theorem dX6_mergeNext_15 : decode cX6_mergeNext 15 = .ok (.iconst 1, 1) := by decide +kernel
theorem dX6_mergeNext_16 : decode cX6_mergeNext 16 = .ok (.isub, 1) := by decide +kernel
theorem dX6_mergeNext_17 : decode cX6_mergeNext 17 = .ok (.iaload, 1) := by decide +kernel
theorem dX6_mergeNext_18 : decode cX6_mergeNext 18 = .ok (.goto 4, 3) := by decide +kernel
theorem dX6_mergeNext_21 : decode cX6_mergeNext 21 = .ok (.iconst 0, 1) := by decide +kernel
theorem dX6_mergeNext_22 : decode cX6_mergeNext 22 = .ok (.istore_n 1, 1) := by decide +kernel
theorem dX6_mergeNext_23 : decode cX6_mergeNext 23 = .ok (.aload_n 0, 1) := by decide +kernel
theorem dX6_mergeNext_24 : decode cX6_mergeNext 24 = .ok (.getfield 81, 3) := by decide +kernel
theorem dX6_mergeNext_27 : decode cX6_mergeNext 27 = .ok (.iconst 1, 1) := by decide +kernel
theorem dX6_mergeNext_28 : decode cX6_mergeNext 28 = .ok (.if_icmp .le 17, 3) := by decide +kernel
theorem dX6_mergeNext_31 : decode cX6_mergeNext 31 = .ok (.aload_n 0, 1) := by decide +kernel
theorem dX6_mergeNext_32 : decode cX6_mergeNext 32 = .ok (.getfield 34, 3) := by decide +kernel
theorem dX6_mergeNext_35 : decode cX6_mergeNext 35 = .ok (.aload_n 0, 1) := by decide +kernel
theorem dX6_mergeNext_36 : decode cX6_mergeNext 36 = .ok (.getfield 81, 3) := by decide +kernel
theorem dX6_mergeNext_39 : decode cX6_mergeNext 39 = .ok (.iconst 2, 1) := by decide +kernel
theorem dX6_mergeNext_40 : decode cX6_mergeNext 40 = .ok (.isub, 1) := by decide +kernel
theorem dX6_mergeNext_41 : decode cX6_mergeNext 41 = .ok (.iaload, 1) := by decide +kernel
theorem dX6_mergeNext_42 : decode cX6_mergeNext 42 = .ok (.goto 4, 3) := by decide +kernel
theorem dX6_mergeNext_45 : decode cX6_mergeNext 45 = .ok (.iconst 0, 1) := by decide +kernel
theorem dX6_mergeNext_46 : decode cX6_mergeNext 46 = .ok (.istore_n 2, 1) := by decide +kernel
theorem dX6_mergeNext_47 : decode cX6_mergeNext 47 = .ok (.aload_n 0, 1) := by decide +kernel
theorem dX6_mergeNext_48 : decode cX6_mergeNext 48 = .ok (.getfield 81, 3) := by decide +kernel
theorem dX6_mergeNext_51 : decode cX6_mergeNext 51 = .ok (.iconst 2, 1) := by decide +kernel
theorem dX6_mergeNext_52 : decode cX6_mergeNext 52 = .ok (.if_icmp .le 17, 3) := by decide +kernel
theorem dX6_mergeNext_55 : decode cX6_mergeNext 55 = .ok (.aload_n 0, 1) := by decide +kernel
theorem dX6_mergeNext_56 : decode cX6_mergeNext 56 = .ok (.getfield 34, 3) := by decide +kernel
theorem dX6_mergeNext_59 : decode cX6_mergeNext 59 = .ok (.aload_n 0, 1) := by decide +kernel
theorem dX6_mergeNext_60 : decode cX6_mergeNext 60 = .ok (.getfield 81, 3) := by decide +kernel
theorem dX6_mergeNext_63 : decode cX6_mergeNext 63 = .ok (.iconst 3, 1) := by decide +kernel
theorem dX6_mergeNext_64 : decode cX6_mergeNext 64 = .ok (.isub, 1) := by decide +kernel
theorem dX6_mergeNext_65 : decode cX6_mergeNext 65 = .ok (.iaload, 1) := by decide +kernel
theorem dX6_mergeNext_66 : decode cX6_mergeNext 66 = .ok (.goto 4, 3) := by decide +kernel
theorem dX6_mergeNext_69 : decode cX6_mergeNext 69 = .ok (.iconst 0, 1) := by decide +kernel
theorem dX6_mergeNext_70 : decode cX6_mergeNext 70 = .ok (.istore_n 3, 1) := by decide +kernel
theorem dX6_mergeNext_71 : decode cX6_mergeNext 71 = .ok (.aload_n 0, 1) := by decide +kernel
theorem dX6_mergeNext_72 : decode cX6_mergeNext 72 = .ok (.getfield 81, 3) := by decide +kernel
theorem dX6_mergeNext_75 : decode cX6_mergeNext 75 = .ok (.iconst 3, 1) := by decide +kernel
theorem dX6_mergeNext_76 : decode cX6_mergeNext 76 = .ok (.if_icmp .le 17, 3) := by decide +kernel
theorem dX6_mergeNext_79 : decode cX6_mergeNext 79 = .ok (.aload_n 0, 1) := by decide +kernel
theorem dX6_mergeNext_80 : decode cX6_mergeNext 80 = .ok (.getfield 34, 3) := by decide +kernel
theorem dX6_mergeNext_83 : decode cX6_mergeNext 83 = .ok (.aload_n 0, 1) := by decide +kernel
theorem dX6_mergeNext_84 : decode cX6_mergeNext 84 = .ok (.getfield 81, 3) := by decide +kernel
theorem dX6_mergeNext_87 : decode cX6_mergeNext 87 = .ok (.iconst 4, 1) := by decide +kernel
theorem dX6_mergeNext_88 : decode cX6_mergeNext 88 = .ok (.isub, 1) := by decide +kernel
theorem dX6_mergeNext_89 : decode cX6_mergeNext 89 = .ok (.iaload, 1) := by decide +kernel
theorem dX6_mergeNext_90 : decode cX6_mergeNext 90 = .ok (.goto 4, 3) := by decide +kernel
theorem dX6_mergeNext_93 : decode cX6_mergeNext 93 = .ok (.iconst 0, 1) := by decide +kernel
theorem dX6_mergeNext_94 : decode cX6_mergeNext 94 = .ok (.istore 4, 2) := by decide +kernel
theorem dX6_mergeNext_96 : decode cX6_mergeNext 96 = .ok (.aload_n 0, 1) := by decide +kernel
theorem dX6_mergeNext_97 : decode cX6_mergeNext 97 = .ok (.getfield 87, 3) := by decide +kernel
theorem dX6_mergeNext_100 : decode cX6_mergeNext 100 = .ok (.ifCond .le 84, 3) := by decide +kernel
theorem dX6_mergeNext_103 : decode cX6_mergeNext 103 = .ok (.aload_n 0, 1) := by decide +kernel
theorem dX6_mergeNext_104 : decode cX6_mergeNext 104 = .ok (.getfield 13, 3) := by decide +kernel
theorem dX6_mergeNext_107 : decode cX6_mergeNext 107 = .ok (.iconst 1, 1) := by decide +kernel
theorem dX6_mergeNext_108 : decode cX6_mergeNext 108 = .ok (.iaload, 1) := by decide +kernel
theorem dX6_mergeNext_109 : decode cX6_mergeNext 109 = .ok (.ifCond .ne 55, 3) := by decide +kernel
theorem dX6_mergeNext_112 : decode cX6_mergeNext 112 = .ok (.aload_n 0, 1) := by decide +kernel
theorem dX6_mergeNext_113 : decode cX6_mergeNext 113 = .ok (.getfield 81, 3) := by decide +kernel
theorem dX6_mergeNext_116 : decode cX6_mergeNext 116 = .ok (.iconst 1, 1) := by decide +kernel
theorem dX6_mergeNext_117 : decode cX6_mergeNext 117 = .ok (.if_icmp .le 47, 3) := by decide +kernel
theorem dX6_mergeNext_120 : decode cX6_mergeNext 120 = .ok (.aload_n 0, 1) := by decide +kernel
theorem dX6_mergeNext_121 : decode cX6_mergeNext 121 = .ok (.aload_n 0, 1) := by decide +kernel
theorem dX6_mergeNext_122 : decode cX6_mergeNext 122 = .ok (.getfield 31, 3) := by decide +kernel
theorem dX6_mergeNext_125 : decode cX6_mergeNext 125 = .ok (.aload_n 0, 1) := by decide +kernel
theorem dX6_mergeNext_126 : decode cX6_mergeNext 126 = .ok (.getfield 81, 3) := by decide +kernel
theorem dX6_mergeNext_129 : decode cX6_mergeNext 129 = .ok (.iconst 2, 1) := by decide +kernel
theorem dX6_mergeNext_130 : decode cX6_mergeNext 130 = .ok (.isub, 1) := by decide +kernel
theorem dX6_mergeNext_131 : decode cX6_mergeNext 131 = .ok (.iaload, 1) := by decide +kernel
theorem dX6_mergeNext_132 : decode cX6_mergeNext 132 = .ok (.iload_n 2, 1) := by decide +kernel
theorem dX6_mergeNext_133 : decode cX6_mergeNext 133 = .ok (.iload_n 1, 1) := by decide +kernel
theorem dX6_mergeNext_134 : decode cX6_mergeNext 134 = .ok (.invokevirtual 122, 3) := by decide +kernel
theorem dX6_mergeNext_137 : decode cX6_mergeNext 137 = .ok (.aload_n 0, 1) := by decide +kernel
theorem dX6_mergeNext_138 : decode cX6_mergeNext 138 = .ok (.aload_n 0, 1) := by decide +kernel
theorem dX6_mergeNext_139 : decode cX6_mergeNext 139 = .ok (.getfield 31, 3) := by decide +kernel
theorem dX6_mergeNext_142 : decode cX6_mergeNext 142 = .ok (.aload_n 0, 1) := by decide +kernel
theorem dX6_mergeNext_143 : decode cX6_mergeNext 143 = .ok (.getfield 81, 3) := by decide +kernel
theorem dX6_mergeNext_146 : decode cX6_mergeNext 146 = .ok (.iconst 1, 1) := by decide +kernel
theorem dX6_mergeNext_147 : decode cX6_mergeNext 147 = .ok (.isub, 1) := by decide +kernel
theorem dX6_mergeNext_148 : decode cX6_mergeNext 148 = .ok (.iaload, 1) := by decide +kernel
theorem dX6_mergeNext_149 : decode cX6_mergeNext 149 = .ok (.iload_n 1, 1) := by decide +kernel
theorem dX6_mergeNext_150 : decode cX6_mergeNext 150 = .ok (.aload_n 0, 1) := by decide +kernel
theorem dX6_mergeNext_151 : decode cX6_mergeNext 151 = .ok (.getfield 87, 3) := by decide +kernel
theorem dX6_mergeNext_154 : decode cX6_mergeNext 154 = .ok (.invokevirtual 122, 3) := by decide +kernel
theorem dX6_mergeNext_157 : decode cX6_mergeNext 157 = .ok (.if_icmp .le 7, 3) := by decide +kernel
theorem dX6_mergeNext_160 : decode cX6_mergeNext 160 = .ok (.iconst 1, 1) := by decide +kernel
theorem dX6_mergeNext_161 : decode cX6_mergeNext 161 = .ok (.goto 4, 3) := by decide +kernel
theorem dX6_mergeNext_164 : decode cX6_mergeNext 164 = .ok (.iconst 0, 1) := by decide +kernel
theorem dX6_mergeNext_165 : decode cX6_mergeNext 165 = .ok (.istore 5, 2) := by decide +kernel
theorem dX6_mergeNext_167 : decode cX6_mergeNext 167 = .ok (.iload 5, 2) := by decide +kernel
theorem dX6_mergeNext_169 : decode cX6_mergeNext 169 = .ok (.ifCond .eq 12, 3) := by decide +kernel
theorem dX6_mergeNext_172 : decode cX6_mergeNext 172 = .ok (.aload_n 0, 1) := by decide +kernel
theorem dX6_mergeNext_173 : decode cX6_mergeNext 173 = .ok (.getfield 81, 3) := by decide +kernel
theorem dX6_mergeNext_176 : decode cX6_mergeNext 176 = .ok (.iconst 2, 1) := by decide +kernel
theorem dX6_mergeNext_177 : decode cX6_mergeNext 177 = .ok (.isub, 1) := by decide +kernel
theorem dX6_mergeNext_178 : decode cX6_mergeNext 178 = .ok (.goto 5, 3) := by decide +kernel
theorem dX6_mergeNext_181 : decode cX6_mergeNext 181 = .ok (.bipush (-4), 2) := by decide +kernel
theorem dX6_mergeNext_183 : decode cX6_mergeNext 183 = .ok (.ireturn, 1) := by decide +kernel
theorem dX6_mergeNext_184 : decode cX6_mergeNext 184 = .ok (.aload_n 0, 1) := by decide +kernel
theorem dX6_mergeNext_185 : decode cX6_mergeNext 185 = .ok (.getfield 13, 3) := by decide +kernel
theorem dX6_mergeNext_188 : decode cX6_mergeNext 188 = .ok (.iconst 1, 1) := by decide +kernel
theorem dX6_mergeNext_189 : decode cX6_mergeNext 189 = .ok (.iaload, 1) := by decide +kernel
theorem dX6_mergeNext_190 : decode cX6_mergeNext 190 = .ok (.iconst 1, 1) := by decide +kernel
theorem dX6_mergeNext_191 : decode cX6_mergeNext 191 = .ok (.if_icmp .ne 25, 3) := by decide +kernel
theorem dX6_mergeNext_194 : decode cX6_mergeNext 194 = .ok (.aload_n 0, 1) := by decide +kernel
theorem dX6_mergeNext_195 : decode cX6_mergeNext 195 = .ok (.getfield 81, 3) := by decide +kernel
theorem dX6_mergeNext_198 : decode cX6_mergeNext 198 = .ok (.iconst 1, 1) := by decide +kernel
theorem dX6_mergeNext_199 : decode cX6_mergeNext 199 = .ok (.if_icmp .le 17, 3) := by decide +kernel
theorem dX6_mergeNext_202 : decode cX6_mergeNext 202 = .ok (.iload_n 2, 1) := by decide +kernel
theorem dX6_mergeNext_203 : decode cX6_mergeNext 203 = .ok (.iconst 2, 1) := by decide +kernel
theorem dX6_mergeNext_204 : decode cX6_mergeNext 204 = .ok (.iload_n 1, 1) := by decide +kernel
theorem dX6_mergeNext_205 : decode cX6_mergeNext 205 = .ok (.imul, 1) := by decide +kernel
theorem dX6_mergeNext_206 : decode cX6_mergeNext 206 = .ok (.if_icmp .gt 10, 3) := by decide +kernel
theorem dX6_mergeNext_209 : decode cX6_mergeNext 209 = .ok (.aload_n 0, 1) := by decide +kernel
theorem dX6_mergeNext_210 : decode cX6_mergeNext 210 = .ok (.getfield 81, 3) := by decide +kernel
theorem dX6_mergeNext_213 : decode cX6_mergeNext 213 = .ok (.iconst 2, 1) := by decide +kernel
theorem dX6_mergeNext_214 : decode cX6_mergeNext 214 = .ok (.isub, 1) := by decide +kernel
theorem dX6_mergeNext_215 : decode cX6_mergeNext 215 = .ok (.ireturn, 1) := by decide +kernel
theorem dX6_mergeNext_216 : decode cX6_mergeNext 216 = .ok (.aload_n 0, 1) := by decide +kernel
theorem dX6_mergeNext_217 : decode cX6_mergeNext 217 = .ok (.getfield 13, 3) := by decide +kernel
theorem dX6_mergeNext_220 : decode cX6_mergeNext 220 = .ok (.iconst 1, 1) := by decide +kernel
theorem dX6_mergeNext_221 : decode cX6_mergeNext 221 = .ok (.iaload, 1) := by decide +kernel
theorem dX6_mergeNext_222 : decode cX6_mergeNext 222 = .ok (.iconst 2, 1) := by decide +kernel
theorem dX6_mergeNext_223 : decode cX6_mergeNext 223 = .ok (.if_icmp .ne 55, 3) := by decide +kernel
theorem dX6_mergeNext_226 : decode cX6_mergeNext 226 = .ok (.aload_n 0, 1) := by decide +kernel
theorem dX6_mergeNext_227 : decode cX6_mergeNext 227 = .ok (.getfield 81, 3) := by decide +kernel
theorem dX6_mergeNext_230 : decode cX6_mergeNext 230 = .ok (.iconst 2, 1) := by decide +kernel
theorem dX6_mergeNext_231 : decode cX6_mergeNext 231 = .ok (.if_icmp .le 10, 3) := by decide +kernel
theorem dX6_mergeNext_234 : decode cX6_mergeNext 234 = .ok (.iload_n 3, 1) := by decide +kernel
theorem dX6_mergeNext_235 : decode cX6_mergeNext 235 = .ok (.iload_n 2, 1) := by decide +kernel
theorem dX6_mergeNext_236 : decode cX6_mergeNext 236 = .ok (.iload_n 1, 1) := by decide +kernel
theorem dX6_mergeNext_237 : decode cX6_mergeNext 237 = .ok (.iadd, 1) := by decide +kernel
theorem dX6_mergeNext_238 : decode cX6_mergeNext 238 = .ok (.if_icmp .le 19, 3) := by decide +kernel
theorem dX6_mergeNext_241 : decode cX6_mergeNext 241 = .ok (.aload_n 0, 1) := by decide +kernel
theorem dX6_mergeNext_242 : decode cX6_mergeNext 242 = .ok (.getfield 81, 3) := by decide +kernel
theorem dX6_mergeNext_245 : decode cX6_mergeNext 245 = .ok (.iconst 3, 1) := by decide +kernel
theorem dX6_mergeNext_246 : decode cX6_mergeNext 246 = .ok (.if_icmp .le 32, 3) := by decide +kernel
theorem dX6_mergeNext_249 : decode cX6_mergeNext 249 = .ok (.iload 4, 2) := by decide +kernel
theorem dX6_mergeNext_251 : decode cX6_mergeNext 251 = .ok (.iload_n 3, 1) := by decide +kernel
theorem dX6_mergeNext_252 : decode cX6_mergeNext 252 = .ok (.iload_n 2, 1) := by decide +kernel
theorem dX6_mergeNext_253 : decode cX6_mergeNext 253 = .ok (.iadd, 1) := by decide +kernel
theorem dX6_mergeNext_254 : decode cX6_mergeNext 254 = .ok (.if_icmp .gt 24, 3) := by decide +kernel
theorem dX6_mergeNext_257 : decode cX6_mergeNext 257 = .ok (.iload_n 3, 1) := by decide +kernel
theorem dX6_mergeNext_258 : decode cX6_mergeNext 258 = .ok (.iload_n 1, 1) := by decide +kernel
theorem dX6_mergeNext_259 : decode cX6_mergeNext 259 = .ok (.if_icmp .ge 12, 3) := by decide +kernel
theorem dX6_mergeNext_262 : decode cX6_mergeNext 262 = .ok (.aload_n 0, 1) := by decide +kernel
theorem dX6_mergeNext_263 : decode cX6_mergeNext 263 = .ok (.getfield 81, 3) := by decide +kernel
theorem dX6_mergeNext_266 : decode cX6_mergeNext 266 = .ok (.iconst 3, 1) := by decide +kernel
theorem dX6_mergeNext_267 : decode cX6_mergeNext 267 = .ok (.isub, 1) := by decide +kernel
theorem dX6_mergeNext_268 : decode cX6_mergeNext 268 = .ok (.goto 9, 3) := by decide +kernel
theorem dX6_mergeNext_271 : decode cX6_mergeNext 271 = .ok (.aload_n 0, 1) := by decide +kernel
theorem dX6_mergeNext_272 : decode cX6_mergeNext 272 = .ok (.getfield 81, 3) := by decide +kernel
theorem dX6_mergeNext_275 : decode cX6_mergeNext 275 = .ok (.iconst 2, 1) := by decide +kernel
theorem dX6_mergeNext_276 : decode cX6_mergeNext 276 = .ok (.isub, 1) := by decide +kernel
theorem dX6_mergeNext_277 : decode cX6_mergeNext 277 = .ok (.ireturn, 1) := by decide +kernel
theorem dX6_mergeNext_278 : decode cX6_mergeNext 278 = .ok (.aload_n 0, 1) := by decide +kernel
theorem dX6_mergeNext_279 : decode cX6_mergeNext 279 = .ok (.getfield 13, 3) := by decide +kernel
theorem dX6_mergeNext_282 : decode cX6_mergeNext 282 = .ok (.iconst 1, 1) := by decide +kernel
theorem dX6_mergeNext_283 : decode cX6_mergeNext 283 = .ok (.iaload, 1) := by decide +kernel
theorem dX6_mergeNext_284 : decode cX6_mergeNext 284 = .ok (.iconst 2, 1) := by decide +kernel
theorem dX6_mergeNext_285 : decode cX6_mergeNext 285 = .ok (.if_icmp .ne 23, 3) := by decide +kernel
theorem dX6_mergeNext_288 : decode cX6_mergeNext 288 = .ok (.aload_n 0, 1) := by decide +kernel
theorem dX6_mergeNext_289 : decode cX6_mergeNext 289 = .ok (.getfield 81, 3) := by decide +kernel
theorem dX6_mergeNext_292 : decode cX6_mergeNext 292 = .ok (.iconst 1, 1) := by decide +kernel
theorem dX6_mergeNext_293 : decode cX6_mergeNext 293 = .ok (.if_icmp .le 15, 3) := by decide +kernel
theorem dX6_mergeNext_296 : decode cX6_mergeNext 296 = .ok (.iload_n 2, 1) := by decide +kernel
theorem dX6_mergeNext_297 : decode cX6_mergeNext 297 = .ok (.iload_n 1, 1) := by decide +kernel
theorem dX6_mergeNext_298 : decode cX6_mergeNext 298 = .ok (.if_icmp .gt 10, 3) := by decide +kernel
theorem dX6_mergeNext_301 : decode cX6_mergeNext 301 = .ok (.aload_n 0, 1) := by decide +kernel
theorem dX6_mergeNext_302 : decode cX6_mergeNext 302 = .ok (.getfield 81, 3) := by decide +kernel
theorem dX6_mergeNext_305 : decode cX6_mergeNext 305 = .ok (.iconst 2, 1) := by decide +kernel
theorem dX6_mergeNext_306 : decode cX6_mergeNext 306 = .ok (.isub, 1) := by decide +kernel
theorem dX6_mergeNext_307 : decode cX6_mergeNext 307 = .ok (.ireturn, 1) := by decide +kernel
theorem dX6_mergeNext_308 : decode cX6_mergeNext 308 = .ok (.aload_n 0, 1) := by decide +kernel
theorem dX6_mergeNext_309 : decode cX6_mergeNext 309 = .ok (.invokevirtual 109, 3) := by decide +kernel
theorem dX6_mergeNext_312 : decode cX6_mergeNext 312 = .ok (.aload_n 0, 1) := by decide +kernel
theorem dX6_mergeNext_313 : decode cX6_mergeNext 313 = .ok (.getfield 55, 3) := by decide +kernel
theorem dX6_mergeNext_316 : decode cX6_mergeNext 316 = .ok (.if_icmp .lt 11, 3) := by decide +kernel
theorem dX6_mergeNext_319 : decode cX6_mergeNext 319 = .ok (.aload_n 0, 1) := by decide +kernel
theorem dX6_mergeNext_320 : decode cX6_mergeNext 320 = .ok (.getfield 81, 3) := by decide +kernel
theorem dX6_mergeNext_323 : decode cX6_mergeNext 323 = .ok (.iconst 2, 1) := by decide +kernel
theorem dX6_mergeNext_324 : decode cX6_mergeNext 324 = .ok (.if_icmp .ge 6, 3) := by decide +kernel
theorem dX6_mergeNext_327 : decode cX6_mergeNext 327 = .ok (.bipush (-4), 2) := by decide +kernel
theorem dX6_mergeNext_329 : decode cX6_mergeNext 329 = .ok (.ireturn, 1) := by decide +kernel
theorem dX6_mergeNext_330 : decode cX6_mergeNext 330 = .ok (.aload_n 0, 1) := by decide +kernel
theorem dX6_mergeNext_331 : decode cX6_mergeNext 331 = .ok (.getfield 13, 3) := by decide +kernel
theorem dX6_mergeNext_334 : decode cX6_mergeNext 334 = .ok (.iconst 1, 1) := by decide +kernel
theorem dX6_mergeNext_335 : decode cX6_mergeNext 335 = .ok (.iaload, 1) := by decide +kernel
theorem dX6_mergeNext_336 : decode cX6_mergeNext 336 = .ok (.iconst 2, 1) := by decide +kernel
theorem dX6_mergeNext_337 : decode cX6_mergeNext 337 = .ok (.if_icmp .ne 25, 3) := by decide +kernel
theorem dX6_mergeNext_340 : decode cX6_mergeNext 340 = .ok (.aload_n 0, 1) := by decide +kernel
theorem dX6_mergeNext_341 : decode cX6_mergeNext 341 = .ok (.getfield 81, 3) := by decide +kernel
theorem dX6_mergeNext_344 : decode cX6_mergeNext 344 = .ok (.iconst 2, 1) := by decide +kernel
theorem dX6_mergeNext_345 : decode cX6_mergeNext 345 = .ok (.if_icmp .le 17, 3) := by decide +kernel
theorem dX6_mergeNext_348 : decode cX6_mergeNext 348 = .ok (.iload_n 3, 1) := by decide +kernel
theorem dX6_mergeNext_349 : decode cX6_mergeNext 349 = .ok (.iload_n 1, 1) := by decide +kernel
theorem dX6_mergeNext_350 : decode cX6_mergeNext 350 = .ok (.if_icmp .ge 12, 3) := by decide +kernel
theorem dX6_mergeNext_353 : decode cX6_mergeNext 353 = .ok (.aload_n 0, 1) := by decide +kernel
theorem dX6_mergeNext_354 : decode cX6_mergeNext 354 = .ok (.getfield 81, 3) := by decide +kernel
theorem dX6_mergeNext_357 : decode cX6_mergeNext 357 = .ok (.iconst 3, 1) := by decide +kernel
theorem dX6_mergeNext_358 : decode cX6_mergeNext 358 = .ok (.isub, 1) := by decide +kernel
theorem dX6_mergeNext_359 : decode cX6_mergeNext 359 = .ok (.goto 9, 3) := by decide +kernel
theorem dX6_mergeNext_362 : decode cX6_mergeNext 362 = .ok (.aload_n 0, 1) := by decide +kernel
theorem dX6_mergeNext_363 : decode cX6_mergeNext 363 = .ok (.getfield 81, 3) := by decide +kernel
theorem dX6_mergeNext_366 : decode cX6_mergeNext 366 = .ok (.iconst 2, 1) := by decide +kernel
theorem dX6_mergeNext_367 : decode cX6_mergeNext 367 = .ok (.isub, 1) := by decide +kernel
theorem dX6_mergeNext_368 : decode cX6_mergeNext 368 = .ok (.ireturn, 1) := by decide +kernel
