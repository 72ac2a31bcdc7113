theorem dX0_init_0 : decode cX0_init 0 = .ok (.aload_n 0, 1) := by decide +kernel
theorem dX0_init_1 : decode cX0_init 1 = .ok (.invokespecial 1, 3) := by decide +kernel
theorem dX0_init_4 : decode cX0_init 4 = .ok (.aload_n 0, 1) := by decide +kernel
theorem dX0_init_5 : decode cX0_init 5 = .ok (.iconst 0, 1) := by decide +kernel
theorem dX0_init_6 : decode cX0_init 6 = .ok (.iload_n 1, 1) := by decide +kernel
theorem dX0_init_7 : decode cX0_init 7 = .ok (.invokestatic 7, 3) := by decide +kernel
theorem dX0_init_10 : decode cX0_init 10 = .ok (.newarray .int, 2) := by decide +kernel
theorem dX0_init_12 : decode cX0_init 12 = .ok (.putfield 13, 3) := by decide +kernel
theorem dX0_init_15 : decode cX0_init 15 = .ok (.return_, 1) := by decide +kernel
theorem dX0_look_0 : decode cX0_look 0 = .ok (.iload_n 1, 1) := by decide +kernel
theorem dX0_look_1 : decode cX0_look 1 = .ok (.ifCond .lt 21, 3) := by decide +kernel
theorem dX0_look_4 : decode cX0_look 4 = .ok (.iload_n 1, 1) := by decide +kernel
theorem dX0_look_5 : decode cX0_look 5 = .ok (.aload_n 0, 1) := by decide +kernel
theorem dX0_look_6 : decode cX0_look 6 = .ok (.getfield 13, 3) := by decide +kernel
theorem dX0_look_9 : decode cX0_look 9 = .ok (.arraylength, 1) := by decide +kernel
theorem dX0_look_10 : decode cX0_look 10 = .ok (.if_icmp .ge 12, 3) := by decide +kernel
theorem dX0_look_13 : decode cX0_look 13 = .ok (.aload_n 0, 1) := by decide +kernel
theorem dX0_look_14 : decode cX0_look 14 = .ok (.getfield 13, 3) := by decide +kernel
theorem dX0_look_17 : decode cX0_look 17 = .ok (.iload_n 1, 1) := by decide +kernel
theorem dX0_look_18 : decode cX0_look 18 = .ok (.iaload, 1) := by decide +kernel
theorem dX0_look_19 : decode cX0_look 19 = .ok (.goto 4, 3) := by decide +kernel
theorem dX0_look_22 : decode cX0_look 22 = .ok (.iconst 0, 1) := by decide +kernel
theorem dX0_look_23 : decode cX0_look 23 = .ok (.ireturn, 1) := by decide +kernel
theorem dX0_fill_0 : decode cX0_fill 0 = .ok (.iload_n 1, 1) := by decide +kernel
theorem dX0_fill_1 : decode cX0_fill 1 = .ok (.ifCond .lt 19, 3) := by decide +kernel
theorem dX0_fill_4 : decode cX0_fill 4 = .ok (.iload_n 1, 1) := by decide +kernel
theorem dX0_fill_5 : decode cX0_fill 5 = .ok (.aload_n 0, 1) := by decide +kernel
theorem dX0_fill_6 : decode cX0_fill 6 = .ok (.getfield 13, 3) := by decide +kernel
theorem dX0_fill_9 : decode cX0_fill 9 = .ok (.arraylength, 1) := by decide +kernel
theorem dX0_fill_10 : decode cX0_fill 10 = .ok (.if_icmp .ge 10, 3) := by decide +kernel
theorem dX0_fill_13 : decode cX0_fill 13 = .ok (.aload_n 0, 1) := by decide +kernel
theorem dX0_fill_14 : decode cX0_fill 14 = .ok (.getfield 13, 3) := by decide +kernel
theorem dX0_fill_17 : decode cX0_fill 17 = .ok (.iload_n 1, 1) := by decide +kernel
theorem dX0_fill_18 : decode cX0_fill 18 = .ok (.iload_n 2, 1) := by decide +kernel
theorem dX0_fill_19 : decode cX0_fill 19 = .ok (.iastore, 1) := by decide +kernel
theorem dX0_fill_20 : decode cX0_fill 20 = .ok (.return_, 1) := by decide +kernel
theorem dX0_add_0 : decode cX0_add 0 = .ok (.iload_n 1, 1) := by decide +kernel
theorem dX0_add_1 : decode cX0_add 1 = .ok (.ifCond .lt 22, 3) := by decide +kernel
theorem dX0_add_4 : decode cX0_add 4 = .ok (.iload_n 1, 1) := by decide +kernel
theorem dX0_add_5 : decode cX0_add 5 = .ok (.aload_n 0, 1) := by decide +kernel
theorem dX0_add_6 : decode cX0_add 6 = .ok (.getfield 13, 3) := by decide +kernel
theorem dX0_add_9 : decode cX0_add 9 = .ok (.arraylength, 1) := by decide +kernel
theorem dX0_add_10 : decode cX0_add 10 = .ok (.if_icmp .ge 13, 3) := by decide +kernel
theorem dX0_add_13 : decode cX0_add 13 = .ok (.aload_n 0, 1) := by decide +kernel
theorem dX0_add_14 : decode cX0_add 14 = .ok (.getfield 13, 3) := by decide +kernel
theorem dX0_add_17 : decode cX0_add 17 = .ok (.iload_n 1, 1) := by decide +kernel
theorem dX0_add_18 : decode cX0_add 18 = .ok (.dup2, 1) := by decide +kernel
theorem dX0_add_19 : decode cX0_add 19 = .ok (.iaload, 1) := by decide +kernel
theorem dX0_add_20 : decode cX0_add 20 = .ok (.iload_n 2, 1) := by decide +kernel
theorem dX0_add_21 : decode cX0_add 21 = .ok (.iadd, 1) := by decide +kernel
theorem dX0_add_22 : decode cX0_add 22 = .ok (.iastore, 1) := by decide +kernel
theorem dX0_add_23 : decode cX0_add 23 = .ok (.return_, 1) := by decide +kernel
theorem dX0_raise_0 : decode cX0_raise 0 = .ok (.iload_n 1, 1) := by decide +kernel
theorem dX0_raise_1 : decode cX0_raise 1 = .ok (.ifCond .lt 29, 3) := by decide +kernel
theorem dX0_raise_4 : decode cX0_raise 4 = .ok (.iload_n 1, 1) := by decide +kernel
theorem dX0_raise_5 : decode cX0_raise 5 = .ok (.aload_n 0, 1) := by decide +kernel
theorem dX0_raise_6 : decode cX0_raise 6 = .ok (.getfield 13, 3) := by decide +kernel
theorem dX0_raise_9 : decode cX0_raise 9 = .ok (.arraylength, 1) := by decide +kernel
theorem dX0_raise_10 : decode cX0_raise 10 = .ok (.if_icmp .ge 20, 3) := by decide +kernel
theorem dX0_raise_13 : decode cX0_raise 13 = .ok (.aload_n 0, 1) := by decide +kernel
theorem dX0_raise_14 : decode cX0_raise 14 = .ok (.getfield 13, 3) := by decide +kernel
theorem dX0_raise_17 : decode cX0_raise 17 = .ok (.iload_n 1, 1) := by decide +kernel
theorem dX0_raise_18 : decode cX0_raise 18 = .ok (.iaload, 1) := by decide +kernel
theorem dX0_raise_19 : decode cX0_raise 19 = .ok (.iload_n 2, 1) := by decide +kernel
theorem dX0_raise_20 : decode cX0_raise 20 = .ok (.if_icmp .ge 10, 3) := by decide +kernel
theorem dX0_raise_23 : decode cX0_raise 23 = .ok (.aload_n 0, 1) := by decide +kernel
theorem dX0_raise_24 : decode cX0_raise 24 = .ok (.getfield 13, 3) := by decide +kernel
theorem dX0_raise_27 : decode cX0_raise 27 = .ok (.iload_n 1, 1) := by decide +kernel
theorem dX0_raise_28 : decode cX0_raise 28 = .ok (.iload_n 2, 1) := by decide +kernel
theorem dX0_raise_29 : decode cX0_raise 29 = .ok (.iastore, 1) := by decide +kernel
theorem dX0_raise_30 : decode cX0_raise 30 = .ok (.return_, 1) := by decide +kernel
set_option maxRecDepth 20000 in
theorem ggX0_clearAll_J7_fill_53178 : GoodIn wsX0_clearAll wsJ7_fill_53178 := goodIn_r _ [5] (by decide +kernel) (by decide +kernel)
set_option maxRecDepth 20000 in
theorem gX0_clearAll_J7_fill_53178 : GoodIn wsX0_clearAll (va_wsS RX0 19 yJ7_fill_53178 wsJ7_fill_53178) := goodIn_app (goodIn_of _ (by decide +kernel)) ggX0_clearAll_J7_fill_53178
theorem dX0_clearAll_0 : decode cX0_clearAll 0 = .ok (.aload_n 0, 1) := by decide +kernel
theorem dX0_clearAll_1 : decode cX0_clearAll 1 = .ok (.getfield 13, 3) := by decide +kernel
theorem dX0_clearAll_4 : decode cX0_clearAll 4 = .ok (.iconst 0, 1) := by decide +kernel
theorem dX0_clearAll_5 : decode cX0_clearAll 5 = .ok (.invokestatic 19, 3) := by decide +kernel
theorem dX0_clearAll_8 : decode cX0_clearAll 8 = .ok (.return_, 1) := by decide +kernel
theorem dX1_init_0 : decode cX1_init 0 = .ok (.aload_n 0, 1) := by decide +kernel
theorem dX1_init_1 : decode cX1_init 1 = .ok (.invokespecial 3, 3) := by decide +kernel
theorem dX1_init_4 : decode cX1_init 4 = .ok (.aload_n 0, 1) := by decide +kernel
theorem dX1_init_5 : decode cX1_init 5 = .ok (.iconst 0, 1) := by decide +kernel
theorem dX1_init_6 : decode cX1_init 6 = .ok (.putfield 9, 3) := by decide +kernel
theorem dX1_init_9 : decode cX1_init 9 = .ok (.aload_n 0, 1) := by decide +kernel
theorem dX1_init_10 : decode cX1_init 10 = .ok (.aload_n 1, 1) := by decide +kernel
theorem dX1_init_11 : decode cX1_init 11 = .ok (.putfield 15, 3) := by decide +kernel
theorem dX1_init_14 : decode cX1_init 14 = .ok (.return_, 1) := by decide +kernel
set_option maxRecDepth 20000 in
theorem ggX1_isLess_X0_add : GoodIn wsX1_isLess wsX0_add := goodIn_r _ [6, 7, 16] (by decide +kernel) (by decide +kernel)
set_option maxRecDepth 20000 in
theorem gX1_isLess_X0_add_n19 : GoodIn wsX1_isLess (wsX0_add) := ggX1_isLess_X0_add
set_option maxRecDepth 20000 in
theorem ggX1_isLess_X5_keyOf : GoodIn wsX1_isLess wsX5_keyOf := goodIn_r _ [10] (by decide +kernel) (by decide +kernel)
set_option maxRecDepth 20000 in
theorem gX1_isLess_X5_keyOf_n25 : GoodIn wsX1_isLess (wsX5_keyOf) := ggX1_isLess_X5_keyOf
set_option maxRecDepth 20000 in
theorem ggX1_isLess_X5_rankOf : GoodIn wsX1_isLess wsX5_rankOf := goodIn_r _ [12, 13] (by decide +kernel) (by decide +kernel)
set_option maxRecDepth 20000 in
theorem gX1_isLess_X5_rankOf_n29 : GoodIn wsX1_isLess (wsX5_rankOf) := ggX1_isLess_X5_rankOf
theorem dX1_isLess_0 : decode cX1_isLess 0 = .ok (.aload_n 0, 1) := by decide +kernel
theorem dX1_isLess_1 : decode cX1_isLess 1 = .ok (.getfield 15, 3) := by decide +kernel
theorem dX1_isLess_4 : decode cX1_isLess 4 = .ok (.iconst 0, 1) := by decide +kernel
theorem dX1_isLess_5 : decode cX1_isLess 5 = .ok (.iconst 1, 1) := by decide +kernel
theorem dX1_isLess_6 : decode cX1_isLess 6 = .ok (.invokevirtual 19, 3) := by decide +kernel
theorem dX1_isLess_9 : decode cX1_isLess 9 = .ok (.aload_n 0, 1) := by decide +kernel
theorem dX1_isLess_10 : decode cX1_isLess 10 = .ok (.getfield 9, 3) := by decide +kernel
theorem dX1_isLess_13 : decode cX1_isLess 13 = .ok (.iload_n 1, 1) := by decide +kernel
theorem dX1_isLess_14 : decode cX1_isLess 14 = .ok (.invokestatic 25, 3) := by decide +kernel
theorem dX1_isLess_17 : decode cX1_isLess 17 = .ok (.invokestatic 29, 3) := by decide +kernel
theorem dX1_isLess_20 : decode cX1_isLess 20 = .ok (.aload_n 0, 1) := by decide +kernel
theorem dX1_isLess_21 : decode cX1_isLess 21 = .ok (.getfield 9, 3) := by decide +kernel
theorem dX1_isLess_24 : decode cX1_isLess 24 = .ok (.iload_n 2, 1) := by decide +kernel
theorem dX1_isLess_25 : decode cX1_isLess 25 = .ok (.invokestatic 25, 3) := by decide +kernel
theorem dX1_isLess_28 : decode cX1_isLess 28 = .ok (.invokestatic 29, 3) := by decide +kernel
theorem dX1_isLess_31 : decode cX1_isLess 31 = .ok (.if_icmp .ge 7, 3) := by decide +kernel
theorem dX1_isLess_34 : decode cX1_isLess 34 = .ok (.iconst 1, 1) := by decide +kernel
theorem dX1_isLess_35 : decode cX1_isLess 35 = .ok (.goto 4, 3) := by decide +kernel
theorem dX1_isLess_38 : decode cX1_isLess 38 = .ok (.iconst 0, 1) := by decide +kernel
theorem dX1_isLess_39 : decode cX1_isLess 39 = .ok (.ireturn, 1) := by decide +kernel
set_option maxRecDepth 20000 in
theorem ggX1_passing_X4_ahead : GoodIn wsX1_passing wsX4_ahead := goodIn_r _ [4, 5, 6, 7, 8, 9, 10, 11, 12, 29, 30, 31, 32, 33] (by decide +kernel) (by decide +kernel)
set_option maxRecDepth 20000 in
theorem gX1_passing_X4_ahead_n38 : GoodIn wsX1_passing (wsX4_ahead) := ggX1_passing_X4_ahead
set_option maxRecDepth 20000 in
theorem ggX1_passing_X1_isLess : GoodIn wsX1_passing wsX1_isLess := goodIn_r _ [17, 18, 19, 20, 9, 21, 22, 12, 23, 24, 25, 26, 27, 28, 34, 35, 33] (by decide +kernel) (by decide +kernel)
set_option maxRecDepth 20000 in
theorem gX1_passing_X1_isLess : GoodIn wsX1_passing (wsV RX1 41 RX1 yX1_isLess wsX1_isLess) := goodIn_app (goodIn_of _ (by decide +kernel)) ggX1_passing_X1_isLess
theorem dX1_passing_0 : decode cX1_passing 0 = .ok (.iconst 0, 1) := by decide +kernel
theorem dX1_passing_1 : decode cX1_passing 1 = .ok (.istore 5, 2) := by decide +kernel
theorem dX1_passing_3 : decode cX1_passing 3 = .ok (.aload_n 1, 1) := by decide +kernel
theorem dX1_passing_4 : decode cX1_passing 4 = .ok (.getfield 33, 3) := by decide +kernel
theorem dX1_passing_7 : decode cX1_passing 7 = .ok (.istore 6, 2) := by decide +kernel
theorem dX1_passing_9 : decode cX1_passing 9 = .ok (.iconst 1, 1) := by decide +kernel
theorem dX1_passing_10 : decode cX1_passing 10 = .ok (.istore 7, 2) := by decide +kernel
theorem dX1_passing_12 : decode cX1_passing 12 = .ok (.iconst 0, 1) := by decide +kernel
theorem dX1_passing_13 : decode cX1_passing 13 = .ok (.istore 8, 2) := by decide +kernel
theorem dX1_passing_15 : decode cX1_passing 15 = .ok (.iload 8, 2) := by decide +kernel
theorem dX1_passing_17 : decode cX1_passing 17 = .ok (.sipush 1000, 3) := by decide +kernel
theorem dX1_passing_20 : decode cX1_passing 20 = .ok (.if_icmp .ge 112, 3) := by decide +kernel
theorem dX1_passing_23 : decode cX1_passing 23 = .ok (.iload 5, 2) := by decide +kernel
theorem dX1_passing_25 : decode cX1_passing 25 = .ok (.iload 6, 2) := by decide +kernel
theorem dX1_passing_27 : decode cX1_passing 27 = .ok (.if_icmp .ge 105, 3) := by decide +kernel
theorem dX1_passing_30 : decode cX1_passing 30 = .ok (.iload 7, 2) := by decide +kernel
theorem dX1_passing_32 : decode cX1_passing 32 = .ok (.ifCond .eq 16, 3) := by decide +kernel
theorem dX1_passing_35 : decode cX1_passing 35 = .ok (.iconst 2, 1) := by decide +kernel
theorem dX1_passing_36 : decode cX1_passing 36 = .ok (.iload 5, 2) := by decide +kernel
theorem dX1_passing_38 : decode cX1_passing 38 = .ok (.imul, 1) := by decide +kernel
theorem dX1_passing_39 : decode cX1_passing 39 = .ok (.iload 6, 2) := by decide +kernel
theorem dX1_passing_41 : decode cX1_passing 41 = .ok (.if_icmp .ge 7, 3) := by decide +kernel
theorem dX1_passing_44 : decode cX1_passing 44 = .ok (.iconst 1, 1) := by decide +kernel
theorem dX1_passing_45 : decode cX1_passing 45 = .ok (.goto 4, 3) := by decide +kernel
theorem dX1_passing_48 : decode cX1_passing 48 = .ok (.iconst 0, 1) := by decide +kernel
theorem dX1_passing_49 : decode cX1_passing 49 = .ok (.istore 7, 2) := by decide +kernel
theorem dX1_passing_51 : decode cX1_passing 51 = .ok (.iload 7, 2) := by decide +kernel
theorem dX1_passing_53 : decode cX1_passing 53 = .ok (.ifCond .eq 10, 3) := by decide +kernel
theorem dX1_passing_56 : decode cX1_passing 56 = .ok (.iconst 2, 1) := by decide +kernel
theorem dX1_passing_57 : decode cX1_passing 57 = .ok (.iload 5, 2) := by decide +kernel
theorem dX1_passing_59 : decode cX1_passing 59 = .ok (.imul, 1) := by decide +kernel
theorem dX1_passing_60 : decode cX1_passing 60 = .ok (.goto 10, 3) := by decide +kernel
theorem dX1_passing_63 : decode cX1_passing 63 = .ok (.iload 5, 2) := by decide +kernel
theorem dX1_passing_65 : decode cX1_passing 65 = .ok (.iload 6, 2) := by decide +kernel
theorem dX1_passing_67 : decode cX1_passing 67 = .ok (.iadd, 1) := by decide +kernel
theorem dX1_passing_68 : decode cX1_passing 68 = .ok (.iconst 2, 1) := by decide +kernel
theorem dX1_passing_69 : decode cX1_passing 69 = .ok (.idiv, 1) := by decide +kernel
theorem dX1_passing_70 : decode cX1_passing 70 = .ok (.istore 9, 2) := by decide +kernel
theorem dX1_passing_72 : decode cX1_passing 72 = .ok (.aload_n 1, 1) := by decide +kernel
theorem dX1_passing_73 : decode cX1_passing 73 = .ok (.iload 9, 2) := by decide +kernel
theorem dX1_passing_75 : decode cX1_passing 75 = .ok (.invokevirtual 38, 3) := by decide +kernel
theorem dX1_passing_78 : decode cX1_passing 78 = .ok (.istore 10, 2) := by decide +kernel
theorem dX1_passing_80 : decode cX1_passing 80 = .ok (.iload_n 3, 1) := by decide +kernel
theorem dX1_passing_81 : decode cX1_passing 81 = .ok (.ifCond .eq 13, 3) := by decide +kernel
theorem dX1_passing_84 : decode cX1_passing 84 = .ok (.aload_n 0, 1) := by decide +kernel
theorem dX1_passing_85 : decode cX1_passing 85 = .ok (.iload_n 2, 1) := by decide +kernel
theorem dX1_passing_86 : decode cX1_passing 86 = .ok (.iload 10, 2) := by decide +kernel
theorem dX1_passing_88 : decode cX1_passing 88 = .ok (.invokevirtual 41, 3) := by decide +kernel
theorem dX1_passing_91 : decode cX1_passing 91 = .ok (.goto 10, 3) := by decide +kernel
theorem dX1_passing_94 : decode cX1_passing 94 = .ok (.aload_n 0, 1) := by decide +kernel
theorem dX1_passing_95 : decode cX1_passing 95 = .ok (.iload 10, 2) := by decide +kernel
theorem dX1_passing_97 : decode cX1_passing 97 = .ok (.iload_n 2, 1) := by decide +kernel
theorem dX1_passing_98 : decode cX1_passing 98 = .ok (.invokevirtual 41, 3) := by decide +kernel
theorem dX1_passing_101 : decode cX1_passing 101 = .ok (.istore 11, 2) := by decide +kernel
theorem dX1_passing_103 : decode cX1_passing 103 = .ok (.iload 11, 2) := by decide +kernel
theorem dX1_passing_105 : decode cX1_passing 105 = .ok (.iload 4, 2) := by decide +kernel
theorem dX1_passing_107 : decode cX1_passing 107 = .ok (.if_icmp .ne 12, 3) := by decide +kernel
theorem dX1_passing_110 : decode cX1_passing 110 = .ok (.iload 9, 2) := by decide +kernel
theorem dX1_passing_112 : decode cX1_passing 112 = .ok (.iconst 1, 1) := by decide +kernel
theorem dX1_passing_113 : decode cX1_passing 113 = .ok (.iadd, 1) := by decide +kernel
theorem dX1_passing_114 : decode cX1_passing 114 = .ok (.istore 5, 2) := by decide +kernel
theorem dX1_passing_116 : decode cX1_passing 116 = .ok (.goto 10, 3) := by decide +kernel
theorem dX1_passing_119 : decode cX1_passing 119 = .ok (.iload 9, 2) := by decide +kernel
theorem dX1_passing_121 : decode cX1_passing 121 = .ok (.istore 6, 2) := by decide +kernel
theorem dX1_passing_123 : decode cX1_passing 123 = .ok (.iconst 0, 1) := by decide +kernel
theorem dX1_passing_124 : decode cX1_passing 124 = .ok (.istore 7, 2) := by decide +kernel
theorem dX1_passing_126 : decode cX1_passing 126 = .ok (.iinc 8 1, 3) := by decide +kernel
theorem dX1_passing_129 : decode cX1_passing 129 = .ok (.goto (-114), 3) := by decide +kernel
theorem dX1_passing_132 : decode cX1_passing 132 = .ok (.iload 5, 2) := by decide +kernel
theorem dX1_passing_134 : decode cX1_passing 134 = .ok (.ireturn, 1) := by decide +kernel
set_option maxRecDepth 20000 in
theorem ggX2_init_X0_init : GoodIn wsX2_init wsX0_init := goodIn_r _ [19, 20, 2, 3, 21, 22, 23, 24, 25, 26, 34] (by decide +kernel) (by decide +kernel)
set_option maxRecDepth 20000 in
theorem gX2_init_X0_init_n11 : GoodIn wsX2_init (wsX0_init) := ggX2_init_X0_init
set_option maxRecDepth 20000 in
theorem ggX2_init_X4_init : GoodIn wsX2_init wsX4_init := goodIn_r _ [28, 29, 2, 3, 30, 31, 32, 33, 43, 44, 45, 46] (by decide +kernel) (by decide +kernel)
set_option maxRecDepth 20000 in
theorem gX2_init_X4_init_n39 : GoodIn wsX2_init (wsX4_init) := ggX2_init_X4_init
theorem dX2_init_0 : decode cX2_init 0 = .ok (.aload_n 0, 1) := by decide +kernel
theorem dX2_init_1 : decode cX2_init 1 = .ok (.invokespecial 3, 3) := by decide +kernel
theorem dX2_init_4 : decode cX2_init 4 = .ok (.aload_n 0, 1) := by decide +kernel
theorem dX2_init_5 : decode cX2_init 5 = .ok (.new 9, 3) := by decide +kernel
theorem dX2_init_8 : decode cX2_init 8 = .ok (.dup, 1) := by decide +kernel
theorem dX2_init_9 : decode cX2_init 9 = .ok (.bipush 48, 2) := by decide +kernel
theorem dX2_init_11 : decode cX2_init 11 = .ok (.invokespecial 11, 3) := by decide +kernel
theorem dX2_init_14 : decode cX2_init 14 = .ok (.putfield 14, 3) := by decide +kernel
theorem dX2_init_17 : decode cX2_init 17 = .ok (.aload_n 0, 1) := by decide +kernel
theorem dX2_init_18 : decode cX2_init 18 = .ok (.iconst 0, 1) := by decide +kernel
theorem dX2_init_19 : decode cX2_init 19 = .ok (.putfield 20, 3) := by decide +kernel
theorem dX2_init_22 : decode cX2_init 22 = .ok (.aload_n 0, 1) := by decide +kernel
theorem dX2_init_23 : decode cX2_init 23 = .ok (.iconst 1, 1) := by decide +kernel
theorem dX2_init_24 : decode cX2_init 24 = .ok (.putfield 24, 3) := by decide +kernel
theorem dX2_init_27 : decode cX2_init 27 = .ok (.aload_n 0, 1) := by decide +kernel
theorem dX2_init_28 : decode cX2_init 28 = .ok (.aload_n 1, 1) := by decide +kernel
theorem dX2_init_29 : decode cX2_init 29 = .ok (.putfield 27, 3) := by decide +kernel
theorem dX2_init_32 : decode cX2_init 32 = .ok (.aload_n 0, 1) := by decide +kernel
theorem dX2_init_33 : decode cX2_init 33 = .ok (.aload_n 2, 1) := by decide +kernel
theorem dX2_init_34 : decode cX2_init 34 = .ok (.putfield 30, 3) := by decide +kernel
theorem dX2_init_37 : decode cX2_init 37 = .ok (.aload_n 0, 1) := by decide +kernel
theorem dX2_init_38 : decode cX2_init 38 = .ok (.aload_n 3, 1) := by decide +kernel
theorem dX2_init_39 : decode cX2_init 39 = .ok (.putfield 33, 3) := by decide +kernel
theorem dX2_init_42 : decode cX2_init 42 = .ok (.aload_n 0, 1) := by decide +kernel
theorem dX2_init_43 : decode cX2_init 43 = .ok (.new 37, 3) := by decide +kernel
theorem dX2_init_46 : decode cX2_init 46 = .ok (.dup, 1) := by decide +kernel
theorem dX2_init_47 : decode cX2_init 47 = .ok (.aload_n 1, 1) := by decide +kernel
theorem dX2_init_48 : decode cX2_init 48 = .ok (.invokespecial 39, 3) := by decide +kernel
theorem dX2_init_51 : decode cX2_init 51 = .ok (.putfield 42, 3) := by decide +kernel
theorem dX2_init_54 : decode cX2_init 54 = .ok (.aload_n 0, 1) := by decide +kernel
theorem dX2_init_55 : decode cX2_init 55 = .ok (.new 37, 3) := by decide +kernel
theorem dX2_init_58 : decode cX2_init 58 = .ok (.dup, 1) := by decide +kernel
theorem dX2_init_59 : decode cX2_init 59 = .ok (.aload_n 1, 1) := by decide +kernel
theorem dX2_init_60 : decode cX2_init 60 = .ok (.invokespecial 39, 3) := by decide +kernel
theorem dX2_init_63 : decode cX2_init 63 = .ok (.putfield 46, 3) := by decide +kernel
theorem dX2_init_66 : decode cX2_init 66 = .ok (.return_, 1) := by decide +kernel
set_option maxRecDepth 20000 in
theorem ggX2_join_X2_leaveWhatStays : GoodIn wsX2_join wsX2_leaveWhatStays := goodIn_r _ [7, 1, 8, 2, 9, 10, 11, 12, 13, 14, 15, 16, 17, 18, 19, 20, 21, 22, 23, 24, 25, 26, 27, 28, 29, 30, 31, 32, 33, 34, 35, 36, 37, 38, 39, 40, 41, 42, 43, 44, 45, 46, 47, 97, 98, 99, 100, 101, 102, 103, 104, 105, 106, 107, 108, 109, 110, 111] (by decide +kernel) (by decide +kernel)
set_option maxRecDepth 20000 in
theorem gX2_join_X2_leaveWhatStays : GoodIn wsX2_join (wsV RX2 49 RX2 yX2_leaveWhatStays wsX2_leaveWhatStays) := goodIn_app (goodIn_of _ (by decide +kernel)) ggX2_join_X2_leaveWhatStays
set_option maxRecDepth 20000 in
theorem ggX2_join_X2_bothAreLeft : GoodIn wsX2_join wsX2_bothAreLeft := goodIn_r _ [51, 1, 2, 97, 98, 99, 100, 101, 102, 103, 104, 105, 106, 107, 108] (by decide +kernel) (by decide +kernel)
set_option maxRecDepth 20000 in
theorem gX2_join_X2_bothAreLeft : GoodIn wsX2_join (wsV RX2 53 RX2 yX2_bothAreLeft wsX2_bothAreLeft) := goodIn_app (goodIn_of _ (by decide +kernel)) ggX2_join_X2_bothAreLeft
set_option maxRecDepth 20000 in
theorem ggX2_join_X2_openForward : GoodIn wsX2_join wsX2_openForward := goodIn_r _ [55, 56, 1, 57, 58, 59, 60, 61, 6, 62, 63, 18, 11, 19, 20, 14, 15, 16, 21, 22, 23, 24, 25, 64, 65, 66, 36, 37, 38, 67, 68, 69, 10, 12, 13, 17, 97, 98, 99, 100, 101, 102, 103, 104, 105, 106, 107, 108, 109] (by decide +kernel) (by decide +kernel)
set_option maxRecDepth 20000 in
theorem gX2_join_X2_openForward : GoodIn wsX2_join (wsV RX2 60 RX2 yX2_openForward wsX2_openForward) := goodIn_app (goodIn_of _ (by decide +kernel)) ggX2_join_X2_openForward
set_option maxRecDepth 20000 in
theorem ggX2_join_X2_openBack : GoodIn wsX2_join wsX2_openBack := goodIn_r _ [73, 56, 2, 57, 1, 8, 58, 59, 60, 61, 6, 62, 63, 18, 11, 19, 20, 14, 15, 16, 21, 22, 23, 24, 25, 64, 65, 66, 36, 37, 38, 67, 68, 69, 10, 12, 13, 17, 97, 98, 99, 100, 101, 102, 103, 104, 105, 106, 107, 108, 109] (by decide +kernel) (by decide +kernel)
set_option maxRecDepth 20000 in
theorem gX2_join_X2_openBack : GoodIn wsX2_join (wsV RX2 63 RX2 yX2_openBack wsX2_openBack) := goodIn_app (goodIn_of _ (by decide +kernel)) ggX2_join_X2_openBack
set_option maxRecDepth 20000 in
theorem ggX2_join_X2_leapOneRound : GoodIn wsX2_join wsX2_leapOneRound := goodIn_r _ [77, 56, 63, 9, 1, 2, 78, 79, 80, 81, 36, 22, 37, 38, 25, 18, 11, 19, 20, 14, 15, 16, 21, 23, 24, 26, 27, 28, 29, 30, 31, 32, 33, 34, 35, 39, 40, 41, 42, 43, 44, 82, 83, 84, 6, 85, 8, 57, 64, 65, 66, 45, 46, 47, 17, 48, 49, 50, 51, 86, 87, 88, 89, 90, 91, 92, 97, 98, 99, 100, 101, 102, 103, 104, 109, 105, 106, 107, 108, 110, 111] (by decide +kernel) (by decide +kernel)
set_option maxRecDepth 20000 in
theorem gX2_join_X2_leapOneRound : GoodIn wsX2_join (wsV RX2 66 RX2 yX2_leapOneRound wsX2_leapOneRound) := goodIn_app (goodIn_of _ (by decide +kernel)) ggX2_join_X2_leapOneRound
set_option maxRecDepth 20000 in
theorem ggX2_join_X2_takeSingly : GoodIn wsX2_join wsX2_takeSingly := goodIn_r _ [96, 63, 9, 2, 1, 56, 21, 22, 23, 24, 25, 48, 49, 50, 6, 51, 18, 11, 19, 20, 14, 15, 16, 31, 27, 32, 33, 34, 35, 36, 37, 38, 39, 40, 41, 42, 43, 44, 82, 83, 84, 85, 8, 57, 64, 65, 66, 45, 46, 47, 17, 97, 98, 99, 100, 101, 102, 103, 104, 109, 105, 106, 107, 108, 110, 111] (by decide +kernel) (by decide +kernel)
set_option maxRecDepth 20000 in
theorem gX2_join_X2_takeSingly : GoodIn wsX2_join (wsV RX2 69 RX2 yX2_takeSingly wsX2_takeSingly) := goodIn_app (goodIn_of _ (by decide +kernel)) ggX2_join_X2_takeSingly
set_option maxRecDepth 20000 in
theorem ggX2_join_X2_take : GoodIn wsX2_join wsX2_take := goodIn_r _ [85, 8, 57, 56, 63, 18, 11, 19, 20, 14, 15, 16, 21, 22, 23, 24, 25, 64, 65, 66, 45, 46, 47, 17, 36, 37, 38, 97, 98, 99, 100, 101, 102, 103, 104, 105, 106, 107, 108, 109] (by decide +kernel) (by decide +kernel)
set_option maxRecDepth 20000 in
theorem gX2_join_X2_take : GoodIn wsX2_join (wsV RX2 72 RX2 yX2_take wsX2_take) := goodIn_app (goodIn_of _ (by decide +kernel)) ggX2_join_X2_take
theorem dX2_join_0 : decode cX2_join 0 = .ok (.aload_n 0, 1) := by decide +kernel
theorem dX2_join_1 : decode cX2_join 1 = .ok (.iload_n 1, 1) := by decide +kernel
theorem dX2_join_2 : decode cX2_join 2 = .ok (.iload_n 2, 1) := by decide +kernel
theorem dX2_join_3 : decode cX2_join 3 = .ok (.iload_n 3, 1) := by decide +kernel
theorem dX2_join_4 : decode cX2_join 4 = .ok (.invokevirtual 49, 3) := by decide +kernel
theorem dX2_join_7 : decode cX2_join 7 = .ok (.aload_n 0, 1) := by decide +kernel
theorem dX2_join_8 : decode cX2_join 8 = .ok (.invokevirtual 53, 3) := by decide +kernel
theorem dX2_join_11 : decode cX2_join 11 = .ok (.ifCond .ne 4, 3) := by decide +kernel
theorem dX2_join_14 : decode cX2_join 14 = .ok (.return_, 1) := by decide +kernel
theorem dX2_join_15 : decode cX2_join 15 = .ok (.aload_n 0, 1) := by decide +kernel
theorem dX2_join_16 : decode cX2_join 16 = .ok (.getfield 42, 3) := by decide +kernel
theorem dX2_join_19 : decode cX2_join 19 = .ok (.getfield 57, 3) := by decide +kernel
theorem dX2_join_22 : decode cX2_join 22 = .ok (.aload_n 0, 1) := by decide +kernel
theorem dX2_join_23 : decode cX2_join 23 = .ok (.getfield 46, 3) := by decide +kernel
theorem dX2_join_26 : decode cX2_join 26 = .ok (.getfield 57, 3) := by decide +kernel
theorem dX2_join_29 : decode cX2_join 29 = .ok (.if_icmp .gt 7, 3) := by decide +kernel
theorem dX2_join_32 : decode cX2_join 32 = .ok (.iconst 1, 1) := by decide +kernel
theorem dX2_join_33 : decode cX2_join 33 = .ok (.goto 4, 3) := by decide +kernel
theorem dX2_join_36 : decode cX2_join 36 = .ok (.iconst 0, 1) := by decide +kernel
theorem dX2_join_37 : decode cX2_join 37 = .ok (.istore 4, 2) := by decide +kernel
theorem dX2_join_39 : decode cX2_join 39 = .ok (.iload 4, 2) := by decide +kernel
theorem dX2_join_41 : decode cX2_join 41 = .ok (.ifCond .eq 10, 3) := by decide +kernel
theorem dX2_join_44 : decode cX2_join 44 = .ok (.aload_n 0, 1) := by decide +kernel
theorem dX2_join_45 : decode cX2_join 45 = .ok (.invokevirtual 60, 3) := by decide +kernel
theorem dX2_join_48 : decode cX2_join 48 = .ok (.goto 7, 3) := by decide +kernel
theorem dX2_join_51 : decode cX2_join 51 = .ok (.aload_n 0, 1) := by decide +kernel
theorem dX2_join_52 : decode cX2_join 52 = .ok (.invokevirtual 63, 3) := by decide +kernel
theorem dX2_join_55 : decode cX2_join 55 = .ok (.iconst 0, 1) := by decide +kernel
theorem dX2_join_56 : decode cX2_join 56 = .ok (.istore 5, 2) := by decide +kernel
theorem dX2_join_58 : decode cX2_join 58 = .ok (.iconst 0, 1) := by decide +kernel
theorem dX2_join_59 : decode cX2_join 59 = .ok (.istore 6, 2) := by decide +kernel
theorem dX2_join_61 : decode cX2_join 61 = .ok (.iload 6, 2) := by decide +kernel
theorem dX2_join_63 : decode cX2_join 63 = .ok (.bipush 96, 2) := by decide +kernel
theorem dX2_join_65 : decode cX2_join 65 = .ok (.if_icmp .ge 34, 3) := by decide +kernel
theorem dX2_join_68 : decode cX2_join 68 = .ok (.aload_n 0, 1) := by decide +kernel
theorem dX2_join_69 : decode cX2_join 69 = .ok (.invokevirtual 53, 3) := by decide +kernel
theorem dX2_join_72 : decode cX2_join 72 = .ok (.ifCond .eq 27, 3) := by decide +kernel
theorem dX2_join_75 : decode cX2_join 75 = .ok (.iload 5, 2) := by decide +kernel
theorem dX2_join_77 : decode cX2_join 77 = .ok (.ifCond .eq 10, 3) := by decide +kernel
theorem dX2_join_80 : decode cX2_join 80 = .ok (.aload_n 0, 1) := by decide +kernel
theorem dX2_join_81 : decode cX2_join 81 = .ok (.invokevirtual 66, 3) := by decide +kernel
theorem dX2_join_84 : decode cX2_join 84 = .ok (.goto 7, 3) := by decide +kernel
theorem dX2_join_87 : decode cX2_join 87 = .ok (.aload_n 0, 1) := by decide +kernel
theorem dX2_join_88 : decode cX2_join 88 = .ok (.invokevirtual 69, 3) := by decide +kernel
theorem dX2_join_91 : decode cX2_join 91 = .ok (.istore 5, 2) := by decide +kernel
theorem dX2_join_93 : decode cX2_join 93 = .ok (.iinc 6 1, 3) := by decide +kernel
theorem dX2_join_96 : decode cX2_join 96 = .ok (.goto (-35), 3) := by decide +kernel
theorem dX2_join_99 : decode cX2_join 99 = .ok (.iload 4, 2) := by decide +kernel
theorem dX2_join_101 : decode cX2_join 101 = .ok (.ifCond .eq 10, 3) := by decide +kernel
theorem dX2_join_104 : decode cX2_join 104 = .ok (.aload_n 0, 1) := by decide +kernel
theorem dX2_join_105 : decode cX2_join 105 = .ok (.getfield 42, 3) := by decide +kernel
theorem dX2_join_108 : decode cX2_join 108 = .ok (.goto 7, 3) := by decide +kernel
theorem dX2_join_111 : decode cX2_join 111 = .ok (.aload_n 0, 1) := by decide +kernel
theorem dX2_join_112 : decode cX2_join 112 = .ok (.getfield 46, 3) := by decide +kernel
theorem dX2_join_115 : decode cX2_join 115 = .ok (.astore 6, 2) := by decide +kernel
theorem dX2_join_117 : decode cX2_join 117 = .ok (.aload_n 0, 1) := by decide +kernel
theorem dX2_join_118 : decode cX2_join 118 = .ok (.aload 6, 2) := by decide +kernel
theorem dX2_join_120 : decode cX2_join 120 = .ok (.aload 6, 2) := by decide +kernel
theorem dX2_join_122 : decode cX2_join 122 = .ok (.getfield 57, 3) := by decide +kernel
theorem dX2_join_125 : decode cX2_join 125 = .ok (.invokevirtual 72, 3) := by decide +kernel
theorem dX2_join_128 : decode cX2_join 128 = .ok (.return_, 1) := by decide +kernel
set_option maxRecDepth 20000 in
theorem ggX2_leaveWhatStays_X4_aim : GoodIn wsX2_leaveWhatStays wsX4_aim := goodIn_r _ [8, 9, 10, 11, 12, 51, 52, 53, 54] (by decide +kernel) (by decide +kernel)
set_option maxRecDepth 20000 in
theorem gX2_leaveWhatStays_X4_aim_n76 : GoodIn wsX2_leaveWhatStays (wsX4_aim) := ggX2_leaveWhatStays_X4_aim
set_option maxRecDepth 20000 in
theorem ggX2_leaveWhatStays_X4_ahead : GoodIn wsX2_leaveWhatStays wsX4_ahead := goodIn_r _ [15, 9, 10, 11, 16, 17, 18, 19, 20, 51, 52, 53, 54, 55] (by decide +kernel) (by decide +kernel)
set_option maxRecDepth 20000 in
theorem gX2_leaveWhatStays_X4_ahead_n80 : GoodIn wsX2_leaveWhatStays (wsX4_ahead) := ggX2_leaveWhatStays_X4_ahead
set_option maxRecDepth 20000 in
theorem ggX2_leaveWhatStays_X1_passing : GoodIn wsX2_leaveWhatStays wsX1_passing := goodIn_r _ [24, 13, 6, 14, 15, 9, 10, 11, 16, 17, 18, 19, 20, 25, 26, 27, 22, 28, 29, 30, 31, 32, 33, 34, 35, 36, 37, 38, 39, 51, 52, 53, 54, 55, 56, 57] (by decide +kernel) (by decide +kernel)
set_option maxRecDepth 20000 in
theorem gX2_leaveWhatStays_X1_passing_n84 : GoodIn wsX2_leaveWhatStays (wsX1_passing) := ggX2_leaveWhatStays_X1_passing
set_option maxRecDepth 20000 in
theorem ggX2_leaveWhatStays_X4_drop : GoodIn wsX2_leaveWhatStays wsX4_drop := goodIn_r _ [42, 10, 11, 12, 51, 52, 53, 54] (by decide +kernel) (by decide +kernel)
set_option maxRecDepth 20000 in
theorem gX2_leaveWhatStays_X4_drop_n90 : GoodIn wsX2_leaveWhatStays (wsX4_drop) := ggX2_leaveWhatStays_X4_drop
theorem dX2_leaveWhatStays_0 : decode cX2_leaveWhatStays 0 = .ok (.aload_n 0, 1) := by decide +kernel
theorem dX2_leaveWhatStays_1 : decode cX2_leaveWhatStays 1 = .ok (.getfield 42, 3) := by decide +kernel
theorem dX2_leaveWhatStays_4 : decode cX2_leaveWhatStays 4 = .ok (.aload_n 0, 1) := by decide +kernel
theorem dX2_leaveWhatStays_5 : decode cX2_leaveWhatStays 5 = .ok (.getfield 27, 3) := by decide +kernel
theorem dX2_leaveWhatStays_8 : decode cX2_leaveWhatStays 8 = .ok (.iload_n 1, 1) := by decide +kernel
theorem dX2_leaveWhatStays_9 : decode cX2_leaveWhatStays 9 = .ok (.iconst 1, 1) := by decide +kernel
theorem dX2_leaveWhatStays_10 : decode cX2_leaveWhatStays 10 = .ok (.iload_n 2, 1) := by decide +kernel
theorem dX2_leaveWhatStays_11 : decode cX2_leaveWhatStays 11 = .ok (.invokevirtual 76, 3) := by decide +kernel
theorem dX2_leaveWhatStays_14 : decode cX2_leaveWhatStays 14 = .ok (.aload_n 0, 1) := by decide +kernel
theorem dX2_leaveWhatStays_15 : decode cX2_leaveWhatStays 15 = .ok (.getfield 46, 3) := by decide +kernel
theorem dX2_leaveWhatStays_18 : decode cX2_leaveWhatStays 18 = .ok (.aload_n 0, 1) := by decide +kernel
theorem dX2_leaveWhatStays_19 : decode cX2_leaveWhatStays 19 = .ok (.getfield 27, 3) := by decide +kernel
theorem dX2_leaveWhatStays_22 : decode cX2_leaveWhatStays 22 = .ok (.iload_n 1, 1) := by decide +kernel
theorem dX2_leaveWhatStays_23 : decode cX2_leaveWhatStays 23 = .ok (.iload_n 2, 1) := by decide +kernel
theorem dX2_leaveWhatStays_24 : decode cX2_leaveWhatStays 24 = .ok (.iadd, 1) := by decide +kernel
theorem dX2_leaveWhatStays_25 : decode cX2_leaveWhatStays 25 = .ok (.iconst 1, 1) := by decide +kernel
theorem dX2_leaveWhatStays_26 : decode cX2_leaveWhatStays 26 = .ok (.iload_n 3, 1) := by decide +kernel
theorem dX2_leaveWhatStays_27 : decode cX2_leaveWhatStays 27 = .ok (.invokevirtual 76, 3) := by decide +kernel
theorem dX2_leaveWhatStays_30 : decode cX2_leaveWhatStays 30 = .ok (.aload_n 0, 1) := by decide +kernel
theorem dX2_leaveWhatStays_31 : decode cX2_leaveWhatStays 31 = .ok (.getfield 42, 3) := by decide +kernel
theorem dX2_leaveWhatStays_34 : decode cX2_leaveWhatStays 34 = .ok (.aload_n 0, 1) := by decide +kernel
theorem dX2_leaveWhatStays_35 : decode cX2_leaveWhatStays 35 = .ok (.getfield 33, 3) := by decide +kernel
theorem dX2_leaveWhatStays_38 : decode cX2_leaveWhatStays 38 = .ok (.aload_n 0, 1) := by decide +kernel
theorem dX2_leaveWhatStays_39 : decode cX2_leaveWhatStays 39 = .ok (.getfield 42, 3) := by decide +kernel
theorem dX2_leaveWhatStays_42 : decode cX2_leaveWhatStays 42 = .ok (.aload_n 0, 1) := by decide +kernel
theorem dX2_leaveWhatStays_43 : decode cX2_leaveWhatStays 43 = .ok (.getfield 46, 3) := by decide +kernel
theorem dX2_leaveWhatStays_46 : decode cX2_leaveWhatStays 46 = .ok (.iconst 0, 1) := by decide +kernel
theorem dX2_leaveWhatStays_47 : decode cX2_leaveWhatStays 47 = .ok (.invokevirtual 80, 3) := by decide +kernel
theorem dX2_leaveWhatStays_50 : decode cX2_leaveWhatStays 50 = .ok (.iconst 1, 1) := by decide +kernel
theorem dX2_leaveWhatStays_51 : decode cX2_leaveWhatStays 51 = .ok (.iconst 0, 1) := by decide +kernel
theorem dX2_leaveWhatStays_52 : decode cX2_leaveWhatStays 52 = .ok (.invokevirtual 84, 3) := by decide +kernel
theorem dX2_leaveWhatStays_55 : decode cX2_leaveWhatStays 55 = .ok (.invokevirtual 90, 3) := by decide +kernel
theorem dX2_leaveWhatStays_58 : decode cX2_leaveWhatStays 58 = .ok (.aload_n 0, 1) := by decide +kernel
theorem dX2_leaveWhatStays_59 : decode cX2_leaveWhatStays 59 = .ok (.getfield 42, 3) := by decide +kernel
theorem dX2_leaveWhatStays_62 : decode cX2_leaveWhatStays 62 = .ok (.getfield 57, 3) := by decide +kernel
theorem dX2_leaveWhatStays_65 : decode cX2_leaveWhatStays 65 = .ok (.ifCond .le 39, 3) := by decide +kernel
theorem dX2_leaveWhatStays_68 : decode cX2_leaveWhatStays 68 = .ok (.aload_n 0, 1) := by decide +kernel
theorem dX2_leaveWhatStays_69 : decode cX2_leaveWhatStays 69 = .ok (.getfield 46, 3) := by decide +kernel
theorem dX2_leaveWhatStays_72 : decode cX2_leaveWhatStays 72 = .ok (.aload_n 0, 1) := by decide +kernel
theorem dX2_leaveWhatStays_73 : decode cX2_leaveWhatStays 73 = .ok (.getfield 33, 3) := by decide +kernel
theorem dX2_leaveWhatStays_76 : decode cX2_leaveWhatStays 76 = .ok (.aload_n 0, 1) := by decide +kernel
theorem dX2_leaveWhatStays_77 : decode cX2_leaveWhatStays 77 = .ok (.getfield 46, 3) := by decide +kernel
theorem dX2_leaveWhatStays_80 : decode cX2_leaveWhatStays 80 = .ok (.aload_n 0, 1) := by decide +kernel
theorem dX2_leaveWhatStays_81 : decode cX2_leaveWhatStays 81 = .ok (.getfield 42, 3) := by decide +kernel
theorem dX2_leaveWhatStays_84 : decode cX2_leaveWhatStays 84 = .ok (.aload_n 0, 1) := by decide +kernel
theorem dX2_leaveWhatStays_85 : decode cX2_leaveWhatStays 85 = .ok (.getfield 42, 3) := by decide +kernel
theorem dX2_leaveWhatStays_88 : decode cX2_leaveWhatStays 88 = .ok (.getfield 57, 3) := by decide +kernel
theorem dX2_leaveWhatStays_91 : decode cX2_leaveWhatStays 91 = .ok (.iconst 1, 1) := by decide +kernel
theorem dX2_leaveWhatStays_92 : decode cX2_leaveWhatStays 92 = .ok (.isub, 1) := by decide +kernel
theorem dX2_leaveWhatStays_93 : decode cX2_leaveWhatStays 93 = .ok (.invokevirtual 80, 3) := by decide +kernel
theorem dX2_leaveWhatStays_96 : decode cX2_leaveWhatStays 96 = .ok (.iconst 0, 1) := by decide +kernel
theorem dX2_leaveWhatStays_97 : decode cX2_leaveWhatStays 97 = .ok (.iconst 1, 1) := by decide +kernel
theorem dX2_leaveWhatStays_98 : decode cX2_leaveWhatStays 98 = .ok (.invokevirtual 84, 3) := by decide +kernel
theorem dX2_leaveWhatStays_101 : decode cX2_leaveWhatStays 101 = .ok (.putfield 57, 3) := by decide +kernel
theorem dX2_leaveWhatStays_104 : decode cX2_leaveWhatStays 104 = .ok (.return_, 1) := by decide +kernel
theorem dX2_bothAreLeft_0 : decode cX2_bothAreLeft 0 = .ok (.aload_n 0, 1) := by decide +kernel
theorem dX2_bothAreLeft_1 : decode cX2_bothAreLeft 1 = .ok (.getfield 42, 3) := by decide +kernel
theorem dX2_bothAreLeft_4 : decode cX2_bothAreLeft 4 = .ok (.getfield 57, 3) := by decide +kernel
theorem dX2_bothAreLeft_7 : decode cX2_bothAreLeft 7 = .ok (.ifCond .le 17, 3) := by decide +kernel
theorem dX2_bothAreLeft_10 : decode cX2_bothAreLeft 10 = .ok (.aload_n 0, 1) := by decide +kernel
theorem dX2_bothAreLeft_11 : decode cX2_bothAreLeft 11 = .ok (.getfield 46, 3) := by decide +kernel
theorem dX2_bothAreLeft_14 : decode cX2_bothAreLeft 14 = .ok (.getfield 57, 3) := by decide +kernel
theorem dX2_bothAreLeft_17 : decode cX2_bothAreLeft 17 = .ok (.ifCond .le 7, 3) := by decide +kernel
theorem dX2_bothAreLeft_20 : decode cX2_bothAreLeft 20 = .ok (.iconst 1, 1) := by decide +kernel
theorem dX2_bothAreLeft_21 : decode cX2_bothAreLeft 21 = .ok (.goto 4, 3) := by decide +kernel
theorem dX2_bothAreLeft_24 : decode cX2_bothAreLeft 24 = .ok (.iconst 0, 1) := by decide +kernel
theorem dX2_bothAreLeft_25 : decode cX2_bothAreLeft 25 = .ok (.ireturn, 1) := by decide +kernel
set_option maxRecDepth 20000 in
theorem ggX2_openForward_X2_bringIntoRoom : GoodIn wsX2_openForward wsX2_bringIntoRoom := goodIn_r _ [9, 4, 10, 11, 12, 13, 14, 15, 16, 17, 18, 19, 20, 21, 22, 23, 24, 25, 26, 27, 28, 29, 30, 31, 44, 45, 46, 47, 36, 37, 38, 39, 40, 41, 42, 43, 48] (by decide +kernel) (by decide +kernel)
set_option maxRecDepth 20000 in
theorem gX2_openForward_X2_bringIntoRoom : GoodIn wsX2_openForward (wsV RX2 96 RX2 yX2_bringIntoRoom wsX2_bringIntoRoom) := goodIn_app (goodIn_of _ (by decide +kernel)) ggX2_openForward_X2_bringIntoRoom
set_option maxRecDepth 20000 in
theorem ggX2_openForward_X4_aim : GoodIn wsX2_openForward wsX4_aim := goodIn_r _ [34, 15, 16, 17, 35, 44, 45, 46, 47] (by decide +kernel) (by decide +kernel)
set_option maxRecDepth 20000 in
theorem gX2_openForward_X4_aim_n76 : GoodIn wsX2_openForward (wsX4_aim) := ggX2_openForward_X4_aim
theorem dX2_openForward_0 : decode cX2_openForward 0 = .ok (.aload_n 0, 1) := by decide +kernel
theorem dX2_openForward_1 : decode cX2_openForward 1 = .ok (.iconst 1, 1) := by decide +kernel
theorem dX2_openForward_2 : decode cX2_openForward 2 = .ok (.putfield 24, 3) := by decide +kernel
theorem dX2_openForward_5 : decode cX2_openForward 5 = .ok (.aload_n 0, 1) := by decide +kernel
theorem dX2_openForward_6 : decode cX2_openForward 6 = .ok (.aload_n 0, 1) := by decide +kernel
theorem dX2_openForward_7 : decode cX2_openForward 7 = .ok (.getfield 42, 3) := by decide +kernel
theorem dX2_openForward_10 : decode cX2_openForward 10 = .ok (.getfield 93, 3) := by decide +kernel
theorem dX2_openForward_13 : decode cX2_openForward 13 = .ok (.putfield 20, 3) := by decide +kernel
theorem dX2_openForward_16 : decode cX2_openForward 16 = .ok (.aload_n 0, 1) := by decide +kernel
theorem dX2_openForward_17 : decode cX2_openForward 17 = .ok (.aload_n 0, 1) := by decide +kernel
theorem dX2_openForward_18 : decode cX2_openForward 18 = .ok (.getfield 42, 3) := by decide +kernel
theorem dX2_openForward_21 : decode cX2_openForward 21 = .ok (.invokevirtual 96, 3) := by decide +kernel
theorem dX2_openForward_24 : decode cX2_openForward 24 = .ok (.aload_n 0, 1) := by decide +kernel
theorem dX2_openForward_25 : decode cX2_openForward 25 = .ok (.getfield 42, 3) := by decide +kernel
theorem dX2_openForward_28 : decode cX2_openForward 28 = .ok (.aload_n 0, 1) := by decide +kernel
theorem dX2_openForward_29 : decode cX2_openForward 29 = .ok (.getfield 14, 3) := by decide +kernel
theorem dX2_openForward_32 : decode cX2_openForward 32 = .ok (.iconst 0, 1) := by decide +kernel
theorem dX2_openForward_33 : decode cX2_openForward 33 = .ok (.iconst 1, 1) := by decide +kernel
theorem dX2_openForward_34 : decode cX2_openForward 34 = .ok (.aload_n 0, 1) := by decide +kernel
theorem dX2_openForward_35 : decode cX2_openForward 35 = .ok (.getfield 42, 3) := by decide +kernel
theorem dX2_openForward_38 : decode cX2_openForward 38 = .ok (.getfield 57, 3) := by decide +kernel
theorem dX2_openForward_41 : decode cX2_openForward 41 = .ok (.invokevirtual 76, 3) := by decide +kernel
theorem dX2_openForward_44 : decode cX2_openForward 44 = .ok (.return_, 1) := by decide +kernel
set_option maxRecDepth 20000 in
theorem ggX2_openBack_X2_bringIntoRoom : GoodIn wsX2_openBack wsX2_bringIntoRoom := goodIn_r _ [11, 6, 12, 13, 14, 15, 16, 17, 18, 19, 20, 21, 22, 23, 24, 25, 26, 27, 28, 29, 30, 31, 32, 33, 46, 47, 48, 49, 38, 39, 40, 41, 42, 43, 44, 45, 50] (by decide +kernel) (by decide +kernel)
set_option maxRecDepth 20000 in
theorem gX2_openBack_X2_bringIntoRoom : GoodIn wsX2_openBack (wsV RX2 96 RX2 yX2_bringIntoRoom wsX2_bringIntoRoom) := goodIn_app (goodIn_of _ (by decide +kernel)) ggX2_openBack_X2_bringIntoRoom
set_option maxRecDepth 20000 in
theorem ggX2_openBack_X4_aim : GoodIn wsX2_openBack wsX4_aim := goodIn_r _ [36, 17, 18, 19, 37, 46, 47, 48, 49] (by decide +kernel) (by decide +kernel)
set_option maxRecDepth 20000 in
theorem gX2_openBack_X4_aim_n76 : GoodIn wsX2_openBack (wsX4_aim) := ggX2_openBack_X4_aim
theorem dX2_openBack_0 : decode cX2_openBack 0 = .ok (.aload_n 0, 1) := by decide +kernel
theorem dX2_openBack_1 : decode cX2_openBack 1 = .ok (.iconst (-1), 1) := by decide +kernel
theorem dX2_openBack_2 : decode cX2_openBack 2 = .ok (.putfield 24, 3) := by decide +kernel
theorem dX2_openBack_5 : decode cX2_openBack 5 = .ok (.aload_n 0, 1) := by decide +kernel
theorem dX2_openBack_6 : decode cX2_openBack 6 = .ok (.aload_n 0, 1) := by decide +kernel
theorem dX2_openBack_7 : decode cX2_openBack 7 = .ok (.getfield 46, 3) := by decide +kernel
theorem dX2_openBack_10 : decode cX2_openBack 10 = .ok (.getfield 93, 3) := by decide +kernel
theorem dX2_openBack_13 : decode cX2_openBack 13 = .ok (.aload_n 0, 1) := by decide +kernel
theorem dX2_openBack_14 : decode cX2_openBack 14 = .ok (.getfield 46, 3) := by decide +kernel
theorem dX2_openBack_17 : decode cX2_openBack 17 = .ok (.getfield 57, 3) := by decide +kernel
theorem dX2_openBack_20 : decode cX2_openBack 20 = .ok (.iadd, 1) := by decide +kernel
theorem dX2_openBack_21 : decode cX2_openBack 21 = .ok (.iconst 1, 1) := by decide +kernel
theorem dX2_openBack_22 : decode cX2_openBack 22 = .ok (.isub, 1) := by decide +kernel
theorem dX2_openBack_23 : decode cX2_openBack 23 = .ok (.putfield 20, 3) := by decide +kernel
theorem dX2_openBack_26 : decode cX2_openBack 26 = .ok (.aload_n 0, 1) := by decide +kernel
theorem dX2_openBack_27 : decode cX2_openBack 27 = .ok (.aload_n 0, 1) := by decide +kernel
theorem dX2_openBack_28 : decode cX2_openBack 28 = .ok (.getfield 46, 3) := by decide +kernel
theorem dX2_openBack_31 : decode cX2_openBack 31 = .ok (.invokevirtual 96, 3) := by decide +kernel
theorem dX2_openBack_34 : decode cX2_openBack 34 = .ok (.aload_n 0, 1) := by decide +kernel
theorem dX2_openBack_35 : decode cX2_openBack 35 = .ok (.getfield 42, 3) := by decide +kernel
theorem dX2_openBack_38 : decode cX2_openBack 38 = .ok (.aload_n 0, 1) := by decide +kernel
theorem dX2_openBack_39 : decode cX2_openBack 39 = .ok (.getfield 27, 3) := by decide +kernel
theorem dX2_openBack_42 : decode cX2_openBack 42 = .ok (.aload_n 0, 1) := by decide +kernel
theorem dX2_openBack_43 : decode cX2_openBack 43 = .ok (.getfield 42, 3) := by decide +kernel
theorem dX2_openBack_46 : decode cX2_openBack 46 = .ok (.getfield 93, 3) := by decide +kernel
theorem dX2_openBack_49 : decode cX2_openBack 49 = .ok (.aload_n 0, 1) := by decide +kernel
theorem dX2_openBack_50 : decode cX2_openBack 50 = .ok (.getfield 42, 3) := by decide +kernel
theorem dX2_openBack_53 : decode cX2_openBack 53 = .ok (.getfield 57, 3) := by decide +kernel
theorem dX2_openBack_56 : decode cX2_openBack 56 = .ok (.iadd, 1) := by decide +kernel
theorem dX2_openBack_57 : decode cX2_openBack 57 = .ok (.iconst 1, 1) := by decide +kernel
theorem dX2_openBack_58 : decode cX2_openBack 58 = .ok (.isub, 1) := by decide +kernel
theorem dX2_openBack_59 : decode cX2_openBack 59 = .ok (.iconst (-1), 1) := by decide +kernel
theorem dX2_openBack_60 : decode cX2_openBack 60 = .ok (.aload_n 0, 1) := by decide +kernel
theorem dX2_openBack_61 : decode cX2_openBack 61 = .ok (.getfield 42, 3) := by decide +kernel
theorem dX2_openBack_64 : decode cX2_openBack 64 = .ok (.getfield 57, 3) := by decide +kernel
theorem dX2_openBack_67 : decode cX2_openBack 67 = .ok (.invokevirtual 76, 3) := by decide +kernel
theorem dX2_openBack_70 : decode cX2_openBack 70 = .ok (.aload_n 0, 1) := by decide +kernel
theorem dX2_openBack_71 : decode cX2_openBack 71 = .ok (.getfield 46, 3) := by decide +kernel
theorem dX2_openBack_74 : decode cX2_openBack 74 = .ok (.aload_n 0, 1) := by decide +kernel
theorem dX2_openBack_75 : decode cX2_openBack 75 = .ok (.getfield 14, 3) := by decide +kernel
theorem dX2_openBack_78 : decode cX2_openBack 78 = .ok (.aload_n 0, 1) := by decide +kernel
theorem dX2_openBack_79 : decode cX2_openBack 79 = .ok (.getfield 46, 3) := by decide +kernel
theorem dX2_openBack_82 : decode cX2_openBack 82 = .ok (.getfield 57, 3) := by decide +kernel
theorem dX2_openBack_85 : decode cX2_openBack 85 = .ok (.iconst 1, 1) := by decide +kernel
theorem dX2_openBack_86 : decode cX2_openBack 86 = .ok (.isub, 1) := by decide +kernel
theorem dX2_openBack_87 : decode cX2_openBack 87 = .ok (.iconst (-1), 1) := by decide +kernel
theorem dX2_openBack_88 : decode cX2_openBack 88 = .ok (.aload_n 0, 1) := by decide +kernel
theorem dX2_openBack_89 : decode cX2_openBack 89 = .ok (.getfield 46, 3) := by decide +kernel
theorem dX2_openBack_92 : decode cX2_openBack 92 = .ok (.getfield 57, 3) := by decide +kernel
theorem dX2_openBack_95 : decode cX2_openBack 95 = .ok (.invokevirtual 76, 3) := by decide +kernel
theorem dX2_openBack_98 : decode cX2_openBack 98 = .ok (.return_, 1) := by decide +kernel
set_option maxRecDepth 20000 in
theorem ggX2_bringIntoRoom_X4_ahead : GoodIn wsX2_bringIntoRoom wsX4_ahead := goodIn_r _ [6, 7, 8, 9, 10, 11, 12, 13, 14, 24, 25, 26, 27, 36] (by decide +kernel) (by decide +kernel)
set_option maxRecDepth 20000 in
theorem gX2_bringIntoRoom_X4_ahead_n80 : GoodIn wsX2_bringIntoRoom (wsX4_ahead) := ggX2_bringIntoRoom_X4_ahead
set_option maxRecDepth 20000 in
theorem ggX2_bringIntoRoom_X0_fill : GoodIn wsX2_bringIntoRoom wsX0_fill := goodIn_r _ [17, 14, 36] (by decide +kernel) (by decide +kernel)
set_option maxRecDepth 20000 in
theorem gX2_bringIntoRoom_X0_fill_n100 : GoodIn wsX2_bringIntoRoom (wsX0_fill) := ggX2_bringIntoRoom_X0_fill
set_option maxRecDepth 20000 in
theorem ggX2_bringIntoRoom_X0_add : GoodIn wsX2_bringIntoRoom wsX0_add := goodIn_r _ [20, 14, 36] (by decide +kernel) (by decide +kernel)
set_option maxRecDepth 20000 in
theorem gX2_bringIntoRoom_X0_add_n104 : GoodIn wsX2_bringIntoRoom (wsX0_add) := ggX2_bringIntoRoom_X0_add
set_option maxRecDepth 20000 in
theorem ggX2_bringIntoRoom_X0_raise : GoodIn wsX2_bringIntoRoom wsX0_raise := goodIn_r _ [23, 14, 36] (by decide +kernel) (by decide +kernel)
set_option maxRecDepth 20000 in
theorem gX2_bringIntoRoom_X0_raise_n107 : GoodIn wsX2_bringIntoRoom (wsX0_raise) := ggX2_bringIntoRoom_X0_raise
theorem dX2_bringIntoRoom_0 : decode cX2_bringIntoRoom 0 = .ok (.iconst 0, 1) := by decide +kernel
theorem dX2_bringIntoRoom_1 : decode cX2_bringIntoRoom 1 = .ok (.istore_n 2, 1) := by decide +kernel
theorem dX2_bringIntoRoom_2 : decode cX2_bringIntoRoom 2 = .ok (.iload_n 2, 1) := by decide +kernel
theorem dX2_bringIntoRoom_3 : decode cX2_bringIntoRoom 3 = .ok (.aload_n 1, 1) := by decide +kernel
theorem dX2_bringIntoRoom_4 : decode cX2_bringIntoRoom 4 = .ok (.getfield 57, 3) := by decide +kernel
theorem dX2_bringIntoRoom_7 : decode cX2_bringIntoRoom 7 = .ok (.if_icmp .ge 22, 3) := by decide +kernel
theorem dX2_bringIntoRoom_10 : decode cX2_bringIntoRoom 10 = .ok (.aload_n 0, 1) := by decide +kernel
theorem dX2_bringIntoRoom_11 : decode cX2_bringIntoRoom 11 = .ok (.getfield 14, 3) := by decide +kernel
theorem dX2_bringIntoRoom_14 : decode cX2_bringIntoRoom 14 = .ok (.iload_n 2, 1) := by decide +kernel
theorem dX2_bringIntoRoom_15 : decode cX2_bringIntoRoom 15 = .ok (.aload_n 1, 1) := by decide +kernel
theorem dX2_bringIntoRoom_16 : decode cX2_bringIntoRoom 16 = .ok (.iload_n 2, 1) := by decide +kernel
theorem dX2_bringIntoRoom_17 : decode cX2_bringIntoRoom 17 = .ok (.invokevirtual 80, 3) := by decide +kernel
theorem dX2_bringIntoRoom_20 : decode cX2_bringIntoRoom 20 = .ok (.invokevirtual 100, 3) := by decide +kernel
theorem dX2_bringIntoRoom_23 : decode cX2_bringIntoRoom 23 = .ok (.iinc 2 1, 3) := by decide +kernel
theorem dX2_bringIntoRoom_26 : decode cX2_bringIntoRoom 26 = .ok (.goto (-24), 3) := by decide +kernel
theorem dX2_bringIntoRoom_29 : decode cX2_bringIntoRoom 29 = .ok (.aload_n 0, 1) := by decide +kernel
theorem dX2_bringIntoRoom_30 : decode cX2_bringIntoRoom 30 = .ok (.getfield 30, 3) := by decide +kernel
theorem dX2_bringIntoRoom_33 : decode cX2_bringIntoRoom 33 = .ok (.iconst 1, 1) := by decide +kernel
theorem dX2_bringIntoRoom_34 : decode cX2_bringIntoRoom 34 = .ok (.aload_n 1, 1) := by decide +kernel
theorem dX2_bringIntoRoom_35 : decode cX2_bringIntoRoom 35 = .ok (.getfield 57, 3) := by decide +kernel
theorem dX2_bringIntoRoom_38 : decode cX2_bringIntoRoom 38 = .ok (.invokevirtual 104, 3) := by decide +kernel
theorem dX2_bringIntoRoom_41 : decode cX2_bringIntoRoom 41 = .ok (.aload_n 0, 1) := by decide +kernel
theorem dX2_bringIntoRoom_42 : decode cX2_bringIntoRoom 42 = .ok (.getfield 30, 3) := by decide +kernel
theorem dX2_bringIntoRoom_45 : decode cX2_bringIntoRoom 45 = .ok (.bipush 7, 2) := by decide +kernel
theorem dX2_bringIntoRoom_47 : decode cX2_bringIntoRoom 47 = .ok (.aload_n 1, 1) := by decide +kernel
theorem dX2_bringIntoRoom_48 : decode cX2_bringIntoRoom 48 = .ok (.getfield 57, 3) := by decide +kernel
theorem dX2_bringIntoRoom_51 : decode cX2_bringIntoRoom 51 = .ok (.invokevirtual 107, 3) := by decide +kernel
theorem dX2_bringIntoRoom_54 : decode cX2_bringIntoRoom 54 = .ok (.return_, 1) := by decide +kernel
set_option maxRecDepth 20000 in
theorem ggX2_take_X4_ahead : GoodIn wsX2_take wsX4_ahead := goodIn_r _ [8, 9, 10, 11, 12, 13, 14, 15, 16, 35, 36, 37, 38, 39] (by decide +kernel) (by decide +kernel)
set_option maxRecDepth 20000 in
theorem gX2_take_X4_ahead_n80 : GoodIn wsX2_take (wsX4_ahead) := ggX2_take_X4_ahead
set_option maxRecDepth 20000 in
theorem ggX2_take_X0_fill : GoodIn wsX2_take wsX0_fill := goodIn_r _ [19, 16, 39] (by decide +kernel) (by decide +kernel)
set_option maxRecDepth 20000 in
theorem gX2_take_X0_fill_n100 : GoodIn wsX2_take (wsX0_fill) := ggX2_take_X0_fill
set_option maxRecDepth 20000 in
theorem ggX2_take_X4_drop : GoodIn wsX2_take wsX4_drop := goodIn_r _ [22, 10, 11, 23, 35, 36, 37, 38] (by decide +kernel) (by decide +kernel)
set_option maxRecDepth 20000 in
theorem gX2_take_X4_drop_n90 : GoodIn wsX2_take (wsX4_drop) := ggX2_take_X4_drop
set_option maxRecDepth 20000 in
theorem ggX2_take_X0_add : GoodIn wsX2_take wsX0_add := goodIn_r _ [26, 16, 39] (by decide +kernel) (by decide +kernel)
set_option maxRecDepth 20000 in
theorem gX2_take_X0_add_n104 : GoodIn wsX2_take (wsX0_add) := ggX2_take_X0_add
theorem dX2_take_0 : decode cX2_take 0 = .ok (.iconst 0, 1) := by decide +kernel
theorem dX2_take_1 : decode cX2_take 1 = .ok (.istore_n 3, 1) := by decide +kernel
theorem dX2_take_2 : decode cX2_take 2 = .ok (.iload_n 3, 1) := by decide +kernel
theorem dX2_take_3 : decode cX2_take 3 = .ok (.iload_n 2, 1) := by decide +kernel
theorem dX2_take_4 : decode cX2_take 4 = .ok (.if_icmp .ge 43, 3) := by decide +kernel
theorem dX2_take_7 : decode cX2_take 7 = .ok (.aload_n 0, 1) := by decide +kernel
theorem dX2_take_8 : decode cX2_take 8 = .ok (.getfield 27, 3) := by decide +kernel
theorem dX2_take_11 : decode cX2_take 11 = .ok (.aload_n 0, 1) := by decide +kernel
theorem dX2_take_12 : decode cX2_take 12 = .ok (.getfield 20, 3) := by decide +kernel
theorem dX2_take_15 : decode cX2_take 15 = .ok (.aload_n 1, 1) := by decide +kernel
theorem dX2_take_16 : decode cX2_take 16 = .ok (.iconst 0, 1) := by decide +kernel
theorem dX2_take_17 : decode cX2_take 17 = .ok (.invokevirtual 80, 3) := by decide +kernel
theorem dX2_take_20 : decode cX2_take 20 = .ok (.invokevirtual 100, 3) := by decide +kernel
theorem dX2_take_23 : decode cX2_take 23 = .ok (.aload_n 1, 1) := by decide +kernel
theorem dX2_take_24 : decode cX2_take 24 = .ok (.iconst 1, 1) := by decide +kernel
theorem dX2_take_25 : decode cX2_take 25 = .ok (.invokevirtual 90, 3) := by decide +kernel
theorem dX2_take_28 : decode cX2_take 28 = .ok (.aload_n 0, 1) := by decide +kernel
theorem dX2_take_29 : decode cX2_take 29 = .ok (.dup, 1) := by decide +kernel
theorem dX2_take_30 : decode cX2_take 30 = .ok (.getfield 20, 3) := by decide +kernel
theorem dX2_take_33 : decode cX2_take 33 = .ok (.aload_n 0, 1) := by decide +kernel
theorem dX2_take_34 : decode cX2_take 34 = .ok (.getfield 24, 3) := by decide +kernel
theorem dX2_take_37 : decode cX2_take 37 = .ok (.iadd, 1) := by decide +kernel
theorem dX2_take_38 : decode cX2_take 38 = .ok (.putfield 20, 3) := by decide +kernel
theorem dX2_take_41 : decode cX2_take 41 = .ok (.iinc 3 1, 3) := by decide +kernel
theorem dX2_take_44 : decode cX2_take 44 = .ok (.goto (-42), 3) := by decide +kernel
theorem dX2_take_47 : decode cX2_take 47 = .ok (.aload_n 0, 1) := by decide +kernel
theorem dX2_take_48 : decode cX2_take 48 = .ok (.getfield 30, 3) := by decide +kernel
theorem dX2_take_51 : decode cX2_take 51 = .ok (.iconst 1, 1) := by decide +kernel
theorem dX2_take_52 : decode cX2_take 52 = .ok (.iload_n 2, 1) := by decide +kernel
theorem dX2_take_53 : decode cX2_take 53 = .ok (.invokevirtual 104, 3) := by decide +kernel
theorem dX2_take_56 : decode cX2_take 56 = .ok (.return_, 1) := by decide +kernel
set_option maxRecDepth 20000 in
theorem ggX2_takeSingly_X0_look : GoodIn wsX2_takeSingly wsX0_look := goodIn_r _ [9, 10, 59] (by decide +kernel) (by decide +kernel)
set_option maxRecDepth 20000 in
theorem gX2_takeSingly_X0_look_n110 : GoodIn wsX2_takeSingly (wsX0_look) := ggX2_takeSingly_X0_look
set_option maxRecDepth 20000 in
theorem ggX2_takeSingly_X2_bothAreLeft : GoodIn wsX2_takeSingly wsX2_bothAreLeft := goodIn_r _ [15, 4, 3, 51, 52, 53, 54, 55, 56, 57, 58, 60, 61, 62, 63] (by decide +kernel) (by decide +kernel)
set_option maxRecDepth 20000 in
theorem gX2_takeSingly_X2_bothAreLeft : GoodIn wsX2_takeSingly (wsV RX2 53 RX2 yX2_bothAreLeft wsX2_bothAreLeft) := goodIn_app (goodIn_of _ (by decide +kernel)) ggX2_takeSingly_X2_bothAreLeft
set_option maxRecDepth 20000 in
theorem ggX2_takeSingly_X4_ahead : GoodIn wsX2_takeSingly wsX4_ahead := goodIn_r _ [19, 20, 21, 22, 6, 7, 8, 9, 10, 60, 61, 62, 63, 59] (by decide +kernel) (by decide +kernel)
set_option maxRecDepth 20000 in
theorem gX2_takeSingly_X4_ahead_n80 : GoodIn wsX2_takeSingly (wsX4_ahead) := ggX2_takeSingly_X4_ahead
set_option maxRecDepth 20000 in
theorem ggX2_takeSingly_X1_isLess : GoodIn wsX2_takeSingly wsX1_isLess := goodIn_r _ [26, 27, 28, 29, 7, 30, 31, 10, 32, 33, 34, 35, 36, 37, 64, 65, 59] (by decide +kernel) (by decide +kernel)
set_option maxRecDepth 20000 in
theorem gX2_takeSingly_X1_isLess_n113 : GoodIn wsX2_takeSingly (wsX1_isLess) := ggX2_takeSingly_X1_isLess
set_option maxRecDepth 20000 in
theorem ggX2_takeSingly_X2_take : GoodIn wsX2_takeSingly wsX2_take := goodIn_r _ [41, 42, 43, 5, 1, 16, 17, 18, 19, 20, 21, 22, 6, 7, 8, 9, 10, 44, 45, 46, 47, 48, 49, 50, 29, 30, 31, 51, 52, 53, 54, 55, 56, 57, 58, 60, 61, 62, 63, 59] (by decide +kernel) (by decide +kernel)
set_option maxRecDepth 20000 in
theorem gX2_takeSingly_X2_take : GoodIn wsX2_takeSingly (wsV RX2 72 RX2 yX2_take wsX2_take) := goodIn_app (goodIn_of _ (by decide +kernel)) ggX2_takeSingly_X2_take
theorem dX2_takeSingly_0 : decode cX2_takeSingly 0 = .ok (.aload_n 0, 1) := by decide +kernel
theorem dX2_takeSingly_1 : decode cX2_takeSingly 1 = .ok (.getfield 30, 3) := by decide +kernel
theorem dX2_takeSingly_4 : decode cX2_takeSingly 4 = .ok (.bipush 10, 2) := by decide +kernel
theorem dX2_takeSingly_6 : decode cX2_takeSingly 6 = .ok (.invokevirtual 110, 3) := by decide +kernel
theorem dX2_takeSingly_9 : decode cX2_takeSingly 9 = .ok (.istore_n 1, 1) := by decide +kernel
theorem dX2_takeSingly_10 : decode cX2_takeSingly 10 = .ok (.iconst 0, 1) := by decide +kernel
theorem dX2_takeSingly_11 : decode cX2_takeSingly 11 = .ok (.istore_n 2, 1) := by decide +kernel
theorem dX2_takeSingly_12 : decode cX2_takeSingly 12 = .ok (.iconst 0, 1) := by decide +kernel
theorem dX2_takeSingly_13 : decode cX2_takeSingly 13 = .ok (.istore_n 3, 1) := by decide +kernel
theorem dX2_takeSingly_14 : decode cX2_takeSingly 14 = .ok (.iconst 0, 1) := by decide +kernel
theorem dX2_takeSingly_15 : decode cX2_takeSingly 15 = .ok (.istore 4, 2) := by decide +kernel
theorem dX2_takeSingly_17 : decode cX2_takeSingly 17 = .ok (.iload 4, 2) := by decide +kernel
theorem dX2_takeSingly_19 : decode cX2_takeSingly 19 = .ok (.bipush 96, 2) := by decide +kernel
theorem dX2_takeSingly_21 : decode cX2_takeSingly 21 = .ok (.if_icmp .ge 108, 3) := by decide +kernel
theorem dX2_takeSingly_24 : decode cX2_takeSingly 24 = .ok (.aload_n 0, 1) := by decide +kernel
theorem dX2_takeSingly_25 : decode cX2_takeSingly 25 = .ok (.invokevirtual 53, 3) := by decide +kernel
theorem dX2_takeSingly_28 : decode cX2_takeSingly 28 = .ok (.ifCond .eq 101, 3) := by decide +kernel
theorem dX2_takeSingly_31 : decode cX2_takeSingly 31 = .ok (.iload_n 2, 1) := by decide +kernel
theorem dX2_takeSingly_32 : decode cX2_takeSingly 32 = .ok (.iload_n 1, 1) := by decide +kernel
theorem dX2_takeSingly_33 : decode cX2_takeSingly 33 = .ok (.if_icmp .ge 96, 3) := by decide +kernel
theorem dX2_takeSingly_36 : decode cX2_takeSingly 36 = .ok (.aload_n 0, 1) := by decide +kernel
theorem dX2_takeSingly_37 : decode cX2_takeSingly 37 = .ok (.getfield 33, 3) := by decide +kernel
theorem dX2_takeSingly_40 : decode cX2_takeSingly 40 = .ok (.aload_n 0, 1) := by decide +kernel
theorem dX2_takeSingly_41 : decode cX2_takeSingly 41 = .ok (.getfield 46, 3) := by decide +kernel
theorem dX2_takeSingly_44 : decode cX2_takeSingly 44 = .ok (.iconst 0, 1) := by decide +kernel
theorem dX2_takeSingly_45 : decode cX2_takeSingly 45 = .ok (.invokevirtual 80, 3) := by decide +kernel
theorem dX2_takeSingly_48 : decode cX2_takeSingly 48 = .ok (.aload_n 0, 1) := by decide +kernel
theorem dX2_takeSingly_49 : decode cX2_takeSingly 49 = .ok (.getfield 42, 3) := by decide +kernel
theorem dX2_takeSingly_52 : decode cX2_takeSingly 52 = .ok (.iconst 0, 1) := by decide +kernel
theorem dX2_takeSingly_53 : decode cX2_takeSingly 53 = .ok (.invokevirtual 80, 3) := by decide +kernel
theorem dX2_takeSingly_56 : decode cX2_takeSingly 56 = .ok (.invokevirtual 113, 3) := by decide +kernel
theorem dX2_takeSingly_59 : decode cX2_takeSingly 59 = .ok (.istore 5, 2) := by decide +kernel
theorem dX2_takeSingly_61 : decode cX2_takeSingly 61 = .ok (.iload 5, 2) := by decide +kernel
theorem dX2_takeSingly_63 : decode cX2_takeSingly 63 = .ok (.aload_n 0, 1) := by decide +kernel
theorem dX2_takeSingly_64 : decode cX2_takeSingly 64 = .ok (.getfield 24, 3) := by decide +kernel
theorem dX2_takeSingly_67 : decode cX2_takeSingly 67 = .ok (.ifCond .ge 7, 3) := by decide +kernel
theorem dX2_takeSingly_70 : decode cX2_takeSingly 70 = .ok (.iconst 1, 1) := by decide +kernel
theorem dX2_takeSingly_71 : decode cX2_takeSingly 71 = .ok (.goto 4, 3) := by decide +kernel
theorem dX2_takeSingly_74 : decode cX2_takeSingly 74 = .ok (.iconst 0, 1) := by decide +kernel
theorem dX2_takeSingly_75 : decode cX2_takeSingly 75 = .ok (.if_icmp .ne 7, 3) := by decide +kernel
theorem dX2_takeSingly_78 : decode cX2_takeSingly 78 = .ok (.iconst 1, 1) := by decide +kernel
theorem dX2_takeSingly_79 : decode cX2_takeSingly 79 = .ok (.goto 4, 3) := by decide +kernel
theorem dX2_takeSingly_82 : decode cX2_takeSingly 82 = .ok (.iconst 0, 1) := by decide +kernel
theorem dX2_takeSingly_83 : decode cX2_takeSingly 83 = .ok (.istore 6, 2) := by decide +kernel
theorem dX2_takeSingly_85 : decode cX2_takeSingly 85 = .ok (.iload 6, 2) := by decide +kernel
theorem dX2_takeSingly_87 : decode cX2_takeSingly 87 = .ok (.iload_n 3, 1) := by decide +kernel
theorem dX2_takeSingly_88 : decode cX2_takeSingly 88 = .ok (.if_icmp .ne 9, 3) := by decide +kernel
theorem dX2_takeSingly_91 : decode cX2_takeSingly 91 = .ok (.iload_n 2, 1) := by decide +kernel
theorem dX2_takeSingly_92 : decode cX2_takeSingly 92 = .ok (.iconst 1, 1) := by decide +kernel
theorem dX2_takeSingly_93 : decode cX2_takeSingly 93 = .ok (.iadd, 1) := by decide +kernel
theorem dX2_takeSingly_94 : decode cX2_takeSingly 94 = .ok (.goto 4, 3) := by decide +kernel
theorem dX2_takeSingly_97 : decode cX2_takeSingly 97 = .ok (.iconst 1, 1) := by decide +kernel
theorem dX2_takeSingly_98 : decode cX2_takeSingly 98 = .ok (.istore_n 2, 1) := by decide +kernel
theorem dX2_takeSingly_99 : decode cX2_takeSingly 99 = .ok (.iload 6, 2) := by decide +kernel
theorem dX2_takeSingly_101 : decode cX2_takeSingly 101 = .ok (.istore_n 3, 1) := by decide +kernel
theorem dX2_takeSingly_102 : decode cX2_takeSingly 102 = .ok (.aload_n 0, 1) := by decide +kernel
theorem dX2_takeSingly_103 : decode cX2_takeSingly 103 = .ok (.iload 6, 2) := by decide +kernel
theorem dX2_takeSingly_105 : decode cX2_takeSingly 105 = .ok (.ifCond .eq 10, 3) := by decide +kernel
theorem dX2_takeSingly_108 : decode cX2_takeSingly 108 = .ok (.aload_n 0, 1) := by decide +kernel
theorem dX2_takeSingly_109 : decode cX2_takeSingly 109 = .ok (.getfield 42, 3) := by decide +kernel
theorem dX2_takeSingly_112 : decode cX2_takeSingly 112 = .ok (.goto 7, 3) := by decide +kernel
theorem dX2_takeSingly_115 : decode cX2_takeSingly 115 = .ok (.aload_n 0, 1) := by decide +kernel
theorem dX2_takeSingly_116 : decode cX2_takeSingly 116 = .ok (.getfield 46, 3) := by decide +kernel
theorem dX2_takeSingly_119 : decode cX2_takeSingly 119 = .ok (.iconst 1, 1) := by decide +kernel
theorem dX2_takeSingly_120 : decode cX2_takeSingly 120 = .ok (.invokevirtual 72, 3) := by decide +kernel
theorem dX2_takeSingly_123 : decode cX2_takeSingly 123 = .ok (.iinc 4 1, 3) := by decide +kernel
theorem dX2_takeSingly_126 : decode cX2_takeSingly 126 = .ok (.goto (-109), 3) := by decide +kernel
theorem dX2_takeSingly_129 : decode cX2_takeSingly 129 = .ok (.iload_n 2, 1) := by decide +kernel
theorem dX2_takeSingly_130 : decode cX2_takeSingly 130 = .ok (.iload_n 1, 1) := by decide +kernel
theorem dX2_takeSingly_131 : decode cX2_takeSingly 131 = .ok (.if_icmp .lt 7, 3) := by decide +kernel
theorem dX2_takeSingly_134 : decode cX2_takeSingly 134 = .ok (.iconst 1, 1) := by decide +kernel
theorem dX2_takeSingly_135 : decode cX2_takeSingly 135 = .ok (.goto 4, 3) := by decide +kernel
theorem dX2_takeSingly_138 : decode cX2_takeSingly 138 = .ok (.iconst 0, 1) := by decide +kernel
theorem dX2_takeSingly_139 : decode cX2_takeSingly 139 = .ok (.ireturn, 1) := by decide +kernel
set_option maxRecDepth 20000 in
theorem ggX2_leapOneRound_X0_add : GoodIn wsX2_leapOneRound wsX0_add := goodIn_r _ [13, 14, 74] (by decide +kernel) (by decide +kernel)
set_option maxRecDepth 20000 in
theorem gX2_leapOneRound_X0_add_n104 : GoodIn wsX2_leapOneRound (wsX0_add) := ggX2_leapOneRound_X0_add
set_option maxRecDepth 20000 in
theorem ggX2_leapOneRound_X4_ahead : GoodIn wsX2_leapOneRound wsX4_ahead := goodIn_r _ [18, 19, 20, 21, 22, 11, 23, 24, 14, 75, 76, 77, 78, 74] (by decide +kernel) (by decide +kernel)
set_option maxRecDepth 20000 in
theorem gX2_leapOneRound_X4_ahead_n80 : GoodIn wsX2_leapOneRound (wsX4_ahead) := ggX2_leapOneRound_X4_ahead
set_option maxRecDepth 20000 in
theorem ggX2_leapOneRound_X1_passing : GoodIn wsX2_leapOneRound wsX1_passing := goodIn_r _ [28, 15, 16, 17, 18, 19, 20, 21, 22, 11, 23, 24, 14, 29, 30, 31, 26, 32, 33, 34, 10, 12, 13, 35, 36, 37, 38, 39, 40, 75, 76, 77, 78, 74, 79, 80] (by decide +kernel) (by decide +kernel)
set_option maxRecDepth 20000 in
theorem gX2_leapOneRound_X1_passing_n84 : GoodIn wsX2_leapOneRound (wsX1_passing) := ggX2_leapOneRound_X1_passing
set_option maxRecDepth 20000 in
theorem ggX2_leapOneRound_X2_take : GoodIn wsX2_leapOneRound wsX2_take := goodIn_r _ [45, 46, 47, 1, 2, 15, 16, 17, 18, 19, 20, 21, 22, 11, 23, 24, 14, 48, 49, 50, 51, 52, 53, 54, 10, 12, 13, 66, 67, 68, 69, 70, 71, 72, 73, 75, 76, 77, 78, 74] (by decide +kernel) (by decide +kernel)
set_option maxRecDepth 20000 in
theorem gX2_leapOneRound_X2_take : GoodIn wsX2_leapOneRound (wsV RX2 72 RX2 yX2_take wsX2_take) := goodIn_app (goodIn_of _ (by decide +kernel)) ggX2_leapOneRound_X2_take
set_option maxRecDepth 20000 in
theorem ggX2_leapOneRound_X2_bothAreLeft : GoodIn wsX2_leapOneRound wsX2_bothAreLeft := goodIn_r _ [58, 4, 5, 66, 67, 68, 69, 70, 71, 72, 73, 75, 76, 77, 78] (by decide +kernel) (by decide +kernel)
set_option maxRecDepth 20000 in
theorem gX2_leapOneRound_X2_bothAreLeft : GoodIn wsX2_leapOneRound (wsV RX2 53 RX2 yX2_bothAreLeft wsX2_bothAreLeft) := goodIn_app (goodIn_of _ (by decide +kernel)) ggX2_leapOneRound_X2_bothAreLeft
set_option maxRecDepth 20000 in
theorem ggX2_leapOneRound_X2_leapsOn : GoodIn wsX2_leapOneRound wsX2_leapsOn := goodIn_r _ [62, 2, 63, 64, 8, 65, 6, 7, 9, 22, 11, 23, 24, 14, 48, 49, 50, 66, 67, 68, 69, 70, 71, 72, 73, 74] (by decide +kernel) (by decide +kernel)
set_option maxRecDepth 20000 in
theorem gX2_leapOneRound_X2_leapsOn : GoodIn wsX2_leapOneRound (wsV RX2 123 RX2 yX2_leapsOn wsX2_leapsOn) := goodIn_app (goodIn_of _ (by decide +kernel)) ggX2_leapOneRound_X2_leapsOn
theorem dX2_leapOneRound_0 : decode cX2_leapOneRound 0 = .ok (.aload_n 0, 1) := by decide +kernel
theorem dX2_leapOneRound_1 : decode cX2_leapOneRound 1 = .ok (.getfield 24, 3) := by decide +kernel
theorem dX2_leapOneRound_4 : decode cX2_leapOneRound 4 = .ok (.ifCond .le 7, 3) := by decide +kernel
theorem dX2_leapOneRound_7 : decode cX2_leapOneRound 7 = .ok (.iconst 1, 1) := by decide +kernel
theorem dX2_leapOneRound_8 : decode cX2_leapOneRound 8 = .ok (.goto 4, 3) := by decide +kernel
theorem dX2_leapOneRound_11 : decode cX2_leapOneRound 11 = .ok (.iconst 0, 1) := by decide +kernel
theorem dX2_leapOneRound_12 : decode cX2_leapOneRound 12 = .ok (.istore_n 1, 1) := by decide +kernel
theorem dX2_leapOneRound_13 : decode cX2_leapOneRound 13 = .ok (.aload_n 0, 1) := by decide +kernel
theorem dX2_leapOneRound_14 : decode cX2_leapOneRound 14 = .ok (.getfield 30, 3) := by decide +kernel
theorem dX2_leapOneRound_17 : decode cX2_leapOneRound 17 = .ok (.bipush 9, 2) := by decide +kernel
theorem dX2_leapOneRound_19 : decode cX2_leapOneRound 19 = .ok (.iconst 1, 1) := by decide +kernel
theorem dX2_leapOneRound_20 : decode cX2_leapOneRound 20 = .ok (.invokevirtual 104, 3) := by decide +kernel
theorem dX2_leapOneRound_23 : decode cX2_leapOneRound 23 = .ok (.aload_n 0, 1) := by decide +kernel
theorem dX2_leapOneRound_24 : decode cX2_leapOneRound 24 = .ok (.getfield 33, 3) := by decide +kernel
theorem dX2_leapOneRound_27 : decode cX2_leapOneRound 27 = .ok (.aload_n 0, 1) := by decide +kernel
theorem dX2_leapOneRound_28 : decode cX2_leapOneRound 28 = .ok (.getfield 42, 3) := by decide +kernel
theorem dX2_leapOneRound_31 : decode cX2_leapOneRound 31 = .ok (.aload_n 0, 1) := by decide +kernel
theorem dX2_leapOneRound_32 : decode cX2_leapOneRound 32 = .ok (.getfield 46, 3) := by decide +kernel
theorem dX2_leapOneRound_35 : decode cX2_leapOneRound 35 = .ok (.iconst 0, 1) := by decide +kernel
theorem dX2_leapOneRound_36 : decode cX2_leapOneRound 36 = .ok (.invokevirtual 80, 3) := by decide +kernel
theorem dX2_leapOneRound_39 : decode cX2_leapOneRound 39 = .ok (.iconst 1, 1) := by decide +kernel
theorem dX2_leapOneRound_40 : decode cX2_leapOneRound 40 = .ok (.iload_n 1, 1) := by decide +kernel
theorem dX2_leapOneRound_41 : decode cX2_leapOneRound 41 = .ok (.ifCond .ne 7, 3) := by decide +kernel
theorem dX2_leapOneRound_44 : decode cX2_leapOneRound 44 = .ok (.iconst 1, 1) := by decide +kernel
theorem dX2_leapOneRound_45 : decode cX2_leapOneRound 45 = .ok (.goto 4, 3) := by decide +kernel
theorem dX2_leapOneRound_48 : decode cX2_leapOneRound 48 = .ok (.iconst 0, 1) := by decide +kernel
theorem dX2_leapOneRound_49 : decode cX2_leapOneRound 49 = .ok (.invokevirtual 84, 3) := by decide +kernel
theorem dX2_leapOneRound_52 : decode cX2_leapOneRound 52 = .ok (.istore_n 2, 1) := by decide +kernel
theorem dX2_leapOneRound_53 : decode cX2_leapOneRound 53 = .ok (.aload_n 0, 1) := by decide +kernel
theorem dX2_leapOneRound_54 : decode cX2_leapOneRound 54 = .ok (.aload_n 0, 1) := by decide +kernel
theorem dX2_leapOneRound_55 : decode cX2_leapOneRound 55 = .ok (.getfield 42, 3) := by decide +kernel
theorem dX2_leapOneRound_58 : decode cX2_leapOneRound 58 = .ok (.iload_n 2, 1) := by decide +kernel
theorem dX2_leapOneRound_59 : decode cX2_leapOneRound 59 = .ok (.invokevirtual 72, 3) := by decide +kernel
theorem dX2_leapOneRound_62 : decode cX2_leapOneRound 62 = .ok (.aload_n 0, 1) := by decide +kernel
theorem dX2_leapOneRound_63 : decode cX2_leapOneRound 63 = .ok (.invokevirtual 53, 3) := by decide +kernel
theorem dX2_leapOneRound_66 : decode cX2_leapOneRound 66 = .ok (.ifCond .ne 5, 3) := by decide +kernel
theorem dX2_leapOneRound_69 : decode cX2_leapOneRound 69 = .ok (.iconst 0, 1) := by decide +kernel
theorem dX2_leapOneRound_70 : decode cX2_leapOneRound 70 = .ok (.ireturn, 1) := by decide +kernel
theorem dX2_leapOneRound_71 : decode cX2_leapOneRound 71 = .ok (.aload_n 0, 1) := by decide +kernel
theorem dX2_leapOneRound_72 : decode cX2_leapOneRound 72 = .ok (.aload_n 0, 1) := by decide +kernel
theorem dX2_leapOneRound_73 : decode cX2_leapOneRound 73 = .ok (.getfield 46, 3) := by decide +kernel
theorem dX2_leapOneRound_76 : decode cX2_leapOneRound 76 = .ok (.iconst 1, 1) := by decide +kernel
theorem dX2_leapOneRound_77 : decode cX2_leapOneRound 77 = .ok (.invokevirtual 72, 3) := by decide +kernel
theorem dX2_leapOneRound_80 : decode cX2_leapOneRound 80 = .ok (.aload_n 0, 1) := by decide +kernel
theorem dX2_leapOneRound_81 : decode cX2_leapOneRound 81 = .ok (.invokevirtual 53, 3) := by decide +kernel
theorem dX2_leapOneRound_84 : decode cX2_leapOneRound 84 = .ok (.ifCond .ne 5, 3) := by decide +kernel
theorem dX2_leapOneRound_87 : decode cX2_leapOneRound 87 = .ok (.iconst 0, 1) := by decide +kernel
theorem dX2_leapOneRound_88 : decode cX2_leapOneRound 88 = .ok (.ireturn, 1) := by decide +kernel
theorem dX2_leapOneRound_89 : decode cX2_leapOneRound 89 = .ok (.aload_n 0, 1) := by decide +kernel
theorem dX2_leapOneRound_90 : decode cX2_leapOneRound 90 = .ok (.getfield 33, 3) := by decide +kernel
theorem dX2_leapOneRound_93 : decode cX2_leapOneRound 93 = .ok (.aload_n 0, 1) := by decide +kernel
theorem dX2_leapOneRound_94 : decode cX2_leapOneRound 94 = .ok (.getfield 46, 3) := by decide +kernel
theorem dX2_leapOneRound_97 : decode cX2_leapOneRound 97 = .ok (.aload_n 0, 1) := by decide +kernel
theorem dX2_leapOneRound_98 : decode cX2_leapOneRound 98 = .ok (.getfield 42, 3) := by decide +kernel
theorem dX2_leapOneRound_101 : decode cX2_leapOneRound 101 = .ok (.iconst 0, 1) := by decide +kernel
theorem dX2_leapOneRound_102 : decode cX2_leapOneRound 102 = .ok (.invokevirtual 80, 3) := by decide +kernel
theorem dX2_leapOneRound_105 : decode cX2_leapOneRound 105 = .ok (.iconst 0, 1) := by decide +kernel
theorem dX2_leapOneRound_106 : decode cX2_leapOneRound 106 = .ok (.iload_n 1, 1) := by decide +kernel
theorem dX2_leapOneRound_107 : decode cX2_leapOneRound 107 = .ok (.invokevirtual 84, 3) := by decide +kernel
theorem dX2_leapOneRound_110 : decode cX2_leapOneRound 110 = .ok (.istore_n 3, 1) := by decide +kernel
theorem dX2_leapOneRound_111 : decode cX2_leapOneRound 111 = .ok (.aload_n 0, 1) := by decide +kernel
theorem dX2_leapOneRound_112 : decode cX2_leapOneRound 112 = .ok (.aload_n 0, 1) := by decide +kernel
theorem dX2_leapOneRound_113 : decode cX2_leapOneRound 113 = .ok (.getfield 46, 3) := by decide +kernel
theorem dX2_leapOneRound_116 : decode cX2_leapOneRound 116 = .ok (.iload_n 3, 1) := by decide +kernel
theorem dX2_leapOneRound_117 : decode cX2_leapOneRound 117 = .ok (.invokevirtual 72, 3) := by decide +kernel
theorem dX2_leapOneRound_120 : decode cX2_leapOneRound 120 = .ok (.aload_n 0, 1) := by decide +kernel
theorem dX2_leapOneRound_121 : decode cX2_leapOneRound 121 = .ok (.invokevirtual 53, 3) := by decide +kernel
theorem dX2_leapOneRound_124 : decode cX2_leapOneRound 124 = .ok (.ifCond .ne 5, 3) := by decide +kernel
theorem dX2_leapOneRound_127 : decode cX2_leapOneRound 127 = .ok (.iconst 0, 1) := by decide +kernel
theorem dX2_leapOneRound_128 : decode cX2_leapOneRound 128 = .ok (.ireturn, 1) := by decide +kernel
theorem dX2_leapOneRound_129 : decode cX2_leapOneRound 129 = .ok (.aload_n 0, 1) := by decide +kernel
theorem dX2_leapOneRound_130 : decode cX2_leapOneRound 130 = .ok (.aload_n 0, 1) := by decide +kernel
theorem dX2_leapOneRound_131 : decode cX2_leapOneRound 131 = .ok (.getfield 42, 3) := by decide +kernel
theorem dX2_leapOneRound_134 : decode cX2_leapOneRound 134 = .ok (.iconst 1, 1) := by decide +kernel
theorem dX2_leapOneRound_135 : decode cX2_leapOneRound 135 = .ok (.invokevirtual 72, 3) := by decide +kernel
theorem dX2_leapOneRound_138 : decode cX2_leapOneRound 138 = .ok (.aload_n 0, 1) := by decide +kernel
theorem dX2_leapOneRound_139 : decode cX2_leapOneRound 139 = .ok (.invokevirtual 53, 3) := by decide +kernel
theorem dX2_leapOneRound_142 : decode cX2_leapOneRound 142 = .ok (.ifCond .eq 19, 3) := by decide +kernel
theorem dX2_leapOneRound_145 : decode cX2_leapOneRound 145 = .ok (.aload_n 0, 1) := by decide +kernel
theorem dX2_leapOneRound_146 : decode cX2_leapOneRound 146 = .ok (.iload_n 2, 1) := by decide +kernel
theorem dX2_leapOneRound_147 : decode cX2_leapOneRound 147 = .ok (.iload_n 3, 1) := by decide +kernel
theorem dX2_leapOneRound_148 : decode cX2_leapOneRound 148 = .ok (.invokestatic 117, 3) := by decide +kernel
theorem dX2_leapOneRound_151 : decode cX2_leapOneRound 151 = .ok (.invokevirtual 123, 3) := by decide +kernel
theorem dX2_leapOneRound_154 : decode cX2_leapOneRound 154 = .ok (.ifCond .eq 7, 3) := by decide +kernel
theorem dX2_leapOneRound_157 : decode cX2_leapOneRound 157 = .ok (.iconst 1, 1) := by decide +kernel
theorem dX2_leapOneRound_158 : decode cX2_leapOneRound 158 = .ok (.goto 4, 3) := by decide +kernel
theorem dX2_leapOneRound_161 : decode cX2_leapOneRound 161 = .ok (.iconst 0, 1) := by decide +kernel
theorem dX2_leapOneRound_162 : decode cX2_leapOneRound 162 = .ok (.ireturn, 1) := by decide +kernel
set_option maxRecDepth 20000 in
theorem ggX2_leapsOn_X0_look : GoodIn wsX2_leapsOn wsX0_look := goodIn_r _ [12, 13, 25] (by decide +kernel) (by decide +kernel)
set_option maxRecDepth 20000 in
theorem gX2_leapsOn_X0_look_n110 : GoodIn wsX2_leapsOn (wsX0_look) := ggX2_leapsOn_X0_look
set_option maxRecDepth 20000 in
theorem ggX2_leapsOn_X0_fill : GoodIn wsX2_leapsOn wsX0_fill := goodIn_r _ [16, 13, 25] (by decide +kernel) (by decide +kernel)
set_option maxRecDepth 20000 in
theorem gX2_leapsOn_X0_fill_n100 : GoodIn wsX2_leapsOn (wsX0_fill) := ggX2_leapsOn_X0_fill
theorem dX2_leapsOn_0 : decode cX2_leapsOn 0 = .ok (.aload_n 0, 1) := by decide +kernel
theorem dX2_leapsOn_1 : decode cX2_leapsOn 1 = .ok (.getfield 30, 3) := by decide +kernel
theorem dX2_leapsOn_4 : decode cX2_leapsOn 4 = .ok (.bipush 10, 2) := by decide +kernel
theorem dX2_leapsOn_6 : decode cX2_leapsOn 6 = .ok (.invokevirtual 110, 3) := by decide +kernel
theorem dX2_leapsOn_9 : decode cX2_leapsOn 9 = .ok (.istore_n 2, 1) := by decide +kernel
theorem dX2_leapsOn_10 : decode cX2_leapsOn 10 = .ok (.iload_n 1, 1) := by decide +kernel
theorem dX2_leapsOn_11 : decode cX2_leapsOn 11 = .ok (.iload_n 2, 1) := by decide +kernel
theorem dX2_leapsOn_12 : decode cX2_leapsOn 12 = .ok (.if_icmp .lt 7, 3) := by decide +kernel
theorem dX2_leapsOn_15 : decode cX2_leapsOn 15 = .ok (.iconst 1, 1) := by decide +kernel
theorem dX2_leapsOn_16 : decode cX2_leapsOn 16 = .ok (.goto 4, 3) := by decide +kernel
theorem dX2_leapsOn_19 : decode cX2_leapsOn 19 = .ok (.iconst 0, 1) := by decide +kernel
theorem dX2_leapsOn_20 : decode cX2_leapsOn 20 = .ok (.istore_n 3, 1) := by decide +kernel
theorem dX2_leapsOn_21 : decode cX2_leapsOn 21 = .ok (.iload_n 3, 1) := by decide +kernel
theorem dX2_leapsOn_22 : decode cX2_leapsOn 22 = .ok (.ifCond .eq 9, 3) := by decide +kernel
theorem dX2_leapsOn_25 : decode cX2_leapsOn 25 = .ok (.iload_n 2, 1) := by decide +kernel
theorem dX2_leapsOn_26 : decode cX2_leapsOn 26 = .ok (.iconst 1, 1) := by decide +kernel
theorem dX2_leapsOn_27 : decode cX2_leapsOn 27 = .ok (.isub, 1) := by decide +kernel
theorem dX2_leapsOn_28 : decode cX2_leapsOn 28 = .ok (.goto 6, 3) := by decide +kernel
theorem dX2_leapsOn_31 : decode cX2_leapsOn 31 = .ok (.iload_n 2, 1) := by decide +kernel
theorem dX2_leapsOn_32 : decode cX2_leapsOn 32 = .ok (.iconst 1, 1) := by decide +kernel
theorem dX2_leapsOn_33 : decode cX2_leapsOn 33 = .ok (.iadd, 1) := by decide +kernel
theorem dX2_leapsOn_34 : decode cX2_leapsOn 34 = .ok (.istore 4, 2) := by decide +kernel
theorem dX2_leapsOn_36 : decode cX2_leapsOn 36 = .ok (.aload_n 0, 1) := by decide +kernel
theorem dX2_leapsOn_37 : decode cX2_leapsOn 37 = .ok (.getfield 30, 3) := by decide +kernel
theorem dX2_leapsOn_40 : decode cX2_leapsOn 40 = .ok (.bipush 10, 2) := by decide +kernel
theorem dX2_leapsOn_42 : decode cX2_leapsOn 42 = .ok (.getstatic 127, 3) := by decide +kernel
theorem dX2_leapsOn_45 : decode cX2_leapsOn 45 = .ok (.iconst 3, 1) := by decide +kernel
theorem dX2_leapsOn_46 : decode cX2_leapsOn 46 = .ok (.iaload, 1) := by decide +kernel
theorem dX2_leapsOn_47 : decode cX2_leapsOn 47 = .ok (.getstatic 131, 3) := by decide +kernel
theorem dX2_leapsOn_50 : decode cX2_leapsOn 50 = .ok (.iconst 3, 1) := by decide +kernel
theorem dX2_leapsOn_51 : decode cX2_leapsOn 51 = .ok (.iaload, 1) := by decide +kernel
theorem dX2_leapsOn_52 : decode cX2_leapsOn 52 = .ok (.iload 4, 2) := by decide +kernel
theorem dX2_leapsOn_54 : decode cX2_leapsOn 54 = .ok (.invokestatic 134, 3) := by decide +kernel
theorem dX2_leapsOn_57 : decode cX2_leapsOn 57 = .ok (.invokestatic 117, 3) := by decide +kernel
theorem dX2_leapsOn_60 : decode cX2_leapsOn 60 = .ok (.invokevirtual 100, 3) := by decide +kernel
theorem dX2_leapsOn_63 : decode cX2_leapsOn 63 = .ok (.iload_n 3, 1) := by decide +kernel
theorem dX2_leapsOn_64 : decode cX2_leapsOn 64 = .ok (.ireturn, 1) := by decide +kernel
set_option maxRecDepth 20000 in
theorem ggX3_init_X0_init : GoodIn wsX3_init wsX0_init := goodIn_r _ [26, 27, 2, 3, 28, 29, 30, 31, 32, 33, 61] (by decide +kernel) (by decide +kernel)
set_option maxRecDepth 20000 in
theorem gX3_init_X0_init_n11 : GoodIn wsX3_init (wsX0_init) := ggX3_init_X0_init
set_option maxRecDepth 20000 in
theorem ggX3_init_X1_init : GoodIn wsX3_init wsX1_init := goodIn_r _ [35, 36, 2, 3, 37, 38, 74, 75] (by decide +kernel) (by decide +kernel)
set_option maxRecDepth 20000 in
theorem gX3_init_X1_init_n31 : GoodIn wsX3_init (wsX1_init) := ggX3_init_X1_init
set_option maxRecDepth 20000 in
theorem ggX3_init_X2_init : GoodIn wsX3_init wsX2_init := goodIn_r _ [40, 41, 2, 3, 42, 5, 6, 43, 44, 45, 46, 47, 48, 49, 50, 51, 52, 53, 25, 26, 27, 28, 29, 30, 31, 32, 33, 54, 55, 56, 57, 58, 59, 60, 61, 76, 77, 78, 79, 80, 81, 82, 83, 84, 85, 86, 87] (by decide +kernel) (by decide +kernel)
set_option maxRecDepth 20000 in
theorem gX3_init_X2_init_n40 : GoodIn wsX3_init (wsX2_init) := ggX3_init_X2_init
