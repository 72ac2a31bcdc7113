theorem dX5_init_0 : decode cX5_init 0 = .ok (.aload_n 0, 1) := by decide +kernel
theorem dX5_init_1 : decode cX5_init 1 = .ok (.invokespecial 1, 3) := by decide +kernel
theorem dX5_init_4 : decode cX5_init 4 = .ok (.aload_n 0, 1) := by decide +kernel
theorem dX5_init_5 : decode cX5_init 5 = .ok (.new 7, 3) := by decide +kernel
theorem dX5_init_8 : decode cX5_init 8 = .ok (.dup, 1) := by decide +kernel
theorem dX5_init_9 : decode cX5_init 9 = .ok (.sipush 200, 3) := by decide +kernel
theorem dX5_init_12 : decode cX5_init 12 = .ok (.invokespecial 11, 3) := by decide +kernel
theorem dX5_init_15 : decode cX5_init 15 = .ok (.putfield 14, 3) := by decide +kernel
theorem dX5_init_18 : decode cX5_init 18 = .ok (.aload_n 0, 1) := by decide +kernel
theorem dX5_init_19 : decode cX5_init 19 = .ok (.iconst 0, 1) := by decide +kernel
theorem dX5_init_20 : decode cX5_init 20 = .ok (.putfield 18, 3) := by decide +kernel
theorem dX5_init_23 : decode cX5_init 23 = .ok (.aload_n 0, 1) := by decide +kernel
theorem dX5_init_24 : decode cX5_init 24 = .ok (.new 7, 3) := by decide +kernel
theorem dX5_init_27 : decode cX5_init 27 = .ok (.dup, 1) := by decide +kernel
theorem dX5_init_28 : decode cX5_init 28 = .ok (.bipush 96, 2) := by decide +kernel
theorem dX5_init_30 : decode cX5_init 30 = .ok (.invokespecial 11, 3) := by decide +kernel
theorem dX5_init_33 : decode cX5_init 33 = .ok (.putfield 22, 3) := by decide +kernel
theorem dX5_init_36 : decode cX5_init 36 = .ok (.aload_n 0, 1) := by decide +kernel
theorem dX5_init_37 : decode cX5_init 37 = .ok (.iconst 0, 1) := by decide +kernel
theorem dX5_init_38 : decode cX5_init 38 = .ok (.putfield 25, 3) := by decide +kernel
theorem dX5_init_41 : decode cX5_init 41 = .ok (.aload_n 0, 1) := by decide +kernel
theorem dX5_init_42 : decode cX5_init 42 = .ok (.new 7, 3) := by decide +kernel
theorem dX5_init_45 : decode cX5_init 45 = .ok (.dup, 1) := by decide +kernel
theorem dX5_init_46 : decode cX5_init 46 = .ok (.iconst 4, 1) := by decide +kernel
theorem dX5_init_47 : decode cX5_init 47 = .ok (.invokespecial 11, 3) := by decide +kernel
theorem dX5_init_50 : decode cX5_init 50 = .ok (.putfield 28, 3) := by decide +kernel
theorem dX5_init_53 : decode cX5_init 53 = .ok (.aload_n 0, 1) := by decide +kernel
theorem dX5_init_54 : decode cX5_init 54 = .ok (.new 31, 3) := by decide +kernel
theorem dX5_init_57 : decode cX5_init 57 = .ok (.dup, 1) := by decide +kernel
theorem dX5_init_58 : decode cX5_init 58 = .ok (.invokespecial 33, 3) := by decide +kernel
theorem dX5_init_61 : decode cX5_init 61 = .ok (.putfield 34, 3) := by decide +kernel
theorem dX5_init_64 : decode cX5_init 64 = .ok (.aload_n 0, 1) := by decide +kernel
theorem dX5_init_65 : decode cX5_init 65 = .ok (.new 31, 3) := by decide +kernel
theorem dX5_init_68 : decode cX5_init 68 = .ok (.dup, 1) := by decide +kernel
theorem dX5_init_69 : decode cX5_init 69 = .ok (.invokespecial 33, 3) := by decide +kernel
theorem dX5_init_72 : decode cX5_init 72 = .ok (.putfield 38, 3) := by decide +kernel
theorem dX5_init_75 : decode cX5_init 75 = .ok (.aload_n 0, 1) := by decide +kernel
theorem dX5_init_76 : decode cX5_init 76 = .ok (.new 41, 3) := by decide +kernel
theorem dX5_init_79 : decode cX5_init 79 = .ok (.dup, 1) := by decide +kernel
theorem dX5_init_80 : decode cX5_init 80 = .ok (.new 7, 3) := by decide +kernel
theorem dX5_init_83 : decode cX5_init 83 = .ok (.dup, 1) := by decide +kernel
theorem dX5_init_84 : decode cX5_init 84 = .ok (.bipush 12, 2) := by decide +kernel
theorem dX5_init_86 : decode cX5_init 86 = .ok (.invokespecial 11, 3) := by decide +kernel
theorem dX5_init_89 : decode cX5_init 89 = .ok (.invokespecial 43, 3) := by decide +kernel
theorem dX5_init_92 : decode cX5_init 92 = .ok (.putfield 46, 3) := by decide +kernel
theorem dX5_init_95 : decode cX5_init 95 = .ok (.aload_n 0, 1) := by decide +kernel
theorem dX5_init_96 : decode cX5_init 96 = .ok (.new 50, 3) := by decide +kernel
theorem dX5_init_99 : decode cX5_init 99 = .ok (.dup, 1) := by decide +kernel
theorem dX5_init_100 : decode cX5_init 100 = .ok (.aload_n 0, 1) := by decide +kernel
theorem dX5_init_101 : decode cX5_init 101 = .ok (.getfield 22, 3) := by decide +kernel
theorem dX5_init_104 : decode cX5_init 104 = .ok (.invokespecial 52, 3) := by decide +kernel
theorem dX5_init_107 : decode cX5_init 107 = .ok (.putfield 53, 3) := by decide +kernel
theorem dX5_init_110 : decode cX5_init 110 = .ok (.aload_n 0, 1) := by decide +kernel
theorem dX5_init_111 : decode cX5_init 111 = .ok (.getfield 28, 3) := by decide +kernel
theorem dX5_init_114 : decode cX5_init 114 = .ok (.iconst 2, 1) := by decide +kernel
theorem dX5_init_115 : decode cX5_init 115 = .ok (.iconst 4, 1) := by decide +kernel
theorem dX5_init_116 : decode cX5_init 116 = .ok (.invokevirtual 57, 3) := by decide +kernel
theorem dX5_init_119 : decode cX5_init 119 = .ok (.aload_n 0, 1) := by decide +kernel
theorem dX5_init_120 : decode cX5_init 120 = .ok (.getfield 28, 3) := by decide +kernel
theorem dX5_init_123 : decode cX5_init 123 = .ok (.iconst 3, 1) := by decide +kernel
theorem dX5_init_124 : decode cX5_init 124 = .ok (.iconst 3, 1) := by decide +kernel
theorem dX5_init_125 : decode cX5_init 125 = .ok (.invokevirtual 57, 3) := by decide +kernel
theorem dX5_init_128 : decode cX5_init 128 = .ok (.iconst 0, 1) := by decide +kernel
theorem dX5_init_129 : decode cX5_init 129 = .ok (.istore_n 1, 1) := by decide +kernel
theorem dX5_init_130 : decode cX5_init 130 = .ok (.iload_n 1, 1) := by decide +kernel
theorem dX5_init_131 : decode cX5_init 131 = .ok (.ldc 61, 2) := by decide +kernel
theorem dX5_init_133 : decode cX5_init 133 = .ok (.invokevirtual 63, 3) := by decide +kernel
theorem dX5_init_136 : decode cX5_init 136 = .ok (.if_icmp .ge 30, 3) := by decide +kernel
theorem dX5_init_139 : decode cX5_init 139 = .ok (.aload_n 0, 1) := by decide +kernel
theorem dX5_init_140 : decode cX5_init 140 = .ok (.getfield 22, 3) := by decide +kernel
theorem dX5_init_143 : decode cX5_init 143 = .ok (.iload_n 1, 1) := by decide +kernel
theorem dX5_init_144 : decode cX5_init 144 = .ok (.ldc 61, 2) := by decide +kernel
theorem dX5_init_146 : decode cX5_init 146 = .ok (.iload_n 1, 1) := by decide +kernel
theorem dX5_init_147 : decode cX5_init 147 = .ok (.invokevirtual 69, 3) := by decide +kernel
theorem dX5_init_150 : decode cX5_init 150 = .ok (.bipush 97, 2) := by decide +kernel
theorem dX5_init_152 : decode cX5_init 152 = .ok (.isub, 1) := by decide +kernel
theorem dX5_init_153 : decode cX5_init 153 = .ok (.iload_n 1, 1) := by decide +kernel
theorem dX5_init_154 : decode cX5_init 154 = .ok (.invokestatic 73, 3) := by decide +kernel
theorem dX5_init_157 : decode cX5_init 157 = .ok (.invokevirtual 57, 3) := by decide +kernel
theorem dX5_init_160 : decode cX5_init 160 = .ok (.iinc 1 1, 3) := by decide +kernel
theorem dX5_init_163 : decode cX5_init 163 = .ok (.goto (-33), 3) := by decide +kernel
theorem dX5_init_166 : decode cX5_init 166 = .ok (.aload_n 0, 1) := by decide +kernel
theorem dX5_init_167 : decode cX5_init 167 = .ok (.ldc 61, 2) := by decide +kernel
theorem dX5_init_169 : decode cX5_init 169 = .ok (.invokevirtual 63, 3) := by decide +kernel
theorem dX5_init_172 : decode cX5_init 172 = .ok (.putfield 25, 3) := by decide +kernel
theorem dX5_init_175 : decode cX5_init 175 = .ok (.aload_n 0, 1) := by decide +kernel
theorem dX5_init_176 : decode cX5_init 176 = .ok (.invokevirtual 77, 3) := by decide +kernel
theorem dX5_init_179 : decode cX5_init 179 = .ok (.return_, 1) := by decide +kernel
set_option maxRecDepth 20000 in
theorem ggX5_write_X5_isOutside : GoodIn wsX5_write wsX5_isOutside := goodIn_r _ [6] (by decide +kernel) (by decide +kernel)
set_option maxRecDepth 20000 in
theorem gX5_write_X5_isOutside : GoodIn wsX5_write (va_wsS RX5 80 yX5_isOutside wsX5_isOutside) := goodIn_app (goodIn_of _ (by decide +kernel)) ggX5_write_X5_isOutside
set_option maxRecDepth 20000 in
theorem ggX5_write_X0_fill : GoodIn wsX5_write wsX0_fill := goodIn_r _ [10, 11, 21] (by decide +kernel) (by decide +kernel)
set_option maxRecDepth 20000 in
theorem gX5_write_X0_fill_n57 : GoodIn wsX5_write (wsX0_fill) := ggX5_write_X0_fill
theorem dX5_write_0 : decode cX5_write 0 = .ok (.iload_n 1, 1) := by decide +kernel
theorem dX5_write_1 : decode cX5_write 1 = .ok (.bipush 32, 2) := by decide +kernel
theorem dX5_write_3 : decode cX5_write 3 = .ok (.bipush 126, 2) := by decide +kernel
theorem dX5_write_5 : decode cX5_write 5 = .ok (.invokestatic 80, 3) := by decide +kernel
theorem dX5_write_8 : decode cX5_write 8 = .ok (.ifCond .eq 5, 3) := by decide +kernel
theorem dX5_write_11 : decode cX5_write 11 = .ok (.iconst (-1), 1) := by decide +kernel
theorem dX5_write_12 : decode cX5_write 12 = .ok (.ireturn, 1) := by decide +kernel
theorem dX5_write_13 : decode cX5_write 13 = .ok (.aload_n 0, 1) := by decide +kernel
theorem dX5_write_14 : decode cX5_write 14 = .ok (.getfield 18, 3) := by decide +kernel
theorem dX5_write_17 : decode cX5_write 17 = .ok (.sipush 200, 3) := by decide +kernel
theorem dX5_write_20 : decode cX5_write 20 = .ok (.if_icmp .lt 6, 3) := by decide +kernel
theorem dX5_write_23 : decode cX5_write 23 = .ok (.bipush (-3), 2) := by decide +kernel
theorem dX5_write_25 : decode cX5_write 25 = .ok (.ireturn, 1) := by decide +kernel
theorem dX5_write_26 : decode cX5_write 26 = .ok (.aload_n 0, 1) := by decide +kernel
theorem dX5_write_27 : decode cX5_write 27 = .ok (.getfield 14, 3) := by decide +kernel
theorem dX5_write_30 : decode cX5_write 30 = .ok (.aload_n 0, 1) := by decide +kernel
theorem dX5_write_31 : decode cX5_write 31 = .ok (.getfield 18, 3) := by decide +kernel
theorem dX5_write_34 : decode cX5_write 34 = .ok (.iload_n 1, 1) := by decide +kernel
theorem dX5_write_35 : decode cX5_write 35 = .ok (.invokevirtual 57, 3) := by decide +kernel
theorem dX5_write_38 : decode cX5_write 38 = .ok (.aload_n 0, 1) := by decide +kernel
theorem dX5_write_39 : decode cX5_write 39 = .ok (.dup, 1) := by decide +kernel
theorem dX5_write_40 : decode cX5_write 40 = .ok (.getfield 18, 3) := by decide +kernel
theorem dX5_write_43 : decode cX5_write 43 = .ok (.iconst 1, 1) := by decide +kernel
theorem dX5_write_44 : decode cX5_write 44 = .ok (.iadd, 1) := by decide +kernel
theorem dX5_write_45 : decode cX5_write 45 = .ok (.putfield 18, 3) := by decide +kernel
theorem dX5_write_48 : decode cX5_write 48 = .ok (.aload_n 0, 1) := by decide +kernel
theorem dX5_write_49 : decode cX5_write 49 = .ok (.getfield 18, 3) := by decide +kernel
theorem dX5_write_52 : decode cX5_write 52 = .ok (.ireturn, 1) := by decide +kernel
theorem dX5_wipe_0 : decode cX5_wipe 0 = .ok (.aload_n 0, 1) := by decide +kernel
theorem dX5_wipe_1 : decode cX5_wipe 1 = .ok (.getfield 18, 3) := by decide +kernel
theorem dX5_wipe_4 : decode cX5_wipe 4 = .ok (.istore_n 1, 1) := by decide +kernel
theorem dX5_wipe_5 : decode cX5_wipe 5 = .ok (.aload_n 0, 1) := by decide +kernel
theorem dX5_wipe_6 : decode cX5_wipe 6 = .ok (.iconst 0, 1) := by decide +kernel
theorem dX5_wipe_7 : decode cX5_wipe 7 = .ok (.putfield 18, 3) := by decide +kernel
theorem dX5_wipe_10 : decode cX5_wipe 10 = .ok (.iload_n 1, 1) := by decide +kernel
theorem dX5_wipe_11 : decode cX5_wipe 11 = .ok (.ireturn, 1) := by decide +kernel
set_option maxRecDepth 20000 in
theorem ggX5_fault_X0_look : GoodIn wsX5_fault wsX0_look := goodIn_r _ [6, 7, 21] (by decide +kernel) (by decide +kernel)
set_option maxRecDepth 20000 in
theorem gX5_fault_X0_look_n84 : GoodIn wsX5_fault (wsX0_look) := ggX5_fault_X0_look
set_option maxRecDepth 20000 in
theorem ggX5_fault_X5_isOutside : GoodIn wsX5_fault wsX5_isOutside := goodIn_r _ [11] (by decide +kernel) (by decide +kernel)
set_option maxRecDepth 20000 in
theorem gX5_fault_X5_isOutside : GoodIn wsX5_fault (va_wsS RX5 80 yX5_isOutside wsX5_isOutside) := goodIn_app (goodIn_of _ (by decide +kernel)) ggX5_fault_X5_isOutside
theorem dX5_fault_0 : decode cX5_fault 0 = .ok (.iconst 0, 1) := by decide +kernel
theorem dX5_fault_1 : decode cX5_fault 1 = .ok (.istore_n 1, 1) := by decide +kernel
theorem dX5_fault_2 : decode cX5_fault 2 = .ok (.iload_n 1, 1) := by decide +kernel
theorem dX5_fault_3 : decode cX5_fault 3 = .ok (.aload_n 0, 1) := by decide +kernel
theorem dX5_fault_4 : decode cX5_fault 4 = .ok (.getfield 18, 3) := by decide +kernel
theorem dX5_fault_7 : decode cX5_fault 7 = .ok (.if_icmp .ge 35, 3) := by decide +kernel
theorem dX5_fault_10 : decode cX5_fault 10 = .ok (.iload_n 1, 1) := by decide +kernel
theorem dX5_fault_11 : decode cX5_fault 11 = .ok (.bipush 96, 2) := by decide +kernel
theorem dX5_fault_13 : decode cX5_fault 13 = .ok (.if_icmp .ge 21, 3) := by decide +kernel
theorem dX5_fault_16 : decode cX5_fault 16 = .ok (.aload_n 0, 1) := by decide +kernel
theorem dX5_fault_17 : decode cX5_fault 17 = .ok (.getfield 14, 3) := by decide +kernel
theorem dX5_fault_20 : decode cX5_fault 20 = .ok (.iload_n 1, 1) := by decide +kernel
theorem dX5_fault_21 : decode cX5_fault 21 = .ok (.invokevirtual 84, 3) := by decide +kernel
theorem dX5_fault_24 : decode cX5_fault 24 = .ok (.bipush 97, 2) := by decide +kernel
theorem dX5_fault_26 : decode cX5_fault 26 = .ok (.bipush 122, 2) := by decide +kernel
theorem dX5_fault_28 : decode cX5_fault 28 = .ok (.invokestatic 80, 3) := by decide +kernel
theorem dX5_fault_31 : decode cX5_fault 31 = .ok (.ifCond .eq 5, 3) := by decide +kernel
theorem dX5_fault_34 : decode cX5_fault 34 = .ok (.iload_n 1, 1) := by decide +kernel
theorem dX5_fault_35 : decode cX5_fault 35 = .ok (.ireturn, 1) := by decide +kernel
theorem dX5_fault_36 : decode cX5_fault 36 = .ok (.iinc 1 1, 3) := by decide +kernel
theorem dX5_fault_39 : decode cX5_fault 39 = .ok (.goto (-37), 3) := by decide +kernel
theorem dX5_fault_42 : decode cX5_fault 42 = .ok (.bipush (-4), 2) := by decide +kernel
theorem dX5_fault_44 : decode cX5_fault 44 = .ok (.ireturn, 1) := by decide +kernel
set_option maxRecDepth 20000 in
theorem ggX5_lay_X5_fault : GoodIn wsX5_lay wsX5_fault := goodIn_r _ [9, 1, 3, 10, 11, 12, 13, 14, 15, 16, 8, 17, 50, 51, 52, 53, 54, 55, 56, 57, 58, 59] (by decide +kernel) (by decide +kernel)
set_option maxRecDepth 20000 in
theorem gX5_lay_X5_fault : GoodIn wsX5_lay (wsV RX5 88 RX5 yX5_fault wsX5_fault) := goodIn_app (goodIn_of _ (by decide +kernel)) ggX5_lay_X5_fault
set_option maxRecDepth 20000 in
theorem ggX5_lay_X0_look : GoodIn wsX5_lay wsX0_look := goodIn_r _ [13, 14, 59] (by decide +kernel) (by decide +kernel)
set_option maxRecDepth 20000 in
theorem gX5_lay_X0_look_n84 : GoodIn wsX5_lay (wsX0_look) := ggX5_lay_X0_look
set_option maxRecDepth 20000 in
theorem ggX5_lay_X5_recordOf : GoodIn wsX5_lay wsX5_recordOf := goodIn_r _ [20] (by decide +kernel) (by decide +kernel)
set_option maxRecDepth 20000 in
theorem gX5_lay_X5_recordOf : GoodIn wsX5_lay (va_wsS RX5 73 yX5_recordOf wsX5_recordOf) := goodIn_app (goodIn_of _ (by decide +kernel)) ggX5_lay_X5_recordOf
set_option maxRecDepth 20000 in
theorem ggX5_lay_X0_fill : GoodIn wsX5_lay wsX0_fill := goodIn_r _ [23, 14, 59] (by decide +kernel) (by decide +kernel)
set_option maxRecDepth 20000 in
theorem gX5_lay_X0_fill_n57 : GoodIn wsX5_lay (wsX0_fill) := ggX5_lay_X0_fill
set_option maxRecDepth 20000 in
theorem ggX5_lay_X5_beginAnew : GoodIn wsX5_lay wsX5_beginAnew := goodIn_r _ [27, 28, 2, 4, 29, 10, 11, 12, 13, 14, 30, 31, 32, 33, 34, 35, 36, 37, 38, 39, 40, 41, 42, 21, 22, 23, 43, 44, 45, 46, 47, 48, 49, 50, 51, 52, 53, 54, 55, 56, 57, 58, 59, 60, 61, 62, 63, 64, 65, 66, 67, 68, 69, 70, 71, 72, 73] (by decide +kernel) (by decide +kernel)
set_option maxRecDepth 20000 in
theorem gX5_lay_X5_beginAnew : GoodIn wsX5_lay (wsV RX5 77 RX5 yX5_beginAnew wsX5_beginAnew) := goodIn_app (goodIn_of _ (by decide +kernel)) ggX5_lay_X5_beginAnew
theorem dX5_lay_0 : decode cX5_lay 0 = .ok (.aload_n 0, 1) := by decide +kernel
theorem dX5_lay_1 : decode cX5_lay 1 = .ok (.getfield 18, 3) := by decide +kernel
theorem dX5_lay_4 : decode cX5_lay 4 = .ok (.ifCond .eq 12, 3) := by decide +kernel
theorem dX5_lay_7 : decode cX5_lay 7 = .ok (.aload_n 0, 1) := by decide +kernel
theorem dX5_lay_8 : decode cX5_lay 8 = .ok (.invokevirtual 88, 3) := by decide +kernel
theorem dX5_lay_11 : decode cX5_lay 11 = .ok (.bipush (-4), 2) := by decide +kernel
theorem dX5_lay_13 : decode cX5_lay 13 = .ok (.if_icmp .eq 6, 3) := by decide +kernel
theorem dX5_lay_16 : decode cX5_lay 16 = .ok (.bipush (-2), 2) := by decide +kernel
theorem dX5_lay_18 : decode cX5_lay 18 = .ok (.ireturn, 1) := by decide +kernel
theorem dX5_lay_19 : decode cX5_lay 19 = .ok (.iconst 0, 1) := by decide +kernel
theorem dX5_lay_20 : decode cX5_lay 20 = .ok (.istore_n 1, 1) := by decide +kernel
theorem dX5_lay_21 : decode cX5_lay 21 = .ok (.iload_n 1, 1) := by decide +kernel
theorem dX5_lay_22 : decode cX5_lay 22 = .ok (.aload_n 0, 1) := by decide +kernel
theorem dX5_lay_23 : decode cX5_lay 23 = .ok (.getfield 18, 3) := by decide +kernel
theorem dX5_lay_26 : decode cX5_lay 26 = .ok (.if_icmp .ge 32, 3) := by decide +kernel
theorem dX5_lay_29 : decode cX5_lay 29 = .ok (.aload_n 0, 1) := by decide +kernel
theorem dX5_lay_30 : decode cX5_lay 30 = .ok (.getfield 22, 3) := by decide +kernel
theorem dX5_lay_33 : decode cX5_lay 33 = .ok (.iload_n 1, 1) := by decide +kernel
theorem dX5_lay_34 : decode cX5_lay 34 = .ok (.aload_n 0, 1) := by decide +kernel
theorem dX5_lay_35 : decode cX5_lay 35 = .ok (.getfield 14, 3) := by decide +kernel
theorem dX5_lay_38 : decode cX5_lay 38 = .ok (.iload_n 1, 1) := by decide +kernel
theorem dX5_lay_39 : decode cX5_lay 39 = .ok (.invokevirtual 84, 3) := by decide +kernel
theorem dX5_lay_42 : decode cX5_lay 42 = .ok (.bipush 97, 2) := by decide +kernel
theorem dX5_lay_44 : decode cX5_lay 44 = .ok (.isub, 1) := by decide +kernel
theorem dX5_lay_45 : decode cX5_lay 45 = .ok (.iload_n 1, 1) := by decide +kernel
theorem dX5_lay_46 : decode cX5_lay 46 = .ok (.invokestatic 73, 3) := by decide +kernel
theorem dX5_lay_49 : decode cX5_lay 49 = .ok (.invokevirtual 57, 3) := by decide +kernel
theorem dX5_lay_52 : decode cX5_lay 52 = .ok (.iinc 1 1, 3) := by decide +kernel
theorem dX5_lay_55 : decode cX5_lay 55 = .ok (.goto (-34), 3) := by decide +kernel
theorem dX5_lay_58 : decode cX5_lay 58 = .ok (.aload_n 0, 1) := by decide +kernel
theorem dX5_lay_59 : decode cX5_lay 59 = .ok (.aload_n 0, 1) := by decide +kernel
theorem dX5_lay_60 : decode cX5_lay 60 = .ok (.getfield 18, 3) := by decide +kernel
theorem dX5_lay_63 : decode cX5_lay 63 = .ok (.putfield 25, 3) := by decide +kernel
theorem dX5_lay_66 : decode cX5_lay 66 = .ok (.aload_n 0, 1) := by decide +kernel
theorem dX5_lay_67 : decode cX5_lay 67 = .ok (.invokevirtual 77, 3) := by decide +kernel
theorem dX5_lay_70 : decode cX5_lay 70 = .ok (.aload_n 0, 1) := by decide +kernel
theorem dX5_lay_71 : decode cX5_lay 71 = .ok (.getfield 25, 3) := by decide +kernel
theorem dX5_lay_74 : decode cX5_lay 74 = .ok (.ireturn, 1) := by decide +kernel
set_option maxRecDepth 20000 in
theorem ggX5_rule_X5_isOutside : GoodIn wsX5_rule wsX5_isOutside := goodIn_r _ [7] (by decide +kernel) (by decide +kernel)
set_option maxRecDepth 20000 in
theorem gX5_rule_X5_isOutside : GoodIn wsX5_rule (va_wsS RX5 80 yX5_isOutside wsX5_isOutside) := goodIn_app (goodIn_of _ (by decide +kernel)) ggX5_rule_X5_isOutside
set_option maxRecDepth 20000 in
theorem ggX5_rule_X0_look : GoodIn wsX5_rule wsX0_look := goodIn_r _ [11, 12, 52] (by decide +kernel) (by decide +kernel)
set_option maxRecDepth 20000 in
theorem gX5_rule_X0_look_n84 : GoodIn wsX5_rule (wsX0_look) := ggX5_rule_X0_look
set_option maxRecDepth 20000 in
theorem ggX5_rule_X0_fill : GoodIn wsX5_rule wsX0_fill := goodIn_r _ [15, 12, 52] (by decide +kernel) (by decide +kernel)
set_option maxRecDepth 20000 in
theorem gX5_rule_X0_fill_n57 : GoodIn wsX5_rule (wsX0_fill) := ggX5_rule_X0_fill
set_option maxRecDepth 20000 in
theorem ggX5_rule_X5_beginAnew : GoodIn wsX5_rule wsX5_beginAnew := goodIn_r _ [19, 20, 21, 22, 3, 8, 9, 10, 11, 12, 23, 24, 25, 26, 27, 28, 29, 30, 31, 32, 33, 34, 35, 13, 14, 15, 36, 37, 38, 39, 40, 41, 42, 43, 44, 45, 46, 47, 48, 49, 50, 51, 52, 53, 54, 55, 56, 57, 58, 59, 60, 61, 62, 63, 64, 65, 66] (by decide +kernel) (by decide +kernel)
set_option maxRecDepth 20000 in
theorem gX5_rule_X5_beginAnew : GoodIn wsX5_rule (wsV RX5 77 RX5 yX5_beginAnew wsX5_beginAnew) := goodIn_app (goodIn_of _ (by decide +kernel)) ggX5_rule_X5_beginAnew
theorem dX5_rule_0 : decode cX5_rule 0 = .ok (.iload_n 1, 1) := by decide +kernel
theorem dX5_rule_1 : decode cX5_rule 1 = .ok (.iconst 0, 1) := by decide +kernel
theorem dX5_rule_2 : decode cX5_rule 2 = .ok (.iconst 3, 1) := by decide +kernel
theorem dX5_rule_3 : decode cX5_rule 3 = .ok (.invokestatic 80, 3) := by decide +kernel
theorem dX5_rule_6 : decode cX5_rule 6 = .ok (.ifCond .ne 20, 3) := by decide +kernel
theorem dX5_rule_9 : decode cX5_rule 9 = .ok (.iload_n 2, 1) := by decide +kernel
theorem dX5_rule_10 : decode cX5_rule 10 = .ok (.getstatic 91, 3) := by decide +kernel
theorem dX5_rule_13 : decode cX5_rule 13 = .ok (.iload_n 1, 1) := by decide +kernel
theorem dX5_rule_14 : decode cX5_rule 14 = .ok (.iaload, 1) := by decide +kernel
theorem dX5_rule_15 : decode cX5_rule 15 = .ok (.getstatic 95, 3) := by decide +kernel
theorem dX5_rule_18 : decode cX5_rule 18 = .ok (.iload_n 1, 1) := by decide +kernel
theorem dX5_rule_19 : decode cX5_rule 19 = .ok (.iaload, 1) := by decide +kernel
theorem dX5_rule_20 : decode cX5_rule 20 = .ok (.invokestatic 80, 3) := by decide +kernel
theorem dX5_rule_23 : decode cX5_rule 23 = .ok (.ifCond .eq 5, 3) := by decide +kernel
theorem dX5_rule_26 : decode cX5_rule 26 = .ok (.iconst (-1), 1) := by decide +kernel
theorem dX5_rule_27 : decode cX5_rule 27 = .ok (.ireturn, 1) := by decide +kernel
theorem dX5_rule_28 : decode cX5_rule 28 = .ok (.aload_n 0, 1) := by decide +kernel
theorem dX5_rule_29 : decode cX5_rule 29 = .ok (.getfield 28, 3) := by decide +kernel
theorem dX5_rule_32 : decode cX5_rule 32 = .ok (.iload_n 1, 1) := by decide +kernel
theorem dX5_rule_33 : decode cX5_rule 33 = .ok (.invokevirtual 84, 3) := by decide +kernel
theorem dX5_rule_36 : decode cX5_rule 36 = .ok (.istore_n 3, 1) := by decide +kernel
theorem dX5_rule_37 : decode cX5_rule 37 = .ok (.iload_n 3, 1) := by decide +kernel
theorem dX5_rule_38 : decode cX5_rule 38 = .ok (.iload_n 2, 1) := by decide +kernel
theorem dX5_rule_39 : decode cX5_rule 39 = .ok (.if_icmp .ne 6, 3) := by decide +kernel
theorem dX5_rule_42 : decode cX5_rule 42 = .ok (.bipush (-2), 2) := by decide +kernel
theorem dX5_rule_44 : decode cX5_rule 44 = .ok (.ireturn, 1) := by decide +kernel
theorem dX5_rule_45 : decode cX5_rule 45 = .ok (.aload_n 0, 1) := by decide +kernel
theorem dX5_rule_46 : decode cX5_rule 46 = .ok (.getfield 28, 3) := by decide +kernel
theorem dX5_rule_49 : decode cX5_rule 49 = .ok (.iload_n 1, 1) := by decide +kernel
theorem dX5_rule_50 : decode cX5_rule 50 = .ok (.iload_n 2, 1) := by decide +kernel
theorem dX5_rule_51 : decode cX5_rule 51 = .ok (.invokevirtual 57, 3) := by decide +kernel
theorem dX5_rule_54 : decode cX5_rule 54 = .ok (.aload_n 0, 1) := by decide +kernel
theorem dX5_rule_55 : decode cX5_rule 55 = .ok (.invokevirtual 77, 3) := by decide +kernel
theorem dX5_rule_58 : decode cX5_rule 58 = .ok (.iload_n 3, 1) := by decide +kernel
theorem dX5_rule_59 : decode cX5_rule 59 = .ok (.ireturn, 1) := by decide +kernel
set_option maxRecDepth 20000 in
theorem ggX5_put_X5_isNoPlace : GoodIn wsX5_put wsX5_isNoPlace := goodIn_r _ [6, 7, 8, 9, 5, 10, 54, 55, 56, 57, 58, 59, 60, 61, 62] (by decide +kernel) (by decide +kernel)
set_option maxRecDepth 20000 in
theorem gX5_put_X5_isNoPlace : GoodIn wsX5_put (wsV RX5 98 RX5 yX5_isNoPlace wsX5_isNoPlace) := goodIn_app (goodIn_of _ (by decide +kernel)) ggX5_put_X5_isNoPlace
set_option maxRecDepth 20000 in
theorem ggX5_put_X5_isNoKey : GoodIn wsX5_put wsX5_isNoKey := goodIn_r _ [13, 8, 9, 5, 10] (by decide +kernel) (by decide +kernel)
set_option maxRecDepth 20000 in
theorem gX5_put_X5_isNoKey : GoodIn wsX5_put (va_wsS RX5 102 yX5_isNoKey wsX5_isNoKey) := goodIn_app (goodIn_of _ (by decide +kernel)) ggX5_put_X5_isNoKey
set_option maxRecDepth 20000 in
theorem ggX5_put_X0_look : GoodIn wsX5_put wsX0_look := goodIn_r _ [17, 18, 63] (by decide +kernel) (by decide +kernel)
set_option maxRecDepth 20000 in
theorem gX5_put_X0_look_n84 : GoodIn wsX5_put (wsX0_look) := ggX5_put_X0_look
set_option maxRecDepth 20000 in
theorem ggX5_put_X5_keyOf : GoodIn wsX5_put wsX5_keyOf := goodIn_r _ [21] (by decide +kernel) (by decide +kernel)
set_option maxRecDepth 20000 in
theorem gX5_put_X5_keyOf : GoodIn wsX5_put (va_wsS RX5 105 yX5_keyOf wsX5_keyOf) := goodIn_app (goodIn_of _ (by decide +kernel)) ggX5_put_X5_keyOf
set_option maxRecDepth 20000 in
theorem ggX5_put_X5_recordOf : GoodIn wsX5_put wsX5_recordOf := goodIn_r _ [24] (by decide +kernel) (by decide +kernel)
set_option maxRecDepth 20000 in
theorem gX5_put_X5_recordOf : GoodIn wsX5_put (va_wsS RX5 73 yX5_recordOf wsX5_recordOf) := goodIn_app (goodIn_of _ (by decide +kernel)) ggX5_put_X5_recordOf
set_option maxRecDepth 20000 in
theorem ggX5_put_X0_fill : GoodIn wsX5_put wsX0_fill := goodIn_r _ [27, 18, 63] (by decide +kernel) (by decide +kernel)
set_option maxRecDepth 20000 in
theorem gX5_put_X0_fill_n57 : GoodIn wsX5_put (wsX0_fill) := ggX5_put_X0_fill
set_option maxRecDepth 20000 in
theorem ggX5_put_X5_beginAnew : GoodIn wsX5_put wsX5_beginAnew := goodIn_r _ [31, 32, 1, 7, 33, 14, 15, 16, 17, 18, 34, 35, 36, 37, 38, 39, 40, 41, 42, 43, 44, 45, 46, 25, 26, 27, 47, 48, 49, 50, 51, 52, 53, 54, 55, 56, 57, 58, 59, 60, 61, 62, 63, 64, 65, 66, 67, 68, 69, 70, 71, 72, 73, 74, 75, 76, 77] (by decide +kernel) (by decide +kernel)
set_option maxRecDepth 20000 in
theorem gX5_put_X5_beginAnew : GoodIn wsX5_put (wsV RX5 77 RX5 yX5_beginAnew wsX5_beginAnew) := goodIn_app (goodIn_of _ (by decide +kernel)) ggX5_put_X5_beginAnew
theorem dX5_put_0 : decode cX5_put 0 = .ok (.aload_n 0, 1) := by decide +kernel
theorem dX5_put_1 : decode cX5_put 1 = .ok (.iload_n 1, 1) := by decide +kernel
theorem dX5_put_2 : decode cX5_put 2 = .ok (.invokevirtual 98, 3) := by decide +kernel
theorem dX5_put_5 : decode cX5_put 5 = .ok (.ifCond .ne 10, 3) := by decide +kernel
theorem dX5_put_8 : decode cX5_put 8 = .ok (.iload_n 2, 1) := by decide +kernel
theorem dX5_put_9 : decode cX5_put 9 = .ok (.invokestatic 102, 3) := by decide +kernel
theorem dX5_put_12 : decode cX5_put 12 = .ok (.ifCond .eq 5, 3) := by decide +kernel
theorem dX5_put_15 : decode cX5_put 15 = .ok (.iconst (-1), 1) := by decide +kernel
theorem dX5_put_16 : decode cX5_put 16 = .ok (.ireturn, 1) := by decide +kernel
theorem dX5_put_17 : decode cX5_put 17 = .ok (.aload_n 0, 1) := by decide +kernel
theorem dX5_put_18 : decode cX5_put 18 = .ok (.getfield 22, 3) := by decide +kernel
theorem dX5_put_21 : decode cX5_put 21 = .ok (.iload_n 1, 1) := by decide +kernel
theorem dX5_put_22 : decode cX5_put 22 = .ok (.invokevirtual 84, 3) := by decide +kernel
theorem dX5_put_25 : decode cX5_put 25 = .ok (.invokestatic 105, 3) := by decide +kernel
theorem dX5_put_28 : decode cX5_put 28 = .ok (.istore_n 3, 1) := by decide +kernel
theorem dX5_put_29 : decode cX5_put 29 = .ok (.iload_n 3, 1) := by decide +kernel
theorem dX5_put_30 : decode cX5_put 30 = .ok (.iload_n 2, 1) := by decide +kernel
theorem dX5_put_31 : decode cX5_put 31 = .ok (.if_icmp .ne 6, 3) := by decide +kernel
theorem dX5_put_34 : decode cX5_put 34 = .ok (.bipush (-2), 2) := by decide +kernel
theorem dX5_put_36 : decode cX5_put 36 = .ok (.ireturn, 1) := by decide +kernel
theorem dX5_put_37 : decode cX5_put 37 = .ok (.aload_n 0, 1) := by decide +kernel
theorem dX5_put_38 : decode cX5_put 38 = .ok (.getfield 22, 3) := by decide +kernel
theorem dX5_put_41 : decode cX5_put 41 = .ok (.iload_n 1, 1) := by decide +kernel
theorem dX5_put_42 : decode cX5_put 42 = .ok (.iload_n 2, 1) := by decide +kernel
theorem dX5_put_43 : decode cX5_put 43 = .ok (.iload_n 1, 1) := by decide +kernel
theorem dX5_put_44 : decode cX5_put 44 = .ok (.invokestatic 73, 3) := by decide +kernel
theorem dX5_put_47 : decode cX5_put 47 = .ok (.invokevirtual 57, 3) := by decide +kernel
theorem dX5_put_50 : decode cX5_put 50 = .ok (.aload_n 0, 1) := by decide +kernel
theorem dX5_put_51 : decode cX5_put 51 = .ok (.invokevirtual 77, 3) := by decide +kernel
theorem dX5_put_54 : decode cX5_put 54 = .ok (.iload_n 3, 1) := by decide +kernel
theorem dX5_put_55 : decode cX5_put 55 = .ok (.ireturn, 1) := by decide +kernel
set_option maxRecDepth 20000 in
theorem ggX5_start_X0_look : GoodIn wsX5_start wsX0_look := goodIn_r _ [5, 6, 59] (by decide +kernel) (by decide +kernel)
set_option maxRecDepth 20000 in
theorem gX5_start_X0_look_n84 : GoodIn wsX5_start (wsX0_look) := ggX5_start_X0_look
set_option maxRecDepth 20000 in
theorem ggX5_start_X5_beginAnew : GoodIn wsX5_start wsX5_beginAnew := goodIn_r _ [11, 1, 12, 13, 14, 2, 3, 4, 5, 6, 15, 16, 17, 18, 19, 20, 21, 22, 23, 24, 25, 26, 27, 28, 29, 30, 31, 32, 33, 34, 35, 36, 37, 38, 39, 40, 41, 42, 43, 44, 45, 46, 59, 47, 48, 49, 50, 51, 52, 53, 54, 55, 56, 57, 58, 60, 61] (by decide +kernel) (by decide +kernel)
set_option maxRecDepth 20000 in
theorem gX5_start_X5_beginAnew : GoodIn wsX5_start (wsV RX5 77 RX5 yX5_beginAnew wsX5_beginAnew) := goodIn_app (goodIn_of _ (by decide +kernel)) ggX5_start_X5_beginAnew
theorem dX5_start_0 : decode cX5_start 0 = .ok (.aload_n 0, 1) := by decide +kernel
theorem dX5_start_1 : decode cX5_start 1 = .ok (.getfield 34, 3) := by decide +kernel
theorem dX5_start_4 : decode cX5_start 4 = .ok (.getfield 108, 3) := by decide +kernel
theorem dX5_start_7 : decode cX5_start 7 = .ok (.bipush 11, 2) := by decide +kernel
theorem dX5_start_9 : decode cX5_start 9 = .ok (.invokevirtual 84, 3) := by decide +kernel
theorem dX5_start_12 : decode cX5_start 12 = .ok (.istore_n 1, 1) := by decide +kernel
theorem dX5_start_13 : decode cX5_start 13 = .ok (.aload_n 0, 1) := by decide +kernel
theorem dX5_start_14 : decode cX5_start 14 = .ok (.invokevirtual 77, 3) := by decide +kernel
theorem dX5_start_17 : decode cX5_start 17 = .ok (.iload_n 1, 1) := by decide +kernel
theorem dX5_start_18 : decode cX5_start 18 = .ok (.ireturn, 1) := by decide +kernel
set_option maxRecDepth 20000 in
theorem ggX5_step_X5_isOutside : GoodIn wsX5_step wsX5_isOutside := goodIn_r _ [5] (by decide +kernel) (by decide +kernel)
set_option maxRecDepth 20000 in
theorem gX5_step_X5_isOutside : GoodIn wsX5_step (va_wsS RX5 80 yX5_isOutside wsX5_isOutside) := goodIn_app (goodIn_of _ (by decide +kernel)) ggX5_step_X5_isOutside
set_option maxRecDepth 20000 in
theorem ggX5_step_X3_advance : GoodIn wsX5_step wsX3_advance := goodIn_r _ [9, 10, 11, 12, 13, 14, 15, 16, 7, 17, 18, 19, 20, 21, 22, 23, 24, 25, 26, 27, 28, 29, 30, 31, 32, 33, 34, 35, 36, 37, 38, 39, 40, 41, 42, 43, 44, 45, 46, 47, 48, 49, 50, 51, 52, 53, 54, 55, 56, 57, 58, 59, 60, 61, 62, 63, 64, 65, 66, 67, 68, 69, 70, 71, 72, 73, 74, 75, 76, 77, 78, 79, 80, 81, 82, 83, 84, 85, 86, 87, 88, 89, 90, 4, 91, 92, 93, 94, 95, 96, 97, 98, 99, 100, 101, 102, 103, 104, 105, 106, 107, 108, 109, 110, 111, 112, 113, 114, 115, 116, 117, 118, 119, 120, 121, 122, 123, 124, 125, 126, 127, 128, 129, 130, 131, 132, 133, 134, 135, 136, 137, 138, 139, 140, 141, 142, 143, 144, 145, 146, 147, 148, 149, 150, 151, 152, 153, 154, 155, 156, 157, 158, 159, 160, 161, 162, 163, 164, 165, 166, 167, 168, 169, 170, 171, 172, 173, 174, 175, 176, 177, 178, 179, 180, 190, 191, 192, 193, 194, 195, 196, 197, 198, 199, 200, 201, 202, 203, 204, 205, 206, 207, 208, 209, 210, 211, 212, 213, 214, 215, 216] (by decide +kernel) (by decide +kernel)
set_option maxRecDepth 20000 in
theorem gX5_step_X3_advance_n111 : GoodIn wsX5_step (wsX3_advance) := ggX5_step_X3_advance
theorem dX5_step_0 : decode cX5_step 0 = .ok (.iload_n 1, 1) := by decide +kernel
theorem dX5_step_1 : decode cX5_step 1 = .ok (.iconst 1, 1) := by decide +kernel
theorem dX5_step_2 : decode cX5_step 2 = .ok (.sipush 400, 3) := by decide +kernel
theorem dX5_step_5 : decode cX5_step 5 = .ok (.invokestatic 80, 3) := by decide +kernel
theorem dX5_step_8 : decode cX5_step 8 = .ok (.ifCond .eq 5, 3) := by decide +kernel
theorem dX5_step_11 : decode cX5_step 11 = .ok (.iconst (-1), 1) := by decide +kernel
theorem dX5_step_12 : decode cX5_step 12 = .ok (.ireturn, 1) := by decide +kernel
theorem dX5_step_13 : decode cX5_step 13 = .ok (.aload_n 0, 1) := by decide +kernel
theorem dX5_step_14 : decode cX5_step 14 = .ok (.getfield 34, 3) := by decide +kernel
theorem dX5_step_17 : decode cX5_step 17 = .ok (.iload_n 1, 1) := by decide +kernel
theorem dX5_step_18 : decode cX5_step 18 = .ok (.invokevirtual 111, 3) := by decide +kernel
theorem dX5_step_21 : decode cX5_step 21 = .ok (.ireturn, 1) := by decide +kernel
set_option maxRecDepth 20000 in
theorem ggX5_next_X3_kindOfNext : GoodIn wsX5_next wsX3_kindOfNext := goodIn_r _ [5, 6, 7, 8, 9, 10, 11, 3, 12, 13, 14, 15, 16, 17, 18, 19, 20, 21, 22, 23, 24, 25, 26, 27, 28, 29, 30, 31, 32, 33, 34, 35, 36, 37, 38, 39, 40, 41, 42, 43, 44, 45, 46, 47, 48, 49, 59, 60, 61, 62, 63, 64, 65, 66, 67, 68, 69, 70, 71] (by decide +kernel) (by decide +kernel)
set_option maxRecDepth 20000 in
theorem gX5_next_X3_kindOfNext_n114 : GoodIn wsX5_next (wsX3_kindOfNext) := ggX5_next_X3_kindOfNext
theorem dX5_next_0 : decode cX5_next 0 = .ok (.aload_n 0, 1) := by decide +kernel
theorem dX5_next_1 : decode cX5_next 1 = .ok (.getfield 34, 3) := by decide +kernel
theorem dX5_next_4 : decode cX5_next 4 = .ok (.invokevirtual 114, 3) := by decide +kernel
theorem dX5_next_7 : decode cX5_next 7 = .ok (.ireturn, 1) := by decide +kernel
set_option maxRecDepth 20000 in
theorem ggX5_at_X5_isNoPlace : GoodIn wsX5_at wsX5_isNoPlace := goodIn_r _ [6, 7, 8, 9, 5, 10, 22, 23, 24, 25, 26, 27, 28, 29, 30] (by decide +kernel) (by decide +kernel)
set_option maxRecDepth 20000 in
theorem gX5_at_X5_isNoPlace : GoodIn wsX5_at (wsV RX5 98 RX5 yX5_isNoPlace wsX5_isNoPlace) := goodIn_app (goodIn_of _ (by decide +kernel)) ggX5_at_X5_isNoPlace
set_option maxRecDepth 20000 in
theorem ggX5_at_X5_isOutside : GoodIn wsX5_at wsX5_isOutside := goodIn_r _ [10] (by decide +kernel) (by decide +kernel)
set_option maxRecDepth 20000 in
theorem gX5_at_X5_isOutside : GoodIn wsX5_at (va_wsS RX5 80 yX5_isOutside wsX5_isOutside) := goodIn_app (goodIn_of _ (by decide +kernel)) ggX5_at_X5_isOutside
set_option maxRecDepth 20000 in
theorem ggX5_at_X0_look : GoodIn wsX5_at wsX0_look := goodIn_r _ [14, 15, 43] (by decide +kernel) (by decide +kernel)
set_option maxRecDepth 20000 in
theorem gX5_at_X0_look_n84 : GoodIn wsX5_at (wsX0_look) := ggX5_at_X0_look
set_option maxRecDepth 20000 in
theorem ggX5_at_X5_keyOf : GoodIn wsX5_at wsX5_keyOf := goodIn_r _ [18] (by decide +kernel) (by decide +kernel)
set_option maxRecDepth 20000 in
theorem gX5_at_X5_keyOf : GoodIn wsX5_at (va_wsS RX5 105 yX5_keyOf wsX5_keyOf) := goodIn_app (goodIn_of _ (by decide +kernel)) ggX5_at_X5_keyOf
set_option maxRecDepth 20000 in
theorem ggX5_at_X5_tagOf : GoodIn wsX5_at wsX5_tagOf := goodIn_r _ [21] (by decide +kernel) (by decide +kernel)
set_option maxRecDepth 20000 in
theorem gX5_at_X5_tagOf : GoodIn wsX5_at (va_wsS RX5 120 yX5_tagOf wsX5_tagOf) := goodIn_app (goodIn_of _ (by decide +kernel)) ggX5_at_X5_tagOf
theorem dX5_at_0 : decode cX5_at 0 = .ok (.aload_n 0, 1) := by decide +kernel
theorem dX5_at_1 : decode cX5_at 1 = .ok (.iload_n 1, 1) := by decide +kernel
theorem dX5_at_2 : decode cX5_at 2 = .ok (.invokevirtual 98, 3) := by decide +kernel
theorem dX5_at_5 : decode cX5_at 5 = .ok (.ifCond .ne 12, 3) := by decide +kernel
theorem dX5_at_8 : decode cX5_at 8 = .ok (.iload_n 2, 1) := by decide +kernel
theorem dX5_at_9 : decode cX5_at 9 = .ok (.iconst 0, 1) := by decide +kernel
theorem dX5_at_10 : decode cX5_at 10 = .ok (.iconst 1, 1) := by decide +kernel
theorem dX5_at_11 : decode cX5_at 11 = .ok (.invokestatic 80, 3) := by decide +kernel
theorem dX5_at_14 : decode cX5_at 14 = .ok (.ifCond .eq 5, 3) := by decide +kernel
theorem dX5_at_17 : decode cX5_at 17 = .ok (.iconst (-1), 1) := by decide +kernel
theorem dX5_at_18 : decode cX5_at 18 = .ok (.ireturn, 1) := by decide +kernel
theorem dX5_at_19 : decode cX5_at 19 = .ok (.aload_n 0, 1) := by decide +kernel
theorem dX5_at_20 : decode cX5_at 20 = .ok (.getfield 34, 3) := by decide +kernel
theorem dX5_at_23 : decode cX5_at 23 = .ok (.getfield 117, 3) := by decide +kernel
theorem dX5_at_26 : decode cX5_at 26 = .ok (.iload_n 1, 1) := by decide +kernel
theorem dX5_at_27 : decode cX5_at 27 = .ok (.invokevirtual 84, 3) := by decide +kernel
theorem dX5_at_30 : decode cX5_at 30 = .ok (.istore_n 3, 1) := by decide +kernel
theorem dX5_at_31 : decode cX5_at 31 = .ok (.iload_n 2, 1) := by decide +kernel
theorem dX5_at_32 : decode cX5_at 32 = .ok (.ifCond .ne 10, 3) := by decide +kernel
theorem dX5_at_35 : decode cX5_at 35 = .ok (.iload_n 3, 1) := by decide +kernel
theorem dX5_at_36 : decode cX5_at 36 = .ok (.invokestatic 105, 3) := by decide +kernel
theorem dX5_at_39 : decode cX5_at 39 = .ok (.goto 7, 3) := by decide +kernel
theorem dX5_at_42 : decode cX5_at 42 = .ok (.iload_n 3, 1) := by decide +kernel
theorem dX5_at_43 : decode cX5_at 43 = .ok (.invokestatic 120, 3) := by decide +kernel
theorem dX5_at_46 : decode cX5_at 46 = .ok (.ireturn, 1) := by decide +kernel
set_option maxRecDepth 20000 in
theorem ggX5_place_X0_look : GoodIn wsX5_place wsX0_look := goodIn_r _ [6, 7, 33] (by decide +kernel) (by decide +kernel)
set_option maxRecDepth 20000 in
theorem gX5_place_X0_look_n84 : GoodIn wsX5_place (wsX0_look) := ggX5_place_X0_look
set_option maxRecDepth 20000 in
theorem ggX5_place_X5_tagOf : GoodIn wsX5_place wsX5_tagOf := goodIn_r _ [11] (by decide +kernel) (by decide +kernel)
set_option maxRecDepth 20000 in
theorem gX5_place_X5_tagOf : GoodIn wsX5_place (va_wsS RX5 120 yX5_tagOf wsX5_tagOf) := goodIn_app (goodIn_of _ (by decide +kernel)) ggX5_place_X5_tagOf
theorem dX5_place_0 : decode cX5_place 0 = .ok (.iconst 0, 1) := by decide +kernel
theorem dX5_place_1 : decode cX5_place 1 = .ok (.istore_n 2, 1) := by decide +kernel
theorem dX5_place_2 : decode cX5_place 2 = .ok (.iload_n 2, 1) := by decide +kernel
theorem dX5_place_3 : decode cX5_place 3 = .ok (.aload_n 0, 1) := by decide +kernel
theorem dX5_place_4 : decode cX5_place 4 = .ok (.getfield 25, 3) := by decide +kernel
theorem dX5_place_7 : decode cX5_place 7 = .ok (.if_icmp .ge 29, 3) := by decide +kernel
theorem dX5_place_10 : decode cX5_place 10 = .ok (.aload_n 0, 1) := by decide +kernel
theorem dX5_place_11 : decode cX5_place 11 = .ok (.getfield 34, 3) := by decide +kernel
theorem dX5_place_14 : decode cX5_place 14 = .ok (.getfield 117, 3) := by decide +kernel
theorem dX5_place_17 : decode cX5_place 17 = .ok (.iload_n 2, 1) := by decide +kernel
theorem dX5_place_18 : decode cX5_place 18 = .ok (.invokevirtual 84, 3) := by decide +kernel
theorem dX5_place_21 : decode cX5_place 21 = .ok (.invokestatic 120, 3) := by decide +kernel
theorem dX5_place_24 : decode cX5_place 24 = .ok (.iload_n 1, 1) := by decide +kernel
theorem dX5_place_25 : decode cX5_place 25 = .ok (.if_icmp .ne 5, 3) := by decide +kernel
theorem dX5_place_28 : decode cX5_place 28 = .ok (.iload_n 2, 1) := by decide +kernel
theorem dX5_place_29 : decode cX5_place 29 = .ok (.ireturn, 1) := by decide +kernel
theorem dX5_place_30 : decode cX5_place 30 = .ok (.iinc 2 1, 3) := by decide +kernel
theorem dX5_place_33 : decode cX5_place 33 = .ok (.goto (-31), 3) := by decide +kernel
theorem dX5_place_36 : decode cX5_place 36 = .ok (.iconst (-1), 1) := by decide +kernel
theorem dX5_place_37 : decode cX5_place 37 = .ok (.ireturn, 1) := by decide +kernel
set_option maxRecDepth 20000 in
theorem ggX5_run_X5_isOutside : GoodIn wsX5_run wsX5_isOutside := goodIn_r _ [5] (by decide +kernel) (by decide +kernel)
set_option maxRecDepth 20000 in
theorem gX5_run_X5_isOutside : GoodIn wsX5_run (va_wsS RX5 80 yX5_isOutside wsX5_isOutside) := goodIn_app (goodIn_of _ (by decide +kernel)) ggX5_run_X5_isOutside
set_option maxRecDepth 20000 in
theorem ggX5_run_X3_powerBehind : GoodIn wsX5_run wsX3_powerBehind := goodIn_r _ [9, 10, 11, 12, 13, 14, 15, 16, 17, 18, 19, 29, 30, 31, 32, 33, 34, 35, 36, 37, 38, 39, 40, 41] (by decide +kernel) (by decide +kernel)
set_option maxRecDepth 20000 in
theorem gX5_run_X3_powerBehind_n126 : GoodIn wsX5_run (wsX3_powerBehind) := ggX5_run_X3_powerBehind
set_option maxRecDepth 20000 in
theorem ggX5_run_X0_look : GoodIn wsX5_run wsX0_look := goodIn_r _ [18, 19, 41] (by decide +kernel) (by decide +kernel)
set_option maxRecDepth 20000 in
theorem gX5_run_X0_look_n84 : GoodIn wsX5_run (wsX0_look) := ggX5_run_X0_look
theorem dX5_run_0 : decode cX5_run 0 = .ok (.iload_n 1, 1) := by decide +kernel
theorem dX5_run_1 : decode cX5_run 1 = .ok (.iconst (-1), 1) := by decide +kernel
theorem dX5_run_2 : decode cX5_run 2 = .ok (.if_icmp .lt 12, 3) := by decide +kernel
theorem dX5_run_5 : decode cX5_run 5 = .ok (.iload_n 2, 1) := by decide +kernel
theorem dX5_run_6 : decode cX5_run 6 = .ok (.iconst 0, 1) := by decide +kernel
theorem dX5_run_7 : decode cX5_run 7 = .ok (.iconst 2, 1) := by decide +kernel
theorem dX5_run_8 : decode cX5_run 8 = .ok (.invokestatic 80, 3) := by decide +kernel
theorem dX5_run_11 : decode cX5_run 11 = .ok (.ifCond .eq 5, 3) := by decide +kernel
theorem dX5_run_14 : decode cX5_run 14 = .ok (.iconst (-1), 1) := by decide +kernel
theorem dX5_run_15 : decode cX5_run 15 = .ok (.ireturn, 1) := by decide +kernel
theorem dX5_run_16 : decode cX5_run 16 = .ok (.iload_n 1, 1) := by decide +kernel
theorem dX5_run_17 : decode cX5_run 17 = .ok (.iconst (-1), 1) := by decide +kernel
theorem dX5_run_18 : decode cX5_run 18 = .ok (.if_icmp .ne 11, 3) := by decide +kernel
theorem dX5_run_21 : decode cX5_run 21 = .ok (.aload_n 0, 1) := by decide +kernel
theorem dX5_run_22 : decode cX5_run 22 = .ok (.getfield 34, 3) := by decide +kernel
theorem dX5_run_25 : decode cX5_run 25 = .ok (.getfield 123, 3) := by decide +kernel
theorem dX5_run_28 : decode cX5_run 28 = .ok (.ireturn, 1) := by decide +kernel
theorem dX5_run_29 : decode cX5_run 29 = .ok (.iload_n 1, 1) := by decide +kernel
theorem dX5_run_30 : decode cX5_run 30 = .ok (.aload_n 0, 1) := by decide +kernel
theorem dX5_run_31 : decode cX5_run 31 = .ok (.getfield 34, 3) := by decide +kernel
theorem dX5_run_34 : decode cX5_run 34 = .ok (.getfield 123, 3) := by decide +kernel
theorem dX5_run_37 : decode cX5_run 37 = .ok (.if_icmp .lt 6, 3) := by decide +kernel
theorem dX5_run_40 : decode cX5_run 40 = .ok (.bipush (-4), 2) := by decide +kernel
theorem dX5_run_42 : decode cX5_run 42 = .ok (.ireturn, 1) := by decide +kernel
theorem dX5_run_43 : decode cX5_run 43 = .ok (.iload_n 2, 1) := by decide +kernel
theorem dX5_run_44 : decode cX5_run 44 = .ok (.iconst 2, 1) := by decide +kernel
theorem dX5_run_45 : decode cX5_run 45 = .ok (.if_icmp .ne 12, 3) := by decide +kernel
theorem dX5_run_48 : decode cX5_run 48 = .ok (.aload_n 0, 1) := by decide +kernel
theorem dX5_run_49 : decode cX5_run 49 = .ok (.getfield 34, 3) := by decide +kernel
theorem dX5_run_52 : decode cX5_run 52 = .ok (.iload_n 1, 1) := by decide +kernel
theorem dX5_run_53 : decode cX5_run 53 = .ok (.invokevirtual 126, 3) := by decide +kernel
theorem dX5_run_56 : decode cX5_run 56 = .ok (.ireturn, 1) := by decide +kernel
theorem dX5_run_57 : decode cX5_run 57 = .ok (.iload_n 2, 1) := by decide +kernel
theorem dX5_run_58 : decode cX5_run 58 = .ok (.ifCond .ne 17, 3) := by decide +kernel
theorem dX5_run_61 : decode cX5_run 61 = .ok (.aload_n 0, 1) := by decide +kernel
theorem dX5_run_62 : decode cX5_run 62 = .ok (.getfield 34, 3) := by decide +kernel
theorem dX5_run_65 : decode cX5_run 65 = .ok (.getfield 129, 3) := by decide +kernel
theorem dX5_run_68 : decode cX5_run 68 = .ok (.iload_n 1, 1) := by decide +kernel
theorem dX5_run_69 : decode cX5_run 69 = .ok (.invokevirtual 84, 3) := by decide +kernel
theorem dX5_run_72 : decode cX5_run 72 = .ok (.goto 14, 3) := by decide +kernel
theorem dX5_run_75 : decode cX5_run 75 = .ok (.aload_n 0, 1) := by decide +kernel
theorem dX5_run_76 : decode cX5_run 76 = .ok (.getfield 34, 3) := by decide +kernel
theorem dX5_run_79 : decode cX5_run 79 = .ok (.getfield 132, 3) := by decide +kernel
theorem dX5_run_82 : decode cX5_run 82 = .ok (.iload_n 1, 1) := by decide +kernel
theorem dX5_run_83 : decode cX5_run 83 = .ok (.invokevirtual 84, 3) := by decide +kernel
theorem dX5_run_86 : decode cX5_run 86 = .ok (.ireturn, 1) := by decide +kernel
theorem dX5_waiting_0 : decode cX5_waiting 0 = .ok (.aload_n 0, 1) := by decide +kernel
theorem dX5_waiting_1 : decode cX5_waiting 1 = .ok (.getfield 34, 3) := by decide +kernel
theorem dX5_waiting_4 : decode cX5_waiting 4 = .ok (.getfield 135, 3) := by decide +kernel
theorem dX5_waiting_7 : decode cX5_waiting 7 = .ok (.ifCond .le 13, 3) := by decide +kernel
theorem dX5_waiting_10 : decode cX5_waiting 10 = .ok (.aload_n 0, 1) := by decide +kernel
theorem dX5_waiting_11 : decode cX5_waiting 11 = .ok (.getfield 34, 3) := by decide +kernel
theorem dX5_waiting_14 : decode cX5_waiting 14 = .ok (.getfield 135, 3) := by decide +kernel
theorem dX5_waiting_17 : decode cX5_waiting 17 = .ok (.goto 5, 3) := by decide +kernel
theorem dX5_waiting_20 : decode cX5_waiting 20 = .ok (.bipush (-4), 2) := by decide +kernel
theorem dX5_waiting_22 : decode cX5_waiting 22 = .ok (.ireturn, 1) := by decide +kernel
set_option maxRecDepth 20000 in
theorem ggX5_due_X3_firstToMerge : GoodIn wsX5_due wsX3_firstToMerge := goodIn_r _ [5, 6, 7, 8, 9, 10, 11, 3, 12, 13, 14, 15, 16, 17, 18, 19, 20, 21, 22, 23, 24, 25, 26, 27, 28, 29, 30, 31, 32, 33, 34, 35, 36, 37, 38, 39, 40, 41, 42, 43, 44, 45, 55, 56, 57, 58, 59, 60, 61, 62, 63, 64, 65, 66, 67] (by decide +kernel) (by decide +kernel)
set_option maxRecDepth 20000 in
theorem gX5_due_X3_firstToMerge_n138 : GoodIn wsX5_due (wsX3_firstToMerge) := ggX5_due_X3_firstToMerge
theorem dX5_due_0 : decode cX5_due 0 = .ok (.aload_n 0, 1) := by decide +kernel
theorem dX5_due_1 : decode cX5_due 1 = .ok (.getfield 34, 3) := by decide +kernel
theorem dX5_due_4 : decode cX5_due 4 = .ok (.invokevirtual 138, 3) := by decide +kernel
theorem dX5_due_7 : decode cX5_due 7 = .ok (.ireturn, 1) := by decide +kernel
set_option maxRecDepth 20000 in
theorem ggX5_cost_X5_isOutside : GoodIn wsX5_cost wsX5_isOutside := goodIn_r _ [5] (by decide +kernel) (by decide +kernel)
set_option maxRecDepth 20000 in
theorem gX5_cost_X5_isOutside : GoodIn wsX5_cost (va_wsS RX5 80 yX5_isOutside wsX5_isOutside) := goodIn_app (goodIn_of _ (by decide +kernel)) ggX5_cost_X5_isOutside
set_option maxRecDepth 20000 in
theorem ggX5_cost_X0_look : GoodIn wsX5_cost wsX0_look := goodIn_r _ [9, 10, 32] (by decide +kernel) (by decide +kernel)
set_option maxRecDepth 20000 in
theorem gX5_cost_X0_look_n84 : GoodIn wsX5_cost (wsX0_look) := ggX5_cost_X0_look
theorem dX5_cost_0 : decode cX5_cost 0 = .ok (.iload_n 1, 1) := by decide +kernel
theorem dX5_cost_1 : decode cX5_cost 1 = .ok (.iconst 0, 1) := by decide +kernel
theorem dX5_cost_2 : decode cX5_cost 2 = .ok (.bipush 11, 2) := by decide +kernel
theorem dX5_cost_4 : decode cX5_cost 4 = .ok (.invokestatic 80, 3) := by decide +kernel
theorem dX5_cost_7 : decode cX5_cost 7 = .ok (.ifCond .eq 7, 3) := by decide +kernel
theorem dX5_cost_10 : decode cX5_cost 10 = .ok (.iconst (-1), 1) := by decide +kernel
theorem dX5_cost_11 : decode cX5_cost 11 = .ok (.goto 14, 3) := by decide +kernel
theorem dX5_cost_14 : decode cX5_cost 14 = .ok (.aload_n 0, 1) := by decide +kernel
theorem dX5_cost_15 : decode cX5_cost 15 = .ok (.getfield 34, 3) := by decide +kernel
theorem dX5_cost_18 : decode cX5_cost 18 = .ok (.getfield 108, 3) := by decide +kernel
theorem dX5_cost_21 : decode cX5_cost 21 = .ok (.iload_n 1, 1) := by decide +kernel
theorem dX5_cost_22 : decode cX5_cost 22 = .ok (.invokevirtual 84, 3) := by decide +kernel
theorem dX5_cost_25 : decode cX5_cost 25 = .ok (.ireturn, 1) := by decide +kernel
set_option maxRecDepth 20000 in
theorem ggX5_would_X5_isOutside : GoodIn wsX5_would wsX5_isOutside := goodIn_r _ [10] (by decide +kernel) (by decide +kernel)
set_option maxRecDepth 20000 in
theorem gX5_would_X5_isOutside : GoodIn wsX5_would (va_wsS RX5 80 yX5_isOutside wsX5_isOutside) := goodIn_app (goodIn_of _ (by decide +kernel)) ggX5_would_X5_isOutside
set_option maxRecDepth 20000 in
theorem ggX5_would_X3_begin : GoodIn wsX5_would wsX3_begin := goodIn_r _ [14, 15, 16, 17, 18, 19, 20, 21, 22, 23, 24, 25, 26, 27, 28, 29, 30, 31, 32, 33, 34, 35, 36, 37, 38, 205, 206, 207, 208, 209, 210, 211, 212, 213, 214, 215, 216, 217, 218, 219] (by decide +kernel) (by decide +kernel)
set_option maxRecDepth 20000 in
theorem gX5_would_X3_begin_n141 : GoodIn wsX5_would (wsX3_begin) := ggX5_would_X3_begin
set_option maxRecDepth 20000 in
theorem ggX5_would_X3_advance : GoodIn wsX5_would wsX3_advance := goodIn_r _ [41, 42, 43, 44, 23, 45, 46, 47, 12, 48, 22, 21, 16, 49, 50, 51, 52, 53, 54, 55, 56, 17, 20, 57, 58, 59, 60, 24, 25, 26, 27, 28, 61, 62, 63, 64, 65, 66, 67, 68, 69, 70, 71, 72, 73, 74, 75, 76, 77, 78, 79, 80, 81, 82, 83, 84, 29, 30, 31, 85, 86, 87, 88, 89, 90, 91, 19, 15, 18, 92, 93, 94, 95, 96, 97, 98, 99, 100, 101, 102, 103, 104, 105, 9, 106, 107, 108, 109, 110, 111, 112, 113, 114, 115, 116, 117, 118, 119, 120, 121, 122, 123, 124, 125, 126, 127, 128, 129, 130, 131, 132, 133, 134, 135, 136, 137, 138, 139, 140, 141, 142, 143, 144, 145, 146, 147, 148, 149, 150, 151, 152, 153, 154, 155, 156, 157, 158, 159, 160, 161, 162, 163, 164, 165, 166, 167, 168, 169, 170, 171, 172, 173, 174, 175, 176, 177, 178, 179, 180, 181, 182, 183, 184, 185, 186, 187, 188, 189, 190, 191, 192, 193, 194, 195, 205, 206, 207, 208, 209, 210, 211, 212, 213, 214, 215, 216, 219, 217, 218, 220, 221, 222, 223, 224, 225, 226, 227, 228, 229, 230, 231] (by decide +kernel) (by decide +kernel)
set_option maxRecDepth 20000 in
theorem gX5_would_X3_advance_n111 : GoodIn wsX5_would (wsX3_advance) := ggX5_would_X3_advance
set_option maxRecDepth 20000 in
theorem ggX5_would_X0_look : GoodIn wsX5_would wsX0_look := goodIn_r _ [27, 28, 219] (by decide +kernel) (by decide +kernel)
set_option maxRecDepth 20000 in
theorem gX5_would_X0_look_n84 : GoodIn wsX5_would (wsX0_look) := ggX5_would_X0_look
theorem dX5_would_0 : decode cX5_would 0 = .ok (.iload_n 1, 1) := by decide +kernel
theorem dX5_would_1 : decode cX5_would 1 = .ok (.getstatic 91, 3) := by decide +kernel
theorem dX5_would_4 : decode cX5_would 4 = .ok (.iconst 1, 1) := by decide +kernel
theorem dX5_would_5 : decode cX5_would 5 = .ok (.iaload, 1) := by decide +kernel
theorem dX5_would_6 : decode cX5_would 6 = .ok (.getstatic 95, 3) := by decide +kernel
theorem dX5_would_9 : decode cX5_would 9 = .ok (.iconst 1, 1) := by decide +kernel
theorem dX5_would_10 : decode cX5_would 10 = .ok (.iaload, 1) := by decide +kernel
theorem dX5_would_11 : decode cX5_would 11 = .ok (.invokestatic 80, 3) := by decide +kernel
theorem dX5_would_14 : decode cX5_would 14 = .ok (.ifCond .ne 13, 3) := by decide +kernel
theorem dX5_would_17 : decode cX5_would 17 = .ok (.iload_n 2, 1) := by decide +kernel
theorem dX5_would_18 : decode cX5_would 18 = .ok (.iconst 0, 1) := by decide +kernel
theorem dX5_would_19 : decode cX5_would 19 = .ok (.bipush 11, 2) := by decide +kernel
theorem dX5_would_21 : decode cX5_would 21 = .ok (.invokestatic 80, 3) := by decide +kernel
theorem dX5_would_24 : decode cX5_would 24 = .ok (.ifCond .eq 5, 3) := by decide +kernel
theorem dX5_would_27 : decode cX5_would 27 = .ok (.iconst (-1), 1) := by decide +kernel
theorem dX5_would_28 : decode cX5_would 28 = .ok (.ireturn, 1) := by decide +kernel
theorem dX5_would_29 : decode cX5_would 29 = .ok (.aload_n 0, 1) := by decide +kernel
theorem dX5_would_30 : decode cX5_would 30 = .ok (.getfield 38, 3) := by decide +kernel
theorem dX5_would_33 : decode cX5_would 33 = .ok (.aload_n 0, 1) := by decide +kernel
theorem dX5_would_34 : decode cX5_would 34 = .ok (.getfield 22, 3) := by decide +kernel
theorem dX5_would_37 : decode cX5_would 37 = .ok (.aload_n 0, 1) := by decide +kernel
theorem dX5_would_38 : decode cX5_would 38 = .ok (.getfield 25, 3) := by decide +kernel
theorem dX5_would_41 : decode cX5_would 41 = .ok (.aload_n 0, 1) := by decide +kernel
theorem dX5_would_42 : decode cX5_would 42 = .ok (.getfield 28, 3) := by decide +kernel
theorem dX5_would_45 : decode cX5_would 45 = .ok (.iload_n 1, 1) := by decide +kernel
theorem dX5_would_46 : decode cX5_would 46 = .ok (.invokevirtual 141, 3) := by decide +kernel
theorem dX5_would_49 : decode cX5_would 49 = .ok (.aload_n 0, 1) := by decide +kernel
theorem dX5_would_50 : decode cX5_would 50 = .ok (.getfield 38, 3) := by decide +kernel
theorem dX5_would_53 : decode cX5_would 53 = .ok (.sipush 400, 3) := by decide +kernel
theorem dX5_would_56 : decode cX5_would 56 = .ok (.invokevirtual 111, 3) := by decide +kernel
theorem dX5_would_59 : decode cX5_would 59 = .ok (.pop, 1) := by decide +kernel
theorem dX5_would_60 : decode cX5_would 60 = .ok (.aload_n 0, 1) := by decide +kernel
theorem dX5_would_61 : decode cX5_would 61 = .ok (.getfield 38, 3) := by decide +kernel
theorem dX5_would_64 : decode cX5_would 64 = .ok (.getfield 108, 3) := by decide +kernel
theorem dX5_would_67 : decode cX5_would 67 = .ok (.iload_n 2, 1) := by decide +kernel
theorem dX5_would_68 : decode cX5_would 68 = .ok (.invokevirtual 84, 3) := by decide +kernel
theorem dX5_would_71 : decode cX5_would 71 = .ok (.ireturn, 1) := by decide +kernel
set_option maxRecDepth 20000 in
theorem ggX5_descents_X5_descentsBetween : GoodIn wsX5_descents wsX5_descentsBetween := goodIn_r _ [6, 7, 8, 9, 5, 10, 11, 12, 13, 14, 15, 16, 17, 18, 19, 20, 21, 22, 23, 24, 25, 26, 27, 28, 29, 30, 31, 32, 33, 34, 35, 36, 37, 38, 39, 40, 41, 42, 43, 44, 45, 46] (by decide +kernel) (by decide +kernel)
set_option maxRecDepth 20000 in
theorem gX5_descents_X5_descentsBetween : GoodIn wsX5_descents (wsV RX5 145 RX5 yX5_descentsBetween wsX5_descentsBetween) := goodIn_app (goodIn_of _ (by decide +kernel)) ggX5_descents_X5_descentsBetween
theorem dX5_descents_0 : decode cX5_descents 0 = .ok (.aload_n 0, 1) := by decide +kernel
theorem dX5_descents_1 : decode cX5_descents 1 = .ok (.iconst 0, 1) := by decide +kernel
theorem dX5_descents_2 : decode cX5_descents 2 = .ok (.aload_n 0, 1) := by decide +kernel
theorem dX5_descents_3 : decode cX5_descents 3 = .ok (.getfield 25, 3) := by decide +kernel
theorem dX5_descents_6 : decode cX5_descents 6 = .ok (.invokevirtual 145, 3) := by decide +kernel
theorem dX5_descents_9 : decode cX5_descents 9 = .ok (.ireturn, 1) := by decide +kernel
set_option maxRecDepth 20000 in
theorem ggX5_inversions_X5_standsLess : GoodIn wsX5_inversions wsX5_standsLess := goodIn_r _ [6, 7, 8, 9, 10, 11, 12, 13, 14, 15, 5, 16, 17, 18, 19, 20, 21, 22, 23, 24, 25, 26, 27, 28, 29, 30, 31, 32, 33, 34, 35, 36, 37, 38, 39, 40, 41, 42] (by decide +kernel) (by decide +kernel)
set_option maxRecDepth 20000 in
theorem gX5_inversions_X5_standsLess : GoodIn wsX5_inversions (wsV RX5 148 RX5 yX5_standsLess wsX5_standsLess) := goodIn_app (goodIn_of _ (by decide +kernel)) ggX5_inversions_X5_standsLess
theorem dX5_inversions_0 : decode cX5_inversions 0 = .ok (.iconst 0, 1) := by decide +kernel
theorem dX5_inversions_1 : decode cX5_inversions 1 = .ok (.istore_n 1, 1) := by decide +kernel
theorem dX5_inversions_2 : decode cX5_inversions 2 = .ok (.iconst 1, 1) := by decide +kernel
theorem dX5_inversions_3 : decode cX5_inversions 3 = .ok (.istore_n 2, 1) := by decide +kernel
theorem dX5_inversions_4 : decode cX5_inversions 4 = .ok (.iload_n 2, 1) := by decide +kernel
theorem dX5_inversions_5 : decode cX5_inversions 5 = .ok (.aload_n 0, 1) := by decide +kernel
theorem dX5_inversions_6 : decode cX5_inversions 6 = .ok (.getfield 25, 3) := by decide +kernel
theorem dX5_inversions_9 : decode cX5_inversions 9 = .ok (.if_icmp .ge 34, 3) := by decide +kernel
theorem dX5_inversions_12 : decode cX5_inversions 12 = .ok (.iconst 0, 1) := by decide +kernel
theorem dX5_inversions_13 : decode cX5_inversions 13 = .ok (.istore_n 3, 1) := by decide +kernel
theorem dX5_inversions_14 : decode cX5_inversions 14 = .ok (.iload_n 3, 1) := by decide +kernel
theorem dX5_inversions_15 : decode cX5_inversions 15 = .ok (.iload_n 2, 1) := by decide +kernel
theorem dX5_inversions_16 : decode cX5_inversions 16 = .ok (.if_icmp .ge 21, 3) := by decide +kernel
theorem dX5_inversions_19 : decode cX5_inversions 19 = .ok (.aload_n 0, 1) := by decide +kernel
theorem dX5_inversions_20 : decode cX5_inversions 20 = .ok (.iload_n 2, 1) := by decide +kernel
theorem dX5_inversions_21 : decode cX5_inversions 21 = .ok (.iload_n 3, 1) := by decide +kernel
theorem dX5_inversions_22 : decode cX5_inversions 22 = .ok (.invokevirtual 148, 3) := by decide +kernel
theorem dX5_inversions_25 : decode cX5_inversions 25 = .ok (.ifCond .eq 6, 3) := by decide +kernel
theorem dX5_inversions_28 : decode cX5_inversions 28 = .ok (.iinc 1 1, 3) := by decide +kernel
theorem dX5_inversions_31 : decode cX5_inversions 31 = .ok (.iinc 3 1, 3) := by decide +kernel
theorem dX5_inversions_34 : decode cX5_inversions 34 = .ok (.goto (-20), 3) := by decide +kernel
theorem dX5_inversions_37 : decode cX5_inversions 37 = .ok (.iinc 2 1, 3) := by decide +kernel
theorem dX5_inversions_40 : decode cX5_inversions 40 = .ok (.goto (-36), 3) := by decide +kernel
theorem dX5_inversions_43 : decode cX5_inversions 43 = .ok (.iload_n 1, 1) := by decide +kernel
theorem dX5_inversions_44 : decode cX5_inversions 44 = .ok (.ireturn, 1) := by decide +kernel
set_option maxRecDepth 20000 in
theorem ggX5_seek_X5_isNoKey : GoodIn wsX5_seek wsX5_isNoKey := goodIn_r _ [9, 10, 11, 8, 12] (by decide +kernel) (by decide +kernel)
set_option maxRecDepth 20000 in
theorem gX5_seek_X5_isNoKey : GoodIn wsX5_seek (va_wsS RX5 102 yX5_isNoKey wsX5_isNoKey) := goodIn_app (goodIn_of _ (by decide +kernel)) ggX5_seek_X5_isNoKey
set_option maxRecDepth 20000 in
theorem ggX5_seek_X5_isOutside : GoodIn wsX5_seek wsX5_isOutside := goodIn_r _ [12] (by decide +kernel) (by decide +kernel)
set_option maxRecDepth 20000 in
theorem gX5_seek_X5_isOutside : GoodIn wsX5_seek (va_wsS RX5 80 yX5_isOutside wsX5_isOutside) := goodIn_app (goodIn_of _ (by decide +kernel)) ggX5_seek_X5_isOutside
set_option maxRecDepth 20000 in
theorem ggX5_seek_X5_descentsBetween : GoodIn wsX5_seek wsX5_descentsBetween := goodIn_r _ [16, 17, 18, 19, 8, 20, 3, 5, 21, 22, 23, 24, 25, 26, 27, 28, 29, 30, 31, 32, 63, 64, 65, 66, 67, 68, 69, 70, 71, 74, 75, 76, 77, 78, 79, 80, 81, 82, 83, 84, 85, 86] (by decide +kernel) (by decide +kernel)
set_option maxRecDepth 20000 in
theorem gX5_seek_X5_descentsBetween : GoodIn wsX5_seek (wsV RX5 145 RX5 yX5_descentsBetween wsX5_descentsBetween) := goodIn_app (goodIn_of _ (by decide +kernel)) ggX5_seek_X5_descentsBetween
set_option maxRecDepth 20000 in
theorem ggX5_seek_X0_look : GoodIn wsX5_seek wsX0_look := goodIn_r _ [24, 25, 86] (by decide +kernel) (by decide +kernel)
set_option maxRecDepth 20000 in
theorem gX5_seek_X0_look_n84 : GoodIn wsX5_seek (wsX0_look) := ggX5_seek_X0_look
set_option maxRecDepth 20000 in
theorem ggX5_seek_X0_fill : GoodIn wsX5_seek wsX0_fill := goodIn_r _ [35, 25, 86] (by decide +kernel) (by decide +kernel)
set_option maxRecDepth 20000 in
theorem gX5_seek_X0_fill_n57 : GoodIn wsX5_seek (wsX0_fill) := ggX5_seek_X0_fill
set_option maxRecDepth 20000 in
theorem ggX5_seek_X4_aim : GoodIn wsX5_seek wsX4_aim := goodIn_r _ [39, 40, 41, 42, 43, 87, 88, 89, 90] (by decide +kernel) (by decide +kernel)
set_option maxRecDepth 20000 in
theorem gX5_seek_X4_aim_n156 : GoodIn wsX5_seek (wsX4_aim) := ggX5_seek_X4_aim
set_option maxRecDepth 20000 in
theorem ggX5_seek_X5_recordOf : GoodIn wsX5_seek wsX5_recordOf := goodIn_r _ [46] (by decide +kernel) (by decide +kernel)
set_option maxRecDepth 20000 in
theorem gX5_seek_X5_recordOf : GoodIn wsX5_seek (va_wsS RX5 73 yX5_recordOf wsX5_recordOf) := goodIn_app (goodIn_of _ (by decide +kernel)) ggX5_seek_X5_recordOf
set_option maxRecDepth 20000 in
theorem ggX5_seek_X1_passing : GoodIn wsX5_seek wsX1_passing := goodIn_r _ [50, 51, 37, 52, 53, 40, 41, 42, 21, 22, 23, 24, 25, 54, 55, 56, 48, 57, 58, 59, 60, 61, 62, 27, 8, 28, 30, 31, 32, 87, 88, 89, 90, 86, 72, 73] (by decide +kernel) (by decide +kernel)
set_option maxRecDepth 20000 in
theorem gX5_seek_X1_passing_n160 : GoodIn wsX5_seek (wsX1_passing) := ggX5_seek_X1_passing
theorem dX5_seek_0 : decode cX5_seek 0 = .ok (.iload_n 1, 1) := by decide +kernel
theorem dX5_seek_1 : decode cX5_seek 1 = .ok (.ifCond .lt 33, 3) := by decide +kernel
theorem dX5_seek_4 : decode cX5_seek 4 = .ok (.iload_n 1, 1) := by decide +kernel
theorem dX5_seek_5 : decode cX5_seek 5 = .ok (.iload_n 2, 1) := by decide +kernel
theorem dX5_seek_6 : decode cX5_seek 6 = .ok (.if_icmp .gt 28, 3) := by decide +kernel
theorem dX5_seek_9 : decode cX5_seek 9 = .ok (.iload_n 2, 1) := by decide +kernel
theorem dX5_seek_10 : decode cX5_seek 10 = .ok (.aload_n 0, 1) := by decide +kernel
theorem dX5_seek_11 : decode cX5_seek 11 = .ok (.getfield 25, 3) := by decide +kernel
theorem dX5_seek_14 : decode cX5_seek 14 = .ok (.if_icmp .gt 20, 3) := by decide +kernel
theorem dX5_seek_17 : decode cX5_seek 17 = .ok (.iload_n 3, 1) := by decide +kernel
theorem dX5_seek_18 : decode cX5_seek 18 = .ok (.invokestatic 102, 3) := by decide +kernel
theorem dX5_seek_21 : decode cX5_seek 21 = .ok (.ifCond .ne 13, 3) := by decide +kernel
theorem dX5_seek_24 : decode cX5_seek 24 = .ok (.iload 4, 2) := by decide +kernel
theorem dX5_seek_26 : decode cX5_seek 26 = .ok (.iconst 0, 1) := by decide +kernel
theorem dX5_seek_27 : decode cX5_seek 27 = .ok (.iconst 1, 1) := by decide +kernel
theorem dX5_seek_28 : decode cX5_seek 28 = .ok (.invokestatic 80, 3) := by decide +kernel
theorem dX5_seek_31 : decode cX5_seek 31 = .ok (.ifCond .eq 5, 3) := by decide +kernel
theorem dX5_seek_34 : decode cX5_seek 34 = .ok (.iconst (-1), 1) := by decide +kernel
theorem dX5_seek_35 : decode cX5_seek 35 = .ok (.ireturn, 1) := by decide +kernel
theorem dX5_seek_36 : decode cX5_seek 36 = .ok (.aload_n 0, 1) := by decide +kernel
theorem dX5_seek_37 : decode cX5_seek 37 = .ok (.iload_n 1, 1) := by decide +kernel
theorem dX5_seek_38 : decode cX5_seek 38 = .ok (.iload_n 2, 1) := by decide +kernel
theorem dX5_seek_39 : decode cX5_seek 39 = .ok (.invokevirtual 145, 3) := by decide +kernel
theorem dX5_seek_42 : decode cX5_seek 42 = .ok (.ifCond .le 6, 3) := by decide +kernel
theorem dX5_seek_45 : decode cX5_seek 45 = .ok (.bipush (-2), 2) := by decide +kernel
theorem dX5_seek_47 : decode cX5_seek 47 = .ok (.ireturn, 1) := by decide +kernel
theorem dX5_seek_48 : decode cX5_seek 48 = .ok (.aload_n 0, 1) := by decide +kernel
theorem dX5_seek_49 : decode cX5_seek 49 = .ok (.getfield 46, 3) := by decide +kernel
theorem dX5_seek_52 : decode cX5_seek 52 = .ok (.aload_n 0, 1) := by decide +kernel
theorem dX5_seek_53 : decode cX5_seek 53 = .ok (.getfield 28, 3) := by decide +kernel
theorem dX5_seek_56 : decode cX5_seek 56 = .ok (.iconst 0, 1) := by decide +kernel
theorem dX5_seek_57 : decode cX5_seek 57 = .ok (.invokevirtual 84, 3) := by decide +kernel
theorem dX5_seek_60 : decode cX5_seek 60 = .ok (.putfield 152, 3) := by decide +kernel
theorem dX5_seek_63 : decode cX5_seek 63 = .ok (.aload_n 0, 1) := by decide +kernel
theorem dX5_seek_64 : decode cX5_seek 64 = .ok (.getfield 46, 3) := by decide +kernel
theorem dX5_seek_67 : decode cX5_seek 67 = .ok (.getfield 155, 3) := by decide +kernel
theorem dX5_seek_70 : decode cX5_seek 70 = .ok (.iconst 0, 1) := by decide +kernel
theorem dX5_seek_71 : decode cX5_seek 71 = .ok (.iconst 0, 1) := by decide +kernel
theorem dX5_seek_72 : decode cX5_seek 72 = .ok (.invokevirtual 57, 3) := by decide +kernel
theorem dX5_seek_75 : decode cX5_seek 75 = .ok (.aload_n 0, 1) := by decide +kernel
theorem dX5_seek_76 : decode cX5_seek 76 = .ok (.getfield 53, 3) := by decide +kernel
theorem dX5_seek_79 : decode cX5_seek 79 = .ok (.aload_n 0, 1) := by decide +kernel
theorem dX5_seek_80 : decode cX5_seek 80 = .ok (.getfield 34, 3) := by decide +kernel
theorem dX5_seek_83 : decode cX5_seek 83 = .ok (.getfield 117, 3) := by decide +kernel
theorem dX5_seek_86 : decode cX5_seek 86 = .ok (.iload_n 1, 1) := by decide +kernel
theorem dX5_seek_87 : decode cX5_seek 87 = .ok (.iconst 1, 1) := by decide +kernel
theorem dX5_seek_88 : decode cX5_seek 88 = .ok (.iload_n 2, 1) := by decide +kernel
theorem dX5_seek_89 : decode cX5_seek 89 = .ok (.iload_n 1, 1) := by decide +kernel
theorem dX5_seek_90 : decode cX5_seek 90 = .ok (.isub, 1) := by decide +kernel
theorem dX5_seek_91 : decode cX5_seek 91 = .ok (.invokevirtual 156, 3) := by decide +kernel
theorem dX5_seek_94 : decode cX5_seek 94 = .ok (.aload_n 0, 1) := by decide +kernel
theorem dX5_seek_95 : decode cX5_seek 95 = .ok (.getfield 46, 3) := by decide +kernel
theorem dX5_seek_98 : decode cX5_seek 98 = .ok (.aload_n 0, 1) := by decide +kernel
theorem dX5_seek_99 : decode cX5_seek 99 = .ok (.getfield 53, 3) := by decide +kernel
theorem dX5_seek_102 : decode cX5_seek 102 = .ok (.iload_n 3, 1) := by decide +kernel
theorem dX5_seek_103 : decode cX5_seek 103 = .ok (.iconst 0, 1) := by decide +kernel
theorem dX5_seek_104 : decode cX5_seek 104 = .ok (.invokestatic 73, 3) := by decide +kernel
theorem dX5_seek_107 : decode cX5_seek 107 = .ok (.iconst 0, 1) := by decide +kernel
theorem dX5_seek_108 : decode cX5_seek 108 = .ok (.iconst 1, 1) := by decide +kernel
theorem dX5_seek_109 : decode cX5_seek 109 = .ok (.invokevirtual 160, 3) := by decide +kernel
theorem dX5_seek_112 : decode cX5_seek 112 = .ok (.istore 5, 2) := by decide +kernel
theorem dX5_seek_114 : decode cX5_seek 114 = .ok (.iload 4, 2) := by decide +kernel
theorem dX5_seek_116 : decode cX5_seek 116 = .ok (.ifCond .ne 8, 3) := by decide +kernel
theorem dX5_seek_119 : decode cX5_seek 119 = .ok (.iload 5, 2) := by decide +kernel
theorem dX5_seek_121 : decode cX5_seek 121 = .ok (.goto 14, 3) := by decide +kernel
theorem dX5_seek_124 : decode cX5_seek 124 = .ok (.aload_n 0, 1) := by decide +kernel
theorem dX5_seek_125 : decode cX5_seek 125 = .ok (.getfield 46, 3) := by decide +kernel
theorem dX5_seek_128 : decode cX5_seek 128 = .ok (.getfield 155, 3) := by decide +kernel
theorem dX5_seek_131 : decode cX5_seek 131 = .ok (.iconst 0, 1) := by decide +kernel
theorem dX5_seek_132 : decode cX5_seek 132 = .ok (.invokevirtual 84, 3) := by decide +kernel
theorem dX5_seek_135 : decode cX5_seek 135 = .ok (.ireturn, 1) := by decide +kernel
set_option maxRecDepth 20000 in
theorem ggX5_less_X5_isNoKey : GoodIn wsX5_less wsX5_isNoKey := goodIn_r _ [5, 6, 7, 4, 8] (by decide +kernel) (by decide +kernel)
set_option maxRecDepth 20000 in
theorem gX5_less_X5_isNoKey : GoodIn wsX5_less (va_wsS RX5 102 yX5_isNoKey wsX5_isNoKey) := goodIn_app (goodIn_of _ (by decide +kernel)) ggX5_less_X5_isNoKey
set_option maxRecDepth 20000 in
theorem ggX5_less_X0_look : GoodIn wsX5_less wsX0_look := goodIn_r _ [12, 13, 27] (by decide +kernel) (by decide +kernel)
set_option maxRecDepth 20000 in
theorem gX5_less_X0_look_n84 : GoodIn wsX5_less (wsX0_look) := ggX5_less_X0_look
set_option maxRecDepth 20000 in
theorem ggX5_less_X5_rankOf : GoodIn wsX5_less wsX5_rankOf := goodIn_r _ [16, 17] (by decide +kernel) (by decide +kernel)
set_option maxRecDepth 20000 in
theorem gX5_less_X5_rankOf : GoodIn wsX5_less (va_wsS RX5 164 yX5_rankOf wsX5_rankOf) := goodIn_app (goodIn_of _ (by decide +kernel)) ggX5_less_X5_rankOf
theorem dX5_less_0 : decode cX5_less 0 = .ok (.iload_n 1, 1) := by decide +kernel
theorem dX5_less_1 : decode cX5_less 1 = .ok (.invokestatic 102, 3) := by decide +kernel
theorem dX5_less_4 : decode cX5_less 4 = .ok (.ifCond .ne 10, 3) := by decide +kernel
theorem dX5_less_7 : decode cX5_less 7 = .ok (.iload_n 2, 1) := by decide +kernel
theorem dX5_less_8 : decode cX5_less 8 = .ok (.invokestatic 102, 3) := by decide +kernel
theorem dX5_less_11 : decode cX5_less 11 = .ok (.ifCond .eq 5, 3) := by decide +kernel
theorem dX5_less_14 : decode cX5_less 14 = .ok (.iconst (-1), 1) := by decide +kernel
theorem dX5_less_15 : decode cX5_less 15 = .ok (.ireturn, 1) := by decide +kernel
theorem dX5_less_16 : decode cX5_less 16 = .ok (.aload_n 0, 1) := by decide +kernel
theorem dX5_less_17 : decode cX5_less 17 = .ok (.getfield 28, 3) := by decide +kernel
theorem dX5_less_20 : decode cX5_less 20 = .ok (.iconst 0, 1) := by decide +kernel
theorem dX5_less_21 : decode cX5_less 21 = .ok (.invokevirtual 84, 3) := by decide +kernel
theorem dX5_less_24 : decode cX5_less 24 = .ok (.istore_n 3, 1) := by decide +kernel
theorem dX5_less_25 : decode cX5_less 25 = .ok (.iload_n 3, 1) := by decide +kernel
theorem dX5_less_26 : decode cX5_less 26 = .ok (.iload_n 1, 1) := by decide +kernel
theorem dX5_less_27 : decode cX5_less 27 = .ok (.invokestatic 164, 3) := by decide +kernel
theorem dX5_less_30 : decode cX5_less 30 = .ok (.iload_n 3, 1) := by decide +kernel
theorem dX5_less_31 : decode cX5_less 31 = .ok (.iload_n 2, 1) := by decide +kernel
theorem dX5_less_32 : decode cX5_less 32 = .ok (.invokestatic 164, 3) := by decide +kernel
theorem dX5_less_35 : decode cX5_less 35 = .ok (.if_icmp .ge 7, 3) := by decide +kernel
theorem dX5_less_38 : decode cX5_less 38 = .ok (.iconst 1, 1) := by decide +kernel
theorem dX5_less_39 : decode cX5_less 39 = .ok (.goto 4, 3) := by decide +kernel
theorem dX5_less_42 : decode cX5_less 42 = .ok (.iconst 0, 1) := by decide +kernel
theorem dX5_less_43 : decode cX5_less 43 = .ok (.ireturn, 1) := by decide +kernel
set_option maxRecDepth 20000 in
theorem ggX5_count_X0_look : GoodIn wsX5_count wsX0_look := goodIn_r _ [8, 9, 74] (by decide +kernel) (by decide +kernel)
set_option maxRecDepth 20000 in
theorem gX5_count_X0_look_n84 : GoodIn wsX5_count (wsX0_look) := ggX5_count_X0_look
set_option maxRecDepth 20000 in
theorem ggX5_count_X3_kindOfNext : GoodIn wsX5_count wsX3_kindOfNext := goodIn_r _ [13, 14, 15, 16, 17, 18, 19, 11, 20, 21, 22, 23, 24, 25, 26, 27, 28, 29, 30, 31, 32, 5, 6, 7, 8, 9, 33, 34, 35, 36, 37, 38, 39, 40, 41, 42, 43, 44, 45, 46, 47, 48, 49, 50, 51, 52, 62, 63, 64, 65, 66, 67, 68, 69, 70, 71, 72, 73, 74] (by decide +kernel) (by decide +kernel)
set_option maxRecDepth 20000 in
theorem gX5_count_X3_kindOfNext_n114 : GoodIn wsX5_count (wsX3_kindOfNext) := ggX5_count_X3_kindOfNext
theorem dX5_count_0 : decode cX5_count 0 = .ok (.iload_n 1, 1) := by decide +kernel
theorem dX5_count_1 : decode cX5_count 1 = .ok (.tableswitch 117 0 7 #[47, 52, 61, 70, 79, 88, 93, 101], 47) := by decide +kernel
theorem dX5_count_48 : decode cX5_count 48 = .ok (.aload_n 0, 1) := by decide +kernel
theorem dX5_count_49 : decode cX5_count 49 = .ok (.getfield 25, 3) := by decide +kernel
theorem dX5_count_52 : decode cX5_count 52 = .ok (.ireturn, 1) := by decide +kernel
theorem dX5_count_53 : decode cX5_count 53 = .ok (.aload_n 0, 1) := by decide +kernel
theorem dX5_count_54 : decode cX5_count 54 = .ok (.getfield 28, 3) := by decide +kernel
theorem dX5_count_57 : decode cX5_count 57 = .ok (.iconst 0, 1) := by decide +kernel
theorem dX5_count_58 : decode cX5_count 58 = .ok (.invokevirtual 84, 3) := by decide +kernel
theorem dX5_count_61 : decode cX5_count 61 = .ok (.ireturn, 1) := by decide +kernel
theorem dX5_count_62 : decode cX5_count 62 = .ok (.aload_n 0, 1) := by decide +kernel
theorem dX5_count_63 : decode cX5_count 63 = .ok (.getfield 28, 3) := by decide +kernel
theorem dX5_count_66 : decode cX5_count 66 = .ok (.iconst 1, 1) := by decide +kernel
theorem dX5_count_67 : decode cX5_count 67 = .ok (.invokevirtual 84, 3) := by decide +kernel
theorem dX5_count_70 : decode cX5_count 70 = .ok (.ireturn, 1) := by decide +kernel
theorem dX5_count_71 : decode cX5_count 71 = .ok (.aload_n 0, 1) := by decide +kernel
theorem dX5_count_72 : decode cX5_count 72 = .ok (.getfield 28, 3) := by decide +kernel
theorem dX5_count_75 : decode cX5_count 75 = .ok (.iconst 2, 1) := by decide +kernel
theorem dX5_count_76 : decode cX5_count 76 = .ok (.invokevirtual 84, 3) := by decide +kernel
theorem dX5_count_79 : decode cX5_count 79 = .ok (.ireturn, 1) := by decide +kernel
theorem dX5_count_80 : decode cX5_count 80 = .ok (.aload_n 0, 1) := by decide +kernel
theorem dX5_count_81 : decode cX5_count 81 = .ok (.getfield 28, 3) := by decide +kernel
theorem dX5_count_84 : decode cX5_count 84 = .ok (.iconst 3, 1) := by decide +kernel
theorem dX5_count_85 : decode cX5_count 85 = .ok (.invokevirtual 84, 3) := by decide +kernel
theorem dX5_count_88 : decode cX5_count 88 = .ok (.ireturn, 1) := by decide +kernel
theorem dX5_count_89 : decode cX5_count 89 = .ok (.aload_n 0, 1) := by decide +kernel
theorem dX5_count_90 : decode cX5_count 90 = .ok (.getfield 18, 3) := by decide +kernel
theorem dX5_count_93 : decode cX5_count 93 = .ok (.ireturn, 1) := by decide +kernel
theorem dX5_count_94 : decode cX5_count 94 = .ok (.aload_n 0, 1) := by decide +kernel
theorem dX5_count_95 : decode cX5_count 95 = .ok (.getfield 34, 3) := by decide +kernel
theorem dX5_count_98 : decode cX5_count 98 = .ok (.getfield 167, 3) := by decide +kernel
theorem dX5_count_101 : decode cX5_count 101 = .ok (.ireturn, 1) := by decide +kernel
theorem dX5_count_102 : decode cX5_count 102 = .ok (.aload_n 0, 1) := by decide +kernel
theorem dX5_count_103 : decode cX5_count 103 = .ok (.getfield 34, 3) := by decide +kernel
theorem dX5_count_106 : decode cX5_count 106 = .ok (.invokevirtual 114, 3) := by decide +kernel
theorem dX5_count_109 : decode cX5_count 109 = .ok (.ifCond .ne 7, 3) := by decide +kernel
theorem dX5_count_112 : decode cX5_count 112 = .ok (.iconst 1, 1) := by decide +kernel
theorem dX5_count_113 : decode cX5_count 113 = .ok (.goto 4, 3) := by decide +kernel
theorem dX5_count_116 : decode cX5_count 116 = .ok (.iconst 0, 1) := by decide +kernel
theorem dX5_count_117 : decode cX5_count 117 = .ok (.ireturn, 1) := by decide +kernel
theorem dX5_count_118 : decode cX5_count 118 = .ok (.iconst (-1), 1) := by decide +kernel
theorem dX5_count_119 : decode cX5_count 119 = .ok (.ireturn, 1) := by decide +kernel
set_option maxRecDepth 20000 in
theorem ggX5_beginAnew_X0_look : GoodIn wsX5_beginAnew wsX0_look := goodIn_r _ [8, 9, 42] (by decide +kernel) (by decide +kernel)
set_option maxRecDepth 20000 in
theorem gX5_beginAnew_X0_look_n84 : GoodIn wsX5_beginAnew (wsX0_look) := ggX5_beginAnew_X0_look
set_option maxRecDepth 20000 in
theorem ggX5_beginAnew_X3_begin : GoodIn wsX5_beginAnew wsX3_begin := goodIn_r _ [13, 14, 15, 16, 17, 18, 19, 20, 21, 22, 5, 6, 7, 8, 9, 23, 24, 25, 26, 27, 28, 29, 30, 31, 32, 43, 44, 45, 46, 47, 48, 49, 50, 51, 52, 53, 54, 55, 56, 42] (by decide +kernel) (by decide +kernel)
set_option maxRecDepth 20000 in
theorem gX5_beginAnew_X3_begin_n141 : GoodIn wsX5_beginAnew (wsX3_begin) := ggX5_beginAnew_X3_begin
theorem dX5_beginAnew_0 : decode cX5_beginAnew 0 = .ok (.aload_n 0, 1) := by decide +kernel
theorem dX5_beginAnew_1 : decode cX5_beginAnew 1 = .ok (.getfield 34, 3) := by decide +kernel
theorem dX5_beginAnew_4 : decode cX5_beginAnew 4 = .ok (.aload_n 0, 1) := by decide +kernel
theorem dX5_beginAnew_5 : decode cX5_beginAnew 5 = .ok (.getfield 22, 3) := by decide +kernel
theorem dX5_beginAnew_8 : decode cX5_beginAnew 8 = .ok (.aload_n 0, 1) := by decide +kernel
theorem dX5_beginAnew_9 : decode cX5_beginAnew 9 = .ok (.getfield 25, 3) := by decide +kernel
theorem dX5_beginAnew_12 : decode cX5_beginAnew 12 = .ok (.aload_n 0, 1) := by decide +kernel
theorem dX5_beginAnew_13 : decode cX5_beginAnew 13 = .ok (.getfield 28, 3) := by decide +kernel
theorem dX5_beginAnew_16 : decode cX5_beginAnew 16 = .ok (.aload_n 0, 1) := by decide +kernel
theorem dX5_beginAnew_17 : decode cX5_beginAnew 17 = .ok (.getfield 28, 3) := by decide +kernel
theorem dX5_beginAnew_20 : decode cX5_beginAnew 20 = .ok (.iconst 1, 1) := by decide +kernel
theorem dX5_beginAnew_21 : decode cX5_beginAnew 21 = .ok (.invokevirtual 84, 3) := by decide +kernel
theorem dX5_beginAnew_24 : decode cX5_beginAnew 24 = .ok (.invokevirtual 141, 3) := by decide +kernel
theorem dX5_beginAnew_27 : decode cX5_beginAnew 27 = .ok (.return_, 1) := by decide +kernel
set_option maxRecDepth 20000 in
theorem ggX5_descentsBetween_X5_standsLess : GoodIn wsX5_descentsBetween wsX5_standsLess := goodIn_r _ [5, 6, 7, 8, 9, 10, 11, 12, 13, 14, 4, 15, 16, 17, 18, 19, 20, 21, 22, 23, 24, 25, 26, 27, 28, 29, 30, 31, 32, 33, 34, 35, 36, 37, 38, 39, 40, 41] (by decide +kernel) (by decide +kernel)
set_option maxRecDepth 20000 in
theorem gX5_descentsBetween_X5_standsLess : GoodIn wsX5_descentsBetween (wsV RX5 148 RX5 yX5_standsLess wsX5_standsLess) := goodIn_app (goodIn_of _ (by decide +kernel)) ggX5_descentsBetween_X5_standsLess
theorem dX5_descentsBetween_0 : decode cX5_descentsBetween 0 = .ok (.iconst 0, 1) := by decide +kernel
theorem dX5_descentsBetween_1 : decode cX5_descentsBetween 1 = .ok (.istore_n 3, 1) := by decide +kernel
theorem dX5_descentsBetween_2 : decode cX5_descentsBetween 2 = .ok (.iload_n 1, 1) := by decide +kernel
theorem dX5_descentsBetween_3 : decode cX5_descentsBetween 3 = .ok (.iconst 1, 1) := by decide +kernel
theorem dX5_descentsBetween_4 : decode cX5_descentsBetween 4 = .ok (.iadd, 1) := by decide +kernel
theorem dX5_descentsBetween_5 : decode cX5_descentsBetween 5 = .ok (.istore 4, 2) := by decide +kernel
theorem dX5_descentsBetween_7 : decode cX5_descentsBetween 7 = .ok (.iload 4, 2) := by decide +kernel
theorem dX5_descentsBetween_9 : decode cX5_descentsBetween 9 = .ok (.iload_n 2, 1) := by decide +kernel
theorem dX5_descentsBetween_10 : decode cX5_descentsBetween 10 = .ok (.if_icmp .ge 25, 3) := by decide +kernel
theorem dX5_descentsBetween_13 : decode cX5_descentsBetween 13 = .ok (.aload_n 0, 1) := by decide +kernel
theorem dX5_descentsBetween_14 : decode cX5_descentsBetween 14 = .ok (.iload 4, 2) := by decide +kernel
theorem dX5_descentsBetween_16 : decode cX5_descentsBetween 16 = .ok (.iload 4, 2) := by decide +kernel
theorem dX5_descentsBetween_18 : decode cX5_descentsBetween 18 = .ok (.iconst 1, 1) := by decide +kernel
theorem dX5_descentsBetween_19 : decode cX5_descentsBetween 19 = .ok (.isub, 1) := by decide +kernel
theorem dX5_descentsBetween_20 : decode cX5_descentsBetween 20 = .ok (.invokevirtual 148, 3) := by decide +kernel
theorem dX5_descentsBetween_23 : decode cX5_descentsBetween 23 = .ok (.ifCond .eq 6, 3) := by decide +kernel
theorem dX5_descentsBetween_26 : decode cX5_descentsBetween 26 = .ok (.iinc 3 1, 3) := by decide +kernel
theorem dX5_descentsBetween_29 : decode cX5_descentsBetween 29 = .ok (.iinc 4 1, 3) := by decide +kernel
theorem dX5_descentsBetween_32 : decode cX5_descentsBetween 32 = .ok (.goto (-25), 3) := by decide +kernel
theorem dX5_descentsBetween_35 : decode cX5_descentsBetween 35 = .ok (.iload_n 3, 1) := by decide +kernel
theorem dX5_descentsBetween_36 : decode cX5_descentsBetween 36 = .ok (.ireturn, 1) := by decide +kernel
set_option maxRecDepth 20000 in
theorem ggX5_standsLess_X0_look : GoodIn wsX5_standsLess wsX0_look := goodIn_r _ [6, 7, 37] (by decide +kernel) (by decide +kernel)
set_option maxRecDepth 20000 in
theorem gX5_standsLess_X0_look_n84 : GoodIn wsX5_standsLess (wsX0_look) := ggX5_standsLess_X0_look
set_option maxRecDepth 20000 in
theorem ggX5_standsLess_X5_keyOf : GoodIn wsX5_standsLess wsX5_keyOf := goodIn_r _ [11] (by decide +kernel) (by decide +kernel)
set_option maxRecDepth 20000 in
theorem gX5_standsLess_X5_keyOf : GoodIn wsX5_standsLess (va_wsS RX5 105 yX5_keyOf wsX5_keyOf) := goodIn_app (goodIn_of _ (by decide +kernel)) ggX5_standsLess_X5_keyOf
set_option maxRecDepth 20000 in
theorem ggX5_standsLess_X5_rankOf : GoodIn wsX5_standsLess wsX5_rankOf := goodIn_r _ [14, 15] (by decide +kernel) (by decide +kernel)
set_option maxRecDepth 20000 in
theorem gX5_standsLess_X5_rankOf : GoodIn wsX5_standsLess (va_wsS RX5 164 yX5_rankOf wsX5_rankOf) := goodIn_app (goodIn_of _ (by decide +kernel)) ggX5_standsLess_X5_rankOf
theorem dX5_standsLess_0 : decode cX5_standsLess 0 = .ok (.aload_n 0, 1) := by decide +kernel
theorem dX5_standsLess_1 : decode cX5_standsLess 1 = .ok (.getfield 28, 3) := by decide +kernel
theorem dX5_standsLess_4 : decode cX5_standsLess 4 = .ok (.iconst 0, 1) := by decide +kernel
theorem dX5_standsLess_5 : decode cX5_standsLess 5 = .ok (.invokevirtual 84, 3) := by decide +kernel
theorem dX5_standsLess_8 : decode cX5_standsLess 8 = .ok (.istore_n 3, 1) := by decide +kernel
theorem dX5_standsLess_9 : decode cX5_standsLess 9 = .ok (.iload_n 3, 1) := by decide +kernel
theorem dX5_standsLess_10 : decode cX5_standsLess 10 = .ok (.aload_n 0, 1) := by decide +kernel
theorem dX5_standsLess_11 : decode cX5_standsLess 11 = .ok (.getfield 34, 3) := by decide +kernel
theorem dX5_standsLess_14 : decode cX5_standsLess 14 = .ok (.getfield 117, 3) := by decide +kernel
theorem dX5_standsLess_17 : decode cX5_standsLess 17 = .ok (.iload_n 1, 1) := by decide +kernel
theorem dX5_standsLess_18 : decode cX5_standsLess 18 = .ok (.invokevirtual 84, 3) := by decide +kernel
theorem dX5_standsLess_21 : decode cX5_standsLess 21 = .ok (.invokestatic 105, 3) := by decide +kernel
theorem dX5_standsLess_24 : decode cX5_standsLess 24 = .ok (.invokestatic 164, 3) := by decide +kernel
theorem dX5_standsLess_27 : decode cX5_standsLess 27 = .ok (.iload_n 3, 1) := by decide +kernel
theorem dX5_standsLess_28 : decode cX5_standsLess 28 = .ok (.aload_n 0, 1) := by decide +kernel
theorem dX5_standsLess_29 : decode cX5_standsLess 29 = .ok (.getfield 34, 3) := by decide +kernel
theorem dX5_standsLess_32 : decode cX5_standsLess 32 = .ok (.getfield 117, 3) := by decide +kernel
theorem dX5_standsLess_35 : decode cX5_standsLess 35 = .ok (.iload_n 2, 1) := by decide +kernel
theorem dX5_standsLess_36 : decode cX5_standsLess 36 = .ok (.invokevirtual 84, 3) := by decide +kernel
theorem dX5_standsLess_39 : decode cX5_standsLess 39 = .ok (.invokestatic 105, 3) := by decide +kernel
theorem dX5_standsLess_42 : decode cX5_standsLess 42 = .ok (.invokestatic 164, 3) := by decide +kernel
theorem dX5_standsLess_45 : decode cX5_standsLess 45 = .ok (.if_icmp .ge 7, 3) := by decide +kernel
theorem dX5_standsLess_48 : decode cX5_standsLess 48 = .ok (.iconst 1, 1) := by decide +kernel
theorem dX5_standsLess_49 : decode cX5_standsLess 49 = .ok (.goto 4, 3) := by decide +kernel
theorem dX5_standsLess_52 : decode cX5_standsLess 52 = .ok (.iconst 0, 1) := by decide +kernel
theorem dX5_standsLess_53 : decode cX5_standsLess 53 = .ok (.ireturn, 1) := by decide +kernel
set_option maxRecDepth 20000 in
theorem ggX5_isNoPlace_X5_isOutside : GoodIn wsX5_isNoPlace wsX5_isOutside := goodIn_r _ [5] (by decide +kernel) (by decide +kernel)
set_option maxRecDepth 20000 in
theorem gX5_isNoPlace_X5_isOutside : GoodIn wsX5_isNoPlace (va_wsS RX5 80 yX5_isOutside wsX5_isOutside) := goodIn_app (goodIn_of _ (by decide +kernel)) ggX5_isNoPlace_X5_isOutside
theorem dX5_isNoPlace_0 : decode cX5_isNoPlace 0 = .ok (.iload_n 1, 1) := by decide +kernel
theorem dX5_isNoPlace_1 : decode cX5_isNoPlace 1 = .ok (.iconst 0, 1) := by decide +kernel
theorem dX5_isNoPlace_2 : decode cX5_isNoPlace 2 = .ok (.aload_n 0, 1) := by decide +kernel
theorem dX5_isNoPlace_3 : decode cX5_isNoPlace 3 = .ok (.getfield 25, 3) := by decide +kernel
theorem dX5_isNoPlace_6 : decode cX5_isNoPlace 6 = .ok (.iconst 1, 1) := by decide +kernel
theorem dX5_isNoPlace_7 : decode cX5_isNoPlace 7 = .ok (.isub, 1) := by decide +kernel
theorem dX5_isNoPlace_8 : decode cX5_isNoPlace 8 = .ok (.invokestatic 80, 3) := by decide +kernel
theorem dX5_isNoPlace_11 : decode cX5_isNoPlace 11 = .ok (.ireturn, 1) := by decide +kernel
set_option maxRecDepth 20000 in
theorem ggX5_isNoKey_X5_isOutside : GoodIn wsX5_isNoKey wsX5_isOutside := goodIn_r _ [4] (by decide +kernel) (by decide +kernel)
set_option maxRecDepth 20000 in
theorem gX5_isNoKey_X5_isOutside : GoodIn wsX5_isNoKey (va_wsS RX5 80 yX5_isOutside wsX5_isOutside) := goodIn_app (goodIn_of _ (by decide +kernel)) ggX5_isNoKey_X5_isOutside
theorem dX5_isNoKey_0 : decode cX5_isNoKey 0 = .ok (.iload_n 0, 1) := by decide +kernel
theorem dX5_isNoKey_1 : decode cX5_isNoKey 1 = .ok (.iconst 0, 1) := by decide +kernel
theorem dX5_isNoKey_2 : decode cX5_isNoKey 2 = .ok (.bipush 25, 2) := by decide +kernel
theorem dX5_isNoKey_4 : decode cX5_isNoKey 4 = .ok (.invokestatic 80, 3) := by decide +kernel
theorem dX5_isNoKey_7 : decode cX5_isNoKey 7 = .ok (.ireturn, 1) := by decide +kernel
theorem dX5_isOutside_0 : decode cX5_isOutside 0 = .ok (.iload_n 0, 1) := by decide +kernel
theorem dX5_isOutside_1 : decode cX5_isOutside 1 = .ok (.iload_n 1, 1) := by decide +kernel
theorem dX5_isOutside_2 : decode cX5_isOutside 2 = .ok (.if_icmp .lt 8, 3) := by decide +kernel
theorem dX5_isOutside_5 : decode cX5_isOutside 5 = .ok (.iload_n 0, 1) := by decide +kernel
theorem dX5_isOutside_6 : decode cX5_isOutside 6 = .ok (.iload_n 2, 1) := by decide +kernel
theorem dX5_isOutside_7 : decode cX5_isOutside 7 = .ok (.if_icmp .le 7, 3) := by decide +kernel
theorem dX5_isOutside_10 : decode cX5_isOutside 10 = .ok (.iconst 1, 1) := by decide +kernel
theorem dX5_isOutside_11 : decode cX5_isOutside 11 = .ok (.goto 4, 3) := by decide +kernel
theorem dX5_isOutside_14 : decode cX5_isOutside 14 = .ok (.iconst 0, 1) := by decide +kernel
theorem dX5_isOutside_15 : decode cX5_isOutside 15 = .ok (.ireturn, 1) := by decide +kernel
theorem dX5_recordOf_0 : decode cX5_recordOf 0 = .ok (.iload_n 1, 1) := by decide +kernel
theorem dX5_recordOf_1 : decode cX5_recordOf 1 = .ok (.bipush 26, 2) := by decide +kernel
theorem dX5_recordOf_3 : decode cX5_recordOf 3 = .ok (.imul, 1) := by decide +kernel
theorem dX5_recordOf_4 : decode cX5_recordOf 4 = .ok (.iload_n 0, 1) := by decide +kernel
theorem dX5_recordOf_5 : decode cX5_recordOf 5 = .ok (.iadd, 1) := by decide +kernel
theorem dX5_recordOf_6 : decode cX5_recordOf 6 = .ok (.ireturn, 1) := by decide +kernel
theorem dX5_keyOf_0 : decode cX5_keyOf 0 = .ok (.iload_n 0, 1) := by decide +kernel
theorem dX5_keyOf_1 : decode cX5_keyOf 1 = .ok (.bipush 26, 2) := by decide +kernel
theorem dX5_keyOf_3 : decode cX5_keyOf 3 = .ok (.irem, 1) := by decide +kernel
theorem dX5_keyOf_4 : decode cX5_keyOf 4 = .ok (.ireturn, 1) := by decide +kernel
theorem dX5_tagOf_0 : decode cX5_tagOf 0 = .ok (.iload_n 0, 1) := by decide +kernel
theorem dX5_tagOf_1 : decode cX5_tagOf 1 = .ok (.bipush 26, 2) := by decide +kernel
theorem dX5_tagOf_3 : decode cX5_tagOf 3 = .ok (.idiv, 1) := by decide +kernel
theorem dX5_tagOf_4 : decode cX5_tagOf 4 = .ok (.ireturn, 1) := by decide +kernel
theorem dX5_rankOf_0 : decode cX5_rankOf 0 = .ok (.iload_n 0, 1) := by decide +kernel
theorem dX5_rankOf_1 : decode cX5_rankOf 1 = .ok (.tableswitch 50 1 3 #[27, 30, 34], 27) := by decide +kernel
theorem dX5_rankOf_28 : decode cX5_rankOf 28 = .ok (.iload_n 1, 1) := by decide +kernel
theorem dX5_rankOf_29 : decode cX5_rankOf 29 = .ok (.ineg, 1) := by decide +kernel
theorem dX5_rankOf_30 : decode cX5_rankOf 30 = .ok (.ireturn, 1) := by decide +kernel
theorem dX5_rankOf_31 : decode cX5_rankOf 31 = .ok (.iload_n 1, 1) := by decide +kernel
theorem dX5_rankOf_32 : decode cX5_rankOf 32 = .ok (.iconst 5, 1) := by decide +kernel
theorem dX5_rankOf_33 : decode cX5_rankOf 33 = .ok (.irem, 1) := by decide +kernel
theorem dX5_rankOf_34 : decode cX5_rankOf 34 = .ok (.ireturn, 1) := by decide +kernel
theorem dX5_rankOf_35 : decode cX5_rankOf 35 = .ok (.ldc 170, 2) := by decide +kernel
theorem dX5_rankOf_37 : decode cX5_rankOf 37 = .ok (.iload_n 1, 1) := by decide +kernel
theorem dX5_rankOf_38 : decode cX5_rankOf 38 = .ok (.ishr, 1) := by decide +kernel
theorem dX5_rankOf_39 : decode cX5_rankOf 39 = .ok (.iconst 1, 1) := by decide +kernel
theorem dX5_rankOf_40 : decode cX5_rankOf 40 = .ok (.iand, 1) := by decide +kernel
theorem dX5_rankOf_41 : decode cX5_rankOf 41 = .ok (.iconst 1, 1) := by decide +kernel
theorem dX5_rankOf_42 : decode cX5_rankOf 42 = .ok (.if_icmp .ne 7, 3) := by decide +kernel
theorem dX5_rankOf_45 : decode cX5_rankOf 45 = .ok (.iconst 0, 1) := by decide +kernel
theorem dX5_rankOf_46 : decode cX5_rankOf 46 = .ok (.goto 4, 3) := by decide +kernel
theorem dX5_rankOf_49 : decode cX5_rankOf 49 = .ok (.iconst 1, 1) := by decide +kernel
theorem dX5_rankOf_50 : decode cX5_rankOf 50 = .ok (.ireturn, 1) := by decide +kernel
theorem dX5_rankOf_51 : decode cX5_rankOf 51 = .ok (.iload_n 1, 1) := by decide +kernel
theorem dX5_rankOf_52 : decode cX5_rankOf 52 = .ok (.ireturn, 1) := by decide +kernel
set_option maxRecDepth 20000 in
theorem ggX6_init_X6_begin : GoodIn wsX6_init wsX6_begin := goodIn_r _ [25, 20, 8, 7, 9, 14, 6, 26, 27, 28, 29, 30, 31, 32, 33, 34, 35, 36, 37, 38, 39, 40, 41, 42, 43, 44, 45, 46, 47, 48, 49, 50, 51, 52, 53, 54] (by decide +kernel) (by decide +kernel)
set_option maxRecDepth 20000 in
theorem gX6_init_X6_begin : GoodIn wsX6_init (wsV RX6 59 RX6 yX6_begin wsX6_begin) := goodIn_app (goodIn_of _ (by decide +kernel)) ggX6_init_X6_begin
