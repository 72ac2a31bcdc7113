theorem dX3_init_0 : decode cX3_init 0 = .ok (.aload_n 0, 1) := by decide +kernel
theorem dX3_init_1 : decode cX3_init 1 = .ok (.invokespecial 3, 3) := by decide +kernel
theorem dX3_init_4 : decode cX3_init 4 = .ok (.aload_n 0, 1) := by decide +kernel
theorem dX3_init_5 : decode cX3_init 5 = .ok (.new 9, 3) := by decide +kernel
theorem dX3_init_8 : decode cX3_init 8 = .ok (.dup, 1) := by decide +kernel
theorem dX3_init_9 : decode cX3_init 9 = .ok (.bipush 96, 2) := by decide +kernel
theorem dX3_init_11 : decode cX3_init 11 = .ok (.invokespecial 11, 3) := by decide +kernel
theorem dX3_init_14 : decode cX3_init 14 = .ok (.putfield 14, 3) := by decide +kernel
theorem dX3_init_17 : decode cX3_init 17 = .ok (.aload_n 0, 1) := by decide +kernel
theorem dX3_init_18 : decode cX3_init 18 = .ok (.new 9, 3) := by decide +kernel
theorem dX3_init_21 : decode cX3_init 21 = .ok (.dup, 1) := by decide +kernel
theorem dX3_init_22 : decode cX3_init 22 = .ok (.bipush 12, 2) := by decide +kernel
theorem dX3_init_24 : decode cX3_init 24 = .ok (.invokespecial 11, 3) := by decide +kernel
theorem dX3_init_27 : decode cX3_init 27 = .ok (.putfield 20, 3) := by decide +kernel
theorem dX3_init_30 : decode cX3_init 30 = .ok (.aload_n 0, 1) := by decide +kernel
theorem dX3_init_31 : decode cX3_init 31 = .ok (.new 9, 3) := by decide +kernel
theorem dX3_init_34 : decode cX3_init 34 = .ok (.dup, 1) := by decide +kernel
theorem dX3_init_35 : decode cX3_init 35 = .ok (.bipush 96, 2) := by decide +kernel
theorem dX3_init_37 : decode cX3_init 37 = .ok (.invokespecial 11, 3) := by decide +kernel
theorem dX3_init_40 : decode cX3_init 40 = .ok (.putfield 23, 3) := by decide +kernel
theorem dX3_init_43 : decode cX3_init 43 = .ok (.aload_n 0, 1) := by decide +kernel
theorem dX3_init_44 : decode cX3_init 44 = .ok (.new 9, 3) := by decide +kernel
theorem dX3_init_47 : decode cX3_init 47 = .ok (.dup, 1) := by decide +kernel
theorem dX3_init_48 : decode cX3_init 48 = .ok (.bipush 96, 2) := by decide +kernel
theorem dX3_init_50 : decode cX3_init 50 = .ok (.invokespecial 11, 3) := by decide +kernel
theorem dX3_init_53 : decode cX3_init 53 = .ok (.putfield 26, 3) := by decide +kernel
theorem dX3_init_56 : decode cX3_init 56 = .ok (.aload_n 0, 1) := by decide +kernel
theorem dX3_init_57 : decode cX3_init 57 = .ok (.new 29, 3) := by decide +kernel
theorem dX3_init_60 : decode cX3_init 60 = .ok (.dup, 1) := by decide +kernel
theorem dX3_init_61 : decode cX3_init 61 = .ok (.aload_n 0, 1) := by decide +kernel
theorem dX3_init_62 : decode cX3_init 62 = .ok (.getfield 20, 3) := by decide +kernel
theorem dX3_init_65 : decode cX3_init 65 = .ok (.invokespecial 31, 3) := by decide +kernel
theorem dX3_init_68 : decode cX3_init 68 = .ok (.putfield 34, 3) := by decide +kernel
theorem dX3_init_71 : decode cX3_init 71 = .ok (.aload_n 0, 1) := by decide +kernel
theorem dX3_init_72 : decode cX3_init 72 = .ok (.new 38, 3) := by decide +kernel
theorem dX3_init_75 : decode cX3_init 75 = .ok (.dup, 1) := by decide +kernel
theorem dX3_init_76 : decode cX3_init 76 = .ok (.aload_n 0, 1) := by decide +kernel
theorem dX3_init_77 : decode cX3_init 77 = .ok (.getfield 14, 3) := by decide +kernel
theorem dX3_init_80 : decode cX3_init 80 = .ok (.aload_n 0, 1) := by decide +kernel
theorem dX3_init_81 : decode cX3_init 81 = .ok (.getfield 20, 3) := by decide +kernel
theorem dX3_init_84 : decode cX3_init 84 = .ok (.aload_n 0, 1) := by decide +kernel
theorem dX3_init_85 : decode cX3_init 85 = .ok (.getfield 34, 3) := by decide +kernel
theorem dX3_init_88 : decode cX3_init 88 = .ok (.invokespecial 40, 3) := by decide +kernel
theorem dX3_init_91 : decode cX3_init 91 = .ok (.putfield 43, 3) := by decide +kernel
theorem dX3_init_94 : decode cX3_init 94 = .ok (.aload_n 0, 1) := by decide +kernel
theorem dX3_init_95 : decode cX3_init 95 = .ok (.iconst 0, 1) := by decide +kernel
theorem dX3_init_96 : decode cX3_init 96 = .ok (.putfield 47, 3) := by decide +kernel
theorem dX3_init_99 : decode cX3_init 99 = .ok (.aload_n 0, 1) := by decide +kernel
theorem dX3_init_100 : decode cX3_init 100 = .ok (.iconst 0, 1) := by decide +kernel
theorem dX3_init_101 : decode cX3_init 101 = .ok (.putfield 51, 3) := by decide +kernel
theorem dX3_init_104 : decode cX3_init 104 = .ok (.aload_n 0, 1) := by decide +kernel
theorem dX3_init_105 : decode cX3_init 105 = .ok (.iconst 0, 1) := by decide +kernel
theorem dX3_init_106 : decode cX3_init 106 = .ok (.putfield 54, 3) := by decide +kernel
theorem dX3_init_109 : decode cX3_init 109 = .ok (.aload_n 0, 1) := by decide +kernel
theorem dX3_init_110 : decode cX3_init 110 = .ok (.iconst 0, 1) := by decide +kernel
theorem dX3_init_111 : decode cX3_init 111 = .ok (.putfield 57, 3) := by decide +kernel
theorem dX3_init_114 : decode cX3_init 114 = .ok (.aload_n 0, 1) := by decide +kernel
theorem dX3_init_115 : decode cX3_init 115 = .ok (.iconst 0, 1) := by decide +kernel
theorem dX3_init_116 : decode cX3_init 116 = .ok (.putfield 60, 3) := by decide +kernel
theorem dX3_init_119 : decode cX3_init 119 = .ok (.aload_n 0, 1) := by decide +kernel
theorem dX3_init_120 : decode cX3_init 120 = .ok (.iconst 0, 1) := by decide +kernel
theorem dX3_init_121 : decode cX3_init 121 = .ok (.putfield 63, 3) := by decide +kernel
theorem dX3_init_124 : decode cX3_init 124 = .ok (.return_, 1) := by decide +kernel
set_option maxRecDepth 20000 in
theorem ggX3_begin_X0_look : GoodIn wsX3_begin wsX0_look := goodIn_r _ [13, 14, 39] (by decide +kernel) (by decide +kernel)
set_option maxRecDepth 20000 in
theorem gX3_begin_X0_look_n66 : GoodIn wsX3_begin (wsX0_look) := ggX3_begin_X0_look
set_option maxRecDepth 20000 in
theorem ggX3_begin_X0_fill : GoodIn wsX3_begin wsX0_fill := goodIn_r _ [17, 14, 39] (by decide +kernel) (by decide +kernel)
set_option maxRecDepth 20000 in
theorem gX3_begin_X0_fill_n70 : GoodIn wsX3_begin (wsX0_fill) := ggX3_begin_X0_fill
set_option maxRecDepth 20000 in
theorem ggX3_begin_X0_clearAll : GoodIn wsX3_begin wsX0_clearAll := goodIn_r _ [20, 14, 21, 22, 23, 24, 39] (by decide +kernel) (by decide +kernel)
set_option maxRecDepth 20000 in
theorem gX3_begin_X0_clearAll_n77 : GoodIn wsX3_begin (wsX0_clearAll) := ggX3_begin_X0_clearAll
theorem dX3_begin_0 : decode cX3_begin 0 = .ok (.iconst 0, 1) := by decide +kernel
theorem dX3_begin_1 : decode cX3_begin 1 = .ok (.istore 5, 2) := by decide +kernel
theorem dX3_begin_3 : decode cX3_begin 3 = .ok (.iload 5, 2) := by decide +kernel
theorem dX3_begin_5 : decode cX3_begin 5 = .ok (.iload_n 2, 1) := by decide +kernel
theorem dX3_begin_6 : decode cX3_begin 6 = .ok (.if_icmp .ge 24, 3) := by decide +kernel
theorem dX3_begin_9 : decode cX3_begin 9 = .ok (.aload_n 0, 1) := by decide +kernel
theorem dX3_begin_10 : decode cX3_begin 10 = .ok (.getfield 14, 3) := by decide +kernel
theorem dX3_begin_13 : decode cX3_begin 13 = .ok (.iload 5, 2) := by decide +kernel
theorem dX3_begin_15 : decode cX3_begin 15 = .ok (.aload_n 1, 1) := by decide +kernel
theorem dX3_begin_16 : decode cX3_begin 16 = .ok (.iload 5, 2) := by decide +kernel
theorem dX3_begin_18 : decode cX3_begin 18 = .ok (.invokevirtual 66, 3) := by decide +kernel
theorem dX3_begin_21 : decode cX3_begin 21 = .ok (.invokevirtual 70, 3) := by decide +kernel
theorem dX3_begin_24 : decode cX3_begin 24 = .ok (.iinc 5 1, 3) := by decide +kernel
theorem dX3_begin_27 : decode cX3_begin 27 = .ok (.goto (-24), 3) := by decide +kernel
theorem dX3_begin_30 : decode cX3_begin 30 = .ok (.aload_n 0, 1) := by decide +kernel
theorem dX3_begin_31 : decode cX3_begin 31 = .ok (.iload_n 2, 1) := by decide +kernel
theorem dX3_begin_32 : decode cX3_begin 32 = .ok (.putfield 47, 3) := by decide +kernel
theorem dX3_begin_35 : decode cX3_begin 35 = .ok (.aload_n 0, 1) := by decide +kernel
theorem dX3_begin_36 : decode cX3_begin 36 = .ok (.iload 4, 2) := by decide +kernel
theorem dX3_begin_38 : decode cX3_begin 38 = .ok (.putfield 51, 3) := by decide +kernel
theorem dX3_begin_41 : decode cX3_begin 41 = .ok (.aload_n 0, 1) := by decide +kernel
theorem dX3_begin_42 : decode cX3_begin 42 = .ok (.aload_n 3, 1) := by decide +kernel
theorem dX3_begin_43 : decode cX3_begin 43 = .ok (.iconst 2, 1) := by decide +kernel
theorem dX3_begin_44 : decode cX3_begin 44 = .ok (.invokevirtual 66, 3) := by decide +kernel
theorem dX3_begin_47 : decode cX3_begin 47 = .ok (.putfield 54, 3) := by decide +kernel
theorem dX3_begin_50 : decode cX3_begin 50 = .ok (.aload_n 0, 1) := by decide +kernel
theorem dX3_begin_51 : decode cX3_begin 51 = .ok (.getfield 34, 3) := by decide +kernel
theorem dX3_begin_54 : decode cX3_begin 54 = .ok (.aload_n 3, 1) := by decide +kernel
theorem dX3_begin_55 : decode cX3_begin 55 = .ok (.iconst 0, 1) := by decide +kernel
theorem dX3_begin_56 : decode cX3_begin 56 = .ok (.invokevirtual 66, 3) := by decide +kernel
theorem dX3_begin_59 : decode cX3_begin 59 = .ok (.putfield 74, 3) := by decide +kernel
theorem dX3_begin_62 : decode cX3_begin 62 = .ok (.aload_n 0, 1) := by decide +kernel
theorem dX3_begin_63 : decode cX3_begin 63 = .ok (.iconst 0, 1) := by decide +kernel
theorem dX3_begin_64 : decode cX3_begin 64 = .ok (.putfield 57, 3) := by decide +kernel
theorem dX3_begin_67 : decode cX3_begin 67 = .ok (.aload_n 0, 1) := by decide +kernel
theorem dX3_begin_68 : decode cX3_begin 68 = .ok (.iconst 0, 1) := by decide +kernel
theorem dX3_begin_69 : decode cX3_begin 69 = .ok (.putfield 60, 3) := by decide +kernel
theorem dX3_begin_72 : decode cX3_begin 72 = .ok (.aload_n 0, 1) := by decide +kernel
theorem dX3_begin_73 : decode cX3_begin 73 = .ok (.iconst 0, 1) := by decide +kernel
theorem dX3_begin_74 : decode cX3_begin 74 = .ok (.putfield 63, 3) := by decide +kernel
theorem dX3_begin_77 : decode cX3_begin 77 = .ok (.aload_n 0, 1) := by decide +kernel
theorem dX3_begin_78 : decode cX3_begin 78 = .ok (.getfield 20, 3) := by decide +kernel
theorem dX3_begin_81 : decode cX3_begin 81 = .ok (.invokevirtual 77, 3) := by decide +kernel
theorem dX3_begin_84 : decode cX3_begin 84 = .ok (.aload_n 0, 1) := by decide +kernel
theorem dX3_begin_85 : decode cX3_begin 85 = .ok (.getfield 20, 3) := by decide +kernel
theorem dX3_begin_88 : decode cX3_begin 88 = .ok (.bipush 10, 2) := by decide +kernel
theorem dX3_begin_90 : decode cX3_begin 90 = .ok (.aload_n 3, 1) := by decide +kernel
theorem dX3_begin_91 : decode cX3_begin 91 = .ok (.iconst 3, 1) := by decide +kernel
theorem dX3_begin_92 : decode cX3_begin 92 = .ok (.invokevirtual 66, 3) := by decide +kernel
theorem dX3_begin_95 : decode cX3_begin 95 = .ok (.invokevirtual 70, 3) := by decide +kernel
theorem dX3_begin_98 : decode cX3_begin 98 = .ok (.return_, 1) := by decide +kernel
set_option maxRecDepth 20000 in
theorem ggX3_advance_X3_kindOfNext : GoodIn wsX3_advance wsX3_kindOfNext := goodIn_r _ [9, 10, 11, 12, 13, 14, 15, 8, 16, 17, 18, 19, 20, 21, 22, 23, 24, 25, 26, 3, 2, 27, 28, 29, 30, 31, 32, 33, 34, 35, 36, 37, 38, 39, 40, 41, 42, 43, 44, 45, 46, 47, 48, 49, 50, 51, 174, 175, 176, 177, 178, 179, 180, 181, 182, 183, 184, 185, 186] (by decide +kernel) (by decide +kernel)
set_option maxRecDepth 20000 in
theorem gX3_advance_X3_kindOfNext : GoodIn wsX3_advance (wsV RX3 80 RX3 yX3_kindOfNext wsX3_kindOfNext) := goodIn_app (goodIn_of _ (by decide +kernel)) ggX3_advance_X3_kindOfNext
set_option maxRecDepth 20000 in
theorem ggX3_advance_X3_pushWaiting : GoodIn wsX3_advance wsX3_pushWaiting := goodIn_r _ [55, 2, 22, 11, 10, 3, 4, 56, 28, 57, 58, 31, 59, 60, 61, 174, 175, 176, 177, 178, 179, 180, 181, 182, 183, 184, 185, 186] (by decide +kernel) (by decide +kernel)
set_option maxRecDepth 20000 in
theorem gX3_advance_X3_pushWaiting : GoodIn wsX3_advance (wsV RX3 84 RX3 yX3_pushWaiting wsX3_pushWaiting) := goodIn_app (goodIn_of _ (by decide +kernel)) ggX3_advance_X3_pushWaiting
set_option maxRecDepth 20000 in
theorem ggX3_advance_X3_findRun : GoodIn wsX3_advance wsX3_findRun := goodIn_r _ [65, 11, 12, 66, 67, 4, 68, 69, 70, 71, 72, 10, 27, 28, 29, 30, 31, 73, 74, 75, 76, 77, 78, 79, 80, 81, 82, 83, 84, 85, 86, 87, 88, 89, 90, 8, 91, 92, 93, 94, 95, 56, 57, 58, 96, 97, 98, 99, 174, 175, 176, 177, 178, 179, 180, 181, 182, 183, 184, 185, 186, 187, 188] (by decide +kernel) (by decide +kernel)
set_option maxRecDepth 20000 in
theorem gX3_advance_X3_findRun : GoodIn wsX3_advance (wsV RX3 87 RX3 yX3_findRun wsX3_findRun) := goodIn_app (goodIn_of _ (by decide +kernel)) ggX3_advance_X3_findRun
set_option maxRecDepth 20000 in
theorem ggX3_advance_X3_firstToMerge : GoodIn wsX3_advance wsX3_firstToMerge := goodIn_r _ [16, 10, 11, 12, 17, 18, 19, 8, 20, 21, 22, 23, 24, 25, 26, 3, 2, 27, 28, 29, 30, 31, 32, 33, 34, 35, 36, 37, 38, 39, 40, 41, 42, 43, 44, 45, 46, 47, 48, 49, 50, 51, 174, 175, 176, 177, 178, 179, 180, 181, 182, 183, 184, 185, 186] (by decide +kernel) (by decide +kernel)
set_option maxRecDepth 20000 in
theorem gX3_advance_X3_firstToMerge : GoodIn wsX3_advance (wsV RX3 90 RX3 yX3_firstToMerge wsX3_firstToMerge) := goodIn_app (goodIn_of _ (by decide +kernel)) ggX3_advance_X3_firstToMerge
set_option maxRecDepth 20000 in
theorem ggX3_advance_X0_look : GoodIn wsX3_advance wsX0_look := goodIn_r _ [30, 31, 186] (by decide +kernel) (by decide +kernel)
set_option maxRecDepth 20000 in
theorem gX3_advance_X0_look_n66 : GoodIn wsX3_advance (wsX0_look) := ggX3_advance_X0_look
set_option maxRecDepth 20000 in
theorem ggX3_advance_X2_join : GoodIn wsX3_advance wsX2_join := goodIn_r _ [103, 104, 105, 106, 107, 108, 101, 109, 110, 111, 112, 113, 114, 115, 116, 117, 118, 119, 120, 121, 122, 27, 28, 29, 30, 31, 123, 74, 124, 125, 126, 73, 75, 76, 77, 78, 79, 80, 81, 82, 83, 84, 85, 86, 87, 127, 128, 129, 130, 131, 132, 133, 134, 135, 136, 137, 138, 139, 140, 141, 142, 143, 144, 145, 56, 57, 58, 59, 60, 61, 146, 147, 148, 149, 150, 151, 152, 153, 154, 155, 71, 156, 157, 158, 159, 160, 161, 162, 163, 164, 165, 70, 72, 166, 167, 168, 169, 189, 190, 191, 192, 193, 194, 195, 196, 197, 198, 199, 200, 186, 187, 188] (by decide +kernel) (by decide +kernel)
set_option maxRecDepth 20000 in
theorem gX3_advance_X2_join_n93 : GoodIn wsX3_advance (wsX2_join) := ggX3_advance_X2_join
set_option maxRecDepth 20000 in
theorem ggX3_advance_X3_closeUpBehind : GoodIn wsX3_advance wsX3_closeUpBehind := goodIn_r _ [173, 3, 22, 2, 4, 27, 28, 29, 30, 31, 56, 57, 58, 79, 80, 81, 174, 175, 176, 177, 178, 179, 180, 181, 182, 183, 184, 185, 186] (by decide +kernel) (by decide +kernel)
set_option maxRecDepth 20000 in
theorem gX3_advance_X3_closeUpBehind : GoodIn wsX3_advance (wsV RX3 97 RX3 yX3_closeUpBehind wsX3_closeUpBehind) := goodIn_app (goodIn_of _ (by decide +kernel)) ggX3_advance_X3_closeUpBehind
set_option maxRecDepth 20000 in
theorem ggX3_advance_X0_add : GoodIn wsX3_advance wsX0_add := goodIn_r _ [81, 31, 186] (by decide +kernel) (by decide +kernel)
set_option maxRecDepth 20000 in
theorem gX3_advance_X0_add_n100 : GoodIn wsX3_advance (wsX0_add) := ggX3_advance_X0_add
theorem dX3_advance_0 : decode cX3_advance 0 = .ok (.iconst 0, 1) := by decide +kernel
theorem dX3_advance_1 : decode cX3_advance 1 = .ok (.istore_n 2, 1) := by decide +kernel
theorem dX3_advance_2 : decode cX3_advance 2 = .ok (.aload_n 0, 1) := by decide +kernel
theorem dX3_advance_3 : decode cX3_advance 3 = .ok (.invokevirtual 80, 3) := by decide +kernel
theorem dX3_advance_6 : decode cX3_advance 6 = .ok (.istore_n 3, 1) := by decide +kernel
theorem dX3_advance_7 : decode cX3_advance 7 = .ok (.iload_n 2, 1) := by decide +kernel
theorem dX3_advance_8 : decode cX3_advance 8 = .ok (.iload_n 1, 1) := by decide +kernel
theorem dX3_advance_9 : decode cX3_advance 9 = .ok (.if_icmp .ge 90, 3) := by decide +kernel
theorem dX3_advance_12 : decode cX3_advance 12 = .ok (.iload_n 3, 1) := by decide +kernel
theorem dX3_advance_13 : decode cX3_advance 13 = .ok (.ifCond .eq 86, 3) := by decide +kernel
theorem dX3_advance_16 : decode cX3_advance 16 = .ok (.iload_n 3, 1) := by decide +kernel
theorem dX3_advance_17 : decode cX3_advance 17 = .ok (.iconst 1, 1) := by decide +kernel
theorem dX3_advance_18 : decode cX3_advance 18 = .ok (.if_icmp .ne 10, 3) := by decide +kernel
theorem dX3_advance_21 : decode cX3_advance 21 = .ok (.aload_n 0, 1) := by decide +kernel
theorem dX3_advance_22 : decode cX3_advance 22 = .ok (.invokevirtual 84, 3) := by decide +kernel
theorem dX3_advance_25 : decode cX3_advance 25 = .ok (.goto 63, 3) := by decide +kernel
theorem dX3_advance_28 : decode cX3_advance 28 = .ok (.iload_n 3, 1) := by decide +kernel
theorem dX3_advance_29 : decode cX3_advance 29 = .ok (.iconst 2, 1) := by decide +kernel
theorem dX3_advance_30 : decode cX3_advance 30 = .ok (.if_icmp .ne 10, 3) := by decide +kernel
theorem dX3_advance_33 : decode cX3_advance 33 = .ok (.aload_n 0, 1) := by decide +kernel
theorem dX3_advance_34 : decode cX3_advance 34 = .ok (.invokevirtual 87, 3) := by decide +kernel
theorem dX3_advance_37 : decode cX3_advance 37 = .ok (.goto 51, 3) := by decide +kernel
theorem dX3_advance_40 : decode cX3_advance 40 = .ok (.aload_n 0, 1) := by decide +kernel
theorem dX3_advance_41 : decode cX3_advance 41 = .ok (.invokevirtual 90, 3) := by decide +kernel
theorem dX3_advance_44 : decode cX3_advance 44 = .ok (.istore 4, 2) := by decide +kernel
theorem dX3_advance_46 : decode cX3_advance 46 = .ok (.aload_n 0, 1) := by decide +kernel
theorem dX3_advance_47 : decode cX3_advance 47 = .ok (.getfield 43, 3) := by decide +kernel
theorem dX3_advance_50 : decode cX3_advance 50 = .ok (.aload_n 0, 1) := by decide +kernel
theorem dX3_advance_51 : decode cX3_advance 51 = .ok (.getfield 23, 3) := by decide +kernel
theorem dX3_advance_54 : decode cX3_advance 54 = .ok (.iload 4, 2) := by decide +kernel
theorem dX3_advance_56 : decode cX3_advance 56 = .ok (.invokevirtual 66, 3) := by decide +kernel
theorem dX3_advance_59 : decode cX3_advance 59 = .ok (.aload_n 0, 1) := by decide +kernel
theorem dX3_advance_60 : decode cX3_advance 60 = .ok (.getfield 26, 3) := by decide +kernel
theorem dX3_advance_63 : decode cX3_advance 63 = .ok (.iload 4, 2) := by decide +kernel
theorem dX3_advance_65 : decode cX3_advance 65 = .ok (.invokevirtual 66, 3) := by decide +kernel
theorem dX3_advance_68 : decode cX3_advance 68 = .ok (.aload_n 0, 1) := by decide +kernel
theorem dX3_advance_69 : decode cX3_advance 69 = .ok (.getfield 26, 3) := by decide +kernel
theorem dX3_advance_72 : decode cX3_advance 72 = .ok (.iload 4, 2) := by decide +kernel
theorem dX3_advance_74 : decode cX3_advance 74 = .ok (.iconst 1, 1) := by decide +kernel
theorem dX3_advance_75 : decode cX3_advance 75 = .ok (.iadd, 1) := by decide +kernel
theorem dX3_advance_76 : decode cX3_advance 76 = .ok (.invokevirtual 66, 3) := by decide +kernel
theorem dX3_advance_79 : decode cX3_advance 79 = .ok (.invokevirtual 93, 3) := by decide +kernel
theorem dX3_advance_82 : decode cX3_advance 82 = .ok (.aload_n 0, 1) := by decide +kernel
theorem dX3_advance_83 : decode cX3_advance 83 = .ok (.iload 4, 2) := by decide +kernel
theorem dX3_advance_85 : decode cX3_advance 85 = .ok (.invokevirtual 97, 3) := by decide +kernel
theorem dX3_advance_88 : decode cX3_advance 88 = .ok (.iinc 2 1, 3) := by decide +kernel
theorem dX3_advance_91 : decode cX3_advance 91 = .ok (.aload_n 0, 1) := by decide +kernel
theorem dX3_advance_92 : decode cX3_advance 92 = .ok (.invokevirtual 80, 3) := by decide +kernel
theorem dX3_advance_95 : decode cX3_advance 95 = .ok (.istore_n 3, 1) := by decide +kernel
theorem dX3_advance_96 : decode cX3_advance 96 = .ok (.goto (-89), 3) := by decide +kernel
theorem dX3_advance_99 : decode cX3_advance 99 = .ok (.aload_n 0, 1) := by decide +kernel
theorem dX3_advance_100 : decode cX3_advance 100 = .ok (.getfield 20, 3) := by decide +kernel
theorem dX3_advance_103 : decode cX3_advance 103 = .ok (.bipush 11, 2) := by decide +kernel
theorem dX3_advance_105 : decode cX3_advance 105 = .ok (.iload_n 2, 1) := by decide +kernel
theorem dX3_advance_106 : decode cX3_advance 106 = .ok (.invokevirtual 100, 3) := by decide +kernel
theorem dX3_advance_109 : decode cX3_advance 109 = .ok (.iload_n 2, 1) := by decide +kernel
theorem dX3_advance_110 : decode cX3_advance 110 = .ok (.ireturn, 1) := by decide +kernel
set_option maxRecDepth 20000 in
theorem ggX3_kindOfNext_X3_firstToMerge : GoodIn wsX3_kindOfNext wsX3_firstToMerge := goodIn_r _ [8, 1, 2, 3, 9, 10, 11, 7, 12, 13, 14, 15, 16, 17, 18, 19, 20, 21, 22, 23, 24, 25, 26, 27, 28, 29, 30, 31, 32, 33, 34, 35, 36, 37, 38, 39, 40, 41, 42, 43, 44, 45, 46, 47, 48, 49, 50, 51, 52, 53, 54, 55, 56, 57, 58] (by decide +kernel) (by decide +kernel)
set_option maxRecDepth 20000 in
theorem gX3_kindOfNext_X3_firstToMerge : GoodIn wsX3_kindOfNext (wsV RX3 90 RX3 yX3_firstToMerge wsX3_firstToMerge) := goodIn_app (goodIn_of _ (by decide +kernel)) ggX3_kindOfNext_X3_firstToMerge
theorem dX3_kindOfNext_0 : decode cX3_kindOfNext 0 = .ok (.aload_n 0, 1) := by decide +kernel
theorem dX3_kindOfNext_1 : decode cX3_kindOfNext 1 = .ok (.invokevirtual 90, 3) := by decide +kernel
theorem dX3_kindOfNext_4 : decode cX3_kindOfNext 4 = .ok (.bipush (-4), 2) := by decide +kernel
theorem dX3_kindOfNext_6 : decode cX3_kindOfNext 6 = .ok (.if_icmp .eq 5, 3) := by decide +kernel
theorem dX3_kindOfNext_9 : decode cX3_kindOfNext 9 = .ok (.iconst 3, 1) := by decide +kernel
theorem dX3_kindOfNext_10 : decode cX3_kindOfNext 10 = .ok (.ireturn, 1) := by decide +kernel
theorem dX3_kindOfNext_11 : decode cX3_kindOfNext 11 = .ok (.aload_n 0, 1) := by decide +kernel
theorem dX3_kindOfNext_12 : decode cX3_kindOfNext 12 = .ok (.getfield 63, 3) := by decide +kernel
theorem dX3_kindOfNext_15 : decode cX3_kindOfNext 15 = .ok (.ifCond .le 5, 3) := by decide +kernel
theorem dX3_kindOfNext_18 : decode cX3_kindOfNext 18 = .ok (.iconst 1, 1) := by decide +kernel
theorem dX3_kindOfNext_19 : decode cX3_kindOfNext 19 = .ok (.ireturn, 1) := by decide +kernel
theorem dX3_kindOfNext_20 : decode cX3_kindOfNext 20 = .ok (.aload_n 0, 1) := by decide +kernel
theorem dX3_kindOfNext_21 : decode cX3_kindOfNext 21 = .ok (.getfield 60, 3) := by decide +kernel
theorem dX3_kindOfNext_24 : decode cX3_kindOfNext 24 = .ok (.aload_n 0, 1) := by decide +kernel
theorem dX3_kindOfNext_25 : decode cX3_kindOfNext 25 = .ok (.getfield 47, 3) := by decide +kernel
theorem dX3_kindOfNext_28 : decode cX3_kindOfNext 28 = .ok (.if_icmp .ge 7, 3) := by decide +kernel
theorem dX3_kindOfNext_31 : decode cX3_kindOfNext 31 = .ok (.iconst 2, 1) := by decide +kernel
theorem dX3_kindOfNext_32 : decode cX3_kindOfNext 32 = .ok (.goto 4, 3) := by decide +kernel
theorem dX3_kindOfNext_35 : decode cX3_kindOfNext 35 = .ok (.iconst 0, 1) := by decide +kernel
theorem dX3_kindOfNext_36 : decode cX3_kindOfNext 36 = .ok (.ireturn, 1) := by decide +kernel
set_option maxRecDepth 20000 in
theorem ggX3_firstToMerge_X3_firstByPowers : GoodIn wsX3_firstToMerge wsX3_firstByPowers := goodIn_r _ [8, 9, 10, 11, 12, 13, 7, 14, 1, 15, 3, 16, 17, 18, 19, 20, 21, 42, 43, 44, 45, 46, 47, 48, 49, 50, 51, 52, 53, 54] (by decide +kernel) (by decide +kernel)
set_option maxRecDepth 20000 in
theorem gX3_firstToMerge_X3_firstByPowers : GoodIn wsX3_firstToMerge (wsV RX3 103 RX3 yX3_firstByPowers wsX3_firstByPowers) := goodIn_app (goodIn_of _ (by decide +kernel)) ggX3_firstToMerge_X3_firstByPowers
set_option maxRecDepth 20000 in
theorem ggX3_firstToMerge_X3_firstByLengths : GoodIn wsX3_firstToMerge wsX3_firstByLengths := goodIn_r _ [25, 9, 10, 26, 27, 28, 7, 29, 15, 17, 18, 19, 20, 21, 30, 31, 32, 33, 34, 35, 36, 37, 42, 43, 44, 45, 46, 47, 48, 49, 50, 51, 52, 53, 54] (by decide +kernel) (by decide +kernel)
set_option maxRecDepth 20000 in
theorem gX3_firstToMerge_X3_firstByLengths : GoodIn wsX3_firstToMerge (wsV RX3 106 RX3 yX3_firstByLengths wsX3_firstByLengths) := goodIn_app (goodIn_of _ (by decide +kernel)) ggX3_firstToMerge_X3_firstByLengths
set_option maxRecDepth 20000 in
theorem ggX3_firstToMerge_X3_firstAtTheEnd : GoodIn wsX3_firstToMerge wsX3_firstAtTheEnd := goodIn_r _ [41, 10, 9, 34, 35, 36, 7, 37, 26, 27, 28, 29, 15, 17, 18, 19, 20, 21, 42, 43, 44, 45, 46, 47, 48, 49, 50, 51, 52, 53, 54] (by decide +kernel) (by decide +kernel)
set_option maxRecDepth 20000 in
theorem gX3_firstToMerge_X3_firstAtTheEnd : GoodIn wsX3_firstToMerge (wsV RX3 109 RX3 yX3_firstAtTheEnd wsX3_firstAtTheEnd) := goodIn_app (goodIn_of _ (by decide +kernel)) ggX3_firstToMerge_X3_firstAtTheEnd
theorem dX3_firstToMerge_0 : decode cX3_firstToMerge 0 = .ok (.aload_n 0, 1) := by decide +kernel
theorem dX3_firstToMerge_1 : decode cX3_firstToMerge 1 = .ok (.getfield 63, 3) := by decide +kernel
theorem dX3_firstToMerge_4 : decode cX3_firstToMerge 4 = .ok (.ifCond .le 8, 3) := by decide +kernel
theorem dX3_firstToMerge_7 : decode cX3_firstToMerge 7 = .ok (.aload_n 0, 1) := by decide +kernel
theorem dX3_firstToMerge_8 : decode cX3_firstToMerge 8 = .ok (.invokevirtual 103, 3) := by decide +kernel
theorem dX3_firstToMerge_11 : decode cX3_firstToMerge 11 = .ok (.ireturn, 1) := by decide +kernel
theorem dX3_firstToMerge_12 : decode cX3_firstToMerge 12 = .ok (.aload_n 0, 1) := by decide +kernel
theorem dX3_firstToMerge_13 : decode cX3_firstToMerge 13 = .ok (.invokevirtual 106, 3) := by decide +kernel
theorem dX3_firstToMerge_16 : decode cX3_firstToMerge 16 = .ok (.istore_n 1, 1) := by decide +kernel
theorem dX3_firstToMerge_17 : decode cX3_firstToMerge 17 = .ok (.iload_n 1, 1) := by decide +kernel
theorem dX3_firstToMerge_18 : decode cX3_firstToMerge 18 = .ok (.bipush (-4), 2) := by decide +kernel
theorem dX3_firstToMerge_20 : decode cX3_firstToMerge 20 = .ok (.if_icmp .ne 14, 3) := by decide +kernel
theorem dX3_firstToMerge_23 : decode cX3_firstToMerge 23 = .ok (.aload_n 0, 1) := by decide +kernel
theorem dX3_firstToMerge_24 : decode cX3_firstToMerge 24 = .ok (.getfield 60, 3) := by decide +kernel
theorem dX3_firstToMerge_27 : decode cX3_firstToMerge 27 = .ok (.aload_n 0, 1) := by decide +kernel
theorem dX3_firstToMerge_28 : decode cX3_firstToMerge 28 = .ok (.getfield 47, 3) := by decide +kernel
theorem dX3_firstToMerge_31 : decode cX3_firstToMerge 31 = .ok (.if_icmp .ge 5, 3) := by decide +kernel
theorem dX3_firstToMerge_34 : decode cX3_firstToMerge 34 = .ok (.iload_n 1, 1) := by decide +kernel
theorem dX3_firstToMerge_35 : decode cX3_firstToMerge 35 = .ok (.ireturn, 1) := by decide +kernel
theorem dX3_firstToMerge_36 : decode cX3_firstToMerge 36 = .ok (.aload_n 0, 1) := by decide +kernel
theorem dX3_firstToMerge_37 : decode cX3_firstToMerge 37 = .ok (.invokevirtual 109, 3) := by decide +kernel
theorem dX3_firstToMerge_40 : decode cX3_firstToMerge 40 = .ok (.ireturn, 1) := by decide +kernel
set_option maxRecDepth 20000 in
theorem ggX3_firstByPowers_X3_powerBehind : GoodIn wsX3_firstByPowers wsX3_powerBehind := goodIn_r _ [7, 2, 8, 9, 10, 11, 12, 13, 14, 15, 16, 17, 18, 19, 20, 21, 22, 23, 24, 25, 26, 27, 28, 29] (by decide +kernel) (by decide +kernel)
set_option maxRecDepth 20000 in
theorem gX3_firstByPowers_X3_powerBehind : GoodIn wsX3_firstByPowers (wsV RX3 112 RX3 yX3_powerBehind wsX3_powerBehind) := goodIn_app (goodIn_of _ (by decide +kernel)) ggX3_firstByPowers_X3_powerBehind
theorem dX3_firstByPowers_0 : decode cX3_firstByPowers 0 = .ok (.aload_n 0, 1) := by decide +kernel
theorem dX3_firstByPowers_1 : decode cX3_firstByPowers 1 = .ok (.getfield 51, 3) := by decide +kernel
theorem dX3_firstByPowers_4 : decode cX3_firstByPowers 4 = .ok (.ifCond .ne 38, 3) := by decide +kernel
theorem dX3_firstByPowers_7 : decode cX3_firstByPowers 7 = .ok (.aload_n 0, 1) := by decide +kernel
theorem dX3_firstByPowers_8 : decode cX3_firstByPowers 8 = .ok (.getfield 57, 3) := by decide +kernel
theorem dX3_firstByPowers_11 : decode cX3_firstByPowers 11 = .ok (.iconst 2, 1) := by decide +kernel
theorem dX3_firstByPowers_12 : decode cX3_firstByPowers 12 = .ok (.if_icmp .lt 30, 3) := by decide +kernel
theorem dX3_firstByPowers_15 : decode cX3_firstByPowers 15 = .ok (.aload_n 0, 1) := by decide +kernel
theorem dX3_firstByPowers_16 : decode cX3_firstByPowers 16 = .ok (.aload_n 0, 1) := by decide +kernel
theorem dX3_firstByPowers_17 : decode cX3_firstByPowers 17 = .ok (.getfield 57, 3) := by decide +kernel
theorem dX3_firstByPowers_20 : decode cX3_firstByPowers 20 = .ok (.iconst 2, 1) := by decide +kernel
theorem dX3_firstByPowers_21 : decode cX3_firstByPowers 21 = .ok (.isub, 1) := by decide +kernel
theorem dX3_firstByPowers_22 : decode cX3_firstByPowers 22 = .ok (.invokevirtual 112, 3) := by decide +kernel
theorem dX3_firstByPowers_25 : decode cX3_firstByPowers 25 = .ok (.aload_n 0, 1) := by decide +kernel
theorem dX3_firstByPowers_26 : decode cX3_firstByPowers 26 = .ok (.aload_n 0, 1) := by decide +kernel
theorem dX3_firstByPowers_27 : decode cX3_firstByPowers 27 = .ok (.getfield 57, 3) := by decide +kernel
theorem dX3_firstByPowers_30 : decode cX3_firstByPowers 30 = .ok (.iconst 1, 1) := by decide +kernel
theorem dX3_firstByPowers_31 : decode cX3_firstByPowers 31 = .ok (.isub, 1) := by decide +kernel
theorem dX3_firstByPowers_32 : decode cX3_firstByPowers 32 = .ok (.invokevirtual 112, 3) := by decide +kernel
theorem dX3_firstByPowers_35 : decode cX3_firstByPowers 35 = .ok (.if_icmp .le 7, 3) := by decide +kernel
theorem dX3_firstByPowers_38 : decode cX3_firstByPowers 38 = .ok (.iconst 1, 1) := by decide +kernel
theorem dX3_firstByPowers_39 : decode cX3_firstByPowers 39 = .ok (.goto 4, 3) := by decide +kernel
theorem dX3_firstByPowers_42 : decode cX3_firstByPowers 42 = .ok (.iconst 0, 1) := by decide +kernel
theorem dX3_firstByPowers_43 : decode cX3_firstByPowers 43 = .ok (.istore_n 1, 1) := by decide +kernel
theorem dX3_firstByPowers_44 : decode cX3_firstByPowers 44 = .ok (.iload_n 1, 1) := by decide +kernel
theorem dX3_firstByPowers_45 : decode cX3_firstByPowers 45 = .ok (.ifCond .eq 12, 3) := by decide +kernel
theorem dX3_firstByPowers_48 : decode cX3_firstByPowers 48 = .ok (.aload_n 0, 1) := by decide +kernel
theorem dX3_firstByPowers_49 : decode cX3_firstByPowers 49 = .ok (.getfield 57, 3) := by decide +kernel
theorem dX3_firstByPowers_52 : decode cX3_firstByPowers 52 = .ok (.iconst 2, 1) := by decide +kernel
theorem dX3_firstByPowers_53 : decode cX3_firstByPowers 53 = .ok (.isub, 1) := by decide +kernel
theorem dX3_firstByPowers_54 : decode cX3_firstByPowers 54 = .ok (.goto 5, 3) := by decide +kernel
theorem dX3_firstByPowers_57 : decode cX3_firstByPowers 57 = .ok (.bipush (-4), 2) := by decide +kernel
theorem dX3_firstByPowers_59 : decode cX3_firstByPowers 59 = .ok (.ireturn, 1) := by decide +kernel
set_option maxRecDepth 20000 in
theorem ggX3_firstByLengths_X3_fromTop : GoodIn wsX3_firstByLengths wsX3_fromTop := goodIn_r _ [7, 8, 2, 9, 10, 11, 12, 13, 22, 23, 24, 25, 26, 27, 28, 29, 30, 31, 32, 33, 34] (by decide +kernel) (by decide +kernel)
set_option maxRecDepth 20000 in
theorem gX3_firstByLengths_X3_fromTop : GoodIn wsX3_firstByLengths (wsV RX3 115 RX3 yX3_fromTop wsX3_fromTop) := goodIn_app (goodIn_of _ (by decide +kernel)) ggX3_firstByLengths_X3_fromTop
set_option maxRecDepth 20000 in
theorem ggX3_firstByLengths_X3_isOffBalance : GoodIn wsX3_firstByLengths wsX3_isOffBalance := goodIn_r _ [17, 2, 3, 4, 5, 6, 7, 8, 9, 10, 11, 12, 13, 22, 23, 24, 25, 26, 27, 28, 29, 30, 31, 32, 33, 34] (by decide +kernel) (by decide +kernel)
set_option maxRecDepth 20000 in
theorem gX3_firstByLengths_X3_isOffBalance : GoodIn wsX3_firstByLengths (wsV RX3 118 RX3 yX3_isOffBalance wsX3_isOffBalance) := goodIn_app (goodIn_of _ (by decide +kernel)) ggX3_firstByLengths_X3_isOffBalance
set_option maxRecDepth 20000 in
theorem ggX3_firstByLengths_X3_lowerPairIfThirdIsShort : GoodIn wsX3_firstByLengths wsX3_lowerPairIfThirdIsShort := goodIn_r _ [21, 2, 3, 4, 5, 6, 7, 8, 9, 10, 11, 12, 13, 22, 23, 24, 25, 26, 27, 28, 29, 30, 31, 32, 33, 34] (by decide +kernel) (by decide +kernel)
set_option maxRecDepth 20000 in
theorem gX3_firstByLengths_X3_lowerPairIfThirdIsShort : GoodIn wsX3_firstByLengths (wsV RX3 122 RX3 yX3_lowerPairIfThirdIsShort wsX3_lowerPairIfThirdIsShort) := goodIn_app (goodIn_of _ (by decide +kernel)) ggX3_firstByLengths_X3_lowerPairIfThirdIsShort
theorem dX3_firstByLengths_0 : decode cX3_firstByLengths 0 = .ok (.aload_n 0, 1) := by decide +kernel
theorem dX3_firstByLengths_1 : decode cX3_firstByLengths 1 = .ok (.getfield 51, 3) := by decide +kernel
theorem dX3_firstByLengths_4 : decode cX3_firstByLengths 4 = .ok (.ifCond .eq 11, 3) := by decide +kernel
theorem dX3_firstByLengths_7 : decode cX3_firstByLengths 7 = .ok (.aload_n 0, 1) := by decide +kernel
theorem dX3_firstByLengths_8 : decode cX3_firstByLengths 8 = .ok (.getfield 57, 3) := by decide +kernel
theorem dX3_firstByLengths_11 : decode cX3_firstByLengths 11 = .ok (.iconst 2, 1) := by decide +kernel
theorem dX3_firstByLengths_12 : decode cX3_firstByLengths 12 = .ok (.if_icmp .ge 6, 3) := by decide +kernel
theorem dX3_firstByLengths_15 : decode cX3_firstByLengths 15 = .ok (.bipush (-4), 2) := by decide +kernel
theorem dX3_firstByLengths_17 : decode cX3_firstByLengths 17 = .ok (.ireturn, 1) := by decide +kernel
theorem dX3_firstByLengths_18 : decode cX3_firstByLengths 18 = .ok (.aload_n 0, 1) := by decide +kernel
theorem dX3_firstByLengths_19 : decode cX3_firstByLengths 19 = .ok (.getfield 51, 3) := by decide +kernel
theorem dX3_firstByLengths_22 : decode cX3_firstByLengths 22 = .ok (.iconst 1, 1) := by decide +kernel
theorem dX3_firstByLengths_23 : decode cX3_firstByLengths 23 = .ok (.if_icmp .ne 30, 3) := by decide +kernel
theorem dX3_firstByLengths_26 : decode cX3_firstByLengths 26 = .ok (.aload_n 0, 1) := by decide +kernel
theorem dX3_firstByLengths_27 : decode cX3_firstByLengths 27 = .ok (.iconst 1, 1) := by decide +kernel
theorem dX3_firstByLengths_28 : decode cX3_firstByLengths 28 = .ok (.invokevirtual 115, 3) := by decide +kernel
theorem dX3_firstByLengths_31 : decode cX3_firstByLengths 31 = .ok (.iconst 2, 1) := by decide +kernel
theorem dX3_firstByLengths_32 : decode cX3_firstByLengths 32 = .ok (.aload_n 0, 1) := by decide +kernel
theorem dX3_firstByLengths_33 : decode cX3_firstByLengths 33 = .ok (.iconst 0, 1) := by decide +kernel
theorem dX3_firstByLengths_34 : decode cX3_firstByLengths 34 = .ok (.invokevirtual 115, 3) := by decide +kernel
theorem dX3_firstByLengths_37 : decode cX3_firstByLengths 37 = .ok (.imul, 1) := by decide +kernel
theorem dX3_firstByLengths_38 : decode cX3_firstByLengths 38 = .ok (.if_icmp .gt 12, 3) := by decide +kernel
theorem dX3_firstByLengths_41 : decode cX3_firstByLengths 41 = .ok (.aload_n 0, 1) := by decide +kernel
theorem dX3_firstByLengths_42 : decode cX3_firstByLengths 42 = .ok (.getfield 57, 3) := by decide +kernel
theorem dX3_firstByLengths_45 : decode cX3_firstByLengths 45 = .ok (.iconst 2, 1) := by decide +kernel
theorem dX3_firstByLengths_46 : decode cX3_firstByLengths 46 = .ok (.isub, 1) := by decide +kernel
theorem dX3_firstByLengths_47 : decode cX3_firstByLengths 47 = .ok (.goto 5, 3) := by decide +kernel
theorem dX3_firstByLengths_50 : decode cX3_firstByLengths 50 = .ok (.bipush (-4), 2) := by decide +kernel
theorem dX3_firstByLengths_52 : decode cX3_firstByLengths 52 = .ok (.ireturn, 1) := by decide +kernel
theorem dX3_firstByLengths_53 : decode cX3_firstByLengths 53 = .ok (.aload_n 0, 1) := by decide +kernel
theorem dX3_firstByLengths_54 : decode cX3_firstByLengths 54 = .ok (.invokevirtual 118, 3) := by decide +kernel
theorem dX3_firstByLengths_57 : decode cX3_firstByLengths 57 = .ok (.ifCond .eq 8, 3) := by decide +kernel
theorem dX3_firstByLengths_60 : decode cX3_firstByLengths 60 = .ok (.aload_n 0, 1) := by decide +kernel
theorem dX3_firstByLengths_61 : decode cX3_firstByLengths 61 = .ok (.invokevirtual 122, 3) := by decide +kernel
theorem dX3_firstByLengths_64 : decode cX3_firstByLengths 64 = .ok (.ireturn, 1) := by decide +kernel
theorem dX3_firstByLengths_65 : decode cX3_firstByLengths 65 = .ok (.aload_n 0, 1) := by decide +kernel
theorem dX3_firstByLengths_66 : decode cX3_firstByLengths 66 = .ok (.iconst 1, 1) := by decide +kernel
theorem dX3_firstByLengths_67 : decode cX3_firstByLengths 67 = .ok (.invokevirtual 115, 3) := by decide +kernel
theorem dX3_firstByLengths_70 : decode cX3_firstByLengths 70 = .ok (.aload_n 0, 1) := by decide +kernel
theorem dX3_firstByLengths_71 : decode cX3_firstByLengths 71 = .ok (.iconst 0, 1) := by decide +kernel
theorem dX3_firstByLengths_72 : decode cX3_firstByLengths 72 = .ok (.invokevirtual 115, 3) := by decide +kernel
theorem dX3_firstByLengths_75 : decode cX3_firstByLengths 75 = .ok (.if_icmp .gt 12, 3) := by decide +kernel
theorem dX3_firstByLengths_78 : decode cX3_firstByLengths 78 = .ok (.aload_n 0, 1) := by decide +kernel
theorem dX3_firstByLengths_79 : decode cX3_firstByLengths 79 = .ok (.getfield 57, 3) := by decide +kernel
theorem dX3_firstByLengths_82 : decode cX3_firstByLengths 82 = .ok (.iconst 2, 1) := by decide +kernel
theorem dX3_firstByLengths_83 : decode cX3_firstByLengths 83 = .ok (.isub, 1) := by decide +kernel
theorem dX3_firstByLengths_84 : decode cX3_firstByLengths 84 = .ok (.goto 5, 3) := by decide +kernel
theorem dX3_firstByLengths_87 : decode cX3_firstByLengths 87 = .ok (.bipush (-4), 2) := by decide +kernel
theorem dX3_firstByLengths_89 : decode cX3_firstByLengths 89 = .ok (.ireturn, 1) := by decide +kernel
set_option maxRecDepth 20000 in
theorem ggX3_isOffBalance_X3_fromTop : GoodIn wsX3_isOffBalance wsX3_fromTop := goodIn_r _ [6, 7, 1, 8, 9, 10, 11, 12, 13, 14, 15, 16, 17, 18, 19, 20, 21, 22, 23, 24, 25] (by decide +kernel) (by decide +kernel)
set_option maxRecDepth 20000 in
theorem gX3_isOffBalance_X3_fromTop : GoodIn wsX3_isOffBalance (wsV RX3 115 RX3 yX3_fromTop wsX3_fromTop) := goodIn_app (goodIn_of _ (by decide +kernel)) ggX3_isOffBalance_X3_fromTop
theorem dX3_isOffBalance_0 : decode cX3_isOffBalance 0 = .ok (.aload_n 0, 1) := by decide +kernel
theorem dX3_isOffBalance_1 : decode cX3_isOffBalance 1 = .ok (.getfield 57, 3) := by decide +kernel
theorem dX3_isOffBalance_4 : decode cX3_isOffBalance 4 = .ok (.iconst 3, 1) := by decide +kernel
theorem dX3_isOffBalance_5 : decode cX3_isOffBalance 5 = .ok (.if_icmp .lt 22, 3) := by decide +kernel
theorem dX3_isOffBalance_8 : decode cX3_isOffBalance 8 = .ok (.aload_n 0, 1) := by decide +kernel
theorem dX3_isOffBalance_9 : decode cX3_isOffBalance 9 = .ok (.iconst 2, 1) := by decide +kernel
theorem dX3_isOffBalance_10 : decode cX3_isOffBalance 10 = .ok (.invokevirtual 115, 3) := by decide +kernel
theorem dX3_isOffBalance_13 : decode cX3_isOffBalance 13 = .ok (.aload_n 0, 1) := by decide +kernel
theorem dX3_isOffBalance_14 : decode cX3_isOffBalance 14 = .ok (.iconst 1, 1) := by decide +kernel
theorem dX3_isOffBalance_15 : decode cX3_isOffBalance 15 = .ok (.invokevirtual 115, 3) := by decide +kernel
theorem dX3_isOffBalance_18 : decode cX3_isOffBalance 18 = .ok (.aload_n 0, 1) := by decide +kernel
theorem dX3_isOffBalance_19 : decode cX3_isOffBalance 19 = .ok (.iconst 0, 1) := by decide +kernel
theorem dX3_isOffBalance_20 : decode cX3_isOffBalance 20 = .ok (.invokevirtual 115, 3) := by decide +kernel
theorem dX3_isOffBalance_23 : decode cX3_isOffBalance 23 = .ok (.iadd, 1) := by decide +kernel
theorem dX3_isOffBalance_24 : decode cX3_isOffBalance 24 = .ok (.if_icmp .le 30, 3) := by decide +kernel
theorem dX3_isOffBalance_27 : decode cX3_isOffBalance 27 = .ok (.aload_n 0, 1) := by decide +kernel
theorem dX3_isOffBalance_28 : decode cX3_isOffBalance 28 = .ok (.getfield 57, 3) := by decide +kernel
theorem dX3_isOffBalance_31 : decode cX3_isOffBalance 31 = .ok (.iconst 4, 1) := by decide +kernel
theorem dX3_isOffBalance_32 : decode cX3_isOffBalance 32 = .ok (.if_icmp .lt 26, 3) := by decide +kernel
theorem dX3_isOffBalance_35 : decode cX3_isOffBalance 35 = .ok (.aload_n 0, 1) := by decide +kernel
theorem dX3_isOffBalance_36 : decode cX3_isOffBalance 36 = .ok (.iconst 3, 1) := by decide +kernel
theorem dX3_isOffBalance_37 : decode cX3_isOffBalance 37 = .ok (.invokevirtual 115, 3) := by decide +kernel
theorem dX3_isOffBalance_40 : decode cX3_isOffBalance 40 = .ok (.aload_n 0, 1) := by decide +kernel
theorem dX3_isOffBalance_41 : decode cX3_isOffBalance 41 = .ok (.iconst 2, 1) := by decide +kernel
theorem dX3_isOffBalance_42 : decode cX3_isOffBalance 42 = .ok (.invokevirtual 115, 3) := by decide +kernel
theorem dX3_isOffBalance_45 : decode cX3_isOffBalance 45 = .ok (.aload_n 0, 1) := by decide +kernel
theorem dX3_isOffBalance_46 : decode cX3_isOffBalance 46 = .ok (.iconst 1, 1) := by decide +kernel
theorem dX3_isOffBalance_47 : decode cX3_isOffBalance 47 = .ok (.invokevirtual 115, 3) := by decide +kernel
theorem dX3_isOffBalance_50 : decode cX3_isOffBalance 50 = .ok (.iadd, 1) := by decide +kernel
theorem dX3_isOffBalance_51 : decode cX3_isOffBalance 51 = .ok (.if_icmp .gt 7, 3) := by decide +kernel
theorem dX3_isOffBalance_54 : decode cX3_isOffBalance 54 = .ok (.iconst 1, 1) := by decide +kernel
theorem dX3_isOffBalance_55 : decode cX3_isOffBalance 55 = .ok (.goto 4, 3) := by decide +kernel
theorem dX3_isOffBalance_58 : decode cX3_isOffBalance 58 = .ok (.iconst 0, 1) := by decide +kernel
theorem dX3_isOffBalance_59 : decode cX3_isOffBalance 59 = .ok (.ireturn, 1) := by decide +kernel
set_option maxRecDepth 20000 in
theorem ggX3_firstAtTheEnd_X3_lowerPairIfThirdIsShort : GoodIn wsX3_firstAtTheEnd wsX3_lowerPairIfThirdIsShort := goodIn_r _ [7, 1, 8, 9, 10, 6, 11, 12, 13, 14, 15, 16, 17, 18, 19, 20, 21, 22, 23, 24, 25, 26, 27, 28, 29, 30] (by decide +kernel) (by decide +kernel)
set_option maxRecDepth 20000 in
theorem gX3_firstAtTheEnd_X3_lowerPairIfThirdIsShort : GoodIn wsX3_firstAtTheEnd (wsV RX3 122 RX3 yX3_lowerPairIfThirdIsShort wsX3_lowerPairIfThirdIsShort) := goodIn_app (goodIn_of _ (by decide +kernel)) ggX3_firstAtTheEnd_X3_lowerPairIfThirdIsShort
theorem dX3_firstAtTheEnd_0 : decode cX3_firstAtTheEnd 0 = .ok (.aload_n 0, 1) := by decide +kernel
theorem dX3_firstAtTheEnd_1 : decode cX3_firstAtTheEnd 1 = .ok (.getfield 57, 3) := by decide +kernel
theorem dX3_firstAtTheEnd_4 : decode cX3_firstAtTheEnd 4 = .ok (.iconst 2, 1) := by decide +kernel
theorem dX3_firstAtTheEnd_5 : decode cX3_firstAtTheEnd 5 = .ok (.if_icmp .ge 6, 3) := by decide +kernel
theorem dX3_firstAtTheEnd_8 : decode cX3_firstAtTheEnd 8 = .ok (.bipush (-4), 2) := by decide +kernel
theorem dX3_firstAtTheEnd_10 : decode cX3_firstAtTheEnd 10 = .ok (.ireturn, 1) := by decide +kernel
theorem dX3_firstAtTheEnd_11 : decode cX3_firstAtTheEnd 11 = .ok (.aload_n 0, 1) := by decide +kernel
theorem dX3_firstAtTheEnd_12 : decode cX3_firstAtTheEnd 12 = .ok (.getfield 51, 3) := by decide +kernel
theorem dX3_firstAtTheEnd_15 : decode cX3_firstAtTheEnd 15 = .ok (.ifCond .eq 11, 3) := by decide +kernel
theorem dX3_firstAtTheEnd_18 : decode cX3_firstAtTheEnd 18 = .ok (.aload_n 0, 1) := by decide +kernel
theorem dX3_firstAtTheEnd_19 : decode cX3_firstAtTheEnd 19 = .ok (.getfield 51, 3) := by decide +kernel
theorem dX3_firstAtTheEnd_22 : decode cX3_firstAtTheEnd 22 = .ok (.iconst 1, 1) := by decide +kernel
theorem dX3_firstAtTheEnd_23 : decode cX3_firstAtTheEnd 23 = .ok (.if_icmp .ne 7, 3) := by decide +kernel
theorem dX3_firstAtTheEnd_26 : decode cX3_firstAtTheEnd 26 = .ok (.iconst 1, 1) := by decide +kernel
theorem dX3_firstAtTheEnd_27 : decode cX3_firstAtTheEnd 27 = .ok (.goto 4, 3) := by decide +kernel
theorem dX3_firstAtTheEnd_30 : decode cX3_firstAtTheEnd 30 = .ok (.iconst 0, 1) := by decide +kernel
theorem dX3_firstAtTheEnd_31 : decode cX3_firstAtTheEnd 31 = .ok (.istore_n 1, 1) := by decide +kernel
theorem dX3_firstAtTheEnd_32 : decode cX3_firstAtTheEnd 32 = .ok (.iload_n 1, 1) := by decide +kernel
theorem dX3_firstAtTheEnd_33 : decode cX3_firstAtTheEnd 33 = .ok (.ifCond .eq 12, 3) := by decide +kernel
theorem dX3_firstAtTheEnd_36 : decode cX3_firstAtTheEnd 36 = .ok (.aload_n 0, 1) := by decide +kernel
theorem dX3_firstAtTheEnd_37 : decode cX3_firstAtTheEnd 37 = .ok (.getfield 57, 3) := by decide +kernel
theorem dX3_firstAtTheEnd_40 : decode cX3_firstAtTheEnd 40 = .ok (.iconst 2, 1) := by decide +kernel
theorem dX3_firstAtTheEnd_41 : decode cX3_firstAtTheEnd 41 = .ok (.isub, 1) := by decide +kernel
theorem dX3_firstAtTheEnd_42 : decode cX3_firstAtTheEnd 42 = .ok (.goto 7, 3) := by decide +kernel
theorem dX3_firstAtTheEnd_45 : decode cX3_firstAtTheEnd 45 = .ok (.aload_n 0, 1) := by decide +kernel
theorem dX3_firstAtTheEnd_46 : decode cX3_firstAtTheEnd 46 = .ok (.invokevirtual 122, 3) := by decide +kernel
theorem dX3_firstAtTheEnd_49 : decode cX3_firstAtTheEnd 49 = .ok (.ireturn, 1) := by decide +kernel
set_option maxRecDepth 20000 in
theorem ggX3_lowerPairIfThirdIsShort_X3_fromTop : GoodIn wsX3_lowerPairIfThirdIsShort wsX3_fromTop := goodIn_r _ [6, 7, 1, 8, 9, 10, 11, 12, 13, 14, 15, 16, 17, 18, 19, 20, 21, 22, 23, 24, 25] (by decide +kernel) (by decide +kernel)
set_option maxRecDepth 20000 in
theorem gX3_lowerPairIfThirdIsShort_X3_fromTop : GoodIn wsX3_lowerPairIfThirdIsShort (wsV RX3 115 RX3 yX3_fromTop wsX3_fromTop) := goodIn_app (goodIn_of _ (by decide +kernel)) ggX3_lowerPairIfThirdIsShort_X3_fromTop
theorem dX3_lowerPairIfThirdIsShort_0 : decode cX3_lowerPairIfThirdIsShort 0 = .ok (.aload_n 0, 1) := by decide +kernel
theorem dX3_lowerPairIfThirdIsShort_1 : decode cX3_lowerPairIfThirdIsShort 1 = .ok (.getfield 57, 3) := by decide +kernel
theorem dX3_lowerPairIfThirdIsShort_4 : decode cX3_lowerPairIfThirdIsShort 4 = .ok (.iconst 3, 1) := by decide +kernel
theorem dX3_lowerPairIfThirdIsShort_5 : decode cX3_lowerPairIfThirdIsShort 5 = .ok (.if_icmp .lt 25, 3) := by decide +kernel
theorem dX3_lowerPairIfThirdIsShort_8 : decode cX3_lowerPairIfThirdIsShort 8 = .ok (.aload_n 0, 1) := by decide +kernel
theorem dX3_lowerPairIfThirdIsShort_9 : decode cX3_lowerPairIfThirdIsShort 9 = .ok (.iconst 2, 1) := by decide +kernel
theorem dX3_lowerPairIfThirdIsShort_10 : decode cX3_lowerPairIfThirdIsShort 10 = .ok (.invokevirtual 115, 3) := by decide +kernel
theorem dX3_lowerPairIfThirdIsShort_13 : decode cX3_lowerPairIfThirdIsShort 13 = .ok (.aload_n 0, 1) := by decide +kernel
theorem dX3_lowerPairIfThirdIsShort_14 : decode cX3_lowerPairIfThirdIsShort 14 = .ok (.iconst 0, 1) := by decide +kernel
theorem dX3_lowerPairIfThirdIsShort_15 : decode cX3_lowerPairIfThirdIsShort 15 = .ok (.invokevirtual 115, 3) := by decide +kernel
theorem dX3_lowerPairIfThirdIsShort_18 : decode cX3_lowerPairIfThirdIsShort 18 = .ok (.if_icmp .ge 12, 3) := by decide +kernel
theorem dX3_lowerPairIfThirdIsShort_21 : decode cX3_lowerPairIfThirdIsShort 21 = .ok (.aload_n 0, 1) := by decide +kernel
theorem dX3_lowerPairIfThirdIsShort_22 : decode cX3_lowerPairIfThirdIsShort 22 = .ok (.getfield 57, 3) := by decide +kernel
theorem dX3_lowerPairIfThirdIsShort_25 : decode cX3_lowerPairIfThirdIsShort 25 = .ok (.iconst 3, 1) := by decide +kernel
theorem dX3_lowerPairIfThirdIsShort_26 : decode cX3_lowerPairIfThirdIsShort 26 = .ok (.isub, 1) := by decide +kernel
theorem dX3_lowerPairIfThirdIsShort_27 : decode cX3_lowerPairIfThirdIsShort 27 = .ok (.goto 9, 3) := by decide +kernel
theorem dX3_lowerPairIfThirdIsShort_30 : decode cX3_lowerPairIfThirdIsShort 30 = .ok (.aload_n 0, 1) := by decide +kernel
theorem dX3_lowerPairIfThirdIsShort_31 : decode cX3_lowerPairIfThirdIsShort 31 = .ok (.getfield 57, 3) := by decide +kernel
theorem dX3_lowerPairIfThirdIsShort_34 : decode cX3_lowerPairIfThirdIsShort 34 = .ok (.iconst 2, 1) := by decide +kernel
theorem dX3_lowerPairIfThirdIsShort_35 : decode cX3_lowerPairIfThirdIsShort 35 = .ok (.isub, 1) := by decide +kernel
theorem dX3_lowerPairIfThirdIsShort_36 : decode cX3_lowerPairIfThirdIsShort 36 = .ok (.ireturn, 1) := by decide +kernel
set_option maxRecDepth 20000 in
theorem ggX3_fromTop_X0_look : GoodIn wsX3_fromTop wsX0_look := goodIn_r _ [6, 7, 20] (by decide +kernel) (by decide +kernel)
set_option maxRecDepth 20000 in
theorem gX3_fromTop_X0_look_n66 : GoodIn wsX3_fromTop (wsX0_look) := ggX3_fromTop_X0_look
theorem dX3_fromTop_0 : decode cX3_fromTop 0 = .ok (.aload_n 0, 1) := by decide +kernel
theorem dX3_fromTop_1 : decode cX3_fromTop 1 = .ok (.getfield 26, 3) := by decide +kernel
theorem dX3_fromTop_4 : decode cX3_fromTop 4 = .ok (.aload_n 0, 1) := by decide +kernel
theorem dX3_fromTop_5 : decode cX3_fromTop 5 = .ok (.getfield 57, 3) := by decide +kernel
theorem dX3_fromTop_8 : decode cX3_fromTop 8 = .ok (.iconst 1, 1) := by decide +kernel
theorem dX3_fromTop_9 : decode cX3_fromTop 9 = .ok (.isub, 1) := by decide +kernel
theorem dX3_fromTop_10 : decode cX3_fromTop 10 = .ok (.iload_n 1, 1) := by decide +kernel
theorem dX3_fromTop_11 : decode cX3_fromTop 11 = .ok (.isub, 1) := by decide +kernel
theorem dX3_fromTop_12 : decode cX3_fromTop 12 = .ok (.invokevirtual 66, 3) := by decide +kernel
theorem dX3_fromTop_15 : decode cX3_fromTop 15 = .ok (.ireturn, 1) := by decide +kernel
set_option maxRecDepth 20000 in
theorem ggX3_powerBehind_X0_look : GoodIn wsX3_powerBehind wsX0_look := goodIn_r _ [9, 10, 23] (by decide +kernel) (by decide +kernel)
set_option maxRecDepth 20000 in
theorem gX3_powerBehind_X0_look_n66 : GoodIn wsX3_powerBehind (wsX0_look) := ggX3_powerBehind_X0_look
theorem dX3_powerBehind_0 : decode cX3_powerBehind 0 = .ok (.iload_n 1, 1) := by decide +kernel
theorem dX3_powerBehind_1 : decode cX3_powerBehind 1 = .ok (.aload_n 0, 1) := by decide +kernel
theorem dX3_powerBehind_2 : decode cX3_powerBehind 2 = .ok (.getfield 57, 3) := by decide +kernel
theorem dX3_powerBehind_5 : decode cX3_powerBehind 5 = .ok (.iconst 1, 1) := by decide +kernel
theorem dX3_powerBehind_6 : decode cX3_powerBehind 6 = .ok (.isub, 1) := by decide +kernel
theorem dX3_powerBehind_7 : decode cX3_powerBehind 7 = .ok (.if_icmp .ne 7, 3) := by decide +kernel
theorem dX3_powerBehind_10 : decode cX3_powerBehind 10 = .ok (.iconst 1, 1) := by decide +kernel
theorem dX3_powerBehind_11 : decode cX3_powerBehind 11 = .ok (.goto 4, 3) := by decide +kernel
theorem dX3_powerBehind_14 : decode cX3_powerBehind 14 = .ok (.iconst 0, 1) := by decide +kernel
theorem dX3_powerBehind_15 : decode cX3_powerBehind 15 = .ok (.istore_n 2, 1) := by decide +kernel
theorem dX3_powerBehind_16 : decode cX3_powerBehind 16 = .ok (.iload_n 2, 1) := by decide +kernel
theorem dX3_powerBehind_17 : decode cX3_powerBehind 17 = .ok (.ifCond .eq 10, 3) := by decide +kernel
theorem dX3_powerBehind_20 : decode cX3_powerBehind 20 = .ok (.aload_n 0, 1) := by decide +kernel
theorem dX3_powerBehind_21 : decode cX3_powerBehind 21 = .ok (.getfield 63, 3) := by decide +kernel
theorem dX3_powerBehind_24 : decode cX3_powerBehind 24 = .ok (.goto 13, 3) := by decide +kernel
theorem dX3_powerBehind_27 : decode cX3_powerBehind 27 = .ok (.aload_n 0, 1) := by decide +kernel
theorem dX3_powerBehind_28 : decode cX3_powerBehind 28 = .ok (.getfield 26, 3) := by decide +kernel
theorem dX3_powerBehind_31 : decode cX3_powerBehind 31 = .ok (.iload_n 1, 1) := by decide +kernel
theorem dX3_powerBehind_32 : decode cX3_powerBehind 32 = .ok (.iconst 1, 1) := by decide +kernel
theorem dX3_powerBehind_33 : decode cX3_powerBehind 33 = .ok (.iadd, 1) := by decide +kernel
theorem dX3_powerBehind_34 : decode cX3_powerBehind 34 = .ok (.invokevirtual 66, 3) := by decide +kernel
theorem dX3_powerBehind_37 : decode cX3_powerBehind 37 = .ok (.istore_n 3, 1) := by decide +kernel
theorem dX3_powerBehind_38 : decode cX3_powerBehind 38 = .ok (.iload_n 3, 1) := by decide +kernel
theorem dX3_powerBehind_39 : decode cX3_powerBehind 39 = .ok (.ifCond .le 10, 3) := by decide +kernel
theorem dX3_powerBehind_42 : decode cX3_powerBehind 42 = .ok (.aload_n 0, 1) := by decide +kernel
theorem dX3_powerBehind_43 : decode cX3_powerBehind 43 = .ok (.getfield 47, 3) := by decide +kernel
theorem dX3_powerBehind_46 : decode cX3_powerBehind 46 = .ok (.ifCond .gt 6, 3) := by decide +kernel
theorem dX3_powerBehind_49 : decode cX3_powerBehind 49 = .ok (.bipush (-4), 2) := by decide +kernel
theorem dX3_powerBehind_51 : decode cX3_powerBehind 51 = .ok (.ireturn, 1) := by decide +kernel
theorem dX3_powerBehind_52 : decode cX3_powerBehind 52 = .ok (.iconst 2, 1) := by decide +kernel
theorem dX3_powerBehind_53 : decode cX3_powerBehind 53 = .ok (.aload_n 0, 1) := by decide +kernel
theorem dX3_powerBehind_54 : decode cX3_powerBehind 54 = .ok (.getfield 23, 3) := by decide +kernel
theorem dX3_powerBehind_57 : decode cX3_powerBehind 57 = .ok (.iload_n 1, 1) := by decide +kernel
theorem dX3_powerBehind_58 : decode cX3_powerBehind 58 = .ok (.invokevirtual 66, 3) := by decide +kernel
theorem dX3_powerBehind_61 : decode cX3_powerBehind 61 = .ok (.imul, 1) := by decide +kernel
theorem dX3_powerBehind_62 : decode cX3_powerBehind 62 = .ok (.aload_n 0, 1) := by decide +kernel
theorem dX3_powerBehind_63 : decode cX3_powerBehind 63 = .ok (.getfield 26, 3) := by decide +kernel
theorem dX3_powerBehind_66 : decode cX3_powerBehind 66 = .ok (.iload_n 1, 1) := by decide +kernel
theorem dX3_powerBehind_67 : decode cX3_powerBehind 67 = .ok (.invokevirtual 66, 3) := by decide +kernel
theorem dX3_powerBehind_70 : decode cX3_powerBehind 70 = .ok (.iadd, 1) := by decide +kernel
theorem dX3_powerBehind_71 : decode cX3_powerBehind 71 = .ok (.istore 4, 2) := by decide +kernel
theorem dX3_powerBehind_73 : decode cX3_powerBehind 73 = .ok (.iload 4, 2) := by decide +kernel
theorem dX3_powerBehind_75 : decode cX3_powerBehind 75 = .ok (.aload_n 0, 1) := by decide +kernel
theorem dX3_powerBehind_76 : decode cX3_powerBehind 76 = .ok (.getfield 26, 3) := by decide +kernel
theorem dX3_powerBehind_79 : decode cX3_powerBehind 79 = .ok (.iload_n 1, 1) := by decide +kernel
theorem dX3_powerBehind_80 : decode cX3_powerBehind 80 = .ok (.invokevirtual 66, 3) := by decide +kernel
theorem dX3_powerBehind_83 : decode cX3_powerBehind 83 = .ok (.iadd, 1) := by decide +kernel
theorem dX3_powerBehind_84 : decode cX3_powerBehind 84 = .ok (.iload_n 3, 1) := by decide +kernel
theorem dX3_powerBehind_85 : decode cX3_powerBehind 85 = .ok (.iadd, 1) := by decide +kernel
theorem dX3_powerBehind_86 : decode cX3_powerBehind 86 = .ok (.istore 5, 2) := by decide +kernel
theorem dX3_powerBehind_88 : decode cX3_powerBehind 88 = .ok (.iconst 2, 1) := by decide +kernel
theorem dX3_powerBehind_89 : decode cX3_powerBehind 89 = .ok (.aload_n 0, 1) := by decide +kernel
theorem dX3_powerBehind_90 : decode cX3_powerBehind 90 = .ok (.getfield 47, 3) := by decide +kernel
theorem dX3_powerBehind_93 : decode cX3_powerBehind 93 = .ok (.imul, 1) := by decide +kernel
theorem dX3_powerBehind_94 : decode cX3_powerBehind 94 = .ok (.istore 6, 2) := by decide +kernel
theorem dX3_powerBehind_96 : decode cX3_powerBehind 96 = .ok (.iconst 1, 1) := by decide +kernel
theorem dX3_powerBehind_97 : decode cX3_powerBehind 97 = .ok (.istore 7, 2) := by decide +kernel
theorem dX3_powerBehind_99 : decode cX3_powerBehind 99 = .ok (.iload 7, 2) := by decide +kernel
theorem dX3_powerBehind_101 : decode cX3_powerBehind 101 = .ok (.bipush 20, 2) := by decide +kernel
theorem dX3_powerBehind_103 : decode cX3_powerBehind 103 = .ok (.if_icmp .ge 28, 3) := by decide +kernel
theorem dX3_powerBehind_106 : decode cX3_powerBehind 106 = .ok (.iload 4, 2) := by decide +kernel
theorem dX3_powerBehind_108 : decode cX3_powerBehind 108 = .ok (.iload 7, 2) := by decide +kernel
theorem dX3_powerBehind_110 : decode cX3_powerBehind 110 = .ok (.ishl, 1) := by decide +kernel
theorem dX3_powerBehind_111 : decode cX3_powerBehind 111 = .ok (.iload 6, 2) := by decide +kernel
theorem dX3_powerBehind_113 : decode cX3_powerBehind 113 = .ok (.idiv, 1) := by decide +kernel
theorem dX3_powerBehind_114 : decode cX3_powerBehind 114 = .ok (.iload 5, 2) := by decide +kernel
theorem dX3_powerBehind_116 : decode cX3_powerBehind 116 = .ok (.iload 7, 2) := by decide +kernel
theorem dX3_powerBehind_118 : decode cX3_powerBehind 118 = .ok (.ishl, 1) := by decide +kernel
theorem dX3_powerBehind_119 : decode cX3_powerBehind 119 = .ok (.iload 6, 2) := by decide +kernel
theorem dX3_powerBehind_121 : decode cX3_powerBehind 121 = .ok (.idiv, 1) := by decide +kernel
theorem dX3_powerBehind_122 : decode cX3_powerBehind 122 = .ok (.if_icmp .ne 9, 3) := by decide +kernel
theorem dX3_powerBehind_125 : decode cX3_powerBehind 125 = .ok (.iinc 7 1, 3) := by decide +kernel
theorem dX3_powerBehind_128 : decode cX3_powerBehind 128 = .ok (.goto (-29), 3) := by decide +kernel
theorem dX3_powerBehind_131 : decode cX3_powerBehind 131 = .ok (.iload 7, 2) := by decide +kernel
theorem dX3_powerBehind_133 : decode cX3_powerBehind 133 = .ok (.ireturn, 1) := by decide +kernel
set_option maxRecDepth 20000 in
theorem ggX3_pushWaiting_X0_fill : GoodIn wsX3_pushWaiting wsX0_fill := goodIn_r _ [10, 11, 27] (by decide +kernel) (by decide +kernel)
set_option maxRecDepth 20000 in
theorem gX3_pushWaiting_X0_fill_n70 : GoodIn wsX3_pushWaiting (wsX0_fill) := ggX3_pushWaiting_X0_fill
set_option maxRecDepth 20000 in
theorem ggX3_pushWaiting_X0_raise : GoodIn wsX3_pushWaiting wsX0_raise := goodIn_r _ [14, 11, 27] (by decide +kernel) (by decide +kernel)
set_option maxRecDepth 20000 in
theorem gX3_pushWaiting_X0_raise_n125 : GoodIn wsX3_pushWaiting (wsX0_raise) := ggX3_pushWaiting_X0_raise
theorem dX3_pushWaiting_0 : decode cX3_pushWaiting 0 = .ok (.aload_n 0, 1) := by decide +kernel
theorem dX3_pushWaiting_1 : decode cX3_pushWaiting 1 = .ok (.getfield 23, 3) := by decide +kernel
theorem dX3_pushWaiting_4 : decode cX3_pushWaiting 4 = .ok (.aload_n 0, 1) := by decide +kernel
theorem dX3_pushWaiting_5 : decode cX3_pushWaiting 5 = .ok (.getfield 57, 3) := by decide +kernel
theorem dX3_pushWaiting_8 : decode cX3_pushWaiting 8 = .ok (.aload_n 0, 1) := by decide +kernel
theorem dX3_pushWaiting_9 : decode cX3_pushWaiting 9 = .ok (.getfield 60, 3) := by decide +kernel
theorem dX3_pushWaiting_12 : decode cX3_pushWaiting 12 = .ok (.aload_n 0, 1) := by decide +kernel
theorem dX3_pushWaiting_13 : decode cX3_pushWaiting 13 = .ok (.getfield 63, 3) := by decide +kernel
theorem dX3_pushWaiting_16 : decode cX3_pushWaiting 16 = .ok (.isub, 1) := by decide +kernel
theorem dX3_pushWaiting_17 : decode cX3_pushWaiting 17 = .ok (.invokevirtual 70, 3) := by decide +kernel
theorem dX3_pushWaiting_20 : decode cX3_pushWaiting 20 = .ok (.aload_n 0, 1) := by decide +kernel
theorem dX3_pushWaiting_21 : decode cX3_pushWaiting 21 = .ok (.getfield 26, 3) := by decide +kernel
theorem dX3_pushWaiting_24 : decode cX3_pushWaiting 24 = .ok (.aload_n 0, 1) := by decide +kernel
theorem dX3_pushWaiting_25 : decode cX3_pushWaiting 25 = .ok (.getfield 57, 3) := by decide +kernel
theorem dX3_pushWaiting_28 : decode cX3_pushWaiting 28 = .ok (.aload_n 0, 1) := by decide +kernel
theorem dX3_pushWaiting_29 : decode cX3_pushWaiting 29 = .ok (.getfield 63, 3) := by decide +kernel
theorem dX3_pushWaiting_32 : decode cX3_pushWaiting 32 = .ok (.invokevirtual 70, 3) := by decide +kernel
theorem dX3_pushWaiting_35 : decode cX3_pushWaiting 35 = .ok (.aload_n 0, 1) := by decide +kernel
theorem dX3_pushWaiting_36 : decode cX3_pushWaiting 36 = .ok (.dup, 1) := by decide +kernel
theorem dX3_pushWaiting_37 : decode cX3_pushWaiting 37 = .ok (.getfield 57, 3) := by decide +kernel
theorem dX3_pushWaiting_40 : decode cX3_pushWaiting 40 = .ok (.iconst 1, 1) := by decide +kernel
theorem dX3_pushWaiting_41 : decode cX3_pushWaiting 41 = .ok (.iadd, 1) := by decide +kernel
theorem dX3_pushWaiting_42 : decode cX3_pushWaiting 42 = .ok (.putfield 57, 3) := by decide +kernel
theorem dX3_pushWaiting_45 : decode cX3_pushWaiting 45 = .ok (.aload_n 0, 1) := by decide +kernel
theorem dX3_pushWaiting_46 : decode cX3_pushWaiting 46 = .ok (.iconst 0, 1) := by decide +kernel
theorem dX3_pushWaiting_47 : decode cX3_pushWaiting 47 = .ok (.putfield 63, 3) := by decide +kernel
theorem dX3_pushWaiting_50 : decode cX3_pushWaiting 50 = .ok (.aload_n 0, 1) := by decide +kernel
theorem dX3_pushWaiting_51 : decode cX3_pushWaiting 51 = .ok (.getfield 20, 3) := by decide +kernel
theorem dX3_pushWaiting_54 : decode cX3_pushWaiting 54 = .ok (.bipush 8, 2) := by decide +kernel
theorem dX3_pushWaiting_56 : decode cX3_pushWaiting 56 = .ok (.aload_n 0, 1) := by decide +kernel
theorem dX3_pushWaiting_57 : decode cX3_pushWaiting 57 = .ok (.getfield 57, 3) := by decide +kernel
theorem dX3_pushWaiting_60 : decode cX3_pushWaiting 60 = .ok (.invokevirtual 125, 3) := by decide +kernel
theorem dX3_pushWaiting_63 : decode cX3_pushWaiting 63 = .ok (.return_, 1) := by decide +kernel
set_option maxRecDepth 20000 in
theorem ggX3_closeUpBehind_X0_look : GoodIn wsX3_closeUpBehind wsX0_look := goodIn_r _ [8, 9, 28] (by decide +kernel) (by decide +kernel)
set_option maxRecDepth 20000 in
theorem gX3_closeUpBehind_X0_look_n66 : GoodIn wsX3_closeUpBehind (wsX0_look) := ggX3_closeUpBehind_X0_look
set_option maxRecDepth 20000 in
theorem ggX3_closeUpBehind_X0_fill : GoodIn wsX3_closeUpBehind wsX0_fill := goodIn_r _ [12, 9, 28] (by decide +kernel) (by decide +kernel)
set_option maxRecDepth 20000 in
theorem gX3_closeUpBehind_X0_fill_n70 : GoodIn wsX3_closeUpBehind (wsX0_fill) := ggX3_closeUpBehind_X0_fill
set_option maxRecDepth 20000 in
theorem ggX3_closeUpBehind_X0_add : GoodIn wsX3_closeUpBehind wsX0_add := goodIn_r _ [15, 9, 28] (by decide +kernel) (by decide +kernel)
set_option maxRecDepth 20000 in
theorem gX3_closeUpBehind_X0_add_n100 : GoodIn wsX3_closeUpBehind (wsX0_add) := ggX3_closeUpBehind_X0_add
theorem dX3_closeUpBehind_0 : decode cX3_closeUpBehind 0 = .ok (.aload_n 0, 1) := by decide +kernel
theorem dX3_closeUpBehind_1 : decode cX3_closeUpBehind 1 = .ok (.getfield 26, 3) := by decide +kernel
theorem dX3_closeUpBehind_4 : decode cX3_closeUpBehind 4 = .ok (.iload_n 1, 1) := by decide +kernel
theorem dX3_closeUpBehind_5 : decode cX3_closeUpBehind 5 = .ok (.invokevirtual 66, 3) := by decide +kernel
theorem dX3_closeUpBehind_8 : decode cX3_closeUpBehind 8 = .ok (.aload_n 0, 1) := by decide +kernel
theorem dX3_closeUpBehind_9 : decode cX3_closeUpBehind 9 = .ok (.getfield 26, 3) := by decide +kernel
theorem dX3_closeUpBehind_12 : decode cX3_closeUpBehind 12 = .ok (.iload_n 1, 1) := by decide +kernel
theorem dX3_closeUpBehind_13 : decode cX3_closeUpBehind 13 = .ok (.iconst 1, 1) := by decide +kernel
theorem dX3_closeUpBehind_14 : decode cX3_closeUpBehind 14 = .ok (.iadd, 1) := by decide +kernel
theorem dX3_closeUpBehind_15 : decode cX3_closeUpBehind 15 = .ok (.invokevirtual 66, 3) := by decide +kernel
theorem dX3_closeUpBehind_18 : decode cX3_closeUpBehind 18 = .ok (.iadd, 1) := by decide +kernel
theorem dX3_closeUpBehind_19 : decode cX3_closeUpBehind 19 = .ok (.istore_n 2, 1) := by decide +kernel
theorem dX3_closeUpBehind_20 : decode cX3_closeUpBehind 20 = .ok (.aload_n 0, 1) := by decide +kernel
theorem dX3_closeUpBehind_21 : decode cX3_closeUpBehind 21 = .ok (.getfield 26, 3) := by decide +kernel
theorem dX3_closeUpBehind_24 : decode cX3_closeUpBehind 24 = .ok (.iload_n 1, 1) := by decide +kernel
theorem dX3_closeUpBehind_25 : decode cX3_closeUpBehind 25 = .ok (.iload_n 2, 1) := by decide +kernel
theorem dX3_closeUpBehind_26 : decode cX3_closeUpBehind 26 = .ok (.invokevirtual 70, 3) := by decide +kernel
theorem dX3_closeUpBehind_29 : decode cX3_closeUpBehind 29 = .ok (.aload_n 0, 1) := by decide +kernel
theorem dX3_closeUpBehind_30 : decode cX3_closeUpBehind 30 = .ok (.dup, 1) := by decide +kernel
theorem dX3_closeUpBehind_31 : decode cX3_closeUpBehind 31 = .ok (.getfield 57, 3) := by decide +kernel
theorem dX3_closeUpBehind_34 : decode cX3_closeUpBehind 34 = .ok (.iconst 1, 1) := by decide +kernel
theorem dX3_closeUpBehind_35 : decode cX3_closeUpBehind 35 = .ok (.isub, 1) := by decide +kernel
theorem dX3_closeUpBehind_36 : decode cX3_closeUpBehind 36 = .ok (.putfield 57, 3) := by decide +kernel
theorem dX3_closeUpBehind_39 : decode cX3_closeUpBehind 39 = .ok (.iload_n 1, 1) := by decide +kernel
theorem dX3_closeUpBehind_40 : decode cX3_closeUpBehind 40 = .ok (.iconst 1, 1) := by decide +kernel
theorem dX3_closeUpBehind_41 : decode cX3_closeUpBehind 41 = .ok (.iadd, 1) := by decide +kernel
theorem dX3_closeUpBehind_42 : decode cX3_closeUpBehind 42 = .ok (.istore_n 3, 1) := by decide +kernel
theorem dX3_closeUpBehind_43 : decode cX3_closeUpBehind 43 = .ok (.iload_n 3, 1) := by decide +kernel
theorem dX3_closeUpBehind_44 : decode cX3_closeUpBehind 44 = .ok (.aload_n 0, 1) := by decide +kernel
theorem dX3_closeUpBehind_45 : decode cX3_closeUpBehind 45 = .ok (.getfield 57, 3) := by decide +kernel
theorem dX3_closeUpBehind_48 : decode cX3_closeUpBehind 48 = .ok (.if_icmp .ge 45, 3) := by decide +kernel
theorem dX3_closeUpBehind_51 : decode cX3_closeUpBehind 51 = .ok (.aload_n 0, 1) := by decide +kernel
theorem dX3_closeUpBehind_52 : decode cX3_closeUpBehind 52 = .ok (.getfield 23, 3) := by decide +kernel
theorem dX3_closeUpBehind_55 : decode cX3_closeUpBehind 55 = .ok (.iload_n 3, 1) := by decide +kernel
theorem dX3_closeUpBehind_56 : decode cX3_closeUpBehind 56 = .ok (.aload_n 0, 1) := by decide +kernel
theorem dX3_closeUpBehind_57 : decode cX3_closeUpBehind 57 = .ok (.getfield 23, 3) := by decide +kernel
theorem dX3_closeUpBehind_60 : decode cX3_closeUpBehind 60 = .ok (.iload_n 3, 1) := by decide +kernel
theorem dX3_closeUpBehind_61 : decode cX3_closeUpBehind 61 = .ok (.iconst 1, 1) := by decide +kernel
theorem dX3_closeUpBehind_62 : decode cX3_closeUpBehind 62 = .ok (.iadd, 1) := by decide +kernel
theorem dX3_closeUpBehind_63 : decode cX3_closeUpBehind 63 = .ok (.invokevirtual 66, 3) := by decide +kernel
theorem dX3_closeUpBehind_66 : decode cX3_closeUpBehind 66 = .ok (.invokevirtual 70, 3) := by decide +kernel
theorem dX3_closeUpBehind_69 : decode cX3_closeUpBehind 69 = .ok (.aload_n 0, 1) := by decide +kernel
theorem dX3_closeUpBehind_70 : decode cX3_closeUpBehind 70 = .ok (.getfield 26, 3) := by decide +kernel
theorem dX3_closeUpBehind_73 : decode cX3_closeUpBehind 73 = .ok (.iload_n 3, 1) := by decide +kernel
theorem dX3_closeUpBehind_74 : decode cX3_closeUpBehind 74 = .ok (.aload_n 0, 1) := by decide +kernel
theorem dX3_closeUpBehind_75 : decode cX3_closeUpBehind 75 = .ok (.getfield 26, 3) := by decide +kernel
theorem dX3_closeUpBehind_78 : decode cX3_closeUpBehind 78 = .ok (.iload_n 3, 1) := by decide +kernel
theorem dX3_closeUpBehind_79 : decode cX3_closeUpBehind 79 = .ok (.iconst 1, 1) := by decide +kernel
theorem dX3_closeUpBehind_80 : decode cX3_closeUpBehind 80 = .ok (.iadd, 1) := by decide +kernel
theorem dX3_closeUpBehind_81 : decode cX3_closeUpBehind 81 = .ok (.invokevirtual 66, 3) := by decide +kernel
theorem dX3_closeUpBehind_84 : decode cX3_closeUpBehind 84 = .ok (.invokevirtual 70, 3) := by decide +kernel
theorem dX3_closeUpBehind_87 : decode cX3_closeUpBehind 87 = .ok (.iinc 3 1, 3) := by decide +kernel
theorem dX3_closeUpBehind_90 : decode cX3_closeUpBehind 90 = .ok (.goto (-47), 3) := by decide +kernel
theorem dX3_closeUpBehind_93 : decode cX3_closeUpBehind 93 = .ok (.aload_n 0, 1) := by decide +kernel
theorem dX3_closeUpBehind_94 : decode cX3_closeUpBehind 94 = .ok (.getfield 20, 3) := by decide +kernel
theorem dX3_closeUpBehind_97 : decode cX3_closeUpBehind 97 = .ok (.iconst 5, 1) := by decide +kernel
theorem dX3_closeUpBehind_98 : decode cX3_closeUpBehind 98 = .ok (.iconst 1, 1) := by decide +kernel
theorem dX3_closeUpBehind_99 : decode cX3_closeUpBehind 99 = .ok (.invokevirtual 100, 3) := by decide +kernel
theorem dX3_closeUpBehind_102 : decode cX3_closeUpBehind 102 = .ok (.aload_n 0, 1) := by decide +kernel
theorem dX3_closeUpBehind_103 : decode cX3_closeUpBehind 103 = .ok (.getfield 20, 3) := by decide +kernel
theorem dX3_closeUpBehind_106 : decode cX3_closeUpBehind 106 = .ok (.bipush 6, 2) := by decide +kernel
theorem dX3_closeUpBehind_108 : decode cX3_closeUpBehind 108 = .ok (.iload_n 2, 1) := by decide +kernel
theorem dX3_closeUpBehind_109 : decode cX3_closeUpBehind 109 = .ok (.invokevirtual 100, 3) := by decide +kernel
theorem dX3_closeUpBehind_112 : decode cX3_closeUpBehind 112 = .ok (.return_, 1) := by decide +kernel
set_option maxRecDepth 20000 in
theorem ggX3_findRun_X0_look : GoodIn wsX3_findRun wsX0_look := goodIn_r _ [15, 16, 60] (by decide +kernel) (by decide +kernel)
set_option maxRecDepth 20000 in
theorem gX3_findRun_X0_look_n66 : GoodIn wsX3_findRun (wsX0_look) := ggX3_findRun_X0_look
set_option maxRecDepth 20000 in
theorem ggX3_findRun_X1_isLess : GoodIn wsX3_findRun wsX1_isLess := goodIn_r _ [20, 21, 22, 23, 13, 24, 25, 16, 26, 27, 28, 29, 30, 31, 61, 62, 60] (by decide +kernel) (by decide +kernel)
set_option maxRecDepth 20000 in
theorem gX3_findRun_X1_isLess_n128 : GoodIn wsX3_findRun (wsX1_isLess) := ggX3_findRun_X1_isLess
set_option maxRecDepth 20000 in
theorem ggX3_findRun_X3_lengthAsItLies : GoodIn wsX3_findRun wsX3_lengthAsItLies := goodIn_r _ [36, 2, 7, 8, 9, 10, 3, 4, 12, 13, 14, 15, 16, 17, 18, 19, 20, 21, 22, 23, 24, 25, 26, 27, 28, 29, 30, 31, 48, 49, 50, 51, 52, 53, 54, 55, 56, 57, 58, 59, 60, 61, 62] (by decide +kernel) (by decide +kernel)
set_option maxRecDepth 20000 in
theorem gX3_findRun_X3_lengthAsItLies : GoodIn wsX3_findRun (wsV RX3 132 RX3 yX3_lengthAsItLies wsX3_lengthAsItLies) := goodIn_app (goodIn_of _ (by decide +kernel)) ggX3_findRun_X3_lengthAsItLies
set_option maxRecDepth 20000 in
theorem ggX3_findRun_X3_turnRound : GoodIn wsX3_findRun wsX3_turnRound := goodIn_r _ [40, 4, 5, 12, 13, 14, 15, 16, 41, 42, 43, 23, 24, 25, 48, 49, 50, 51, 52, 53, 54, 55, 56, 57, 58, 59, 60] (by decide +kernel) (by decide +kernel)
set_option maxRecDepth 20000 in
theorem gX3_findRun_X3_turnRound : GoodIn wsX3_findRun (wsV RX3 136 RX3 yX3_turnRound wsX3_turnRound) := goodIn_app (goodIn_of _ (by decide +kernel)) ggX3_findRun_X3_turnRound
set_option maxRecDepth 20000 in
theorem ggX3_findRun_X0_add : GoodIn wsX3_findRun wsX0_add := goodIn_r _ [25, 16, 60] (by decide +kernel) (by decide +kernel)
set_option maxRecDepth 20000 in
theorem gX3_findRun_X0_add_n100 : GoodIn wsX3_findRun (wsX0_add) := ggX3_findRun_X0_add
set_option maxRecDepth 20000 in
theorem ggX3_findRun_X3_insertNext : GoodIn wsX3_findRun wsX3_insertNext := goodIn_r _ [47, 4, 3, 5, 12, 13, 14, 15, 16, 17, 18, 19, 20, 21, 22, 23, 24, 25, 26, 27, 28, 29, 30, 31, 41, 42, 43, 48, 49, 50, 51, 52, 53, 54, 55, 56, 57, 58, 59, 60, 61, 62] (by decide +kernel) (by decide +kernel)
set_option maxRecDepth 20000 in
theorem gX3_findRun_X3_insertNext : GoodIn wsX3_findRun (wsV RX3 145 RX3 yX3_insertNext wsX3_insertNext) := goodIn_app (goodIn_of _ (by decide +kernel)) ggX3_findRun_X3_insertNext
theorem dX3_findRun_0 : decode cX3_findRun 0 = .ok (.aload_n 0, 1) := by decide +kernel
theorem dX3_findRun_1 : decode cX3_findRun 1 = .ok (.getfield 60, 3) := by decide +kernel
theorem dX3_findRun_4 : decode cX3_findRun 4 = .ok (.istore_n 1, 1) := by decide +kernel
theorem dX3_findRun_5 : decode cX3_findRun 5 = .ok (.aload_n 0, 1) := by decide +kernel
theorem dX3_findRun_6 : decode cX3_findRun 6 = .ok (.getfield 47, 3) := by decide +kernel
theorem dX3_findRun_9 : decode cX3_findRun 9 = .ok (.iload_n 1, 1) := by decide +kernel
theorem dX3_findRun_10 : decode cX3_findRun 10 = .ok (.isub, 1) := by decide +kernel
theorem dX3_findRun_11 : decode cX3_findRun 11 = .ok (.iconst 1, 1) := by decide +kernel
theorem dX3_findRun_12 : decode cX3_findRun 12 = .ok (.if_icmp .le 35, 3) := by decide +kernel
theorem dX3_findRun_15 : decode cX3_findRun 15 = .ok (.aload_n 0, 1) := by decide +kernel
theorem dX3_findRun_16 : decode cX3_findRun 16 = .ok (.getfield 34, 3) := by decide +kernel
theorem dX3_findRun_19 : decode cX3_findRun 19 = .ok (.aload_n 0, 1) := by decide +kernel
theorem dX3_findRun_20 : decode cX3_findRun 20 = .ok (.getfield 14, 3) := by decide +kernel
theorem dX3_findRun_23 : decode cX3_findRun 23 = .ok (.iload_n 1, 1) := by decide +kernel
theorem dX3_findRun_24 : decode cX3_findRun 24 = .ok (.iconst 1, 1) := by decide +kernel
theorem dX3_findRun_25 : decode cX3_findRun 25 = .ok (.iadd, 1) := by decide +kernel
theorem dX3_findRun_26 : decode cX3_findRun 26 = .ok (.invokevirtual 66, 3) := by decide +kernel
theorem dX3_findRun_29 : decode cX3_findRun 29 = .ok (.aload_n 0, 1) := by decide +kernel
theorem dX3_findRun_30 : decode cX3_findRun 30 = .ok (.getfield 14, 3) := by decide +kernel
theorem dX3_findRun_33 : decode cX3_findRun 33 = .ok (.iload_n 1, 1) := by decide +kernel
theorem dX3_findRun_34 : decode cX3_findRun 34 = .ok (.invokevirtual 66, 3) := by decide +kernel
theorem dX3_findRun_37 : decode cX3_findRun 37 = .ok (.invokevirtual 128, 3) := by decide +kernel
theorem dX3_findRun_40 : decode cX3_findRun 40 = .ok (.ifCond .eq 7, 3) := by decide +kernel
theorem dX3_findRun_43 : decode cX3_findRun 43 = .ok (.iconst 1, 1) := by decide +kernel
theorem dX3_findRun_44 : decode cX3_findRun 44 = .ok (.goto 4, 3) := by decide +kernel
theorem dX3_findRun_47 : decode cX3_findRun 47 = .ok (.iconst 0, 1) := by decide +kernel
theorem dX3_findRun_48 : decode cX3_findRun 48 = .ok (.istore_n 2, 1) := by decide +kernel
theorem dX3_findRun_49 : decode cX3_findRun 49 = .ok (.aload_n 0, 1) := by decide +kernel
theorem dX3_findRun_50 : decode cX3_findRun 50 = .ok (.iload_n 1, 1) := by decide +kernel
theorem dX3_findRun_51 : decode cX3_findRun 51 = .ok (.iload_n 2, 1) := by decide +kernel
theorem dX3_findRun_52 : decode cX3_findRun 52 = .ok (.invokevirtual 132, 3) := by decide +kernel
theorem dX3_findRun_55 : decode cX3_findRun 55 = .ok (.istore_n 3, 1) := by decide +kernel
theorem dX3_findRun_56 : decode cX3_findRun 56 = .ok (.iload_n 2, 1) := by decide +kernel
theorem dX3_findRun_57 : decode cX3_findRun 57 = .ok (.ifCond .eq 18, 3) := by decide +kernel
theorem dX3_findRun_60 : decode cX3_findRun 60 = .ok (.aload_n 0, 1) := by decide +kernel
theorem dX3_findRun_61 : decode cX3_findRun 61 = .ok (.iload_n 1, 1) := by decide +kernel
theorem dX3_findRun_62 : decode cX3_findRun 62 = .ok (.iload_n 3, 1) := by decide +kernel
theorem dX3_findRun_63 : decode cX3_findRun 63 = .ok (.invokevirtual 136, 3) := by decide +kernel
theorem dX3_findRun_66 : decode cX3_findRun 66 = .ok (.aload_n 0, 1) := by decide +kernel
theorem dX3_findRun_67 : decode cX3_findRun 67 = .ok (.getfield 20, 3) := by decide +kernel
theorem dX3_findRun_70 : decode cX3_findRun 70 = .ok (.iconst 3, 1) := by decide +kernel
theorem dX3_findRun_71 : decode cX3_findRun 71 = .ok (.iconst 1, 1) := by decide +kernel
theorem dX3_findRun_72 : decode cX3_findRun 72 = .ok (.invokevirtual 100, 3) := by decide +kernel
theorem dX3_findRun_75 : decode cX3_findRun 75 = .ok (.aload_n 0, 1) := by decide +kernel
theorem dX3_findRun_76 : decode cX3_findRun 76 = .ok (.getfield 54, 3) := by decide +kernel
theorem dX3_findRun_79 : decode cX3_findRun 79 = .ok (.aload_n 0, 1) := by decide +kernel
theorem dX3_findRun_80 : decode cX3_findRun 80 = .ok (.getfield 47, 3) := by decide +kernel
theorem dX3_findRun_83 : decode cX3_findRun 83 = .ok (.iload_n 1, 1) := by decide +kernel
theorem dX3_findRun_84 : decode cX3_findRun 84 = .ok (.isub, 1) := by decide +kernel
theorem dX3_findRun_85 : decode cX3_findRun 85 = .ok (.invokestatic 139, 3) := by decide +kernel
theorem dX3_findRun_88 : decode cX3_findRun 88 = .ok (.istore 4, 2) := by decide +kernel
theorem dX3_findRun_90 : decode cX3_findRun 90 = .ok (.iload_n 3, 1) := by decide +kernel
theorem dX3_findRun_91 : decode cX3_findRun 91 = .ok (.iload 4, 2) := by decide +kernel
theorem dX3_findRun_93 : decode cX3_findRun 93 = .ok (.if_icmp .ge 12, 3) := by decide +kernel
theorem dX3_findRun_96 : decode cX3_findRun 96 = .ok (.aload_n 0, 1) := by decide +kernel
theorem dX3_findRun_97 : decode cX3_findRun 97 = .ok (.getfield 20, 3) := by decide +kernel
theorem dX3_findRun_100 : decode cX3_findRun 100 = .ok (.iconst 4, 1) := by decide +kernel
theorem dX3_findRun_101 : decode cX3_findRun 101 = .ok (.iconst 1, 1) := by decide +kernel
theorem dX3_findRun_102 : decode cX3_findRun 102 = .ok (.invokevirtual 100, 3) := by decide +kernel
theorem dX3_findRun_105 : decode cX3_findRun 105 = .ok (.iload_n 3, 1) := by decide +kernel
theorem dX3_findRun_106 : decode cX3_findRun 106 = .ok (.iload 4, 2) := by decide +kernel
theorem dX3_findRun_108 : decode cX3_findRun 108 = .ok (.if_icmp .ge 15, 3) := by decide +kernel
theorem dX3_findRun_111 : decode cX3_findRun 111 = .ok (.aload_n 0, 1) := by decide +kernel
theorem dX3_findRun_112 : decode cX3_findRun 112 = .ok (.iload_n 1, 1) := by decide +kernel
theorem dX3_findRun_113 : decode cX3_findRun 113 = .ok (.iload_n 3, 1) := by decide +kernel
theorem dX3_findRun_114 : decode cX3_findRun 114 = .ok (.invokevirtual 145, 3) := by decide +kernel
theorem dX3_findRun_117 : decode cX3_findRun 117 = .ok (.iinc 3 1, 3) := by decide +kernel
theorem dX3_findRun_120 : decode cX3_findRun 120 = .ok (.goto (-15), 3) := by decide +kernel
theorem dX3_findRun_123 : decode cX3_findRun 123 = .ok (.aload_n 0, 1) := by decide +kernel
theorem dX3_findRun_124 : decode cX3_findRun 124 = .ok (.iload_n 3, 1) := by decide +kernel
theorem dX3_findRun_125 : decode cX3_findRun 125 = .ok (.putfield 63, 3) := by decide +kernel
theorem dX3_findRun_128 : decode cX3_findRun 128 = .ok (.aload_n 0, 1) := by decide +kernel
theorem dX3_findRun_129 : decode cX3_findRun 129 = .ok (.iload_n 1, 1) := by decide +kernel
theorem dX3_findRun_130 : decode cX3_findRun 130 = .ok (.iload_n 3, 1) := by decide +kernel
theorem dX3_findRun_131 : decode cX3_findRun 131 = .ok (.iadd, 1) := by decide +kernel
theorem dX3_findRun_132 : decode cX3_findRun 132 = .ok (.putfield 60, 3) := by decide +kernel
theorem dX3_findRun_135 : decode cX3_findRun 135 = .ok (.aload_n 0, 1) := by decide +kernel
theorem dX3_findRun_136 : decode cX3_findRun 136 = .ok (.getfield 20, 3) := by decide +kernel
theorem dX3_findRun_139 : decode cX3_findRun 139 = .ok (.iconst 2, 1) := by decide +kernel
theorem dX3_findRun_140 : decode cX3_findRun 140 = .ok (.iconst 1, 1) := by decide +kernel
theorem dX3_findRun_141 : decode cX3_findRun 141 = .ok (.invokevirtual 100, 3) := by decide +kernel
theorem dX3_findRun_144 : decode cX3_findRun 144 = .ok (.return_, 1) := by decide +kernel
set_option maxRecDepth 20000 in
theorem ggX3_lengthAsItLies_X0_look : GoodIn wsX3_lengthAsItLies wsX0_look := goodIn_r _ [11, 12, 40] (by decide +kernel) (by decide +kernel)
set_option maxRecDepth 20000 in
theorem gX3_lengthAsItLies_X0_look_n66 : GoodIn wsX3_lengthAsItLies (wsX0_look) := ggX3_lengthAsItLies_X0_look
set_option maxRecDepth 20000 in
theorem ggX3_lengthAsItLies_X1_isLess : GoodIn wsX3_lengthAsItLies wsX1_isLess := goodIn_r _ [16, 17, 18, 19, 9, 20, 21, 12, 22, 23, 24, 25, 26, 27, 41, 42, 40] (by decide +kernel) (by decide +kernel)
set_option maxRecDepth 20000 in
theorem gX3_lengthAsItLies_X1_isLess_n128 : GoodIn wsX3_lengthAsItLies (wsX1_isLess) := ggX3_lengthAsItLies_X1_isLess
theorem dX3_lengthAsItLies_0 : decode cX3_lengthAsItLies 0 = .ok (.iload_n 1, 1) := by decide +kernel
theorem dX3_lengthAsItLies_1 : decode cX3_lengthAsItLies 1 = .ok (.iconst 2, 1) := by decide +kernel
theorem dX3_lengthAsItLies_2 : decode cX3_lengthAsItLies 2 = .ok (.iadd, 1) := by decide +kernel
theorem dX3_lengthAsItLies_3 : decode cX3_lengthAsItLies 3 = .ok (.aload_n 0, 1) := by decide +kernel
theorem dX3_lengthAsItLies_4 : decode cX3_lengthAsItLies 4 = .ok (.getfield 47, 3) := by decide +kernel
theorem dX3_lengthAsItLies_7 : decode cX3_lengthAsItLies 7 = .ok (.invokestatic 139, 3) := by decide +kernel
theorem dX3_lengthAsItLies_10 : decode cX3_lengthAsItLies 10 = .ok (.istore_n 3, 1) := by decide +kernel
theorem dX3_lengthAsItLies_11 : decode cX3_lengthAsItLies 11 = .ok (.iload_n 3, 1) := by decide +kernel
theorem dX3_lengthAsItLies_12 : decode cX3_lengthAsItLies 12 = .ok (.aload_n 0, 1) := by decide +kernel
theorem dX3_lengthAsItLies_13 : decode cX3_lengthAsItLies 13 = .ok (.getfield 47, 3) := by decide +kernel
theorem dX3_lengthAsItLies_16 : decode cX3_lengthAsItLies 16 = .ok (.if_icmp .ge 38, 3) := by decide +kernel
theorem dX3_lengthAsItLies_19 : decode cX3_lengthAsItLies 19 = .ok (.aload_n 0, 1) := by decide +kernel
theorem dX3_lengthAsItLies_20 : decode cX3_lengthAsItLies 20 = .ok (.getfield 34, 3) := by decide +kernel
theorem dX3_lengthAsItLies_23 : decode cX3_lengthAsItLies 23 = .ok (.aload_n 0, 1) := by decide +kernel
theorem dX3_lengthAsItLies_24 : decode cX3_lengthAsItLies 24 = .ok (.getfield 14, 3) := by decide +kernel
theorem dX3_lengthAsItLies_27 : decode cX3_lengthAsItLies 27 = .ok (.iload_n 3, 1) := by decide +kernel
theorem dX3_lengthAsItLies_28 : decode cX3_lengthAsItLies 28 = .ok (.invokevirtual 66, 3) := by decide +kernel
theorem dX3_lengthAsItLies_31 : decode cX3_lengthAsItLies 31 = .ok (.aload_n 0, 1) := by decide +kernel
theorem dX3_lengthAsItLies_32 : decode cX3_lengthAsItLies 32 = .ok (.getfield 14, 3) := by decide +kernel
theorem dX3_lengthAsItLies_35 : decode cX3_lengthAsItLies 35 = .ok (.iload_n 3, 1) := by decide +kernel
theorem dX3_lengthAsItLies_36 : decode cX3_lengthAsItLies 36 = .ok (.iconst 1, 1) := by decide +kernel
theorem dX3_lengthAsItLies_37 : decode cX3_lengthAsItLies 37 = .ok (.isub, 1) := by decide +kernel
theorem dX3_lengthAsItLies_38 : decode cX3_lengthAsItLies 38 = .ok (.invokevirtual 66, 3) := by decide +kernel
theorem dX3_lengthAsItLies_41 : decode cX3_lengthAsItLies 41 = .ok (.invokevirtual 128, 3) := by decide +kernel
theorem dX3_lengthAsItLies_44 : decode cX3_lengthAsItLies 44 = .ok (.iload_n 2, 1) := by decide +kernel
theorem dX3_lengthAsItLies_45 : decode cX3_lengthAsItLies 45 = .ok (.if_icmp .ne 9, 3) := by decide +kernel
theorem dX3_lengthAsItLies_48 : decode cX3_lengthAsItLies 48 = .ok (.iinc 3 1, 3) := by decide +kernel
theorem dX3_lengthAsItLies_51 : decode cX3_lengthAsItLies 51 = .ok (.goto (-40), 3) := by decide +kernel
theorem dX3_lengthAsItLies_54 : decode cX3_lengthAsItLies 54 = .ok (.iload_n 3, 1) := by decide +kernel
theorem dX3_lengthAsItLies_55 : decode cX3_lengthAsItLies 55 = .ok (.iload_n 1, 1) := by decide +kernel
theorem dX3_lengthAsItLies_56 : decode cX3_lengthAsItLies 56 = .ok (.isub, 1) := by decide +kernel
theorem dX3_lengthAsItLies_57 : decode cX3_lengthAsItLies 57 = .ok (.ireturn, 1) := by decide +kernel
set_option maxRecDepth 20000 in
theorem ggX3_turnRound_X0_look : GoodIn wsX3_turnRound wsX0_look := goodIn_r _ [6, 7, 26] (by decide +kernel) (by decide +kernel)
set_option maxRecDepth 20000 in
theorem gX3_turnRound_X0_look_n66 : GoodIn wsX3_turnRound (wsX0_look) := ggX3_turnRound_X0_look
set_option maxRecDepth 20000 in
theorem ggX3_turnRound_X0_fill : GoodIn wsX3_turnRound wsX0_fill := goodIn_r _ [10, 7, 26] (by decide +kernel) (by decide +kernel)
set_option maxRecDepth 20000 in
theorem gX3_turnRound_X0_fill_n70 : GoodIn wsX3_turnRound (wsX0_fill) := ggX3_turnRound_X0_fill
set_option maxRecDepth 20000 in
theorem ggX3_turnRound_X0_add : GoodIn wsX3_turnRound wsX0_add := goodIn_r _ [13, 7, 26] (by decide +kernel) (by decide +kernel)
set_option maxRecDepth 20000 in
theorem gX3_turnRound_X0_add_n100 : GoodIn wsX3_turnRound (wsX0_add) := ggX3_turnRound_X0_add
theorem dX3_turnRound_0 : decode cX3_turnRound 0 = .ok (.iload_n 2, 1) := by decide +kernel
theorem dX3_turnRound_1 : decode cX3_turnRound 1 = .ok (.iconst 2, 1) := by decide +kernel
theorem dX3_turnRound_2 : decode cX3_turnRound 2 = .ok (.idiv, 1) := by decide +kernel
theorem dX3_turnRound_3 : decode cX3_turnRound 3 = .ok (.istore_n 3, 1) := by decide +kernel
theorem dX3_turnRound_4 : decode cX3_turnRound 4 = .ok (.iconst 0, 1) := by decide +kernel
theorem dX3_turnRound_5 : decode cX3_turnRound 5 = .ok (.istore 4, 2) := by decide +kernel
theorem dX3_turnRound_7 : decode cX3_turnRound 7 = .ok (.iload 4, 2) := by decide +kernel
theorem dX3_turnRound_9 : decode cX3_turnRound 9 = .ok (.iload_n 3, 1) := by decide +kernel
theorem dX3_turnRound_10 : decode cX3_turnRound 10 = .ok (.if_icmp .ge 65, 3) := by decide +kernel
theorem dX3_turnRound_13 : decode cX3_turnRound 13 = .ok (.aload_n 0, 1) := by decide +kernel
theorem dX3_turnRound_14 : decode cX3_turnRound 14 = .ok (.getfield 14, 3) := by decide +kernel
theorem dX3_turnRound_17 : decode cX3_turnRound 17 = .ok (.iload_n 1, 1) := by decide +kernel
theorem dX3_turnRound_18 : decode cX3_turnRound 18 = .ok (.iload 4, 2) := by decide +kernel
theorem dX3_turnRound_20 : decode cX3_turnRound 20 = .ok (.iadd, 1) := by decide +kernel
theorem dX3_turnRound_21 : decode cX3_turnRound 21 = .ok (.invokevirtual 66, 3) := by decide +kernel
theorem dX3_turnRound_24 : decode cX3_turnRound 24 = .ok (.istore 5, 2) := by decide +kernel
theorem dX3_turnRound_26 : decode cX3_turnRound 26 = .ok (.aload_n 0, 1) := by decide +kernel
theorem dX3_turnRound_27 : decode cX3_turnRound 27 = .ok (.getfield 14, 3) := by decide +kernel
theorem dX3_turnRound_30 : decode cX3_turnRound 30 = .ok (.iload_n 1, 1) := by decide +kernel
theorem dX3_turnRound_31 : decode cX3_turnRound 31 = .ok (.iload 4, 2) := by decide +kernel
theorem dX3_turnRound_33 : decode cX3_turnRound 33 = .ok (.iadd, 1) := by decide +kernel
theorem dX3_turnRound_34 : decode cX3_turnRound 34 = .ok (.aload_n 0, 1) := by decide +kernel
theorem dX3_turnRound_35 : decode cX3_turnRound 35 = .ok (.getfield 14, 3) := by decide +kernel
theorem dX3_turnRound_38 : decode cX3_turnRound 38 = .ok (.iload_n 1, 1) := by decide +kernel
theorem dX3_turnRound_39 : decode cX3_turnRound 39 = .ok (.iload_n 2, 1) := by decide +kernel
theorem dX3_turnRound_40 : decode cX3_turnRound 40 = .ok (.iadd, 1) := by decide +kernel
theorem dX3_turnRound_41 : decode cX3_turnRound 41 = .ok (.iconst 1, 1) := by decide +kernel
theorem dX3_turnRound_42 : decode cX3_turnRound 42 = .ok (.isub, 1) := by decide +kernel
theorem dX3_turnRound_43 : decode cX3_turnRound 43 = .ok (.iload 4, 2) := by decide +kernel
theorem dX3_turnRound_45 : decode cX3_turnRound 45 = .ok (.isub, 1) := by decide +kernel
theorem dX3_turnRound_46 : decode cX3_turnRound 46 = .ok (.invokevirtual 66, 3) := by decide +kernel
theorem dX3_turnRound_49 : decode cX3_turnRound 49 = .ok (.invokevirtual 70, 3) := by decide +kernel
theorem dX3_turnRound_52 : decode cX3_turnRound 52 = .ok (.aload_n 0, 1) := by decide +kernel
theorem dX3_turnRound_53 : decode cX3_turnRound 53 = .ok (.getfield 14, 3) := by decide +kernel
theorem dX3_turnRound_56 : decode cX3_turnRound 56 = .ok (.iload_n 1, 1) := by decide +kernel
theorem dX3_turnRound_57 : decode cX3_turnRound 57 = .ok (.iload_n 2, 1) := by decide +kernel
theorem dX3_turnRound_58 : decode cX3_turnRound 58 = .ok (.iadd, 1) := by decide +kernel
theorem dX3_turnRound_59 : decode cX3_turnRound 59 = .ok (.iconst 1, 1) := by decide +kernel
theorem dX3_turnRound_60 : decode cX3_turnRound 60 = .ok (.isub, 1) := by decide +kernel
theorem dX3_turnRound_61 : decode cX3_turnRound 61 = .ok (.iload 4, 2) := by decide +kernel
theorem dX3_turnRound_63 : decode cX3_turnRound 63 = .ok (.isub, 1) := by decide +kernel
theorem dX3_turnRound_64 : decode cX3_turnRound 64 = .ok (.iload 5, 2) := by decide +kernel
theorem dX3_turnRound_66 : decode cX3_turnRound 66 = .ok (.invokevirtual 70, 3) := by decide +kernel
theorem dX3_turnRound_69 : decode cX3_turnRound 69 = .ok (.iinc 4 1, 3) := by decide +kernel
theorem dX3_turnRound_72 : decode cX3_turnRound 72 = .ok (.goto (-65), 3) := by decide +kernel
theorem dX3_turnRound_75 : decode cX3_turnRound 75 = .ok (.aload_n 0, 1) := by decide +kernel
theorem dX3_turnRound_76 : decode cX3_turnRound 76 = .ok (.getfield 20, 3) := by decide +kernel
theorem dX3_turnRound_79 : decode cX3_turnRound 79 = .ok (.iconst 1, 1) := by decide +kernel
theorem dX3_turnRound_80 : decode cX3_turnRound 80 = .ok (.iconst 2, 1) := by decide +kernel
theorem dX3_turnRound_81 : decode cX3_turnRound 81 = .ok (.iload_n 3, 1) := by decide +kernel
theorem dX3_turnRound_82 : decode cX3_turnRound 82 = .ok (.imul, 1) := by decide +kernel
theorem dX3_turnRound_83 : decode cX3_turnRound 83 = .ok (.invokevirtual 100, 3) := by decide +kernel
theorem dX3_turnRound_86 : decode cX3_turnRound 86 = .ok (.return_, 1) := by decide +kernel
set_option maxRecDepth 20000 in
theorem ggX3_insertNext_X0_look : GoodIn wsX3_insertNext wsX0_look := goodIn_r _ [7, 8, 39] (by decide +kernel) (by decide +kernel)
set_option maxRecDepth 20000 in
theorem gX3_insertNext_X0_look_n66 : GoodIn wsX3_insertNext (wsX0_look) := ggX3_insertNext_X0_look
set_option maxRecDepth 20000 in
theorem ggX3_insertNext_X1_isLess : GoodIn wsX3_insertNext wsX1_isLess := goodIn_r _ [12, 13, 14, 15, 5, 16, 17, 8, 18, 19, 20, 21, 22, 23, 40, 41, 39] (by decide +kernel) (by decide +kernel)
set_option maxRecDepth 20000 in
theorem gX3_insertNext_X1_isLess_n128 : GoodIn wsX3_insertNext (wsX1_isLess) := ggX3_insertNext_X1_isLess
set_option maxRecDepth 20000 in
theorem ggX3_insertNext_X0_fill : GoodIn wsX3_insertNext wsX0_fill := goodIn_r _ [26, 8, 39] (by decide +kernel) (by decide +kernel)
set_option maxRecDepth 20000 in
theorem gX3_insertNext_X0_fill_n70 : GoodIn wsX3_insertNext (wsX0_fill) := ggX3_insertNext_X0_fill
set_option maxRecDepth 20000 in
theorem ggX3_insertNext_X0_add : GoodIn wsX3_insertNext wsX0_add := goodIn_r _ [17, 8, 39] (by decide +kernel) (by decide +kernel)
set_option maxRecDepth 20000 in
theorem gX3_insertNext_X0_add_n100 : GoodIn wsX3_insertNext (wsX0_add) := ggX3_insertNext_X0_add
theorem dX3_insertNext_0 : decode cX3_insertNext 0 = .ok (.aload_n 0, 1) := by decide +kernel
theorem dX3_insertNext_1 : decode cX3_insertNext 1 = .ok (.getfield 14, 3) := by decide +kernel
theorem dX3_insertNext_4 : decode cX3_insertNext 4 = .ok (.iload_n 1, 1) := by decide +kernel
theorem dX3_insertNext_5 : decode cX3_insertNext 5 = .ok (.iload_n 2, 1) := by decide +kernel
theorem dX3_insertNext_6 : decode cX3_insertNext 6 = .ok (.iadd, 1) := by decide +kernel
theorem dX3_insertNext_7 : decode cX3_insertNext 7 = .ok (.invokevirtual 66, 3) := by decide +kernel
theorem dX3_insertNext_10 : decode cX3_insertNext 10 = .ok (.istore_n 3, 1) := by decide +kernel
theorem dX3_insertNext_11 : decode cX3_insertNext 11 = .ok (.iconst 0, 1) := by decide +kernel
theorem dX3_insertNext_12 : decode cX3_insertNext 12 = .ok (.istore 4, 2) := by decide +kernel
theorem dX3_insertNext_14 : decode cX3_insertNext 14 = .ok (.iload_n 2, 1) := by decide +kernel
theorem dX3_insertNext_15 : decode cX3_insertNext 15 = .ok (.istore 5, 2) := by decide +kernel
theorem dX3_insertNext_17 : decode cX3_insertNext 17 = .ok (.iconst 0, 1) := by decide +kernel
theorem dX3_insertNext_18 : decode cX3_insertNext 18 = .ok (.istore 6, 2) := by decide +kernel
theorem dX3_insertNext_20 : decode cX3_insertNext 20 = .ok (.iload 6, 2) := by decide +kernel
theorem dX3_insertNext_22 : decode cX3_insertNext 22 = .ok (.sipush 1000, 3) := by decide +kernel
theorem dX3_insertNext_25 : decode cX3_insertNext 25 = .ok (.if_icmp .ge 60, 3) := by decide +kernel
theorem dX3_insertNext_28 : decode cX3_insertNext 28 = .ok (.iload 4, 2) := by decide +kernel
theorem dX3_insertNext_30 : decode cX3_insertNext 30 = .ok (.iload 5, 2) := by decide +kernel
theorem dX3_insertNext_32 : decode cX3_insertNext 32 = .ok (.if_icmp .ge 53, 3) := by decide +kernel
theorem dX3_insertNext_35 : decode cX3_insertNext 35 = .ok (.iload 4, 2) := by decide +kernel
theorem dX3_insertNext_37 : decode cX3_insertNext 37 = .ok (.iload 5, 2) := by decide +kernel
theorem dX3_insertNext_39 : decode cX3_insertNext 39 = .ok (.iadd, 1) := by decide +kernel
theorem dX3_insertNext_40 : decode cX3_insertNext 40 = .ok (.iconst 2, 1) := by decide +kernel
theorem dX3_insertNext_41 : decode cX3_insertNext 41 = .ok (.idiv, 1) := by decide +kernel
theorem dX3_insertNext_42 : decode cX3_insertNext 42 = .ok (.istore 7, 2) := by decide +kernel
theorem dX3_insertNext_44 : decode cX3_insertNext 44 = .ok (.aload_n 0, 1) := by decide +kernel
theorem dX3_insertNext_45 : decode cX3_insertNext 45 = .ok (.getfield 34, 3) := by decide +kernel
theorem dX3_insertNext_48 : decode cX3_insertNext 48 = .ok (.iload_n 3, 1) := by decide +kernel
theorem dX3_insertNext_49 : decode cX3_insertNext 49 = .ok (.aload_n 0, 1) := by decide +kernel
theorem dX3_insertNext_50 : decode cX3_insertNext 50 = .ok (.getfield 14, 3) := by decide +kernel
theorem dX3_insertNext_53 : decode cX3_insertNext 53 = .ok (.iload_n 1, 1) := by decide +kernel
theorem dX3_insertNext_54 : decode cX3_insertNext 54 = .ok (.iload 7, 2) := by decide +kernel
theorem dX3_insertNext_56 : decode cX3_insertNext 56 = .ok (.iadd, 1) := by decide +kernel
theorem dX3_insertNext_57 : decode cX3_insertNext 57 = .ok (.invokevirtual 66, 3) := by decide +kernel
theorem dX3_insertNext_60 : decode cX3_insertNext 60 = .ok (.invokevirtual 128, 3) := by decide +kernel
theorem dX3_insertNext_63 : decode cX3_insertNext 63 = .ok (.ifCond .eq 10, 3) := by decide +kernel
theorem dX3_insertNext_66 : decode cX3_insertNext 66 = .ok (.iload 7, 2) := by decide +kernel
theorem dX3_insertNext_68 : decode cX3_insertNext 68 = .ok (.istore 5, 2) := by decide +kernel
theorem dX3_insertNext_70 : decode cX3_insertNext 70 = .ok (.goto 9, 3) := by decide +kernel
theorem dX3_insertNext_73 : decode cX3_insertNext 73 = .ok (.iload 7, 2) := by decide +kernel
theorem dX3_insertNext_75 : decode cX3_insertNext 75 = .ok (.iconst 1, 1) := by decide +kernel
theorem dX3_insertNext_76 : decode cX3_insertNext 76 = .ok (.iadd, 1) := by decide +kernel
theorem dX3_insertNext_77 : decode cX3_insertNext 77 = .ok (.istore 4, 2) := by decide +kernel
theorem dX3_insertNext_79 : decode cX3_insertNext 79 = .ok (.iinc 6 1, 3) := by decide +kernel
theorem dX3_insertNext_82 : decode cX3_insertNext 82 = .ok (.goto (-62), 3) := by decide +kernel
theorem dX3_insertNext_85 : decode cX3_insertNext 85 = .ok (.iload 4, 2) := by decide +kernel
theorem dX3_insertNext_87 : decode cX3_insertNext 87 = .ok (.iload_n 2, 1) := by decide +kernel
theorem dX3_insertNext_88 : decode cX3_insertNext 88 = .ok (.if_icmp .ne 4, 3) := by decide +kernel
theorem dX3_insertNext_91 : decode cX3_insertNext 91 = .ok (.return_, 1) := by decide +kernel
theorem dX3_insertNext_92 : decode cX3_insertNext 92 = .ok (.iload_n 2, 1) := by decide +kernel
theorem dX3_insertNext_93 : decode cX3_insertNext 93 = .ok (.istore 6, 2) := by decide +kernel
theorem dX3_insertNext_95 : decode cX3_insertNext 95 = .ok (.iload 6, 2) := by decide +kernel
theorem dX3_insertNext_97 : decode cX3_insertNext 97 = .ok (.iload 4, 2) := by decide +kernel
theorem dX3_insertNext_99 : decode cX3_insertNext 99 = .ok (.if_icmp .le 33, 3) := by decide +kernel
theorem dX3_insertNext_102 : decode cX3_insertNext 102 = .ok (.aload_n 0, 1) := by decide +kernel
theorem dX3_insertNext_103 : decode cX3_insertNext 103 = .ok (.getfield 14, 3) := by decide +kernel
theorem dX3_insertNext_106 : decode cX3_insertNext 106 = .ok (.iload_n 1, 1) := by decide +kernel
theorem dX3_insertNext_107 : decode cX3_insertNext 107 = .ok (.iload 6, 2) := by decide +kernel
theorem dX3_insertNext_109 : decode cX3_insertNext 109 = .ok (.iadd, 1) := by decide +kernel
theorem dX3_insertNext_110 : decode cX3_insertNext 110 = .ok (.aload_n 0, 1) := by decide +kernel
theorem dX3_insertNext_111 : decode cX3_insertNext 111 = .ok (.getfield 14, 3) := by decide +kernel
theorem dX3_insertNext_114 : decode cX3_insertNext 114 = .ok (.iload_n 1, 1) := by decide +kernel
theorem dX3_insertNext_115 : decode cX3_insertNext 115 = .ok (.iload 6, 2) := by decide +kernel
theorem dX3_insertNext_117 : decode cX3_insertNext 117 = .ok (.iadd, 1) := by decide +kernel
theorem dX3_insertNext_118 : decode cX3_insertNext 118 = .ok (.iconst 1, 1) := by decide +kernel
theorem dX3_insertNext_119 : decode cX3_insertNext 119 = .ok (.isub, 1) := by decide +kernel
theorem dX3_insertNext_120 : decode cX3_insertNext 120 = .ok (.invokevirtual 66, 3) := by decide +kernel
theorem dX3_insertNext_123 : decode cX3_insertNext 123 = .ok (.invokevirtual 70, 3) := by decide +kernel
theorem dX3_insertNext_126 : decode cX3_insertNext 126 = .ok (.iinc 6 (-1), 3) := by decide +kernel
theorem dX3_insertNext_129 : decode cX3_insertNext 129 = .ok (.goto (-34), 3) := by decide +kernel
theorem dX3_insertNext_132 : decode cX3_insertNext 132 = .ok (.aload_n 0, 1) := by decide +kernel
theorem dX3_insertNext_133 : decode cX3_insertNext 133 = .ok (.getfield 14, 3) := by decide +kernel
theorem dX3_insertNext_136 : decode cX3_insertNext 136 = .ok (.iload_n 1, 1) := by decide +kernel
theorem dX3_insertNext_137 : decode cX3_insertNext 137 = .ok (.iload 4, 2) := by decide +kernel
theorem dX3_insertNext_139 : decode cX3_insertNext 139 = .ok (.iadd, 1) := by decide +kernel
theorem dX3_insertNext_140 : decode cX3_insertNext 140 = .ok (.iload_n 3, 1) := by decide +kernel
theorem dX3_insertNext_141 : decode cX3_insertNext 141 = .ok (.invokevirtual 70, 3) := by decide +kernel
theorem dX3_insertNext_144 : decode cX3_insertNext 144 = .ok (.aload_n 0, 1) := by decide +kernel
theorem dX3_insertNext_145 : decode cX3_insertNext 145 = .ok (.getfield 20, 3) := by decide +kernel
theorem dX3_insertNext_148 : decode cX3_insertNext 148 = .ok (.iconst 1, 1) := by decide +kernel
theorem dX3_insertNext_149 : decode cX3_insertNext 149 = .ok (.iload_n 2, 1) := by decide +kernel
theorem dX3_insertNext_150 : decode cX3_insertNext 150 = .ok (.iload 4, 2) := by decide +kernel
theorem dX3_insertNext_152 : decode cX3_insertNext 152 = .ok (.isub, 1) := by decide +kernel
theorem dX3_insertNext_153 : decode cX3_insertNext 153 = .ok (.iconst 1, 1) := by decide +kernel
theorem dX3_insertNext_154 : decode cX3_insertNext 154 = .ok (.iadd, 1) := by decide +kernel
theorem dX3_insertNext_155 : decode cX3_insertNext 155 = .ok (.invokevirtual 100, 3) := by decide +kernel
theorem dX3_insertNext_158 : decode cX3_insertNext 158 = .ok (.return_, 1) := by decide +kernel
theorem dX4_init_0 : decode cX4_init 0 = .ok (.aload_n 0, 1) := by decide +kernel
theorem dX4_init_1 : decode cX4_init 1 = .ok (.invokespecial 1, 3) := by decide +kernel
theorem dX4_init_4 : decode cX4_init 4 = .ok (.aload_n 0, 1) := by decide +kernel
theorem dX4_init_5 : decode cX4_init 5 = .ok (.iconst 0, 1) := by decide +kernel
theorem dX4_init_6 : decode cX4_init 6 = .ok (.putfield 7, 3) := by decide +kernel
theorem dX4_init_9 : decode cX4_init 9 = .ok (.aload_n 0, 1) := by decide +kernel
theorem dX4_init_10 : decode cX4_init 10 = .ok (.iconst 1, 1) := by decide +kernel
theorem dX4_init_11 : decode cX4_init 11 = .ok (.putfield 13, 3) := by decide +kernel
theorem dX4_init_14 : decode cX4_init 14 = .ok (.aload_n 0, 1) := by decide +kernel
theorem dX4_init_15 : decode cX4_init 15 = .ok (.iconst 0, 1) := by decide +kernel
theorem dX4_init_16 : decode cX4_init 16 = .ok (.putfield 16, 3) := by decide +kernel
theorem dX4_init_19 : decode cX4_init 19 = .ok (.aload_n 0, 1) := by decide +kernel
theorem dX4_init_20 : decode cX4_init 20 = .ok (.aload_n 1, 1) := by decide +kernel
theorem dX4_init_21 : decode cX4_init 21 = .ok (.putfield 19, 3) := by decide +kernel
theorem dX4_init_24 : decode cX4_init 24 = .ok (.return_, 1) := by decide +kernel
theorem dX4_aim_0 : decode cX4_aim 0 = .ok (.aload_n 0, 1) := by decide +kernel
theorem dX4_aim_1 : decode cX4_aim 1 = .ok (.aload_n 1, 1) := by decide +kernel
theorem dX4_aim_2 : decode cX4_aim 2 = .ok (.putfield 19, 3) := by decide +kernel
theorem dX4_aim_5 : decode cX4_aim 5 = .ok (.aload_n 0, 1) := by decide +kernel
theorem dX4_aim_6 : decode cX4_aim 6 = .ok (.iload_n 2, 1) := by decide +kernel
theorem dX4_aim_7 : decode cX4_aim 7 = .ok (.putfield 7, 3) := by decide +kernel
theorem dX4_aim_10 : decode cX4_aim 10 = .ok (.aload_n 0, 1) := by decide +kernel
theorem dX4_aim_11 : decode cX4_aim 11 = .ok (.iload_n 3, 1) := by decide +kernel
theorem dX4_aim_12 : decode cX4_aim 12 = .ok (.putfield 13, 3) := by decide +kernel
theorem dX4_aim_15 : decode cX4_aim 15 = .ok (.aload_n 0, 1) := by decide +kernel
theorem dX4_aim_16 : decode cX4_aim 16 = .ok (.iload 4, 2) := by decide +kernel
theorem dX4_aim_18 : decode cX4_aim 18 = .ok (.putfield 16, 3) := by decide +kernel
theorem dX4_aim_21 : decode cX4_aim 21 = .ok (.return_, 1) := by decide +kernel
set_option maxRecDepth 20000 in
theorem ggX4_ahead_X0_look : GoodIn wsX4_ahead wsX0_look := goodIn_r _ [7, 8, 13] (by decide +kernel) (by decide +kernel)
set_option maxRecDepth 20000 in
theorem gX4_ahead_X0_look_n23 : GoodIn wsX4_ahead (wsX0_look) := ggX4_ahead_X0_look
theorem dX4_ahead_0 : decode cX4_ahead 0 = .ok (.aload_n 0, 1) := by decide +kernel
theorem dX4_ahead_1 : decode cX4_ahead 1 = .ok (.getfield 19, 3) := by decide +kernel
theorem dX4_ahead_4 : decode cX4_ahead 4 = .ok (.aload_n 0, 1) := by decide +kernel
theorem dX4_ahead_5 : decode cX4_ahead 5 = .ok (.getfield 7, 3) := by decide +kernel
theorem dX4_ahead_8 : decode cX4_ahead 8 = .ok (.aload_n 0, 1) := by decide +kernel
theorem dX4_ahead_9 : decode cX4_ahead 9 = .ok (.getfield 13, 3) := by decide +kernel
theorem dX4_ahead_12 : decode cX4_ahead 12 = .ok (.iload_n 1, 1) := by decide +kernel
theorem dX4_ahead_13 : decode cX4_ahead 13 = .ok (.imul, 1) := by decide +kernel
theorem dX4_ahead_14 : decode cX4_ahead 14 = .ok (.iadd, 1) := by decide +kernel
theorem dX4_ahead_15 : decode cX4_ahead 15 = .ok (.invokevirtual 23, 3) := by decide +kernel
theorem dX4_ahead_18 : decode cX4_ahead 18 = .ok (.ireturn, 1) := by decide +kernel
theorem dX4_drop_0 : decode cX4_drop 0 = .ok (.aload_n 0, 1) := by decide +kernel
theorem dX4_drop_1 : decode cX4_drop 1 = .ok (.dup, 1) := by decide +kernel
theorem dX4_drop_2 : decode cX4_drop 2 = .ok (.getfield 7, 3) := by decide +kernel
theorem dX4_drop_5 : decode cX4_drop 5 = .ok (.aload_n 0, 1) := by decide +kernel
theorem dX4_drop_6 : decode cX4_drop 6 = .ok (.getfield 13, 3) := by decide +kernel
theorem dX4_drop_9 : decode cX4_drop 9 = .ok (.iload_n 1, 1) := by decide +kernel
theorem dX4_drop_10 : decode cX4_drop 10 = .ok (.imul, 1) := by decide +kernel
theorem dX4_drop_11 : decode cX4_drop 11 = .ok (.iadd, 1) := by decide +kernel
theorem dX4_drop_12 : decode cX4_drop 12 = .ok (.putfield 7, 3) := by decide +kernel
theorem dX4_drop_15 : decode cX4_drop 15 = .ok (.aload_n 0, 1) := by decide +kernel
theorem dX4_drop_16 : decode cX4_drop 16 = .ok (.dup, 1) := by decide +kernel
theorem dX4_drop_17 : decode cX4_drop 17 = .ok (.getfield 16, 3) := by decide +kernel
theorem dX4_drop_20 : decode cX4_drop 20 = .ok (.iload_n 1, 1) := by decide +kernel
theorem dX4_drop_21 : decode cX4_drop 21 = .ok (.isub, 1) := by decide +kernel
theorem dX4_drop_22 : decode cX4_drop 22 = .ok (.putfield 16, 3) := by decide +kernel
theorem dX4_drop_25 : decode cX4_drop 25 = .ok (.return_, 1) := by decide +kernel
set_option maxRecDepth 20000 in
theorem ggX5_init_X0_init : GoodIn wsX5_init wsX0_init := goodIn_r _ [26, 27, 2, 3, 28, 29, 30, 31, 32, 33, 152] (by decide +kernel) (by decide +kernel)
set_option maxRecDepth 20000 in
theorem gX5_init_X0_init_n11 : GoodIn wsX5_init (wsX0_init) := ggX5_init_X0_init
set_option maxRecDepth 20000 in
theorem ggX5_init_X3_init : GoodIn wsX5_init wsX3_init := goodIn_r _ [35, 36, 2, 3, 37, 5, 6, 38, 39, 40, 41, 42, 18, 19, 43, 44, 45, 46, 47, 48, 49, 50, 51, 52, 53, 25, 26, 27, 28, 29, 30, 31, 32, 33, 54, 55, 56, 57, 58, 59, 60, 61, 62, 63, 64, 65, 66, 67, 68, 69, 22, 23, 70, 71, 72, 73, 74, 75, 76, 77, 78, 152, 162, 163, 164, 165, 166, 167, 168, 169, 170, 171, 172, 173, 174, 175, 180, 181, 182, 183, 184, 185, 186, 187, 176, 177, 178, 179] (by decide +kernel) (by decide +kernel)
set_option maxRecDepth 20000 in
theorem gX5_init_X3_init_n33 : GoodIn wsX5_init (wsX3_init) := ggX5_init_X3_init
set_option maxRecDepth 20000 in
theorem ggX5_init_X1_init : GoodIn wsX5_init wsX1_init := goodIn_r _ [55, 56, 2, 3, 57, 58, 174, 175] (by decide +kernel) (by decide +kernel)
set_option maxRecDepth 20000 in
theorem gX5_init_X1_init_n43 : GoodIn wsX5_init (wsX1_init) := ggX5_init_X1_init
set_option maxRecDepth 20000 in
theorem ggX5_init_X4_init : GoodIn wsX5_init wsX4_init := goodIn_r _ [73, 74, 2, 3, 75, 76, 77, 78, 176, 177, 178, 179] (by decide +kernel) (by decide +kernel)
set_option maxRecDepth 20000 in
theorem gX5_init_X4_init_n52 : GoodIn wsX5_init (wsX4_init) := ggX5_init_X4_init
set_option maxRecDepth 20000 in
theorem ggX5_init_X0_fill : GoodIn wsX5_init wsX0_fill := goodIn_r _ [81, 33, 152] (by decide +kernel) (by decide +kernel)
set_option maxRecDepth 20000 in
theorem gX5_init_X0_fill_n57 : GoodIn wsX5_init (wsX0_fill) := ggX5_init_X0_fill
set_option maxRecDepth 20000 in
theorem ggX5_init_J0_length_8abf5 : GoodIn wsX5_init wsJ0_length_8abf5 := goodIn_r _ [86, 87, 88, 89, 90, 85, 91, 92, 93] (by decide +kernel) (by decide +kernel)
set_option maxRecDepth 20000 in
theorem gX5_init_J0_length_8abf5 : GoodIn wsX5_init (wsV RX5 63 RJ0 yJ0_length_8abf5 wsJ0_length_8abf5) := goodIn_app (goodIn_of _ (by decide +kernel)) ggX5_init_J0_length_8abf5
set_option maxRecDepth 20000 in
theorem ggX5_init_J0_charAt_5068e : GoodIn wsX5_init wsJ0_charAt_5068e := goodIn_r _ [97, 87, 98, 99, 100, 85, 101, 92, 93, 102, 103, 104, 105, 106, 107, 108, 109, 110, 111, 112, 113, 114, 115, 116, 117, 118, 119, 120, 121, 122, 123, 124, 125, 126, 127, 128, 129, 130] (by decide +kernel) (by decide +kernel)
set_option maxRecDepth 20000 in
theorem gX5_init_J0_charAt_5068e : GoodIn wsX5_init (wsV RX5 69 RJ0 yJ0_charAt_5068e wsJ0_charAt_5068e) := goodIn_app (goodIn_of _ (by decide +kernel)) ggX5_init_J0_charAt_5068e
set_option maxRecDepth 20000 in
theorem ggX5_init_X5_recordOf : GoodIn wsX5_init wsX5_recordOf := goodIn_r _ [134] (by decide +kernel) (by decide +kernel)
set_option maxRecDepth 20000 in
theorem gX5_init_X5_recordOf : GoodIn wsX5_init (va_wsS RX5 73 yX5_recordOf wsX5_recordOf) := goodIn_app (goodIn_of _ (by decide +kernel)) ggX5_init_X5_recordOf
set_option maxRecDepth 20000 in
theorem ggX5_init_X5_beginAnew : GoodIn wsX5_init wsX5_beginAnew := goodIn_r _ [138, 15, 9, 10, 11, 139, 6, 140, 141, 33, 142, 14, 143, 144, 38, 48, 49, 50, 43, 51, 52, 53, 39, 79, 80, 81, 145, 146, 147, 148, 149, 150, 151, 153, 154, 155, 156, 157, 158, 159, 160, 161, 152, 162, 163, 164, 165, 166, 167, 168, 169, 170, 171, 172, 173, 174, 175] (by decide +kernel) (by decide +kernel)
set_option maxRecDepth 20000 in
theorem gX5_init_X5_beginAnew : GoodIn wsX5_init (wsV RX5 77 RX5 yX5_beginAnew wsX5_beginAnew) := goodIn_app (goodIn_of _ (by decide +kernel)) ggX5_init_X5_beginAnew
