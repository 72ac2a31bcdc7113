set_option maxRecDepth 20000 in
theorem ggX6_singly_X6_goesOn : GoodIn wsX6_singly wsX6_goesOn := goodIn_r _ [11, 4, 6, 3, 5, 49, 50, 51, 52, 53, 54, 55, 56, 57, 58, 59, 60, 61, 62, 63, 64, 65, 66, 67, 68, 69, 70, 71, 72, 73, 74] rfl (by decide +kernel)
set_option maxRecDepth 20000 in
theorem gX6_singly_X6_goesOn : GoodIn wsX6_singly (wsV RX6 181 RX6 yX6_goesOn wsX6_goesOn) := goodIn_app (goodIn_of _ (by decide +kernel)) ggX6_singly_X6_goesOn
set_option maxRecDepth 20000 in
theorem ggX6_singly_X6_keyB : GoodIn wsX6_singly wsX6_keyB := goodIn_r _ [15, 2, 16, 17, 49, 50, 51, 52, 53, 54, 55, 56, 57, 58, 59, 60, 61, 62, 63, 64, 65, 66, 67, 68, 69, 70, 71, 72, 73, 74] rfl (by decide +kernel)
set_option maxRecDepth 20000 in
theorem gX6_singly_X6_keyB : GoodIn wsX6_singly (wsV RX6 152 RX6 yX6_keyB wsX6_keyB) := goodIn_app (goodIn_of _ (by decide +kernel)) ggX6_singly_X6_keyB
set_option maxRecDepth 20000 in
theorem ggX6_singly_X6_keyA : GoodIn wsX6_singly wsX6_keyA := goodIn_r _ [21, 2, 17, 16, 49, 50, 51, 52, 53, 54, 55, 56, 57, 58, 59, 60, 61, 62, 63, 64, 65, 66, 67, 68, 69, 70, 71, 72, 73, 74] rfl (by decide +kernel)
set_option maxRecDepth 20000 in
theorem gX6_singly_X6_keyA : GoodIn wsX6_singly (wsV RX6 148 RX6 yX6_keyA wsX6_keyA) := goodIn_app (goodIn_of _ (by decide +kernel)) ggX6_singly_X6_keyA
set_option maxRecDepth 20000 in
theorem ggX6_singly_X6_tests : GoodIn wsX6_singly wsX6_tests := goodIn_r _ [25, 1, 26, 27, 28, 10, 29, 30, 31, 32, 33, 49, 50, 51, 52, 53, 54, 55, 56, 57, 58, 59, 60, 61, 62, 63, 64, 65, 66, 67, 68, 69, 70, 71, 72, 73, 74] rfl (by decide +kernel)
set_option maxRecDepth 20000 in
theorem gX6_singly_X6_tests : GoodIn wsX6_singly (wsV RX6 112 RX6 yX6_tests wsX6_tests) := goodIn_app (goodIn_of _ (by decide +kernel)) ggX6_singly_X6_tests
set_option maxRecDepth 20000 in
theorem ggX6_singly_X6_takeB : GoodIn wsX6_singly wsX6_takeB := goodIn_r _ [37, 2, 3, 5, 38, 39, 12, 13, 14, 10, 15, 16, 17, 40, 41, 42, 43, 44, 1, 49, 50, 51, 52, 53, 54, 55, 56, 57, 58, 59, 60, 61, 62, 63, 64, 65, 66, 67, 68, 69, 70, 71, 72, 73, 74] rfl (by decide +kernel)
set_option maxRecDepth 20000 in
theorem gX6_singly_X6_takeB : GoodIn wsX6_singly (wsV RX6 195 RX6 yX6_takeB wsX6_takeB) := goodIn_app (goodIn_of _ (by decide +kernel)) ggX6_singly_X6_takeB
set_option maxRecDepth 20000 in
theorem ggX6_singly_X6_takeA : GoodIn wsX6_singly wsX6_takeA := goodIn_r _ [48, 2, 4, 6, 39, 38, 18, 19, 20, 10, 21, 17, 16, 40, 41, 42, 43, 44, 1, 49, 50, 51, 52, 53, 54, 55, 56, 57, 58, 59, 60, 61, 62, 63, 64, 65, 66, 67, 68, 69, 70, 71, 72, 73, 74] rfl (by decide +kernel)
set_option maxRecDepth 20000 in
theorem gX6_singly_X6_takeA : GoodIn wsX6_singly (wsV RX6 191 RX6 yX6_takeA wsX6_takeA) := goodIn_app (goodIn_of _ (by decide +kernel)) ggX6_singly_X6_takeA
theorem dX6_singly_0 : decode cX6_singly 0 = .ok (.iconst 0, 1) := by decide +kernel
theorem dX6_singly_1 : decode cX6_singly 1 = .ok (.istore_n 1, 1) := by decide +kernel
theorem dX6_singly_2 : decode cX6_singly 2 = .ok (.iconst 0, 1) := by decide +kernel
theorem dX6_singly_3 : decode cX6_singly 3 = .ok (.istore_n 2, 1) := by decide +kernel
theorem dX6_singly_4 : decode cX6_singly 4 = .ok (.aload_n 0, 1) := by decide +kernel
theorem dX6_singly_5 : decode cX6_singly 5 = .ok (.invokevirtual 181, 3) := by decide +kernel
theorem dX6_singly_8 : decode cX6_singly 8 = .ok (.ifCond .eq 116, 3) := by decide +kernel
theorem dX6_singly_11 : decode cX6_singly 11 = .ok (.iload_n 1, 1) := by decide +kernel
theorem dX6_singly_12 : decode cX6_singly 12 = .ok (.aload_n 0, 1) := by decide +kernel
theorem dX6_singly_13 : decode cX6_singly 13 = .ok (.getfield 37, 3) := by decide +kernel
theorem dX6_singly_16 : decode cX6_singly 16 = .ok (.bipush 10, 2) := by decide +kernel
theorem dX6_singly_18 : decode cX6_singly 18 = .ok (.iaload, 1) := by decide +kernel
theorem dX6_singly_19 : decode cX6_singly 19 = .ok (.if_icmp .ge 105, 3) := by decide +kernel
theorem dX6_singly_22 : decode cX6_singly 22 = .ok (.aload_n 0, 1) := by decide +kernel
theorem dX6_singly_23 : decode cX6_singly 23 = .ok (.getfield 144, 3) := by decide +kernel
theorem dX6_singly_26 : decode cX6_singly 26 = .ok (.ifCond .eq 26, 3) := by decide +kernel
theorem dX6_singly_29 : decode cX6_singly 29 = .ok (.aload_n 0, 1) := by decide +kernel
theorem dX6_singly_30 : decode cX6_singly 30 = .ok (.aload_n 0, 1) := by decide +kernel
theorem dX6_singly_31 : decode cX6_singly 31 = .ok (.aload_n 0, 1) := by decide +kernel
theorem dX6_singly_32 : decode cX6_singly 32 = .ok (.getfield 171, 3) := by decide +kernel
theorem dX6_singly_35 : decode cX6_singly 35 = .ok (.invokevirtual 152, 3) := by decide +kernel
theorem dX6_singly_38 : decode cX6_singly 38 = .ok (.aload_n 0, 1) := by decide +kernel
theorem dX6_singly_39 : decode cX6_singly 39 = .ok (.aload_n 0, 1) := by decide +kernel
theorem dX6_singly_40 : decode cX6_singly 40 = .ok (.getfield 162, 3) := by decide +kernel
theorem dX6_singly_43 : decode cX6_singly 43 = .ok (.invokevirtual 148, 3) := by decide +kernel
theorem dX6_singly_46 : decode cX6_singly 46 = .ok (.invokevirtual 112, 3) := by decide +kernel
theorem dX6_singly_49 : decode cX6_singly 49 = .ok (.goto 35, 3) := by decide +kernel
theorem dX6_singly_52 : decode cX6_singly 52 = .ok (.aload_n 0, 1) := by decide +kernel
theorem dX6_singly_53 : decode cX6_singly 53 = .ok (.aload_n 0, 1) := by decide +kernel
theorem dX6_singly_54 : decode cX6_singly 54 = .ok (.aload_n 0, 1) := by decide +kernel
theorem dX6_singly_55 : decode cX6_singly 55 = .ok (.getfield 174, 3) := by decide +kernel
theorem dX6_singly_58 : decode cX6_singly 58 = .ok (.iconst 1, 1) := by decide +kernel
theorem dX6_singly_59 : decode cX6_singly 59 = .ok (.isub, 1) := by decide +kernel
theorem dX6_singly_60 : decode cX6_singly 60 = .ok (.invokevirtual 152, 3) := by decide +kernel
theorem dX6_singly_63 : decode cX6_singly 63 = .ok (.aload_n 0, 1) := by decide +kernel
theorem dX6_singly_64 : decode cX6_singly 64 = .ok (.aload_n 0, 1) := by decide +kernel
theorem dX6_singly_65 : decode cX6_singly 65 = .ok (.getfield 165, 3) := by decide +kernel
theorem dX6_singly_68 : decode cX6_singly 68 = .ok (.iconst 1, 1) := by decide +kernel
theorem dX6_singly_69 : decode cX6_singly 69 = .ok (.isub, 1) := by decide +kernel
theorem dX6_singly_70 : decode cX6_singly 70 = .ok (.invokevirtual 148, 3) := by decide +kernel
theorem dX6_singly_73 : decode cX6_singly 73 = .ok (.invokevirtual 112, 3) := by decide +kernel
theorem dX6_singly_76 : decode cX6_singly 76 = .ok (.ifCond .ne 7, 3) := by decide +kernel
theorem dX6_singly_79 : decode cX6_singly 79 = .ok (.iconst 1, 1) := by decide +kernel
theorem dX6_singly_80 : decode cX6_singly 80 = .ok (.goto 4, 3) := by decide +kernel
theorem dX6_singly_83 : decode cX6_singly 83 = .ok (.iconst 0, 1) := by decide +kernel
theorem dX6_singly_84 : decode cX6_singly 84 = .ok (.istore_n 3, 1) := by decide +kernel
theorem dX6_singly_85 : decode cX6_singly 85 = .ok (.iload_n 1, 1) := by decide +kernel
theorem dX6_singly_86 : decode cX6_singly 86 = .ok (.ifCond .eq 8, 3) := by decide +kernel
theorem dX6_singly_89 : decode cX6_singly 89 = .ok (.iload_n 3, 1) := by decide +kernel
theorem dX6_singly_90 : decode cX6_singly 90 = .ok (.iload_n 2, 1) := by decide +kernel
theorem dX6_singly_91 : decode cX6_singly 91 = .ok (.if_icmp .ne 9, 3) := by decide +kernel
theorem dX6_singly_94 : decode cX6_singly 94 = .ok (.iload_n 1, 1) := by decide +kernel
theorem dX6_singly_95 : decode cX6_singly 95 = .ok (.iconst 1, 1) := by decide +kernel
theorem dX6_singly_96 : decode cX6_singly 96 = .ok (.iadd, 1) := by decide +kernel
theorem dX6_singly_97 : decode cX6_singly 97 = .ok (.goto 4, 3) := by decide +kernel
theorem dX6_singly_100 : decode cX6_singly 100 = .ok (.iconst 1, 1) := by decide +kernel
theorem dX6_singly_101 : decode cX6_singly 101 = .ok (.istore_n 1, 1) := by decide +kernel
theorem dX6_singly_102 : decode cX6_singly 102 = .ok (.iload_n 3, 1) := by decide +kernel
theorem dX6_singly_103 : decode cX6_singly 103 = .ok (.istore_n 2, 1) := by decide +kernel
theorem dX6_singly_104 : decode cX6_singly 104 = .ok (.iload_n 3, 1) := by decide +kernel
theorem dX6_singly_105 : decode cX6_singly 105 = .ok (.ifCond .eq 11, 3) := by decide +kernel
theorem dX6_singly_108 : decode cX6_singly 108 = .ok (.aload_n 0, 1) := by decide +kernel
theorem dX6_singly_109 : decode cX6_singly 109 = .ok (.iconst 1, 1) := by decide +kernel
theorem dX6_singly_110 : decode cX6_singly 110 = .ok (.invokevirtual 195, 3) := by decide +kernel
theorem dX6_singly_113 : decode cX6_singly 113 = .ok (.goto 8, 3) := by decide +kernel
theorem dX6_singly_116 : decode cX6_singly 116 = .ok (.aload_n 0, 1) := by decide +kernel
theorem dX6_singly_117 : decode cX6_singly 117 = .ok (.iconst 1, 1) := by decide +kernel
theorem dX6_singly_118 : decode cX6_singly 118 = .ok (.invokevirtual 191, 3) := by decide +kernel
theorem dX6_singly_121 : decode cX6_singly 121 = .ok (.goto (-117), 3) := by decide +kernel
theorem dX6_singly_124 : decode cX6_singly 124 = .ok (.return_, 1) := by decide +kernel
set_option maxRecDepth 20000 in
theorem ggX6_leaps_X6_keyB : GoodIn wsX6_leaps wsX6_keyB := goodIn_r _ [11, 2, 12, 13, 57, 58, 59, 60, 61, 62, 63, 64, 65, 66, 67, 68, 69, 70, 71, 72, 73, 74, 75, 76, 77, 78, 79, 80, 81, 82] rfl (by decide +kernel)
set_option maxRecDepth 20000 in
theorem gX6_leaps_X6_keyB : GoodIn wsX6_leaps (wsV RX6 152 RX6 yX6_keyB wsX6_keyB) := goodIn_app (goodIn_of _ (by decide +kernel)) ggX6_leaps_X6_keyB
set_option maxRecDepth 20000 in
theorem ggX6_leaps_X6_seeks : GoodIn wsX6_leaps wsX6_seeks := goodIn_r _ [17, 18, 19, 20, 10, 21, 12, 22, 23, 24, 25, 2, 13, 26, 27, 28, 29, 1, 30, 31, 32, 33, 34, 35, 36, 37, 7, 8, 9, 11, 57, 58, 59, 60, 61, 62, 63, 64, 65, 66, 67, 68, 69, 70, 71, 72, 73, 74, 75, 76, 77, 78, 79, 80, 81, 82] rfl (by decide +kernel)
set_option maxRecDepth 20000 in
theorem gX6_leaps_X6_seeks : GoodIn wsX6_leaps (wsV RX6 177 RX6 yX6_seeks wsX6_seeks) := goodIn_app (goodIn_of _ (by decide +kernel)) ggX6_leaps_X6_seeks
set_option maxRecDepth 20000 in
theorem ggX6_leaps_X6_takeA : GoodIn wsX6_leaps wsX6_takeA := goodIn_r _ [41, 2, 3, 4, 42, 43, 22, 23, 24, 10, 25, 13, 12, 44, 45, 46, 47, 48, 1, 57, 58, 59, 60, 61, 62, 63, 64, 65, 66, 67, 68, 69, 70, 71, 72, 73, 74, 75, 76, 77, 78, 79, 80, 81, 82] rfl (by decide +kernel)
set_option maxRecDepth 20000 in
theorem gX6_leaps_X6_takeA : GoodIn wsX6_leaps (wsV RX6 191 RX6 yX6_takeA wsX6_takeA) := goodIn_app (goodIn_of _ (by decide +kernel)) ggX6_leaps_X6_takeA
set_option maxRecDepth 20000 in
theorem ggX6_leaps_X6_goesOn : GoodIn wsX6_leaps wsX6_goesOn := goodIn_r _ [52, 3, 4, 5, 6, 57, 58, 59, 60, 61, 62, 63, 64, 65, 66, 67, 68, 69, 70, 71, 72, 73, 74, 75, 76, 77, 78, 79, 80, 81, 82] rfl (by decide +kernel)
set_option maxRecDepth 20000 in
theorem gX6_leaps_X6_goesOn : GoodIn wsX6_leaps (wsV RX6 181 RX6 yX6_goesOn wsX6_goesOn) := goodIn_app (goodIn_of _ (by decide +kernel)) ggX6_leaps_X6_goesOn
set_option maxRecDepth 20000 in
theorem ggX6_leaps_X6_takeB : GoodIn wsX6_leaps wsX6_takeB := goodIn_r _ [56, 2, 5, 6, 43, 42, 7, 8, 9, 10, 11, 12, 13, 44, 45, 46, 47, 48, 1, 57, 58, 59, 60, 61, 62, 63, 64, 65, 66, 67, 68, 69, 70, 71, 72, 73, 74, 75, 76, 77, 78, 79, 80, 81, 82] rfl (by decide +kernel)
set_option maxRecDepth 20000 in
theorem gX6_leaps_X6_takeB : GoodIn wsX6_leaps (wsV RX6 195 RX6 yX6_takeB wsX6_takeB) := goodIn_app (goodIn_of _ (by decide +kernel)) ggX6_leaps_X6_takeB
set_option maxRecDepth 20000 in
theorem ggX6_leaps_X6_keyA : GoodIn wsX6_leaps wsX6_keyA := goodIn_r _ [25, 2, 13, 12, 57, 58, 59, 60, 61, 62, 63, 64, 65, 66, 67, 68, 69, 70, 71, 72, 73, 74, 75, 76, 77, 78, 79, 80, 81, 82] rfl (by decide +kernel)
set_option maxRecDepth 20000 in
theorem gX6_leaps_X6_keyA : GoodIn wsX6_leaps (wsV RX6 148 RX6 yX6_keyA wsX6_keyA) := goodIn_app (goodIn_of _ (by decide +kernel)) ggX6_leaps_X6_keyA
theorem dX6_leaps_0 : decode cX6_leaps 0 = .ok (.aload_n 0, 1) := by decide +kernel
theorem dX6_leaps_1 : decode cX6_leaps 1 = .ok (.getfield 37, 3) := by decide +kernel
theorem dX6_leaps_4 : decode cX6_leaps 4 = .ok (.bipush 9, 2) := by decide +kernel
theorem dX6_leaps_6 : decode cX6_leaps 6 = .ok (.dup2, 1) := by decide +kernel
theorem dX6_leaps_7 : decode cX6_leaps 7 = .ok (.iaload, 1) := by decide +kernel
theorem dX6_leaps_8 : decode cX6_leaps 8 = .ok (.iconst 1, 1) := by decide +kernel
theorem dX6_leaps_9 : decode cX6_leaps 9 = .ok (.iadd, 1) := by decide +kernel
theorem dX6_leaps_10 : decode cX6_leaps 10 = .ok (.iastore, 1) := by decide +kernel
theorem dX6_leaps_11 : decode cX6_leaps 11 = .ok (.aload_n 0, 1) := by decide +kernel
theorem dX6_leaps_12 : decode cX6_leaps 12 = .ok (.getfield 144, 3) := by decide +kernel
theorem dX6_leaps_15 : decode cX6_leaps 15 = .ok (.ifCond .eq 33, 3) := by decide +kernel
theorem dX6_leaps_18 : decode cX6_leaps 18 = .ok (.aload_n 0, 1) := by decide +kernel
theorem dX6_leaps_19 : decode cX6_leaps 19 = .ok (.iconst 0, 1) := by decide +kernel
theorem dX6_leaps_20 : decode cX6_leaps 20 = .ok (.aload_n 0, 1) := by decide +kernel
theorem dX6_leaps_21 : decode cX6_leaps 21 = .ok (.getfield 162, 3) := by decide +kernel
theorem dX6_leaps_24 : decode cX6_leaps 24 = .ok (.iconst 1, 1) := by decide +kernel
theorem dX6_leaps_25 : decode cX6_leaps 25 = .ok (.aload_n 0, 1) := by decide +kernel
theorem dX6_leaps_26 : decode cX6_leaps 26 = .ok (.getfield 165, 3) := by decide +kernel
theorem dX6_leaps_29 : decode cX6_leaps 29 = .ok (.aload_n 0, 1) := by decide +kernel
theorem dX6_leaps_30 : decode cX6_leaps 30 = .ok (.getfield 162, 3) := by decide +kernel
theorem dX6_leaps_33 : decode cX6_leaps 33 = .ok (.isub, 1) := by decide +kernel
theorem dX6_leaps_34 : decode cX6_leaps 34 = .ok (.aload_n 0, 1) := by decide +kernel
theorem dX6_leaps_35 : decode cX6_leaps 35 = .ok (.aload_n 0, 1) := by decide +kernel
theorem dX6_leaps_36 : decode cX6_leaps 36 = .ok (.getfield 171, 3) := by decide +kernel
theorem dX6_leaps_39 : decode cX6_leaps 39 = .ok (.invokevirtual 152, 3) := by decide +kernel
theorem dX6_leaps_42 : decode cX6_leaps 42 = .ok (.invokevirtual 177, 3) := by decide +kernel
theorem dX6_leaps_45 : decode cX6_leaps 45 = .ok (.goto 34, 3) := by decide +kernel
theorem dX6_leaps_48 : decode cX6_leaps 48 = .ok (.aload_n 0, 1) := by decide +kernel
theorem dX6_leaps_49 : decode cX6_leaps 49 = .ok (.iconst 2, 1) := by decide +kernel
theorem dX6_leaps_50 : decode cX6_leaps 50 = .ok (.aload_n 0, 1) := by decide +kernel
theorem dX6_leaps_51 : decode cX6_leaps 51 = .ok (.getfield 165, 3) := by decide +kernel
theorem dX6_leaps_54 : decode cX6_leaps 54 = .ok (.iconst 1, 1) := by decide +kernel
theorem dX6_leaps_55 : decode cX6_leaps 55 = .ok (.isub, 1) := by decide +kernel
theorem dX6_leaps_56 : decode cX6_leaps 56 = .ok (.iconst (-1), 1) := by decide +kernel
theorem dX6_leaps_57 : decode cX6_leaps 57 = .ok (.aload_n 0, 1) := by decide +kernel
theorem dX6_leaps_58 : decode cX6_leaps 58 = .ok (.getfield 165, 3) := by decide +kernel
theorem dX6_leaps_61 : decode cX6_leaps 61 = .ok (.aload_n 0, 1) := by decide +kernel
theorem dX6_leaps_62 : decode cX6_leaps 62 = .ok (.getfield 162, 3) := by decide +kernel
theorem dX6_leaps_65 : decode cX6_leaps 65 = .ok (.isub, 1) := by decide +kernel
theorem dX6_leaps_66 : decode cX6_leaps 66 = .ok (.aload_n 0, 1) := by decide +kernel
theorem dX6_leaps_67 : decode cX6_leaps 67 = .ok (.aload_n 0, 1) := by decide +kernel
theorem dX6_leaps_68 : decode cX6_leaps 68 = .ok (.getfield 174, 3) := by decide +kernel
theorem dX6_leaps_71 : decode cX6_leaps 71 = .ok (.iconst 1, 1) := by decide +kernel
theorem dX6_leaps_72 : decode cX6_leaps 72 = .ok (.isub, 1) := by decide +kernel
theorem dX6_leaps_73 : decode cX6_leaps 73 = .ok (.invokevirtual 152, 3) := by decide +kernel
theorem dX6_leaps_76 : decode cX6_leaps 76 = .ok (.invokevirtual 177, 3) := by decide +kernel
theorem dX6_leaps_79 : decode cX6_leaps 79 = .ok (.istore_n 1, 1) := by decide +kernel
theorem dX6_leaps_80 : decode cX6_leaps 80 = .ok (.aload_n 0, 1) := by decide +kernel
theorem dX6_leaps_81 : decode cX6_leaps 81 = .ok (.iload_n 1, 1) := by decide +kernel
theorem dX6_leaps_82 : decode cX6_leaps 82 = .ok (.invokevirtual 191, 3) := by decide +kernel
theorem dX6_leaps_85 : decode cX6_leaps 85 = .ok (.aload_n 0, 1) := by decide +kernel
theorem dX6_leaps_86 : decode cX6_leaps 86 = .ok (.invokevirtual 181, 3) := by decide +kernel
theorem dX6_leaps_89 : decode cX6_leaps 89 = .ok (.ifCond .ne 5, 3) := by decide +kernel
theorem dX6_leaps_92 : decode cX6_leaps 92 = .ok (.iconst 0, 1) := by decide +kernel
theorem dX6_leaps_93 : decode cX6_leaps 93 = .ok (.ireturn, 1) := by decide +kernel
theorem dX6_leaps_94 : decode cX6_leaps 94 = .ok (.aload_n 0, 1) := by decide +kernel
theorem dX6_leaps_95 : decode cX6_leaps 95 = .ok (.iconst 1, 1) := by decide +kernel
theorem dX6_leaps_96 : decode cX6_leaps 96 = .ok (.invokevirtual 195, 3) := by decide +kernel
theorem dX6_leaps_99 : decode cX6_leaps 99 = .ok (.aload_n 0, 1) := by decide +kernel
theorem dX6_leaps_100 : decode cX6_leaps 100 = .ok (.invokevirtual 181, 3) := by decide +kernel
theorem dX6_leaps_103 : decode cX6_leaps 103 = .ok (.ifCond .ne 5, 3) := by decide +kernel
theorem dX6_leaps_106 : decode cX6_leaps 106 = .ok (.iconst 0, 1) := by decide +kernel
theorem dX6_leaps_107 : decode cX6_leaps 107 = .ok (.ireturn, 1) := by decide +kernel
theorem dX6_leaps_108 : decode cX6_leaps 108 = .ok (.aload_n 0, 1) := by decide +kernel
theorem dX6_leaps_109 : decode cX6_leaps 109 = .ok (.getfield 144, 3) := by decide +kernel
theorem dX6_leaps_112 : decode cX6_leaps 112 = .ok (.ifCond .eq 33, 3) := by decide +kernel
theorem dX6_leaps_115 : decode cX6_leaps 115 = .ok (.aload_n 0, 1) := by decide +kernel
theorem dX6_leaps_116 : decode cX6_leaps 116 = .ok (.iconst 1, 1) := by decide +kernel
theorem dX6_leaps_117 : decode cX6_leaps 117 = .ok (.aload_n 0, 1) := by decide +kernel
theorem dX6_leaps_118 : decode cX6_leaps 118 = .ok (.getfield 171, 3) := by decide +kernel
theorem dX6_leaps_121 : decode cX6_leaps 121 = .ok (.iconst 1, 1) := by decide +kernel
theorem dX6_leaps_122 : decode cX6_leaps 122 = .ok (.aload_n 0, 1) := by decide +kernel
theorem dX6_leaps_123 : decode cX6_leaps 123 = .ok (.getfield 174, 3) := by decide +kernel
theorem dX6_leaps_126 : decode cX6_leaps 126 = .ok (.aload_n 0, 1) := by decide +kernel
theorem dX6_leaps_127 : decode cX6_leaps 127 = .ok (.getfield 171, 3) := by decide +kernel
theorem dX6_leaps_130 : decode cX6_leaps 130 = .ok (.isub, 1) := by decide +kernel
theorem dX6_leaps_131 : decode cX6_leaps 131 = .ok (.aload_n 0, 1) := by decide +kernel
theorem dX6_leaps_132 : decode cX6_leaps 132 = .ok (.aload_n 0, 1) := by decide +kernel
theorem dX6_leaps_133 : decode cX6_leaps 133 = .ok (.getfield 162, 3) := by decide +kernel
theorem dX6_leaps_136 : decode cX6_leaps 136 = .ok (.invokevirtual 148, 3) := by decide +kernel
theorem dX6_leaps_139 : decode cX6_leaps 139 = .ok (.invokevirtual 177, 3) := by decide +kernel
theorem dX6_leaps_142 : decode cX6_leaps 142 = .ok (.goto 34, 3) := by decide +kernel
theorem dX6_leaps_145 : decode cX6_leaps 145 = .ok (.aload_n 0, 1) := by decide +kernel
theorem dX6_leaps_146 : decode cX6_leaps 146 = .ok (.iconst 3, 1) := by decide +kernel
theorem dX6_leaps_147 : decode cX6_leaps 147 = .ok (.aload_n 0, 1) := by decide +kernel
theorem dX6_leaps_148 : decode cX6_leaps 148 = .ok (.getfield 174, 3) := by decide +kernel
theorem dX6_leaps_151 : decode cX6_leaps 151 = .ok (.iconst 1, 1) := by decide +kernel
theorem dX6_leaps_152 : decode cX6_leaps 152 = .ok (.isub, 1) := by decide +kernel
theorem dX6_leaps_153 : decode cX6_leaps 153 = .ok (.iconst (-1), 1) := by decide +kernel
theorem dX6_leaps_154 : decode cX6_leaps 154 = .ok (.aload_n 0, 1) := by decide +kernel
theorem dX6_leaps_155 : decode cX6_leaps 155 = .ok (.getfield 174, 3) := by decide +kernel
theorem dX6_leaps_158 : decode cX6_leaps 158 = .ok (.aload_n 0, 1) := by decide +kernel
theorem dX6_leaps_159 : decode cX6_leaps 159 = .ok (.getfield 171, 3) := by decide +kernel
theorem dX6_leaps_162 : decode cX6_leaps 162 = .ok (.isub, 1) := by decide +kernel
theorem dX6_leaps_163 : decode cX6_leaps 163 = .ok (.aload_n 0, 1) := by decide +kernel
theorem dX6_leaps_164 : decode cX6_leaps 164 = .ok (.aload_n 0, 1) := by decide +kernel
theorem dX6_leaps_165 : decode cX6_leaps 165 = .ok (.getfield 165, 3) := by decide +kernel
theorem dX6_leaps_168 : decode cX6_leaps 168 = .ok (.iconst 1, 1) := by decide +kernel
theorem dX6_leaps_169 : decode cX6_leaps 169 = .ok (.isub, 1) := by decide +kernel
theorem dX6_leaps_170 : decode cX6_leaps 170 = .ok (.invokevirtual 148, 3) := by decide +kernel
theorem dX6_leaps_173 : decode cX6_leaps 173 = .ok (.invokevirtual 177, 3) := by decide +kernel
theorem dX6_leaps_176 : decode cX6_leaps 176 = .ok (.istore_n 2, 1) := by decide +kernel
theorem dX6_leaps_177 : decode cX6_leaps 177 = .ok (.aload_n 0, 1) := by decide +kernel
theorem dX6_leaps_178 : decode cX6_leaps 178 = .ok (.iload_n 2, 1) := by decide +kernel
theorem dX6_leaps_179 : decode cX6_leaps 179 = .ok (.invokevirtual 195, 3) := by decide +kernel
theorem dX6_leaps_182 : decode cX6_leaps 182 = .ok (.aload_n 0, 1) := by decide +kernel
theorem dX6_leaps_183 : decode cX6_leaps 183 = .ok (.invokevirtual 181, 3) := by decide +kernel
theorem dX6_leaps_186 : decode cX6_leaps 186 = .ok (.ifCond .ne 5, 3) := by decide +kernel
theorem dX6_leaps_189 : decode cX6_leaps 189 = .ok (.iconst 0, 1) := by decide +kernel
theorem dX6_leaps_190 : decode cX6_leaps 190 = .ok (.ireturn, 1) := by decide +kernel
theorem dX6_leaps_191 : decode cX6_leaps 191 = .ok (.aload_n 0, 1) := by decide +kernel
theorem dX6_leaps_192 : decode cX6_leaps 192 = .ok (.iconst 1, 1) := by decide +kernel
theorem dX6_leaps_193 : decode cX6_leaps 193 = .ok (.invokevirtual 191, 3) := by decide +kernel
theorem dX6_leaps_196 : decode cX6_leaps 196 = .ok (.aload_n 0, 1) := by decide +kernel
theorem dX6_leaps_197 : decode cX6_leaps 197 = .ok (.invokevirtual 181, 3) := by decide +kernel
theorem dX6_leaps_200 : decode cX6_leaps 200 = .ok (.ifCond .ne 5, 3) := by decide +kernel
theorem dX6_leaps_203 : decode cX6_leaps 203 = .ok (.iconst 0, 1) := by decide +kernel
theorem dX6_leaps_204 : decode cX6_leaps 204 = .ok (.ireturn, 1) := by decide +kernel
theorem dX6_leaps_205 : decode cX6_leaps 205 = .ok (.iload_n 1, 1) := by decide +kernel
theorem dX6_leaps_206 : decode cX6_leaps 206 = .ok (.aload_n 0, 1) := by decide +kernel
theorem dX6_leaps_207 : decode cX6_leaps 207 = .ok (.getfield 37, 3) := by decide +kernel
theorem dX6_leaps_210 : decode cX6_leaps 210 = .ok (.bipush 10, 2) := by decide +kernel
theorem dX6_leaps_212 : decode cX6_leaps 212 = .ok (.iaload, 1) := by decide +kernel
theorem dX6_leaps_213 : decode cX6_leaps 213 = .ok (.if_icmp .ge 43, 3) := by decide +kernel
theorem dX6_leaps_216 : decode cX6_leaps 216 = .ok (.iload_n 2, 1) := by decide +kernel
theorem dX6_leaps_217 : decode cX6_leaps 217 = .ok (.aload_n 0, 1) := by decide +kernel
theorem dX6_leaps_218 : decode cX6_leaps 218 = .ok (.getfield 37, 3) := by decide +kernel
theorem dX6_leaps_221 : decode cX6_leaps 221 = .ok (.bipush 10, 2) := by decide +kernel
theorem dX6_leaps_223 : decode cX6_leaps 223 = .ok (.iaload, 1) := by decide +kernel
theorem dX6_leaps_224 : decode cX6_leaps 224 = .ok (.if_icmp .ge 32, 3) := by decide +kernel
theorem dX6_leaps_227 : decode cX6_leaps 227 = .ok (.aload_n 0, 1) := by decide +kernel
theorem dX6_leaps_228 : decode cX6_leaps 228 = .ok (.getfield 37, 3) := by decide +kernel
theorem dX6_leaps_231 : decode cX6_leaps 231 = .ok (.bipush 10, 2) := by decide +kernel
theorem dX6_leaps_233 : decode cX6_leaps 233 = .ok (.dup2, 1) := by decide +kernel
theorem dX6_leaps_234 : decode cX6_leaps 234 = .ok (.iaload, 1) := by decide +kernel
theorem dX6_leaps_235 : decode cX6_leaps 235 = .ok (.aload_n 0, 1) := by decide +kernel
theorem dX6_leaps_236 : decode cX6_leaps 236 = .ok (.getfield 37, 3) := by decide +kernel
theorem dX6_leaps_239 : decode cX6_leaps 239 = .ok (.bipush 10, 2) := by decide +kernel
theorem dX6_leaps_241 : decode cX6_leaps 241 = .ok (.iaload, 1) := by decide +kernel
theorem dX6_leaps_242 : decode cX6_leaps 242 = .ok (.bipush 9, 2) := by decide +kernel
theorem dX6_leaps_244 : decode cX6_leaps 244 = .ok (.if_icmp .ge 7, 3) := by decide +kernel
theorem dX6_leaps_247 : decode cX6_leaps 247 = .ok (.iconst 1, 1) := by decide +kernel
theorem dX6_leaps_248 : decode cX6_leaps 248 = .ok (.goto 4, 3) := by decide +kernel
theorem dX6_leaps_251 : decode cX6_leaps 251 = .ok (.iconst 0, 1) := by decide +kernel
theorem dX6_leaps_252 : decode cX6_leaps 252 = .ok (.iadd, 1) := by decide +kernel
theorem dX6_leaps_253 : decode cX6_leaps 253 = .ok (.iastore, 1) := by decide +kernel
theorem dX6_leaps_254 : decode cX6_leaps 254 = .ok (.iconst 0, 1) := by decide +kernel
theorem dX6_leaps_255 : decode cX6_leaps 255 = .ok (.ireturn, 1) := by decide +kernel
theorem dX6_leaps_256 : decode cX6_leaps 256 = .ok (.aload_n 0, 1) := by decide +kernel
theorem dX6_leaps_257 : decode cX6_leaps 257 = .ok (.getfield 37, 3) := by decide +kernel
theorem dX6_leaps_260 : decode cX6_leaps 260 = .ok (.bipush 10, 2) := by decide +kernel
theorem dX6_leaps_262 : decode cX6_leaps 262 = .ok (.dup2, 1) := by decide +kernel
theorem dX6_leaps_263 : decode cX6_leaps 263 = .ok (.iaload, 1) := by decide +kernel
theorem dX6_leaps_264 : decode cX6_leaps 264 = .ok (.aload_n 0, 1) := by decide +kernel
theorem dX6_leaps_265 : decode cX6_leaps 265 = .ok (.getfield 37, 3) := by decide +kernel
theorem dX6_leaps_268 : decode cX6_leaps 268 = .ok (.bipush 10, 2) := by decide +kernel
theorem dX6_leaps_270 : decode cX6_leaps 270 = .ok (.iaload, 1) := by decide +kernel
theorem dX6_leaps_271 : decode cX6_leaps 271 = .ok (.iconst 1, 1) := by decide +kernel
theorem dX6_leaps_272 : decode cX6_leaps 272 = .ok (.if_icmp .le 7, 3) := by decide +kernel
theorem dX6_leaps_275 : decode cX6_leaps 275 = .ok (.iconst 1, 1) := by decide +kernel
theorem dX6_leaps_276 : decode cX6_leaps 276 = .ok (.goto 4, 3) := by decide +kernel
theorem dX6_leaps_279 : decode cX6_leaps 279 = .ok (.iconst 0, 1) := by decide +kernel
theorem dX6_leaps_280 : decode cX6_leaps 280 = .ok (.isub, 1) := by decide +kernel
theorem dX6_leaps_281 : decode cX6_leaps 281 = .ok (.iastore, 1) := by decide +kernel
theorem dX6_leaps_282 : decode cX6_leaps 282 = .ok (.iconst 1, 1) := by decide +kernel
theorem dX6_leaps_283 : decode cX6_leaps 283 = .ok (.ireturn, 1) := by decide +kernel
set_option maxRecDepth 20000 in
theorem ggX6_at_X6_isPlace : GoodIn wsX6_at wsX6_isPlace := goodIn_r _ [7, 8, 9, 10, 6, 11, 12, 13, 14, 15, 16, 17, 18, 19, 20, 21, 22, 23, 24, 25, 26, 27, 28, 29, 30, 31, 32, 33, 34, 35, 36, 37] rfl (by decide +kernel)
set_option maxRecDepth 20000 in
theorem gX6_at_X6_isPlace : GoodIn wsX6_at (wsV RX6 96 RX6 yX6_isPlace wsX6_isPlace) := goodIn_app (goodIn_of _ (by decide +kernel)) ggX6_at_X6_isPlace
set_option maxRecDepth 20000 in
theorem ggX6_at_X6_in : GoodIn wsX6_at wsX6_in := goodIn_r _ [11] rfl (by decide +kernel)
set_option maxRecDepth 20000 in
theorem gX6_at_X6_in : GoodIn wsX6_at (va_wsS RX6 66 yX6_in wsX6_in) := goodIn_app (goodIn_of _ (by decide +kernel)) ggX6_at_X6_in
theorem dX6_at_0 : decode cX6_at 0 = .ok (.aload_n 0, 1) := by decide +kernel
theorem dX6_at_1 : decode cX6_at 1 = .ok (.iload_n 1, 1) := by decide +kernel
theorem dX6_at_2 : decode cX6_at 2 = .ok (.invokevirtual 96, 3) := by decide +kernel
theorem dX6_at_5 : decode cX6_at 5 = .ok (.ifCond .eq 13, 3) := by decide +kernel
theorem dX6_at_8 : decode cX6_at 8 = .ok (.iload_n 2, 1) := by decide +kernel
theorem dX6_at_9 : decode cX6_at 9 = .ok (.i2l, 1) := by decide +kernel
theorem dX6_at_10 : decode cX6_at 10 = .ok (.lconst 0, 1) := by decide +kernel
theorem dX6_at_11 : decode cX6_at 11 = .ok (.lconst 1, 1) := by decide +kernel
theorem dX6_at_12 : decode cX6_at 12 = .ok (.invokestatic 66, 3) := by decide +kernel
theorem dX6_at_15 : decode cX6_at 15 = .ok (.ifCond .ne 5, 3) := by decide +kernel
theorem dX6_at_18 : decode cX6_at 18 = .ok (.iconst (-1), 1) := by decide +kernel
theorem dX6_at_19 : decode cX6_at 19 = .ok (.ireturn, 1) := by decide +kernel
theorem dX6_at_20 : decode cX6_at 20 = .ok (.iload_n 2, 1) := by decide +kernel
theorem dX6_at_21 : decode cX6_at 21 = .ok (.ifCond .ne 12, 3) := by decide +kernel
theorem dX6_at_24 : decode cX6_at 24 = .ok (.aload_n 0, 1) := by decide +kernel
theorem dX6_at_25 : decode cX6_at 25 = .ok (.getfield 19, 3) := by decide +kernel
theorem dX6_at_28 : decode cX6_at 28 = .ok (.iload_n 1, 1) := by decide +kernel
theorem dX6_at_29 : decode cX6_at 29 = .ok (.iaload, 1) := by decide +kernel
theorem dX6_at_30 : decode cX6_at 30 = .ok (.goto 9, 3) := by decide +kernel
theorem dX6_at_33 : decode cX6_at 33 = .ok (.aload_n 0, 1) := by decide +kernel
theorem dX6_at_34 : decode cX6_at 34 = .ok (.getfield 22, 3) := by decide +kernel
theorem dX6_at_37 : decode cX6_at 37 = .ok (.iload_n 1, 1) := by decide +kernel
theorem dX6_at_38 : decode cX6_at 38 = .ok (.iaload, 1) := by decide +kernel
theorem dX6_at_39 : decode cX6_at 39 = .ok (.ireturn, 1) := by decide +kernel
set_option maxRecDepth 20000 in
theorem ggX6_place_X6_isPlace : GoodIn wsX6_place wsX6_isPlace := goodIn_r _ [6, 7, 8, 9, 5, 10, 11, 12, 13, 14, 15, 16, 17, 18, 19, 20, 21, 22, 23, 24, 25, 26, 27, 28, 29, 30, 31, 32, 33, 34, 35, 36] rfl (by decide +kernel)
set_option maxRecDepth 20000 in
theorem gX6_place_X6_isPlace : GoodIn wsX6_place (wsV RX6 96 RX6 yX6_isPlace wsX6_isPlace) := goodIn_app (goodIn_of _ (by decide +kernel)) ggX6_place_X6_isPlace
theorem dX6_place_0 : decode cX6_place 0 = .ok (.aload_n 0, 1) := by decide +kernel
theorem dX6_place_1 : decode cX6_place 1 = .ok (.iload_n 1, 1) := by decide +kernel
theorem dX6_place_2 : decode cX6_place 2 = .ok (.invokevirtual 96, 3) := by decide +kernel
theorem dX6_place_5 : decode cX6_place 5 = .ok (.ifCond .ne 5, 3) := by decide +kernel
theorem dX6_place_8 : decode cX6_place 8 = .ok (.iconst (-1), 1) := by decide +kernel
theorem dX6_place_9 : decode cX6_place 9 = .ok (.ireturn, 1) := by decide +kernel
theorem dX6_place_10 : decode cX6_place 10 = .ok (.iconst 0, 1) := by decide +kernel
theorem dX6_place_11 : decode cX6_place 11 = .ok (.istore_n 2, 1) := by decide +kernel
theorem dX6_place_12 : decode cX6_place 12 = .ok (.aload_n 0, 1) := by decide +kernel
theorem dX6_place_13 : decode cX6_place 13 = .ok (.getfield 22, 3) := by decide +kernel
theorem dX6_place_16 : decode cX6_place 16 = .ok (.iload_n 2, 1) := by decide +kernel
theorem dX6_place_17 : decode cX6_place 17 = .ok (.iaload, 1) := by decide +kernel
theorem dX6_place_18 : decode cX6_place 18 = .ok (.iload_n 1, 1) := by decide +kernel
theorem dX6_place_19 : decode cX6_place 19 = .ok (.if_icmp .eq 9, 3) := by decide +kernel
theorem dX6_place_22 : decode cX6_place 22 = .ok (.iinc 2 1, 3) := by decide +kernel
theorem dX6_place_25 : decode cX6_place 25 = .ok (.goto (-13), 3) := by decide +kernel
theorem dX6_place_28 : decode cX6_place 28 = .ok (.iload_n 2, 1) := by decide +kernel
theorem dX6_place_29 : decode cX6_place 29 = .ok (.ireturn, 1) := by decide +kernel
set_option maxRecDepth 20000 in
theorem ggX6_run_X6_in : GoodIn wsX6_run wsX6_in := goodIn_r _ [9] rfl (by decide +kernel)
set_option maxRecDepth 20000 in
theorem gX6_run_X6_in : GoodIn wsX6_run (va_wsS RX6 66 yX6_in wsX6_in) := goodIn_app (goodIn_of _ (by decide +kernel)) ggX6_run_X6_in
set_option maxRecDepth 20000 in
theorem ggX6_run_X6_power : GoodIn wsX6_run wsX6_power := goodIn_r _ [13, 1, 14, 15, 16, 17, 18, 19, 20, 21, 22, 23, 24, 25, 26, 27, 28, 29, 30, 31, 32, 33, 34, 35, 36, 37, 38, 39, 40] rfl (by decide +kernel)
set_option maxRecDepth 20000 in
theorem gX6_run_X6_power : GoodIn wsX6_run (wsV RX6 122 RX6 yX6_power wsX6_power) := goodIn_app (goodIn_of _ (by decide +kernel)) ggX6_run_X6_power
theorem dX6_run_0 : decode cX6_run 0 = .ok (.iload_n 1, 1) := by decide +kernel
theorem dX6_run_1 : decode cX6_run 1 = .ok (.iconst (-1), 1) := by decide +kernel
theorem dX6_run_2 : decode cX6_run 2 = .ok (.if_icmp .lt 15, 3) := by decide +kernel
theorem dX6_run_5 : decode cX6_run 5 = .ok (.iload_n 2, 1) := by decide +kernel
theorem dX6_run_6 : decode cX6_run 6 = .ok (.i2l, 1) := by decide +kernel
theorem dX6_run_7 : decode cX6_run 7 = .ok (.lconst 0, 1) := by decide +kernel
theorem dX6_run_8 : decode cX6_run 8 = .ok (.ldc2_w 92, 3) := by decide +kernel
theorem dX6_run_11 : decode cX6_run 11 = .ok (.invokestatic 66, 3) := by decide +kernel
theorem dX6_run_14 : decode cX6_run 14 = .ok (.ifCond .ne 5, 3) := by decide +kernel
theorem dX6_run_17 : decode cX6_run 17 = .ok (.iconst (-1), 1) := by decide +kernel
theorem dX6_run_18 : decode cX6_run 18 = .ok (.ireturn, 1) := by decide +kernel
theorem dX6_run_19 : decode cX6_run 19 = .ok (.iload_n 1, 1) := by decide +kernel
theorem dX6_run_20 : decode cX6_run 20 = .ok (.ifCond .lt 11, 3) := by decide +kernel
theorem dX6_run_23 : decode cX6_run 23 = .ok (.iload_n 1, 1) := by decide +kernel
theorem dX6_run_24 : decode cX6_run 24 = .ok (.aload_n 0, 1) := by decide +kernel
theorem dX6_run_25 : decode cX6_run 25 = .ok (.getfield 81, 3) := by decide +kernel
theorem dX6_run_28 : decode cX6_run 28 = .ok (.if_icmp .lt 17, 3) := by decide +kernel
theorem dX6_run_31 : decode cX6_run 31 = .ok (.iload_n 1, 1) := by decide +kernel
theorem dX6_run_32 : decode cX6_run 32 = .ok (.ifCond .ge 10, 3) := by decide +kernel
theorem dX6_run_35 : decode cX6_run 35 = .ok (.aload_n 0, 1) := by decide +kernel
theorem dX6_run_36 : decode cX6_run 36 = .ok (.getfield 81, 3) := by decide +kernel
theorem dX6_run_39 : decode cX6_run 39 = .ok (.goto 5, 3) := by decide +kernel
theorem dX6_run_42 : decode cX6_run 42 = .ok (.bipush (-4), 2) := by decide +kernel
theorem dX6_run_44 : decode cX6_run 44 = .ok (.ireturn, 1) := by decide +kernel
theorem dX6_run_45 : decode cX6_run 45 = .ok (.iload_n 2, 1) := by decide +kernel
theorem dX6_run_46 : decode cX6_run 46 = .ok (.iconst 2, 1) := by decide +kernel
theorem dX6_run_47 : decode cX6_run 47 = .ok (.if_icmp .ge 23, 3) := by decide +kernel
theorem dX6_run_50 : decode cX6_run 50 = .ok (.iload_n 2, 1) := by decide +kernel
theorem dX6_run_51 : decode cX6_run 51 = .ok (.ifCond .ne 12, 3) := by decide +kernel
theorem dX6_run_54 : decode cX6_run 54 = .ok (.aload_n 0, 1) := by decide +kernel
theorem dX6_run_55 : decode cX6_run 55 = .ok (.getfield 31, 3) := by decide +kernel
theorem dX6_run_58 : decode cX6_run 58 = .ok (.iload_n 1, 1) := by decide +kernel
theorem dX6_run_59 : decode cX6_run 59 = .ok (.iaload, 1) := by decide +kernel
theorem dX6_run_60 : decode cX6_run 60 = .ok (.goto 9, 3) := by decide +kernel
theorem dX6_run_63 : decode cX6_run 63 = .ok (.aload_n 0, 1) := by decide +kernel
theorem dX6_run_64 : decode cX6_run 64 = .ok (.getfield 34, 3) := by decide +kernel
theorem dX6_run_67 : decode cX6_run 67 = .ok (.iload_n 1, 1) := by decide +kernel
theorem dX6_run_68 : decode cX6_run 68 = .ok (.iaload, 1) := by decide +kernel
theorem dX6_run_69 : decode cX6_run 69 = .ok (.ireturn, 1) := by decide +kernel
theorem dX6_run_70 : decode cX6_run 70 = .ok (.iload_n 1, 1) := by decide +kernel
theorem dX6_run_71 : decode cX6_run 71 = .ok (.iconst 1, 1) := by decide +kernel
theorem dX6_run_72 : decode cX6_run 72 = .ok (.iadd, 1) := by decide +kernel
theorem dX6_run_73 : decode cX6_run 73 = .ok (.aload_n 0, 1) := by decide +kernel
theorem dX6_run_74 : decode cX6_run 74 = .ok (.getfield 81, 3) := by decide +kernel
theorem dX6_run_77 : decode cX6_run 77 = .ok (.if_icmp .ge 14, 3) := by decide +kernel
theorem dX6_run_80 : decode cX6_run 80 = .ok (.aload_n 0, 1) := by decide +kernel
theorem dX6_run_81 : decode cX6_run 81 = .ok (.getfield 34, 3) := by decide +kernel
theorem dX6_run_84 : decode cX6_run 84 = .ok (.iload_n 1, 1) := by decide +kernel
theorem dX6_run_85 : decode cX6_run 85 = .ok (.iconst 1, 1) := by decide +kernel
theorem dX6_run_86 : decode cX6_run 86 = .ok (.iadd, 1) := by decide +kernel
theorem dX6_run_87 : decode cX6_run 87 = .ok (.iaload, 1) := by decide +kernel
theorem dX6_run_88 : decode cX6_run 88 = .ok (.goto 7, 3) := by decide +kernel
theorem dX6_run_91 : decode cX6_run 91 = .ok (.aload_n 0, 1) := by decide +kernel
theorem dX6_run_92 : decode cX6_run 92 = .ok (.getfield 87, 3) := by decide +kernel
theorem dX6_run_95 : decode cX6_run 95 = .ok (.istore_n 3, 1) := by decide +kernel
theorem dX6_run_96 : decode cX6_run 96 = .ok (.iload_n 3, 1) := by decide +kernel
theorem dX6_run_97 : decode cX6_run 97 = .ok (.ifCond .ne 8, 3) := by decide +kernel
theorem dX6_run_100 : decode cX6_run 100 = .ok (.bipush (-4), 2) := by decide +kernel
theorem dX6_run_102 : decode cX6_run 102 = .ok (.goto 20, 3) := by decide +kernel
theorem dX6_run_105 : decode cX6_run 105 = .ok (.aload_n 0, 1) := by decide +kernel
theorem dX6_run_106 : decode cX6_run 106 = .ok (.aload_n 0, 1) := by decide +kernel
theorem dX6_run_107 : decode cX6_run 107 = .ok (.getfield 31, 3) := by decide +kernel
theorem dX6_run_110 : decode cX6_run 110 = .ok (.iload_n 1, 1) := by decide +kernel
theorem dX6_run_111 : decode cX6_run 111 = .ok (.iaload, 1) := by decide +kernel
theorem dX6_run_112 : decode cX6_run 112 = .ok (.aload_n 0, 1) := by decide +kernel
theorem dX6_run_113 : decode cX6_run 113 = .ok (.getfield 34, 3) := by decide +kernel
theorem dX6_run_116 : decode cX6_run 116 = .ok (.iload_n 1, 1) := by decide +kernel
theorem dX6_run_117 : decode cX6_run 117 = .ok (.iaload, 1) := by decide +kernel
theorem dX6_run_118 : decode cX6_run 118 = .ok (.iload_n 3, 1) := by decide +kernel
theorem dX6_run_119 : decode cX6_run 119 = .ok (.invokevirtual 122, 3) := by decide +kernel
theorem dX6_run_122 : decode cX6_run 122 = .ok (.ireturn, 1) := by decide +kernel
theorem dX6_waiting_0 : decode cX6_waiting 0 = .ok (.aload_n 0, 1) := by decide +kernel
theorem dX6_waiting_1 : decode cX6_waiting 1 = .ok (.getfield 87, 3) := by decide +kernel
theorem dX6_waiting_4 : decode cX6_waiting 4 = .ok (.ifCond .le 10, 3) := by decide +kernel
theorem dX6_waiting_7 : decode cX6_waiting 7 = .ok (.aload_n 0, 1) := by decide +kernel
theorem dX6_waiting_8 : decode cX6_waiting 8 = .ok (.getfield 87, 3) := by decide +kernel
theorem dX6_waiting_11 : decode cX6_waiting 11 = .ok (.goto 5, 3) := by decide +kernel
theorem dX6_waiting_14 : decode cX6_waiting 14 = .ok (.bipush (-4), 2) := by decide +kernel
theorem dX6_waiting_16 : decode cX6_waiting 16 = .ok (.ireturn, 1) := by decide +kernel
set_option maxRecDepth 20000 in
theorem ggX6_due_X6_mergeNext : GoodIn wsX6_due wsX6_mergeNext := goodIn_r _ [5, 6, 7, 8, 9, 10, 11, 12, 13, 14, 4, 15, 16, 17, 18, 19, 20, 21, 22, 23, 24, 25, 26, 27, 28, 29, 30, 31, 32, 33, 34, 35, 36, 37, 38, 39, 40, 41, 42, 43, 44, 45, 46] rfl (by decide +kernel)
set_option maxRecDepth 20000 in
theorem gX6_due_X6_mergeNext : GoodIn wsX6_due (wsV RX6 126 RX6 yX6_mergeNext wsX6_mergeNext) := goodIn_app (goodIn_of _ (by decide +kernel)) ggX6_due_X6_mergeNext
theorem dX6_due_0 : decode cX6_due 0 = .ok (.aload_n 0, 1) := by decide +kernel
theorem dX6_due_1 : decode cX6_due 1 = .ok (.invokevirtual 126, 3) := by decide +kernel
theorem dX6_due_4 : decode cX6_due 4 = .ok (.ireturn, 1) := by decide +kernel
set_option maxRecDepth 20000 in
theorem ggX6_cost_X6_in : GoodIn wsX6_cost wsX6_in := goodIn_r _ [6] rfl (by decide +kernel)
set_option maxRecDepth 20000 in
theorem gX6_cost_X6_in : GoodIn wsX6_cost (va_wsS RX6 66 yX6_in wsX6_in) := goodIn_app (goodIn_of _ (by decide +kernel)) ggX6_cost_X6_in
theorem dX6_cost_0 : decode cX6_cost 0 = .ok (.iload_n 1, 1) := by decide +kernel
theorem dX6_cost_1 : decode cX6_cost 1 = .ok (.i2l, 1) := by decide +kernel
theorem dX6_cost_2 : decode cX6_cost 2 = .ok (.lconst 0, 1) := by decide +kernel
theorem dX6_cost_3 : decode cX6_cost 3 = .ok (.ldc2_w 198, 3) := by decide +kernel
theorem dX6_cost_6 : decode cX6_cost 6 = .ok (.invokestatic 66, 3) := by decide +kernel
theorem dX6_cost_9 : decode cX6_cost 9 = .ok (.ifCond .eq 12, 3) := by decide +kernel
theorem dX6_cost_12 : decode cX6_cost 12 = .ok (.aload_n 0, 1) := by decide +kernel
theorem dX6_cost_13 : decode cX6_cost 13 = .ok (.getfield 37, 3) := by decide +kernel
theorem dX6_cost_16 : decode cX6_cost 16 = .ok (.iload_n 1, 1) := by decide +kernel
theorem dX6_cost_17 : decode cX6_cost 17 = .ok (.iaload, 1) := by decide +kernel
theorem dX6_cost_18 : decode cX6_cost 18 = .ok (.goto 4, 3) := by decide +kernel
theorem dX6_cost_21 : decode cX6_cost 21 = .ok (.iconst (-1), 1) := by decide +kernel
theorem dX6_cost_22 : decode cX6_cost 22 = .ok (.ireturn, 1) := by decide +kernel
theorem dX6_copy_0 : decode cX6_copy 0 = .ok (.iconst 0, 1) := by decide +kernel
theorem dX6_copy_1 : decode cX6_copy 1 = .ok (.istore_n 2, 1) := by decide +kernel
theorem dX6_copy_2 : decode cX6_copy 2 = .ok (.iload_n 2, 1) := by decide +kernel
theorem dX6_copy_3 : decode cX6_copy 3 = .ok (.aload_n 0, 1) := by decide +kernel
theorem dX6_copy_4 : decode cX6_copy 4 = .ok (.arraylength, 1) := by decide +kernel
theorem dX6_copy_5 : decode cX6_copy 5 = .ok (.if_icmp .ge 15, 3) := by decide +kernel
theorem dX6_copy_8 : decode cX6_copy 8 = .ok (.aload_n 1, 1) := by decide +kernel
theorem dX6_copy_9 : decode cX6_copy 9 = .ok (.iload_n 2, 1) := by decide +kernel
theorem dX6_copy_10 : decode cX6_copy 10 = .ok (.aload_n 0, 1) := by decide +kernel
theorem dX6_copy_11 : decode cX6_copy 11 = .ok (.iload_n 2, 1) := by decide +kernel
theorem dX6_copy_12 : decode cX6_copy 12 = .ok (.iaload, 1) := by decide +kernel
theorem dX6_copy_13 : decode cX6_copy 13 = .ok (.iastore, 1) := by decide +kernel
theorem dX6_copy_14 : decode cX6_copy 14 = .ok (.iinc 2 1, 3) := by decide +kernel
theorem dX6_copy_17 : decode cX6_copy 17 = .ok (.goto (-15), 3) := by decide +kernel
theorem dX6_copy_20 : decode cX6_copy 20 = .ok (.return_, 1) := by decide +kernel
set_option maxRecDepth 20000 in
theorem ggX6_would_X6_in : GoodIn wsX6_would wsX6_in := goodIn_r _ [20] rfl (by decide +kernel)
set_option maxRecDepth 20000 in
theorem gX6_would_X6_in : GoodIn wsX6_would (va_wsS RX6 66 yX6_in wsX6_in) := goodIn_app (goodIn_of _ (by decide +kernel)) ggX6_would_X6_in
set_option maxRecDepth 20000 in
theorem ggX6_would_X6_copy : GoodIn wsX6_would wsX6_copy := goodIn_r _ [23] rfl (by decide +kernel)
set_option maxRecDepth 20000 in
theorem gX6_would_X6_copy : GoodIn wsX6_would (va_wsS RX6 200 yX6_copy wsX6_copy) := goodIn_app (goodIn_of _ (by decide +kernel)) ggX6_would_X6_copy
set_option maxRecDepth 20000 in
theorem ggX6_would_X6_begin : GoodIn wsX6_would wsX6_begin := goodIn_r _ [27, 28, 3, 29, 5, 11, 16, 13, 14, 15, 125, 126, 127, 128, 129, 130, 131, 132, 133, 134, 135, 136, 137, 138, 139, 140, 141, 142, 143, 144, 145, 146, 147, 148, 149, 150] rfl (by decide +kernel)
set_option maxRecDepth 20000 in
theorem gX6_would_X6_begin : GoodIn wsX6_would (wsV RX6 59 RX6 yX6_begin wsX6_begin) := goodIn_app (goodIn_of _ (by decide +kernel)) ggX6_would_X6_begin
set_option maxRecDepth 20000 in
theorem ggX6_would_X6_next : GoodIn wsX6_would wsX6_next := goodIn_r _ [33, 15, 28, 34, 35, 36, 19, 37, 13, 9, 16, 7, 38, 39, 40, 41, 1, 42, 43, 44, 45, 125, 126, 127, 128, 129, 130, 131, 132, 133, 134, 135, 136, 137, 138, 139, 140, 141, 142, 143, 144, 145, 146, 147, 148, 149, 150] rfl (by decide +kernel)
set_option maxRecDepth 20000 in
theorem gX6_would_X6_next : GoodIn wsX6_would (wsV RX6 129 RX6 yX6_next wsX6_next) := goodIn_app (goodIn_of _ (by decide +kernel)) ggX6_would_X6_next
set_option maxRecDepth 20000 in
theorem ggX6_would_X6_oneStep : GoodIn wsX6_would wsX6_oneStep := goodIn_r _ [49, 7, 13, 14, 9, 15, 11, 30, 31, 32, 19, 33, 28, 34, 35, 36, 37, 16, 38, 39, 40, 41, 1, 42, 43, 44, 45, 50, 51, 52, 53, 3, 54, 55, 56, 57, 58, 59, 60, 61, 62, 63, 64, 65, 66, 67, 68, 5, 69, 70, 71, 72, 73, 74, 75, 76, 77, 78, 79, 80, 81, 82, 83, 84, 85, 86, 87, 88, 89, 90, 91, 92, 93, 94, 95, 96, 97, 98, 99, 100, 101, 102, 103, 104, 105, 106, 107, 108, 109, 110, 111, 112, 113, 114, 115, 116, 117, 118, 119, 120, 121, 122, 123, 124, 125, 126, 127, 128, 129, 130, 131, 132, 133, 134, 135, 136, 137, 138, 139, 140, 141, 142, 143, 144, 145, 146, 147, 148, 149, 150] rfl (by decide +kernel)
set_option maxRecDepth 20000 in
theorem gX6_would_X6_oneStep : GoodIn wsX6_would (wsV RX6 141 RX6 yX6_oneStep wsX6_oneStep) := goodIn_app (goodIn_of _ (by decide +kernel)) ggX6_would_X6_oneStep
theorem dX6_would_0 : decode cX6_would 0 = .ok (.iload_n 1, 1) := by decide +kernel
theorem dX6_would_1 : decode cX6_would 1 = .ok (.i2l, 1) := by decide +kernel
theorem dX6_would_2 : decode cX6_would 2 = .ok (.lconst 0, 1) := by decide +kernel
theorem dX6_would_3 : decode cX6_would 3 = .ok (.ldc2_w 92, 3) := by decide +kernel
theorem dX6_would_6 : decode cX6_would 6 = .ok (.invokestatic 66, 3) := by decide +kernel
theorem dX6_would_9 : decode cX6_would 9 = .ok (.ifCond .eq 15, 3) := by decide +kernel
theorem dX6_would_12 : decode cX6_would 12 = .ok (.iload_n 2, 1) := by decide +kernel
theorem dX6_would_13 : decode cX6_would 13 = .ok (.i2l, 1) := by decide +kernel
theorem dX6_would_14 : decode cX6_would 14 = .ok (.lconst 0, 1) := by decide +kernel
theorem dX6_would_15 : decode cX6_would 15 = .ok (.ldc2_w 198, 3) := by decide +kernel
theorem dX6_would_18 : decode cX6_would 18 = .ok (.invokestatic 66, 3) := by decide +kernel
theorem dX6_would_21 : decode cX6_would 21 = .ok (.ifCond .ne 5, 3) := by decide +kernel
theorem dX6_would_24 : decode cX6_would 24 = .ok (.iconst (-1), 1) := by decide +kernel
theorem dX6_would_25 : decode cX6_would 25 = .ok (.ireturn, 1) := by decide +kernel
theorem dX6_would_26 : decode cX6_would 26 = .ok (.aload_n 0, 1) := by decide +kernel
theorem dX6_would_27 : decode cX6_would 27 = .ok (.getfield 19, 3) := by decide +kernel
theorem dX6_would_30 : decode cX6_would 30 = .ok (.aload_n 0, 1) := by decide +kernel
theorem dX6_would_31 : decode cX6_would 31 = .ok (.getfield 40, 3) := by decide +kernel
theorem dX6_would_34 : decode cX6_would 34 = .ok (.invokestatic 200, 3) := by decide +kernel
theorem dX6_would_37 : decode cX6_would 37 = .ok (.aload_n 0, 1) := by decide +kernel
theorem dX6_would_38 : decode cX6_would 38 = .ok (.getfield 22, 3) := by decide +kernel
theorem dX6_would_41 : decode cX6_would 41 = .ok (.aload_n 0, 1) := by decide +kernel
theorem dX6_would_42 : decode cX6_would 42 = .ok (.getfield 43, 3) := by decide +kernel
theorem dX6_would_45 : decode cX6_would 45 = .ok (.invokestatic 200, 3) := by decide +kernel
theorem dX6_would_48 : decode cX6_would 48 = .ok (.aload_n 0, 1) := by decide +kernel
theorem dX6_would_49 : decode cX6_would 49 = .ok (.getfield 31, 3) := by decide +kernel
theorem dX6_would_52 : decode cX6_would 52 = .ok (.aload_n 0, 1) := by decide +kernel
theorem dX6_would_53 : decode cX6_would 53 = .ok (.getfield 46, 3) := by decide +kernel
theorem dX6_would_56 : decode cX6_would 56 = .ok (.invokestatic 200, 3) := by decide +kernel
theorem dX6_would_59 : decode cX6_would 59 = .ok (.aload_n 0, 1) := by decide +kernel
theorem dX6_would_60 : decode cX6_would 60 = .ok (.getfield 34, 3) := by decide +kernel
theorem dX6_would_63 : decode cX6_would 63 = .ok (.aload_n 0, 1) := by decide +kernel
theorem dX6_would_64 : decode cX6_would 64 = .ok (.getfield 49, 3) := by decide +kernel
theorem dX6_would_67 : decode cX6_would 67 = .ok (.invokestatic 200, 3) := by decide +kernel
theorem dX6_would_70 : decode cX6_would 70 = .ok (.aload_n 0, 1) := by decide +kernel
theorem dX6_would_71 : decode cX6_would 71 = .ok (.getfield 37, 3) := by decide +kernel
theorem dX6_would_74 : decode cX6_would 74 = .ok (.aload_n 0, 1) := by decide +kernel
theorem dX6_would_75 : decode cX6_would 75 = .ok (.getfield 52, 3) := by decide +kernel
theorem dX6_would_78 : decode cX6_would 78 = .ok (.invokestatic 200, 3) := by decide +kernel
theorem dX6_would_81 : decode cX6_would 81 = .ok (.aload_n 0, 1) := by decide +kernel
theorem dX6_would_82 : decode cX6_would 82 = .ok (.getfield 81, 3) := by decide +kernel
theorem dX6_would_85 : decode cX6_would 85 = .ok (.istore_n 3, 1) := by decide +kernel
theorem dX6_would_86 : decode cX6_would 86 = .ok (.aload_n 0, 1) := by decide +kernel
theorem dX6_would_87 : decode cX6_would 87 = .ok (.getfield 84, 3) := by decide +kernel
theorem dX6_would_90 : decode cX6_would 90 = .ok (.istore 4, 2) := by decide +kernel
theorem dX6_would_92 : decode cX6_would 92 = .ok (.aload_n 0, 1) := by decide +kernel
theorem dX6_would_93 : decode cX6_would 93 = .ok (.getfield 87, 3) := by decide +kernel
theorem dX6_would_96 : decode cX6_would 96 = .ok (.istore 5, 2) := by decide +kernel
theorem dX6_would_98 : decode cX6_would 98 = .ok (.aload_n 0, 1) := by decide +kernel
theorem dX6_would_99 : decode cX6_would 99 = .ok (.getfield 13, 3) := by decide +kernel
theorem dX6_would_102 : decode cX6_would 102 = .ok (.iconst 1, 1) := by decide +kernel
theorem dX6_would_103 : decode cX6_would 103 = .ok (.iaload, 1) := by decide +kernel
theorem dX6_would_104 : decode cX6_would 104 = .ok (.istore 6, 2) := by decide +kernel
theorem dX6_would_106 : decode cX6_would 106 = .ok (.aload_n 0, 1) := by decide +kernel
theorem dX6_would_107 : decode cX6_would 107 = .ok (.getfield 13, 3) := by decide +kernel
theorem dX6_would_110 : decode cX6_would 110 = .ok (.iconst 1, 1) := by decide +kernel
theorem dX6_would_111 : decode cX6_would 111 = .ok (.iload_n 1, 1) := by decide +kernel
theorem dX6_would_112 : decode cX6_would 112 = .ok (.iastore, 1) := by decide +kernel
theorem dX6_would_113 : decode cX6_would 113 = .ok (.aload_n 0, 1) := by decide +kernel
theorem dX6_would_114 : decode cX6_would 114 = .ok (.invokevirtual 59, 3) := by decide +kernel
theorem dX6_would_117 : decode cX6_would 117 = .ok (.aload_n 0, 1) := by decide +kernel
theorem dX6_would_118 : decode cX6_would 118 = .ok (.invokevirtual 129, 3) := by decide +kernel
theorem dX6_would_121 : decode cX6_would 121 = .ok (.ifCond .eq 10, 3) := by decide +kernel
theorem dX6_would_124 : decode cX6_would 124 = .ok (.aload_n 0, 1) := by decide +kernel
theorem dX6_would_125 : decode cX6_would 125 = .ok (.invokevirtual 141, 3) := by decide +kernel
theorem dX6_would_128 : decode cX6_would 128 = .ok (.goto (-11), 3) := by decide +kernel
theorem dX6_would_131 : decode cX6_would 131 = .ok (.aload_n 0, 1) := by decide +kernel
theorem dX6_would_132 : decode cX6_would 132 = .ok (.getfield 37, 3) := by decide +kernel
theorem dX6_would_135 : decode cX6_would 135 = .ok (.iload_n 2, 1) := by decide +kernel
theorem dX6_would_136 : decode cX6_would 136 = .ok (.iaload, 1) := by decide +kernel
theorem dX6_would_137 : decode cX6_would 137 = .ok (.istore 7, 2) := by decide +kernel
theorem dX6_would_139 : decode cX6_would 139 = .ok (.aload_n 0, 1) := by decide +kernel
theorem dX6_would_140 : decode cX6_would 140 = .ok (.getfield 13, 3) := by decide +kernel
theorem dX6_would_143 : decode cX6_would 143 = .ok (.iconst 1, 1) := by decide +kernel
theorem dX6_would_144 : decode cX6_would 144 = .ok (.iload 6, 2) := by decide +kernel
theorem dX6_would_146 : decode cX6_would 146 = .ok (.iastore, 1) := by decide +kernel
theorem dX6_would_147 : decode cX6_would 147 = .ok (.aload_n 0, 1) := by decide +kernel
theorem dX6_would_148 : decode cX6_would 148 = .ok (.iload_n 3, 1) := by decide +kernel
theorem dX6_would_149 : decode cX6_would 149 = .ok (.putfield 81, 3) := by decide +kernel
theorem dX6_would_152 : decode cX6_would 152 = .ok (.aload_n 0, 1) := by decide +kernel
theorem dX6_would_153 : decode cX6_would 153 = .ok (.iload 4, 2) := by decide +kernel
theorem dX6_would_155 : decode cX6_would 155 = .ok (.putfield 84, 3) := by decide +kernel
theorem dX6_would_158 : decode cX6_would 158 = .ok (.aload_n 0, 1) := by decide +kernel
theorem dX6_would_159 : decode cX6_would 159 = .ok (.iload 5, 2) := by decide +kernel
theorem dX6_would_161 : decode cX6_would 161 = .ok (.putfield 87, 3) := by decide +kernel
theorem dX6_would_164 : decode cX6_would 164 = .ok (.aload_n 0, 1) := by decide +kernel
theorem dX6_would_165 : decode cX6_would 165 = .ok (.getfield 40, 3) := by decide +kernel
theorem dX6_would_168 : decode cX6_would 168 = .ok (.aload_n 0, 1) := by decide +kernel
theorem dX6_would_169 : decode cX6_would 169 = .ok (.getfield 19, 3) := by decide +kernel
theorem dX6_would_172 : decode cX6_would 172 = .ok (.invokestatic 200, 3) := by decide +kernel
theorem dX6_would_175 : decode cX6_would 175 = .ok (.aload_n 0, 1) := by decide +kernel
theorem dX6_would_176 : decode cX6_would 176 = .ok (.getfield 43, 3) := by decide +kernel
theorem dX6_would_179 : decode cX6_would 179 = .ok (.aload_n 0, 1) := by decide +kernel
theorem dX6_would_180 : decode cX6_would 180 = .ok (.getfield 22, 3) := by decide +kernel
theorem dX6_would_183 : decode cX6_would 183 = .ok (.invokestatic 200, 3) := by decide +kernel
theorem dX6_would_186 : decode cX6_would 186 = .ok (.aload_n 0, 1) := by decide +kernel
theorem dX6_would_187 : decode cX6_would 187 = .ok (.getfield 46, 3) := by decide +kernel
theorem dX6_would_190 : decode cX6_would 190 = .ok (.aload_n 0, 1) := by decide +kernel
theorem dX6_would_191 : decode cX6_would 191 = .ok (.getfield 31, 3) := by decide +kernel
theorem dX6_would_194 : decode cX6_would 194 = .ok (.invokestatic 200, 3) := by decide +kernel
theorem dX6_would_197 : decode cX6_would 197 = .ok (.aload_n 0, 1) := by decide +kernel
theorem dX6_would_198 : decode cX6_would 198 = .ok (.getfield 49, 3) := by decide +kernel
theorem dX6_would_201 : decode cX6_would 201 = .ok (.aload_n 0, 1) := by decide +kernel
theorem dX6_would_202 : decode cX6_would 202 = .ok (.getfield 34, 3) := by decide +kernel
theorem dX6_would_205 : decode cX6_would 205 = .ok (.invokestatic 200, 3) := by decide +kernel
theorem dX6_would_208 : decode cX6_would 208 = .ok (.aload_n 0, 1) := by decide +kernel
theorem dX6_would_209 : decode cX6_would 209 = .ok (.getfield 52, 3) := by decide +kernel
theorem dX6_would_212 : decode cX6_would 212 = .ok (.aload_n 0, 1) := by decide +kernel
theorem dX6_would_213 : decode cX6_would 213 = .ok (.getfield 37, 3) := by decide +kernel
theorem dX6_would_216 : decode cX6_would 216 = .ok (.invokestatic 200, 3) := by decide +kernel
theorem dX6_would_219 : decode cX6_would 219 = .ok (.iload 7, 2) := by decide +kernel
theorem dX6_would_221 : decode cX6_would 221 = .ok (.ireturn, 1) := by decide +kernel
set_option maxRecDepth 20000 in
theorem ggX6_descents_X6_isLess : GoodIn wsX6_descents wsX6_isLess := goodIn_r _ [7, 8, 9, 10, 6, 11, 12, 13, 14, 15, 16, 17, 18, 19, 20, 21, 22, 23, 24, 25, 26, 27, 28, 29, 30, 31, 32, 33, 34, 35, 36, 37] rfl (by decide +kernel)
set_option maxRecDepth 20000 in
theorem gX6_descents_X6_isLess : GoodIn wsX6_descents (wsV RX6 105 RX6 yX6_isLess wsX6_isLess) := goodIn_app (goodIn_of _ (by decide +kernel)) ggX6_descents_X6_isLess
theorem dX6_descents_0 : decode cX6_descents 0 = .ok (.iconst 0, 1) := by decide +kernel
theorem dX6_descents_1 : decode cX6_descents 1 = .ok (.istore_n 1, 1) := by decide +kernel
theorem dX6_descents_2 : decode cX6_descents 2 = .ok (.iconst 1, 1) := by decide +kernel
theorem dX6_descents_3 : decode cX6_descents 3 = .ok (.istore_n 2, 1) := by decide +kernel
theorem dX6_descents_4 : decode cX6_descents 4 = .ok (.iload_n 2, 1) := by decide +kernel
theorem dX6_descents_5 : decode cX6_descents 5 = .ok (.aload_n 0, 1) := by decide +kernel
theorem dX6_descents_6 : decode cX6_descents 6 = .ok (.getfield 55, 3) := by decide +kernel
theorem dX6_descents_9 : decode cX6_descents 9 = .ok (.if_icmp .ge 38, 3) := by decide +kernel
theorem dX6_descents_12 : decode cX6_descents 12 = .ok (.iload_n 1, 1) := by decide +kernel
theorem dX6_descents_13 : decode cX6_descents 13 = .ok (.aload_n 0, 1) := by decide +kernel
theorem dX6_descents_14 : decode cX6_descents 14 = .ok (.aload_n 0, 1) := by decide +kernel
theorem dX6_descents_15 : decode cX6_descents 15 = .ok (.getfield 19, 3) := by decide +kernel
theorem dX6_descents_18 : decode cX6_descents 18 = .ok (.iload_n 2, 1) := by decide +kernel
theorem dX6_descents_19 : decode cX6_descents 19 = .ok (.iaload, 1) := by decide +kernel
theorem dX6_descents_20 : decode cX6_descents 20 = .ok (.aload_n 0, 1) := by decide +kernel
theorem dX6_descents_21 : decode cX6_descents 21 = .ok (.getfield 19, 3) := by decide +kernel
theorem dX6_descents_24 : decode cX6_descents 24 = .ok (.iload_n 2, 1) := by decide +kernel
theorem dX6_descents_25 : decode cX6_descents 25 = .ok (.iconst 1, 1) := by decide +kernel
theorem dX6_descents_26 : decode cX6_descents 26 = .ok (.isub, 1) := by decide +kernel
theorem dX6_descents_27 : decode cX6_descents 27 = .ok (.iaload, 1) := by decide +kernel
theorem dX6_descents_28 : decode cX6_descents 28 = .ok (.invokevirtual 105, 3) := by decide +kernel
theorem dX6_descents_31 : decode cX6_descents 31 = .ok (.ifCond .eq 7, 3) := by decide +kernel
theorem dX6_descents_34 : decode cX6_descents 34 = .ok (.iconst 1, 1) := by decide +kernel
theorem dX6_descents_35 : decode cX6_descents 35 = .ok (.goto 4, 3) := by decide +kernel
theorem dX6_descents_38 : decode cX6_descents 38 = .ok (.iconst 0, 1) := by decide +kernel
theorem dX6_descents_39 : decode cX6_descents 39 = .ok (.iadd, 1) := by decide +kernel
theorem dX6_descents_40 : decode cX6_descents 40 = .ok (.istore_n 1, 1) := by decide +kernel
theorem dX6_descents_41 : decode cX6_descents 41 = .ok (.iinc 2 1, 3) := by decide +kernel
theorem dX6_descents_44 : decode cX6_descents 44 = .ok (.goto (-40), 3) := by decide +kernel
theorem dX6_descents_47 : decode cX6_descents 47 = .ok (.iload_n 1, 1) := by decide +kernel
theorem dX6_descents_48 : decode cX6_descents 48 = .ok (.ireturn, 1) := by decide +kernel
