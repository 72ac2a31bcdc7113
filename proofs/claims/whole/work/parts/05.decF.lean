set_option maxRecDepth 20000 in
theorem ggX6_next_X6_mergeNext : GoodIn wsX6_next wsX6_mergeNext := goodIn_r _ [7, 8, 9, 1, 10, 11, 2, 12, 13, 14, 6, 15, 16, 17, 18, 19, 20, 21, 22, 23, 24, 25, 26, 27, 28, 29, 30, 31, 32, 33, 34, 35, 36, 37, 38, 39, 40, 41, 42, 43, 44, 45, 46] rfl (by decide +kernel)
set_option maxRecDepth 20000 in
theorem gX6_next_X6_mergeNext : GoodIn wsX6_next (wsV RX6 126 RX6 yX6_mergeNext wsX6_mergeNext) := goodIn_app (goodIn_of _ (by decide +kernel)) ggX6_next_X6_mergeNext
set_option maxRecDepth 20000 in
theorem ggX6_next_X6_inRuns : GoodIn wsX6_next wsX6_inRuns := goodIn_r _ [20, 1, 8, 9, 21, 22, 23, 24, 25, 26, 27, 28, 29, 30, 31, 32, 33, 34, 35, 36, 37, 38, 39, 40, 41, 42, 43, 44, 45, 46] rfl (by decide +kernel)
set_option maxRecDepth 20000 in
theorem gX6_next_X6_inRuns : GoodIn wsX6_next (wsV RX6 109 RX6 yX6_inRuns wsX6_inRuns) := goodIn_app (goodIn_of _ (by decide +kernel)) ggX6_next_X6_inRuns
theorem dX6_next_0 : decode cX6_next 0 = .ok (.aload_n 0, 1) := by decide +kernel
theorem dX6_next_1 : decode cX6_next 1 = .ok (.invokevirtual 126, 3) := by decide +kernel
theorem dX6_next_4 : decode cX6_next 4 = .ok (.bipush (-4), 2) := by decide +kernel
theorem dX6_next_6 : decode cX6_next 6 = .ok (.if_icmp .eq 5, 3) := by decide +kernel
theorem dX6_next_9 : decode cX6_next 9 = .ok (.iconst 3, 1) := by decide +kernel
theorem dX6_next_10 : decode cX6_next 10 = .ok (.ireturn, 1) := by decide +kernel
theorem dX6_next_11 : decode cX6_next 11 = .ok (.aload_n 0, 1) := by decide +kernel
theorem dX6_next_12 : decode cX6_next 12 = .ok (.getfield 87, 3) := by decide +kernel
theorem dX6_next_15 : decode cX6_next 15 = .ok (.ifCond .le 7, 3) := by decide +kernel
theorem dX6_next_18 : decode cX6_next 18 = .ok (.iconst 1, 1) := by decide +kernel
theorem dX6_next_19 : decode cX6_next 19 = .ok (.goto 19, 3) := by decide +kernel
theorem dX6_next_22 : decode cX6_next 22 = .ok (.aload_n 0, 1) := by decide +kernel
theorem dX6_next_23 : decode cX6_next 23 = .ok (.invokevirtual 109, 3) := by decide +kernel
theorem dX6_next_26 : decode cX6_next 26 = .ok (.aload_n 0, 1) := by decide +kernel
theorem dX6_next_27 : decode cX6_next 27 = .ok (.getfield 55, 3) := by decide +kernel
theorem dX6_next_30 : decode cX6_next 30 = .ok (.if_icmp .ge 7, 3) := by decide +kernel
theorem dX6_next_33 : decode cX6_next 33 = .ok (.iconst 2, 1) := by decide +kernel
theorem dX6_next_34 : decode cX6_next 34 = .ok (.goto 4, 3) := by decide +kernel
theorem dX6_next_37 : decode cX6_next 37 = .ok (.iconst 0, 1) := by decide +kernel
theorem dX6_next_38 : decode cX6_next 38 = .ok (.ireturn, 1) := by decide +kernel
set_option maxRecDepth 20000 in
theorem ggX6_oneStep_X6_next : GoodIn wsX6_oneStep wsX6_next := goodIn_r _ [11, 5, 12, 13, 14, 15, 10, 16, 2, 4, 17, 1, 18, 19, 20, 21, 22, 23, 24, 25, 26, 104, 105, 106, 107, 108, 109, 110, 111, 112, 113, 114, 115, 116, 117, 118, 119, 120, 121, 122, 123, 124, 125, 126, 127, 128, 129] rfl (by decide +kernel)
set_option maxRecDepth 20000 in
theorem gX6_oneStep_X6_next : GoodIn wsX6_oneStep (wsV RX6 129 RX6 yX6_next wsX6_next) := goodIn_app (goodIn_of _ (by decide +kernel)) ggX6_oneStep_X6_next
set_option maxRecDepth 20000 in
theorem ggX6_oneStep_X6_find : GoodIn wsX6_oneStep wsX6_find := goodIn_r _ [30, 12, 31, 6, 17, 3, 5, 23, 24, 25, 10, 26, 2, 4, 32, 33, 34, 35, 36, 37, 38, 39, 40, 41, 42, 43, 44, 45, 46, 47, 48, 49, 50, 51, 104, 105, 106, 107, 108, 109, 110, 111, 112, 113, 114, 115, 116, 117, 118, 119, 120, 121, 122, 123, 124, 125, 126, 127, 128, 129] rfl (by decide +kernel)
set_option maxRecDepth 20000 in
theorem gX6_oneStep_X6_find : GoodIn wsX6_oneStep (wsV RX6 132 RX6 yX6_find wsX6_find) := goodIn_app (goodIn_of _ (by decide +kernel)) ggX6_oneStep_X6_find
set_option maxRecDepth 20000 in
theorem ggX6_oneStep_X6_mergeNext : GoodIn wsX6_oneStep wsX6_mergeNext := goodIn_r _ [16, 2, 4, 5, 17, 1, 12, 18, 19, 20, 10, 21, 22, 23, 24, 25, 26, 104, 105, 106, 107, 108, 109, 110, 111, 112, 113, 114, 115, 116, 117, 118, 119, 120, 121, 122, 123, 124, 125, 126, 127, 128, 129] rfl (by decide +kernel)
set_option maxRecDepth 20000 in
theorem gX6_oneStep_X6_mergeNext : GoodIn wsX6_oneStep (wsV RX6 126 RX6 yX6_mergeNext wsX6_mergeNext) := goodIn_app (goodIn_of _ (by decide +kernel)) ggX6_oneStep_X6_mergeNext
set_option maxRecDepth 20000 in
theorem ggX6_oneStep_X6_merge : GoodIn wsX6_oneStep wsX6_merge := goodIn_r _ [55, 6, 31, 56, 57, 58, 59, 60, 61, 62, 47, 63, 64, 65, 66, 10, 67, 68, 69, 70, 71, 72, 73, 74, 75, 32, 33, 34, 35, 36, 37, 38, 39, 17, 40, 41, 42, 76, 77, 78, 79, 80, 81, 82, 83, 84, 85, 86, 87, 88, 89, 90, 91, 92, 93, 94, 95, 96, 97, 98, 99, 100, 101, 102, 103, 104, 105, 106, 107, 108, 109, 110, 111, 112, 113, 114, 115, 116, 117, 118, 119, 120, 121, 122, 123, 124, 125, 126, 127, 128, 129] rfl (by decide +kernel)
set_option maxRecDepth 20000 in
theorem gX6_oneStep_X6_merge : GoodIn wsX6_oneStep (wsV RX6 135 RX6 yX6_merge wsX6_merge) := goodIn_app (goodIn_of _ (by decide +kernel)) ggX6_oneStep_X6_merge
theorem dX6_oneStep_0 : decode cX6_oneStep 0 = .ok (.aload_n 0, 1) := by decide +kernel
theorem dX6_oneStep_1 : decode cX6_oneStep 1 = .ok (.invokevirtual 129, 3) := by decide +kernel
theorem dX6_oneStep_4 : decode cX6_oneStep 4 = .ok (.istore_n 1, 1) := by decide +kernel
theorem dX6_oneStep_5 : decode cX6_oneStep 5 = .ok (.iload_n 1, 1) := by decide +kernel
theorem dX6_oneStep_6 : decode cX6_oneStep 6 = .ok (.iconst 1, 1) := by decide +kernel
theorem dX6_oneStep_7 : decode cX6_oneStep 7 = .ok (.if_icmp .ne 82, 3) := by decide +kernel
theorem dX6_oneStep_10 : decode cX6_oneStep 10 = .ok (.aload_n 0, 1) := by decide +kernel
theorem dX6_oneStep_11 : decode cX6_oneStep 11 = .ok (.getfield 31, 3) := by decide +kernel
theorem dX6_oneStep_14 : decode cX6_oneStep 14 = .ok (.aload_n 0, 1) := by decide +kernel
theorem dX6_oneStep_15 : decode cX6_oneStep 15 = .ok (.getfield 81, 3) := by decide +kernel
theorem dX6_oneStep_18 : decode cX6_oneStep 18 = .ok (.aload_n 0, 1) := by decide +kernel
theorem dX6_oneStep_19 : decode cX6_oneStep 19 = .ok (.getfield 84, 3) := by decide +kernel
theorem dX6_oneStep_22 : decode cX6_oneStep 22 = .ok (.iastore, 1) := by decide +kernel
theorem dX6_oneStep_23 : decode cX6_oneStep 23 = .ok (.aload_n 0, 1) := by decide +kernel
theorem dX6_oneStep_24 : decode cX6_oneStep 24 = .ok (.getfield 34, 3) := by decide +kernel
theorem dX6_oneStep_27 : decode cX6_oneStep 27 = .ok (.aload_n 0, 1) := by decide +kernel
theorem dX6_oneStep_28 : decode cX6_oneStep 28 = .ok (.getfield 81, 3) := by decide +kernel
theorem dX6_oneStep_31 : decode cX6_oneStep 31 = .ok (.aload_n 0, 1) := by decide +kernel
theorem dX6_oneStep_32 : decode cX6_oneStep 32 = .ok (.getfield 87, 3) := by decide +kernel
theorem dX6_oneStep_35 : decode cX6_oneStep 35 = .ok (.iastore, 1) := by decide +kernel
theorem dX6_oneStep_36 : decode cX6_oneStep 36 = .ok (.aload_n 0, 1) := by decide +kernel
theorem dX6_oneStep_37 : decode cX6_oneStep 37 = .ok (.dup, 1) := by decide +kernel
theorem dX6_oneStep_38 : decode cX6_oneStep 38 = .ok (.getfield 81, 3) := by decide +kernel
theorem dX6_oneStep_41 : decode cX6_oneStep 41 = .ok (.iconst 1, 1) := by decide +kernel
theorem dX6_oneStep_42 : decode cX6_oneStep 42 = .ok (.iadd, 1) := by decide +kernel
theorem dX6_oneStep_43 : decode cX6_oneStep 43 = .ok (.putfield 81, 3) := by decide +kernel
theorem dX6_oneStep_46 : decode cX6_oneStep 46 = .ok (.aload_n 0, 1) := by decide +kernel
theorem dX6_oneStep_47 : decode cX6_oneStep 47 = .ok (.iconst 0, 1) := by decide +kernel
theorem dX6_oneStep_48 : decode cX6_oneStep 48 = .ok (.putfield 87, 3) := by decide +kernel
theorem dX6_oneStep_51 : decode cX6_oneStep 51 = .ok (.aload_n 0, 1) := by decide +kernel
theorem dX6_oneStep_52 : decode cX6_oneStep 52 = .ok (.getfield 37, 3) := by decide +kernel
theorem dX6_oneStep_55 : decode cX6_oneStep 55 = .ok (.bipush 8, 2) := by decide +kernel
theorem dX6_oneStep_57 : decode cX6_oneStep 57 = .ok (.aload_n 0, 1) := by decide +kernel
theorem dX6_oneStep_58 : decode cX6_oneStep 58 = .ok (.getfield 81, 3) := by decide +kernel
theorem dX6_oneStep_61 : decode cX6_oneStep 61 = .ok (.aload_n 0, 1) := by decide +kernel
theorem dX6_oneStep_62 : decode cX6_oneStep 62 = .ok (.getfield 37, 3) := by decide +kernel
theorem dX6_oneStep_65 : decode cX6_oneStep 65 = .ok (.bipush 8, 2) := by decide +kernel
theorem dX6_oneStep_67 : decode cX6_oneStep 67 = .ok (.iaload, 1) := by decide +kernel
theorem dX6_oneStep_68 : decode cX6_oneStep 68 = .ok (.if_icmp .le 10, 3) := by decide +kernel
theorem dX6_oneStep_71 : decode cX6_oneStep 71 = .ok (.aload_n 0, 1) := by decide +kernel
theorem dX6_oneStep_72 : decode cX6_oneStep 72 = .ok (.getfield 81, 3) := by decide +kernel
theorem dX6_oneStep_75 : decode cX6_oneStep 75 = .ok (.goto 10, 3) := by decide +kernel
theorem dX6_oneStep_78 : decode cX6_oneStep 78 = .ok (.aload_n 0, 1) := by decide +kernel
theorem dX6_oneStep_79 : decode cX6_oneStep 79 = .ok (.getfield 37, 3) := by decide +kernel
theorem dX6_oneStep_82 : decode cX6_oneStep 82 = .ok (.bipush 8, 2) := by decide +kernel
theorem dX6_oneStep_84 : decode cX6_oneStep 84 = .ok (.iaload, 1) := by decide +kernel
theorem dX6_oneStep_85 : decode cX6_oneStep 85 = .ok (.iastore, 1) := by decide +kernel
theorem dX6_oneStep_86 : decode cX6_oneStep 86 = .ok (.goto 117, 3) := by decide +kernel
theorem dX6_oneStep_89 : decode cX6_oneStep 89 = .ok (.iload_n 1, 1) := by decide +kernel
theorem dX6_oneStep_90 : decode cX6_oneStep 90 = .ok (.iconst 2, 1) := by decide +kernel
theorem dX6_oneStep_91 : decode cX6_oneStep 91 = .ok (.if_icmp .ne 10, 3) := by decide +kernel
theorem dX6_oneStep_94 : decode cX6_oneStep 94 = .ok (.aload_n 0, 1) := by decide +kernel
theorem dX6_oneStep_95 : decode cX6_oneStep 95 = .ok (.invokevirtual 132, 3) := by decide +kernel
theorem dX6_oneStep_98 : decode cX6_oneStep 98 = .ok (.goto 105, 3) := by decide +kernel
theorem dX6_oneStep_101 : decode cX6_oneStep 101 = .ok (.aload_n 0, 1) := by decide +kernel
theorem dX6_oneStep_102 : decode cX6_oneStep 102 = .ok (.invokevirtual 126, 3) := by decide +kernel
theorem dX6_oneStep_105 : decode cX6_oneStep 105 = .ok (.istore_n 2, 1) := by decide +kernel
theorem dX6_oneStep_106 : decode cX6_oneStep 106 = .ok (.aload_n 0, 1) := by decide +kernel
theorem dX6_oneStep_107 : decode cX6_oneStep 107 = .ok (.aload_n 0, 1) := by decide +kernel
theorem dX6_oneStep_108 : decode cX6_oneStep 108 = .ok (.getfield 31, 3) := by decide +kernel
theorem dX6_oneStep_111 : decode cX6_oneStep 111 = .ok (.iload_n 2, 1) := by decide +kernel
theorem dX6_oneStep_112 : decode cX6_oneStep 112 = .ok (.iaload, 1) := by decide +kernel
theorem dX6_oneStep_113 : decode cX6_oneStep 113 = .ok (.aload_n 0, 1) := by decide +kernel
theorem dX6_oneStep_114 : decode cX6_oneStep 114 = .ok (.getfield 34, 3) := by decide +kernel
theorem dX6_oneStep_117 : decode cX6_oneStep 117 = .ok (.iload_n 2, 1) := by decide +kernel
theorem dX6_oneStep_118 : decode cX6_oneStep 118 = .ok (.iaload, 1) := by decide +kernel
theorem dX6_oneStep_119 : decode cX6_oneStep 119 = .ok (.aload_n 0, 1) := by decide +kernel
theorem dX6_oneStep_120 : decode cX6_oneStep 120 = .ok (.getfield 34, 3) := by decide +kernel
theorem dX6_oneStep_123 : decode cX6_oneStep 123 = .ok (.iload_n 2, 1) := by decide +kernel
theorem dX6_oneStep_124 : decode cX6_oneStep 124 = .ok (.iconst 1, 1) := by decide +kernel
theorem dX6_oneStep_125 : decode cX6_oneStep 125 = .ok (.iadd, 1) := by decide +kernel
theorem dX6_oneStep_126 : decode cX6_oneStep 126 = .ok (.iaload, 1) := by decide +kernel
theorem dX6_oneStep_127 : decode cX6_oneStep 127 = .ok (.invokevirtual 135, 3) := by decide +kernel
theorem dX6_oneStep_130 : decode cX6_oneStep 130 = .ok (.aload_n 0, 1) := by decide +kernel
theorem dX6_oneStep_131 : decode cX6_oneStep 131 = .ok (.getfield 34, 3) := by decide +kernel
theorem dX6_oneStep_134 : decode cX6_oneStep 134 = .ok (.iload_n 2, 1) := by decide +kernel
theorem dX6_oneStep_135 : decode cX6_oneStep 135 = .ok (.dup2, 1) := by decide +kernel
theorem dX6_oneStep_136 : decode cX6_oneStep 136 = .ok (.iaload, 1) := by decide +kernel
theorem dX6_oneStep_137 : decode cX6_oneStep 137 = .ok (.aload_n 0, 1) := by decide +kernel
theorem dX6_oneStep_138 : decode cX6_oneStep 138 = .ok (.getfield 34, 3) := by decide +kernel
theorem dX6_oneStep_141 : decode cX6_oneStep 141 = .ok (.iload_n 2, 1) := by decide +kernel
theorem dX6_oneStep_142 : decode cX6_oneStep 142 = .ok (.iconst 1, 1) := by decide +kernel
theorem dX6_oneStep_143 : decode cX6_oneStep 143 = .ok (.iadd, 1) := by decide +kernel
theorem dX6_oneStep_144 : decode cX6_oneStep 144 = .ok (.iaload, 1) := by decide +kernel
theorem dX6_oneStep_145 : decode cX6_oneStep 145 = .ok (.iadd, 1) := by decide +kernel
theorem dX6_oneStep_146 : decode cX6_oneStep 146 = .ok (.iastore, 1) := by decide +kernel
theorem dX6_oneStep_147 : decode cX6_oneStep 147 = .ok (.aload_n 0, 1) := by decide +kernel
theorem dX6_oneStep_148 : decode cX6_oneStep 148 = .ok (.dup, 1) := by decide +kernel
theorem dX6_oneStep_149 : decode cX6_oneStep 149 = .ok (.getfield 81, 3) := by decide +kernel
theorem dX6_oneStep_152 : decode cX6_oneStep 152 = .ok (.iconst 1, 1) := by decide +kernel
theorem dX6_oneStep_153 : decode cX6_oneStep 153 = .ok (.isub, 1) := by decide +kernel
theorem dX6_oneStep_154 : decode cX6_oneStep 154 = .ok (.putfield 81, 3) := by decide +kernel
theorem dX6_oneStep_157 : decode cX6_oneStep 157 = .ok (.iload_n 2, 1) := by decide +kernel
theorem dX6_oneStep_158 : decode cX6_oneStep 158 = .ok (.iconst 1, 1) := by decide +kernel
theorem dX6_oneStep_159 : decode cX6_oneStep 159 = .ok (.iadd, 1) := by decide +kernel
theorem dX6_oneStep_160 : decode cX6_oneStep 160 = .ok (.istore_n 3, 1) := by decide +kernel
theorem dX6_oneStep_161 : decode cX6_oneStep 161 = .ok (.iload_n 3, 1) := by decide +kernel
theorem dX6_oneStep_162 : decode cX6_oneStep 162 = .ok (.aload_n 0, 1) := by decide +kernel
theorem dX6_oneStep_163 : decode cX6_oneStep 163 = .ok (.getfield 81, 3) := by decide +kernel
theorem dX6_oneStep_166 : decode cX6_oneStep 166 = .ok (.if_icmp .ge 37, 3) := by decide +kernel
theorem dX6_oneStep_169 : decode cX6_oneStep 169 = .ok (.aload_n 0, 1) := by decide +kernel
theorem dX6_oneStep_170 : decode cX6_oneStep 170 = .ok (.getfield 31, 3) := by decide +kernel
theorem dX6_oneStep_173 : decode cX6_oneStep 173 = .ok (.iload_n 3, 1) := by decide +kernel
theorem dX6_oneStep_174 : decode cX6_oneStep 174 = .ok (.aload_n 0, 1) := by decide +kernel
theorem dX6_oneStep_175 : decode cX6_oneStep 175 = .ok (.getfield 31, 3) := by decide +kernel
theorem dX6_oneStep_178 : decode cX6_oneStep 178 = .ok (.iload_n 3, 1) := by decide +kernel
theorem dX6_oneStep_179 : decode cX6_oneStep 179 = .ok (.iconst 1, 1) := by decide +kernel
theorem dX6_oneStep_180 : decode cX6_oneStep 180 = .ok (.iadd, 1) := by decide +kernel
theorem dX6_oneStep_181 : decode cX6_oneStep 181 = .ok (.iaload, 1) := by decide +kernel
theorem dX6_oneStep_182 : decode cX6_oneStep 182 = .ok (.iastore, 1) := by decide +kernel
theorem dX6_oneStep_183 : decode cX6_oneStep 183 = .ok (.aload_n 0, 1) := by decide +kernel
theorem dX6_oneStep_184 : decode cX6_oneStep 184 = .ok (.getfield 34, 3) := by decide +kernel
theorem dX6_oneStep_187 : decode cX6_oneStep 187 = .ok (.iload_n 3, 1) := by decide +kernel
theorem dX6_oneStep_188 : decode cX6_oneStep 188 = .ok (.aload_n 0, 1) := by decide +kernel
theorem dX6_oneStep_189 : decode cX6_oneStep 189 = .ok (.getfield 34, 3) := by decide +kernel
theorem dX6_oneStep_192 : decode cX6_oneStep 192 = .ok (.iload_n 3, 1) := by decide +kernel
theorem dX6_oneStep_193 : decode cX6_oneStep 193 = .ok (.iconst 1, 1) := by decide +kernel
theorem dX6_oneStep_194 : decode cX6_oneStep 194 = .ok (.iadd, 1) := by decide +kernel
theorem dX6_oneStep_195 : decode cX6_oneStep 195 = .ok (.iaload, 1) := by decide +kernel
theorem dX6_oneStep_196 : decode cX6_oneStep 196 = .ok (.iastore, 1) := by decide +kernel
theorem dX6_oneStep_197 : decode cX6_oneStep 197 = .ok (.iinc 3 1, 3) := by decide +kernel
theorem dX6_oneStep_200 : decode cX6_oneStep 200 = .ok (.goto (-39), 3) := by decide +kernel
theorem dX6_oneStep_203 : decode cX6_oneStep 203 = .ok (.aload_n 0, 1) := by decide +kernel
theorem dX6_oneStep_204 : decode cX6_oneStep 204 = .ok (.getfield 37, 3) := by decide +kernel
theorem dX6_oneStep_207 : decode cX6_oneStep 207 = .ok (.bipush 11, 2) := by decide +kernel
theorem dX6_oneStep_209 : decode cX6_oneStep 209 = .ok (.dup2, 1) := by decide +kernel
theorem dX6_oneStep_210 : decode cX6_oneStep 210 = .ok (.iaload, 1) := by decide +kernel
theorem dX6_oneStep_211 : decode cX6_oneStep 211 = .ok (.iconst 1, 1) := by decide +kernel
theorem dX6_oneStep_212 : decode cX6_oneStep 212 = .ok (.iadd, 1) := by decide +kernel
theorem dX6_oneStep_213 : decode cX6_oneStep 213 = .ok (.iastore, 1) := by decide +kernel
theorem dX6_oneStep_214 : decode cX6_oneStep 214 = .ok (.return_, 1) := by decide +kernel
set_option maxRecDepth 20000 in
theorem ggX6_step_X6_in : GoodIn wsX6_step wsX6_in := goodIn_r _ [5] rfl (by decide +kernel)
set_option maxRecDepth 20000 in
theorem gX6_step_X6_in : GoodIn wsX6_step (va_wsS RX6 66 yX6_in wsX6_in) := goodIn_app (goodIn_of _ (by decide +kernel)) ggX6_step_X6_in
set_option maxRecDepth 20000 in
theorem ggX6_step_X6_next : GoodIn wsX6_step wsX6_next := goodIn_r _ [9, 10, 11, 12, 13, 14, 4, 15, 16, 17, 18, 19, 20, 21, 22, 23, 24, 25, 26, 27, 28, 112, 113, 114, 115, 116, 117, 118, 119, 120, 121, 122, 123, 124, 125, 126, 127, 128, 129, 130, 131, 132, 133, 134, 135, 136, 137] rfl (by decide +kernel)
set_option maxRecDepth 20000 in
theorem gX6_step_X6_next : GoodIn wsX6_step (wsV RX6 129 RX6 yX6_next wsX6_next) := goodIn_app (goodIn_of _ (by decide +kernel)) ggX6_step_X6_next
set_option maxRecDepth 20000 in
theorem ggX6_step_X6_oneStep : GoodIn wsX6_step wsX6_oneStep := goodIn_r _ [32, 19, 16, 33, 17, 10, 34, 6, 7, 8, 4, 9, 11, 12, 13, 14, 15, 18, 20, 21, 22, 23, 24, 25, 26, 27, 28, 35, 36, 37, 38, 39, 40, 41, 42, 43, 44, 45, 46, 47, 48, 49, 50, 51, 52, 53, 54, 55, 56, 57, 58, 59, 60, 61, 62, 63, 64, 65, 66, 67, 68, 69, 70, 71, 72, 73, 74, 75, 76, 77, 78, 79, 80, 81, 82, 83, 84, 85, 86, 87, 88, 89, 90, 91, 92, 93, 94, 95, 96, 97, 98, 99, 100, 101, 102, 103, 104, 105, 106, 107, 108, 109, 110, 111, 112, 113, 114, 115, 116, 117, 118, 119, 120, 121, 122, 123, 124, 125, 126, 127, 128, 129, 130, 131, 132, 133, 134, 135, 136, 137] rfl (by decide +kernel)
set_option maxRecDepth 20000 in
theorem gX6_step_X6_oneStep : GoodIn wsX6_step (wsV RX6 141 RX6 yX6_oneStep wsX6_oneStep) := goodIn_app (goodIn_of _ (by decide +kernel)) ggX6_step_X6_oneStep
theorem dX6_step_0 : decode cX6_step 0 = .ok (.iload_n 1, 1) := by decide +kernel
theorem dX6_step_1 : decode cX6_step 1 = .ok (.i2l, 1) := by decide +kernel
theorem dX6_step_2 : decode cX6_step 2 = .ok (.lconst 1, 1) := by decide +kernel
theorem dX6_step_3 : decode cX6_step 3 = .ok (.ldc2_w 139, 3) := by decide +kernel
theorem dX6_step_6 : decode cX6_step 6 = .ok (.invokestatic 66, 3) := by decide +kernel
theorem dX6_step_9 : decode cX6_step 9 = .ok (.ifCond .ne 5, 3) := by decide +kernel
theorem dX6_step_12 : decode cX6_step 12 = .ok (.iconst (-1), 1) := by decide +kernel
theorem dX6_step_13 : decode cX6_step 13 = .ok (.ireturn, 1) := by decide +kernel
theorem dX6_step_14 : decode cX6_step 14 = .ok (.iconst 0, 1) := by decide +kernel
theorem dX6_step_15 : decode cX6_step 15 = .ok (.istore_n 2, 1) := by decide +kernel
theorem dX6_step_16 : decode cX6_step 16 = .ok (.iload_n 2, 1) := by decide +kernel
theorem dX6_step_17 : decode cX6_step 17 = .ok (.iload_n 1, 1) := by decide +kernel
theorem dX6_step_18 : decode cX6_step 18 = .ok (.if_icmp .ge 20, 3) := by decide +kernel
theorem dX6_step_21 : decode cX6_step 21 = .ok (.aload_n 0, 1) := by decide +kernel
theorem dX6_step_22 : decode cX6_step 22 = .ok (.invokevirtual 129, 3) := by decide +kernel
theorem dX6_step_25 : decode cX6_step 25 = .ok (.ifCond .eq 13, 3) := by decide +kernel
theorem dX6_step_28 : decode cX6_step 28 = .ok (.aload_n 0, 1) := by decide +kernel
theorem dX6_step_29 : decode cX6_step 29 = .ok (.invokevirtual 141, 3) := by decide +kernel
theorem dX6_step_32 : decode cX6_step 32 = .ok (.iinc 2 1, 3) := by decide +kernel
theorem dX6_step_35 : decode cX6_step 35 = .ok (.goto (-19), 3) := by decide +kernel
theorem dX6_step_38 : decode cX6_step 38 = .ok (.iload_n 2, 1) := by decide +kernel
theorem dX6_step_39 : decode cX6_step 39 = .ok (.ireturn, 1) := by decide +kernel
theorem dX6_keyA_0 : decode cX6_keyA 0 = .ok (.aload_n 0, 1) := by decide +kernel
theorem dX6_keyA_1 : decode cX6_keyA 1 = .ok (.getfield 144, 3) := by decide +kernel
theorem dX6_keyA_4 : decode cX6_keyA 4 = .ok (.ifCond .eq 12, 3) := by decide +kernel
theorem dX6_keyA_7 : decode cX6_keyA 7 = .ok (.aload_n 0, 1) := by decide +kernel
theorem dX6_keyA_8 : decode cX6_keyA 8 = .ok (.getfield 25, 3) := by decide +kernel
theorem dX6_keyA_11 : decode cX6_keyA 11 = .ok (.iload_n 1, 1) := by decide +kernel
theorem dX6_keyA_12 : decode cX6_keyA 12 = .ok (.iaload, 1) := by decide +kernel
theorem dX6_keyA_13 : decode cX6_keyA 13 = .ok (.goto 9, 3) := by decide +kernel
theorem dX6_keyA_16 : decode cX6_keyA 16 = .ok (.aload_n 0, 1) := by decide +kernel
theorem dX6_keyA_17 : decode cX6_keyA 17 = .ok (.getfield 19, 3) := by decide +kernel
theorem dX6_keyA_20 : decode cX6_keyA 20 = .ok (.iload_n 1, 1) := by decide +kernel
theorem dX6_keyA_21 : decode cX6_keyA 21 = .ok (.iaload, 1) := by decide +kernel
theorem dX6_keyA_22 : decode cX6_keyA 22 = .ok (.ireturn, 1) := by decide +kernel
theorem dX6_keyB_0 : decode cX6_keyB 0 = .ok (.aload_n 0, 1) := by decide +kernel
theorem dX6_keyB_1 : decode cX6_keyB 1 = .ok (.getfield 144, 3) := by decide +kernel
theorem dX6_keyB_4 : decode cX6_keyB 4 = .ok (.ifCond .eq 12, 3) := by decide +kernel
theorem dX6_keyB_7 : decode cX6_keyB 7 = .ok (.aload_n 0, 1) := by decide +kernel
theorem dX6_keyB_8 : decode cX6_keyB 8 = .ok (.getfield 19, 3) := by decide +kernel
theorem dX6_keyB_11 : decode cX6_keyB 11 = .ok (.iload_n 1, 1) := by decide +kernel
theorem dX6_keyB_12 : decode cX6_keyB 12 = .ok (.iaload, 1) := by decide +kernel
theorem dX6_keyB_13 : decode cX6_keyB 13 = .ok (.goto 9, 3) := by decide +kernel
theorem dX6_keyB_16 : decode cX6_keyB 16 = .ok (.aload_n 0, 1) := by decide +kernel
theorem dX6_keyB_17 : decode cX6_keyB 17 = .ok (.getfield 25, 3) := by decide +kernel
theorem dX6_keyB_20 : decode cX6_keyB 20 = .ok (.iload_n 1, 1) := by decide +kernel
theorem dX6_keyB_21 : decode cX6_keyB 21 = .ok (.iaload, 1) := by decide +kernel
theorem dX6_keyB_22 : decode cX6_keyB 22 = .ok (.ireturn, 1) := by decide +kernel
set_option maxRecDepth 20000 in
theorem ggX6_passes_X6_keyA : GoodIn wsX6_passes wsX6_keyA := goodIn_r _ [6, 7, 8, 1, 26, 27, 28, 29, 30, 31, 32, 33, 34, 35, 36, 37, 38, 39, 40, 41, 42, 43, 44, 45, 46, 47, 48, 49, 50, 51] rfl (by decide +kernel)
set_option maxRecDepth 20000 in
theorem gX6_passes_X6_keyA : GoodIn wsX6_passes (wsV RX6 148 RX6 yX6_keyA wsX6_keyA) := goodIn_app (goodIn_of _ (by decide +kernel)) ggX6_passes_X6_keyA
set_option maxRecDepth 20000 in
theorem ggX6_passes_X6_tests : GoodIn wsX6_passes wsX6_tests := goodIn_r _ [12, 13, 14, 15, 16, 5, 17, 18, 19, 20, 21, 26, 27, 28, 29, 30, 31, 32, 33, 34, 35, 36, 37, 38, 39, 40, 41, 42, 43, 44, 45, 46, 47, 48, 49, 50, 51] rfl (by decide +kernel)
set_option maxRecDepth 20000 in
theorem gX6_passes_X6_tests : GoodIn wsX6_passes (wsV RX6 112 RX6 yX6_tests wsX6_tests) := goodIn_app (goodIn_of _ (by decide +kernel)) ggX6_passes_X6_tests
set_option maxRecDepth 20000 in
theorem ggX6_passes_X6_keyB : GoodIn wsX6_passes wsX6_keyB := goodIn_r _ [25, 7, 1, 8, 26, 27, 28, 29, 30, 31, 32, 33, 34, 35, 36, 37, 38, 39, 40, 41, 42, 43, 44, 45, 46, 47, 48, 49, 50, 51] rfl (by decide +kernel)
set_option maxRecDepth 20000 in
theorem gX6_passes_X6_keyB : GoodIn wsX6_passes (wsV RX6 152 RX6 yX6_keyB wsX6_keyB) := goodIn_app (goodIn_of _ (by decide +kernel)) ggX6_passes_X6_keyB
theorem dX6_passes_0 : decode cX6_passes 0 = .ok (.iload_n 1, 1) := by decide +kernel
theorem dX6_passes_1 : decode cX6_passes 1 = .ok (.tableswitch 115 0 4 #[35, 54, 65, 76, 95], 35) := by decide +kernel
theorem dX6_passes_36 : decode cX6_passes 36 = .ok (.aload_n 0, 1) := by decide +kernel
theorem dX6_passes_37 : decode cX6_passes 37 = .ok (.iload_n 3, 1) := by decide +kernel
theorem dX6_passes_38 : decode cX6_passes 38 = .ok (.aload_n 0, 1) := by decide +kernel
theorem dX6_passes_39 : decode cX6_passes 39 = .ok (.iload_n 2, 1) := by decide +kernel
theorem dX6_passes_40 : decode cX6_passes 40 = .ok (.invokevirtual 148, 3) := by decide +kernel
theorem dX6_passes_43 : decode cX6_passes 43 = .ok (.invokevirtual 112, 3) := by decide +kernel
theorem dX6_passes_46 : decode cX6_passes 46 = .ok (.ifCond .ne 7, 3) := by decide +kernel
theorem dX6_passes_49 : decode cX6_passes 49 = .ok (.iconst 1, 1) := by decide +kernel
theorem dX6_passes_50 : decode cX6_passes 50 = .ok (.goto 4, 3) := by decide +kernel
theorem dX6_passes_53 : decode cX6_passes 53 = .ok (.iconst 0, 1) := by decide +kernel
theorem dX6_passes_54 : decode cX6_passes 54 = .ok (.ireturn, 1) := by decide +kernel
theorem dX6_passes_55 : decode cX6_passes 55 = .ok (.aload_n 0, 1) := by decide +kernel
theorem dX6_passes_56 : decode cX6_passes 56 = .ok (.aload_n 0, 1) := by decide +kernel
theorem dX6_passes_57 : decode cX6_passes 57 = .ok (.iload_n 2, 1) := by decide +kernel
theorem dX6_passes_58 : decode cX6_passes 58 = .ok (.invokevirtual 152, 3) := by decide +kernel
theorem dX6_passes_61 : decode cX6_passes 61 = .ok (.iload_n 3, 1) := by decide +kernel
theorem dX6_passes_62 : decode cX6_passes 62 = .ok (.invokevirtual 112, 3) := by decide +kernel
theorem dX6_passes_65 : decode cX6_passes 65 = .ok (.ireturn, 1) := by decide +kernel
theorem dX6_passes_66 : decode cX6_passes 66 = .ok (.aload_n 0, 1) := by decide +kernel
theorem dX6_passes_67 : decode cX6_passes 67 = .ok (.iload_n 3, 1) := by decide +kernel
theorem dX6_passes_68 : decode cX6_passes 68 = .ok (.aload_n 0, 1) := by decide +kernel
theorem dX6_passes_69 : decode cX6_passes 69 = .ok (.iload_n 2, 1) := by decide +kernel
theorem dX6_passes_70 : decode cX6_passes 70 = .ok (.invokevirtual 148, 3) := by decide +kernel
theorem dX6_passes_73 : decode cX6_passes 73 = .ok (.invokevirtual 112, 3) := by decide +kernel
theorem dX6_passes_76 : decode cX6_passes 76 = .ok (.ireturn, 1) := by decide +kernel
theorem dX6_passes_77 : decode cX6_passes 77 = .ok (.aload_n 0, 1) := by decide +kernel
theorem dX6_passes_78 : decode cX6_passes 78 = .ok (.aload_n 0, 1) := by decide +kernel
theorem dX6_passes_79 : decode cX6_passes 79 = .ok (.iload_n 2, 1) := by decide +kernel
theorem dX6_passes_80 : decode cX6_passes 80 = .ok (.invokevirtual 152, 3) := by decide +kernel
theorem dX6_passes_83 : decode cX6_passes 83 = .ok (.iload_n 3, 1) := by decide +kernel
theorem dX6_passes_84 : decode cX6_passes 84 = .ok (.invokevirtual 112, 3) := by decide +kernel
theorem dX6_passes_87 : decode cX6_passes 87 = .ok (.ifCond .ne 7, 3) := by decide +kernel
theorem dX6_passes_90 : decode cX6_passes 90 = .ok (.iconst 1, 1) := by decide +kernel
theorem dX6_passes_91 : decode cX6_passes 91 = .ok (.goto 4, 3) := by decide +kernel
theorem dX6_passes_94 : decode cX6_passes 94 = .ok (.iconst 0, 1) := by decide +kernel
theorem dX6_passes_95 : decode cX6_passes 95 = .ok (.ireturn, 1) := by decide +kernel
theorem dX6_passes_96 : decode cX6_passes 96 = .ok (.aload_n 0, 1) := by decide +kernel
theorem dX6_passes_97 : decode cX6_passes 97 = .ok (.iload_n 3, 1) := by decide +kernel
theorem dX6_passes_98 : decode cX6_passes 98 = .ok (.aload_n 0, 1) := by decide +kernel
theorem dX6_passes_99 : decode cX6_passes 99 = .ok (.getfield 19, 3) := by decide +kernel
theorem dX6_passes_102 : decode cX6_passes 102 = .ok (.iload_n 2, 1) := by decide +kernel
theorem dX6_passes_103 : decode cX6_passes 103 = .ok (.iaload, 1) := by decide +kernel
theorem dX6_passes_104 : decode cX6_passes 104 = .ok (.invokevirtual 112, 3) := by decide +kernel
theorem dX6_passes_107 : decode cX6_passes 107 = .ok (.ifCond .ne 7, 3) := by decide +kernel
theorem dX6_passes_110 : decode cX6_passes 110 = .ok (.iconst 1, 1) := by decide +kernel
theorem dX6_passes_111 : decode cX6_passes 111 = .ok (.goto 4, 3) := by decide +kernel
theorem dX6_passes_114 : decode cX6_passes 114 = .ok (.iconst 0, 1) := by decide +kernel
theorem dX6_passes_115 : decode cX6_passes 115 = .ok (.ireturn, 1) := by decide +kernel
theorem dX6_passes_116 : decode cX6_passes 116 = .ok (.aload_n 0, 1) := by decide +kernel
theorem dX6_passes_117 : decode cX6_passes 117 = .ok (.aload_n 0, 1) := by decide +kernel
theorem dX6_passes_118 : decode cX6_passes 118 = .ok (.getfield 19, 3) := by decide +kernel
theorem dX6_passes_121 : decode cX6_passes 121 = .ok (.iload_n 2, 1) := by decide +kernel
theorem dX6_passes_122 : decode cX6_passes 122 = .ok (.iaload, 1) := by decide +kernel
theorem dX6_passes_123 : decode cX6_passes 123 = .ok (.iload_n 3, 1) := by decide +kernel
theorem dX6_passes_124 : decode cX6_passes 124 = .ok (.invokevirtual 112, 3) := by decide +kernel
theorem dX6_passes_127 : decode cX6_passes 127 = .ok (.ireturn, 1) := by decide +kernel
set_option maxRecDepth 20000 in
theorem ggX6_seeks_X6_passes : GoodIn wsX6_seeks wsX6_passes := goodIn_r _ [5, 6, 7, 8, 9, 4, 10, 11, 12, 13, 14, 15, 16, 17, 18, 19, 20, 21, 22, 23, 24, 25, 26, 27, 28, 29, 30, 31, 32, 33, 34, 35, 36, 37, 38, 39, 40, 41, 42, 43, 44, 45, 46, 47, 48, 49, 50, 51, 52, 53, 54, 55] rfl (by decide +kernel)
set_option maxRecDepth 20000 in
theorem gX6_seeks_X6_passes : GoodIn wsX6_seeks (wsV RX6 155 RX6 yX6_passes wsX6_passes) := goodIn_app (goodIn_of _ (by decide +kernel)) ggX6_seeks_X6_passes
theorem dX6_seeks_0 : decode cX6_seeks 0 = .ok (.iconst 0, 1) := by decide +kernel
theorem dX6_seeks_1 : decode cX6_seeks 1 = .ok (.istore 6, 2) := by decide +kernel
theorem dX6_seeks_3 : decode cX6_seeks 3 = .ok (.iload 4, 2) := by decide +kernel
theorem dX6_seeks_5 : decode cX6_seeks 5 = .ok (.istore 7, 2) := by decide +kernel
theorem dX6_seeks_7 : decode cX6_seeks 7 = .ok (.iconst 0, 1) := by decide +kernel
theorem dX6_seeks_8 : decode cX6_seeks 8 = .ok (.istore 8, 2) := by decide +kernel
theorem dX6_seeks_10 : decode cX6_seeks 10 = .ok (.iconst 1, 1) := by decide +kernel
theorem dX6_seeks_11 : decode cX6_seeks 11 = .ok (.istore 9, 2) := by decide +kernel
theorem dX6_seeks_13 : decode cX6_seeks 13 = .ok (.iload 9, 2) := by decide +kernel
theorem dX6_seeks_15 : decode cX6_seeks 15 = .ok (.ifCond .eq 66, 3) := by decide +kernel
theorem dX6_seeks_18 : decode cX6_seeks 18 = .ok (.iload 8, 2) := by decide +kernel
theorem dX6_seeks_20 : decode cX6_seeks 20 = .ok (.iload 4, 2) := by decide +kernel
theorem dX6_seeks_22 : decode cX6_seeks 22 = .ok (.if_icmp .ge 59, 3) := by decide +kernel
theorem dX6_seeks_25 : decode cX6_seeks 25 = .ok (.aload_n 0, 1) := by decide +kernel
theorem dX6_seeks_26 : decode cX6_seeks 26 = .ok (.iload_n 1, 1) := by decide +kernel
theorem dX6_seeks_27 : decode cX6_seeks 27 = .ok (.iload_n 2, 1) := by decide +kernel
theorem dX6_seeks_28 : decode cX6_seeks 28 = .ok (.iload_n 3, 1) := by decide +kernel
theorem dX6_seeks_29 : decode cX6_seeks 29 = .ok (.iload 8, 2) := by decide +kernel
theorem dX6_seeks_31 : decode cX6_seeks 31 = .ok (.imul, 1) := by decide +kernel
theorem dX6_seeks_32 : decode cX6_seeks 32 = .ok (.iadd, 1) := by decide +kernel
theorem dX6_seeks_33 : decode cX6_seeks 33 = .ok (.iload 5, 2) := by decide +kernel
theorem dX6_seeks_35 : decode cX6_seeks 35 = .ok (.invokevirtual 155, 3) := by decide +kernel
theorem dX6_seeks_38 : decode cX6_seeks 38 = .ok (.istore 9, 2) := by decide +kernel
theorem dX6_seeks_40 : decode cX6_seeks 40 = .ok (.iload 9, 2) := by decide +kernel
theorem dX6_seeks_42 : decode cX6_seeks 42 = .ok (.ifCond .eq 10, 3) := by decide +kernel
theorem dX6_seeks_45 : decode cX6_seeks 45 = .ok (.iload 8, 2) := by decide +kernel
theorem dX6_seeks_47 : decode cX6_seeks 47 = .ok (.iconst 1, 1) := by decide +kernel
theorem dX6_seeks_48 : decode cX6_seeks 48 = .ok (.iadd, 1) := by decide +kernel
theorem dX6_seeks_49 : decode cX6_seeks 49 = .ok (.goto 5, 3) := by decide +kernel
theorem dX6_seeks_52 : decode cX6_seeks 52 = .ok (.iload 6, 2) := by decide +kernel
theorem dX6_seeks_54 : decode cX6_seeks 54 = .ok (.istore 6, 2) := by decide +kernel
theorem dX6_seeks_56 : decode cX6_seeks 56 = .ok (.iload 9, 2) := by decide +kernel
theorem dX6_seeks_58 : decode cX6_seeks 58 = .ok (.ifCond .eq 8, 3) := by decide +kernel
theorem dX6_seeks_61 : decode cX6_seeks 61 = .ok (.iload 7, 2) := by decide +kernel
theorem dX6_seeks_63 : decode cX6_seeks 63 = .ok (.goto 5, 3) := by decide +kernel
theorem dX6_seeks_66 : decode cX6_seeks 66 = .ok (.iload 8, 2) := by decide +kernel
theorem dX6_seeks_68 : decode cX6_seeks 68 = .ok (.istore 7, 2) := by decide +kernel
theorem dX6_seeks_70 : decode cX6_seeks 70 = .ok (.iconst 2, 1) := by decide +kernel
theorem dX6_seeks_71 : decode cX6_seeks 71 = .ok (.iload 8, 2) := by decide +kernel
theorem dX6_seeks_73 : decode cX6_seeks 73 = .ok (.imul, 1) := by decide +kernel
theorem dX6_seeks_74 : decode cX6_seeks 74 = .ok (.iconst 2, 1) := by decide +kernel
theorem dX6_seeks_75 : decode cX6_seeks 75 = .ok (.iadd, 1) := by decide +kernel
theorem dX6_seeks_76 : decode cX6_seeks 76 = .ok (.istore 8, 2) := by decide +kernel
theorem dX6_seeks_78 : decode cX6_seeks 78 = .ok (.goto (-65), 3) := by decide +kernel
theorem dX6_seeks_81 : decode cX6_seeks 81 = .ok (.iload 6, 2) := by decide +kernel
theorem dX6_seeks_83 : decode cX6_seeks 83 = .ok (.iload 7, 2) := by decide +kernel
theorem dX6_seeks_85 : decode cX6_seeks 85 = .ok (.if_icmp .ge 44, 3) := by decide +kernel
theorem dX6_seeks_88 : decode cX6_seeks 88 = .ok (.iload 6, 2) := by decide +kernel
theorem dX6_seeks_90 : decode cX6_seeks 90 = .ok (.iload 7, 2) := by decide +kernel
theorem dX6_seeks_92 : decode cX6_seeks 92 = .ok (.iadd, 1) := by decide +kernel
theorem dX6_seeks_93 : decode cX6_seeks 93 = .ok (.iconst 2, 1) := by decide +kernel
theorem dX6_seeks_94 : decode cX6_seeks 94 = .ok (.idiv, 1) := by decide +kernel
theorem dX6_seeks_95 : decode cX6_seeks 95 = .ok (.istore 10, 2) := by decide +kernel
theorem dX6_seeks_97 : decode cX6_seeks 97 = .ok (.aload_n 0, 1) := by decide +kernel
theorem dX6_seeks_98 : decode cX6_seeks 98 = .ok (.iload_n 1, 1) := by decide +kernel
theorem dX6_seeks_99 : decode cX6_seeks 99 = .ok (.iload_n 2, 1) := by decide +kernel
theorem dX6_seeks_100 : decode cX6_seeks 100 = .ok (.iload_n 3, 1) := by decide +kernel
theorem dX6_seeks_101 : decode cX6_seeks 101 = .ok (.iload 10, 2) := by decide +kernel
theorem dX6_seeks_103 : decode cX6_seeks 103 = .ok (.imul, 1) := by decide +kernel
theorem dX6_seeks_104 : decode cX6_seeks 104 = .ok (.iadd, 1) := by decide +kernel
theorem dX6_seeks_105 : decode cX6_seeks 105 = .ok (.iload 5, 2) := by decide +kernel
theorem dX6_seeks_107 : decode cX6_seeks 107 = .ok (.invokevirtual 155, 3) := by decide +kernel
theorem dX6_seeks_110 : decode cX6_seeks 110 = .ok (.ifCond .eq 12, 3) := by decide +kernel
theorem dX6_seeks_113 : decode cX6_seeks 113 = .ok (.iload 10, 2) := by decide +kernel
theorem dX6_seeks_115 : decode cX6_seeks 115 = .ok (.iconst 1, 1) := by decide +kernel
theorem dX6_seeks_116 : decode cX6_seeks 116 = .ok (.iadd, 1) := by decide +kernel
theorem dX6_seeks_117 : decode cX6_seeks 117 = .ok (.istore 6, 2) := by decide +kernel
theorem dX6_seeks_119 : decode cX6_seeks 119 = .ok (.goto 7, 3) := by decide +kernel
theorem dX6_seeks_122 : decode cX6_seeks 122 = .ok (.iload 10, 2) := by decide +kernel
theorem dX6_seeks_124 : decode cX6_seeks 124 = .ok (.istore 7, 2) := by decide +kernel
theorem dX6_seeks_126 : decode cX6_seeks 126 = .ok (.goto (-45), 3) := by decide +kernel
theorem dX6_seeks_129 : decode cX6_seeks 129 = .ok (.iload 6, 2) := by decide +kernel
theorem dX6_seeks_131 : decode cX6_seeks 131 = .ok (.ireturn, 1) := by decide +kernel
theorem dX6_puts_0 : decode cX6_puts 0 = .ok (.aload_n 0, 1) := by decide +kernel
theorem dX6_puts_1 : decode cX6_puts 1 = .ok (.getfield 19, 3) := by decide +kernel
theorem dX6_puts_4 : decode cX6_puts 4 = .ok (.aload_n 0, 1) := by decide +kernel
theorem dX6_puts_5 : decode cX6_puts 5 = .ok (.getfield 159, 3) := by decide +kernel
theorem dX6_puts_8 : decode cX6_puts 8 = .ok (.iload_n 1, 1) := by decide +kernel
theorem dX6_puts_9 : decode cX6_puts 9 = .ok (.iastore, 1) := by decide +kernel
theorem dX6_puts_10 : decode cX6_puts 10 = .ok (.aload_n 0, 1) := by decide +kernel
theorem dX6_puts_11 : decode cX6_puts 11 = .ok (.getfield 22, 3) := by decide +kernel
theorem dX6_puts_14 : decode cX6_puts 14 = .ok (.aload_n 0, 1) := by decide +kernel
theorem dX6_puts_15 : decode cX6_puts 15 = .ok (.getfield 159, 3) := by decide +kernel
theorem dX6_puts_18 : decode cX6_puts 18 = .ok (.iload_n 2, 1) := by decide +kernel
theorem dX6_puts_19 : decode cX6_puts 19 = .ok (.iastore, 1) := by decide +kernel
theorem dX6_puts_20 : decode cX6_puts 20 = .ok (.aload_n 0, 1) := by decide +kernel
theorem dX6_puts_21 : decode cX6_puts 21 = .ok (.dup, 1) := by decide +kernel
theorem dX6_puts_22 : decode cX6_puts 22 = .ok (.getfield 159, 3) := by decide +kernel
theorem dX6_puts_25 : decode cX6_puts 25 = .ok (.aload_n 0, 1) := by decide +kernel
theorem dX6_puts_26 : decode cX6_puts 26 = .ok (.getfield 144, 3) := by decide +kernel
theorem dX6_puts_29 : decode cX6_puts 29 = .ok (.ifCond .eq 7, 3) := by decide +kernel
theorem dX6_puts_32 : decode cX6_puts 32 = .ok (.iconst 1, 1) := by decide +kernel
theorem dX6_puts_33 : decode cX6_puts 33 = .ok (.goto 4, 3) := by decide +kernel
theorem dX6_puts_36 : decode cX6_puts 36 = .ok (.iconst (-1), 1) := by decide +kernel
theorem dX6_puts_37 : decode cX6_puts 37 = .ok (.iadd, 1) := by decide +kernel
theorem dX6_puts_38 : decode cX6_puts 38 = .ok (.putfield 159, 3) := by decide +kernel
theorem dX6_puts_41 : decode cX6_puts 41 = .ok (.aload_n 0, 1) := by decide +kernel
theorem dX6_puts_42 : decode cX6_puts 42 = .ok (.getfield 37, 3) := by decide +kernel
theorem dX6_puts_45 : decode cX6_puts 45 = .ok (.iconst 1, 1) := by decide +kernel
theorem dX6_puts_46 : decode cX6_puts 46 = .ok (.dup2, 1) := by decide +kernel
theorem dX6_puts_47 : decode cX6_puts 47 = .ok (.iaload, 1) := by decide +kernel
theorem dX6_puts_48 : decode cX6_puts 48 = .ok (.iconst 1, 1) := by decide +kernel
theorem dX6_puts_49 : decode cX6_puts 49 = .ok (.iadd, 1) := by decide +kernel
theorem dX6_puts_50 : decode cX6_puts 50 = .ok (.iastore, 1) := by decide +kernel
theorem dX6_puts_51 : decode cX6_puts 51 = .ok (.return_, 1) := by decide +kernel
set_option maxRecDepth 20000 in
theorem ggX6_takeA_X6_keyA : GoodIn wsX6_takeA wsX6_keyA := goodIn_r _ [10, 1, 11, 12, 19, 20, 21, 22, 23, 24, 25, 26, 27, 28, 29, 30, 31, 32, 33, 34, 35, 36, 37, 38, 39, 40, 41, 42, 43, 44] rfl (by decide +kernel)
set_option maxRecDepth 20000 in
theorem gX6_takeA_X6_keyA : GoodIn wsX6_takeA (wsV RX6 148 RX6 yX6_keyA wsX6_keyA) := goodIn_app (goodIn_of _ (by decide +kernel)) ggX6_takeA_X6_keyA
set_option maxRecDepth 20000 in
theorem ggX6_takeA_X6_puts : GoodIn wsX6_takeA wsX6_puts := goodIn_r _ [16, 12, 17, 5, 1, 18, 19, 20, 21, 22, 23, 24, 25, 26, 27, 28, 29, 30, 31, 32, 33, 34, 35, 36, 37, 38, 39, 40, 41, 42, 43, 44] rfl (by decide +kernel)
set_option maxRecDepth 20000 in
theorem gX6_takeA_X6_puts : GoodIn wsX6_takeA (wsV RX6 168 RX6 yX6_puts wsX6_puts) := goodIn_app (goodIn_of _ (by decide +kernel)) ggX6_takeA_X6_puts
theorem dX6_takeA_0 : decode cX6_takeA 0 = .ok (.iconst 0, 1) := by decide +kernel
theorem dX6_takeA_1 : decode cX6_takeA 1 = .ok (.istore_n 2, 1) := by decide +kernel
theorem dX6_takeA_2 : decode cX6_takeA 2 = .ok (.iload_n 2, 1) := by decide +kernel
theorem dX6_takeA_3 : decode cX6_takeA 3 = .ok (.iload_n 1, 1) := by decide +kernel
theorem dX6_takeA_4 : decode cX6_takeA 4 = .ok (.if_icmp .ge 103, 3) := by decide +kernel
theorem dX6_takeA_7 : decode cX6_takeA 7 = .ok (.aload_n 0, 1) := by decide +kernel
theorem dX6_takeA_8 : decode cX6_takeA 8 = .ok (.getfield 144, 3) := by decide +kernel
theorem dX6_takeA_11 : decode cX6_takeA 11 = .ok (.ifCond .eq 10, 3) := by decide +kernel
theorem dX6_takeA_14 : decode cX6_takeA 14 = .ok (.aload_n 0, 1) := by decide +kernel
theorem dX6_takeA_15 : decode cX6_takeA 15 = .ok (.getfield 162, 3) := by decide +kernel
theorem dX6_takeA_18 : decode cX6_takeA 18 = .ok (.goto 9, 3) := by decide +kernel
theorem dX6_takeA_21 : decode cX6_takeA 21 = .ok (.aload_n 0, 1) := by decide +kernel
theorem dX6_takeA_22 : decode cX6_takeA 22 = .ok (.getfield 165, 3) := by decide +kernel
theorem dX6_takeA_25 : decode cX6_takeA 25 = .ok (.iconst 1, 1) := by decide +kernel
theorem dX6_takeA_26 : decode cX6_takeA 26 = .ok (.isub, 1) := by decide +kernel
theorem dX6_takeA_27 : decode cX6_takeA 27 = .ok (.istore_n 3, 1) := by decide +kernel
theorem dX6_takeA_28 : decode cX6_takeA 28 = .ok (.aload_n 0, 1) := by decide +kernel
theorem dX6_takeA_29 : decode cX6_takeA 29 = .ok (.aload_n 0, 1) := by decide +kernel
theorem dX6_takeA_30 : decode cX6_takeA 30 = .ok (.iload_n 3, 1) := by decide +kernel
theorem dX6_takeA_31 : decode cX6_takeA 31 = .ok (.invokevirtual 148, 3) := by decide +kernel
theorem dX6_takeA_34 : decode cX6_takeA 34 = .ok (.aload_n 0, 1) := by decide +kernel
theorem dX6_takeA_35 : decode cX6_takeA 35 = .ok (.getfield 144, 3) := by decide +kernel
theorem dX6_takeA_38 : decode cX6_takeA 38 = .ok (.ifCond .eq 12, 3) := by decide +kernel
theorem dX6_takeA_41 : decode cX6_takeA 41 = .ok (.aload_n 0, 1) := by decide +kernel
theorem dX6_takeA_42 : decode cX6_takeA 42 = .ok (.getfield 28, 3) := by decide +kernel
theorem dX6_takeA_45 : decode cX6_takeA 45 = .ok (.iload_n 3, 1) := by decide +kernel
theorem dX6_takeA_46 : decode cX6_takeA 46 = .ok (.iaload, 1) := by decide +kernel
theorem dX6_takeA_47 : decode cX6_takeA 47 = .ok (.goto 9, 3) := by decide +kernel
theorem dX6_takeA_50 : decode cX6_takeA 50 = .ok (.aload_n 0, 1) := by decide +kernel
theorem dX6_takeA_51 : decode cX6_takeA 51 = .ok (.getfield 22, 3) := by decide +kernel
theorem dX6_takeA_54 : decode cX6_takeA 54 = .ok (.iload_n 3, 1) := by decide +kernel
theorem dX6_takeA_55 : decode cX6_takeA 55 = .ok (.iaload, 1) := by decide +kernel
theorem dX6_takeA_56 : decode cX6_takeA 56 = .ok (.invokevirtual 168, 3) := by decide +kernel
theorem dX6_takeA_59 : decode cX6_takeA 59 = .ok (.aload_n 0, 1) := by decide +kernel
theorem dX6_takeA_60 : decode cX6_takeA 60 = .ok (.dup, 1) := by decide +kernel
theorem dX6_takeA_61 : decode cX6_takeA 61 = .ok (.getfield 162, 3) := by decide +kernel
theorem dX6_takeA_64 : decode cX6_takeA 64 = .ok (.aload_n 0, 1) := by decide +kernel
theorem dX6_takeA_65 : decode cX6_takeA 65 = .ok (.getfield 144, 3) := by decide +kernel
theorem dX6_takeA_68 : decode cX6_takeA 68 = .ok (.ifCond .eq 7, 3) := by decide +kernel
theorem dX6_takeA_71 : decode cX6_takeA 71 = .ok (.iconst 1, 1) := by decide +kernel
theorem dX6_takeA_72 : decode cX6_takeA 72 = .ok (.goto 4, 3) := by decide +kernel
theorem dX6_takeA_75 : decode cX6_takeA 75 = .ok (.iconst 0, 1) := by decide +kernel
theorem dX6_takeA_76 : decode cX6_takeA 76 = .ok (.iadd, 1) := by decide +kernel
theorem dX6_takeA_77 : decode cX6_takeA 77 = .ok (.putfield 162, 3) := by decide +kernel
theorem dX6_takeA_80 : decode cX6_takeA 80 = .ok (.aload_n 0, 1) := by decide +kernel
theorem dX6_takeA_81 : decode cX6_takeA 81 = .ok (.dup, 1) := by decide +kernel
theorem dX6_takeA_82 : decode cX6_takeA 82 = .ok (.getfield 165, 3) := by decide +kernel
theorem dX6_takeA_85 : decode cX6_takeA 85 = .ok (.aload_n 0, 1) := by decide +kernel
theorem dX6_takeA_86 : decode cX6_takeA 86 = .ok (.getfield 144, 3) := by decide +kernel
theorem dX6_takeA_89 : decode cX6_takeA 89 = .ok (.ifCond .eq 7, 3) := by decide +kernel
theorem dX6_takeA_92 : decode cX6_takeA 92 = .ok (.iconst 0, 1) := by decide +kernel
theorem dX6_takeA_93 : decode cX6_takeA 93 = .ok (.goto 4, 3) := by decide +kernel
theorem dX6_takeA_96 : decode cX6_takeA 96 = .ok (.iconst 1, 1) := by decide +kernel
theorem dX6_takeA_97 : decode cX6_takeA 97 = .ok (.isub, 1) := by decide +kernel
theorem dX6_takeA_98 : decode cX6_takeA 98 = .ok (.putfield 165, 3) := by decide +kernel
theorem dX6_takeA_101 : decode cX6_takeA 101 = .ok (.iinc 2 1, 3) := by decide +kernel
theorem dX6_takeA_104 : decode cX6_takeA 104 = .ok (.goto (-102), 3) := by decide +kernel
theorem dX6_takeA_107 : decode cX6_takeA 107 = .ok (.return_, 1) := by decide +kernel
set_option maxRecDepth 20000 in
theorem ggX6_takeB_X6_keyB : GoodIn wsX6_takeB wsX6_keyB := goodIn_r _ [10, 1, 11, 12, 19, 20, 21, 22, 23, 24, 25, 26, 27, 28, 29, 30, 31, 32, 33, 34, 35, 36, 37, 38, 39, 40, 41, 42, 43, 44] rfl (by decide +kernel)
set_option maxRecDepth 20000 in
theorem gX6_takeB_X6_keyB : GoodIn wsX6_takeB (wsV RX6 152 RX6 yX6_keyB wsX6_keyB) := goodIn_app (goodIn_of _ (by decide +kernel)) ggX6_takeB_X6_keyB
set_option maxRecDepth 20000 in
theorem ggX6_takeB_X6_puts : GoodIn wsX6_takeB wsX6_puts := goodIn_r _ [16, 11, 17, 4, 1, 18, 19, 20, 21, 22, 23, 24, 25, 26, 27, 28, 29, 30, 31, 32, 33, 34, 35, 36, 37, 38, 39, 40, 41, 42, 43, 44] rfl (by decide +kernel)
set_option maxRecDepth 20000 in
theorem gX6_takeB_X6_puts : GoodIn wsX6_takeB (wsV RX6 168 RX6 yX6_puts wsX6_puts) := goodIn_app (goodIn_of _ (by decide +kernel)) ggX6_takeB_X6_puts
theorem dX6_takeB_0 : decode cX6_takeB 0 = .ok (.iconst 0, 1) := by decide +kernel
theorem dX6_takeB_1 : decode cX6_takeB 1 = .ok (.istore_n 2, 1) := by decide +kernel
theorem dX6_takeB_2 : decode cX6_takeB 2 = .ok (.iload_n 2, 1) := by decide +kernel
theorem dX6_takeB_3 : decode cX6_takeB 3 = .ok (.iload_n 1, 1) := by decide +kernel
theorem dX6_takeB_4 : decode cX6_takeB 4 = .ok (.if_icmp .ge 103, 3) := by decide +kernel
theorem dX6_takeB_7 : decode cX6_takeB 7 = .ok (.aload_n 0, 1) := by decide +kernel
theorem dX6_takeB_8 : decode cX6_takeB 8 = .ok (.getfield 144, 3) := by decide +kernel
theorem dX6_takeB_11 : decode cX6_takeB 11 = .ok (.ifCond .eq 10, 3) := by decide +kernel
theorem dX6_takeB_14 : decode cX6_takeB 14 = .ok (.aload_n 0, 1) := by decide +kernel
theorem dX6_takeB_15 : decode cX6_takeB 15 = .ok (.getfield 171, 3) := by decide +kernel
theorem dX6_takeB_18 : decode cX6_takeB 18 = .ok (.goto 9, 3) := by decide +kernel
theorem dX6_takeB_21 : decode cX6_takeB 21 = .ok (.aload_n 0, 1) := by decide +kernel
theorem dX6_takeB_22 : decode cX6_takeB 22 = .ok (.getfield 174, 3) := by decide +kernel
theorem dX6_takeB_25 : decode cX6_takeB 25 = .ok (.iconst 1, 1) := by decide +kernel
theorem dX6_takeB_26 : decode cX6_takeB 26 = .ok (.isub, 1) := by decide +kernel
theorem dX6_takeB_27 : decode cX6_takeB 27 = .ok (.istore_n 3, 1) := by decide +kernel
theorem dX6_takeB_28 : decode cX6_takeB 28 = .ok (.aload_n 0, 1) := by decide +kernel
theorem dX6_takeB_29 : decode cX6_takeB 29 = .ok (.aload_n 0, 1) := by decide +kernel
theorem dX6_takeB_30 : decode cX6_takeB 30 = .ok (.iload_n 3, 1) := by decide +kernel
theorem dX6_takeB_31 : decode cX6_takeB 31 = .ok (.invokevirtual 152, 3) := by decide +kernel
theorem dX6_takeB_34 : decode cX6_takeB 34 = .ok (.aload_n 0, 1) := by decide +kernel
theorem dX6_takeB_35 : decode cX6_takeB 35 = .ok (.getfield 144, 3) := by decide +kernel
theorem dX6_takeB_38 : decode cX6_takeB 38 = .ok (.ifCond .eq 12, 3) := by decide +kernel
theorem dX6_takeB_41 : decode cX6_takeB 41 = .ok (.aload_n 0, 1) := by decide +kernel
theorem dX6_takeB_42 : decode cX6_takeB 42 = .ok (.getfield 22, 3) := by decide +kernel
theorem dX6_takeB_45 : decode cX6_takeB 45 = .ok (.iload_n 3, 1) := by decide +kernel
theorem dX6_takeB_46 : decode cX6_takeB 46 = .ok (.iaload, 1) := by decide +kernel
theorem dX6_takeB_47 : decode cX6_takeB 47 = .ok (.goto 9, 3) := by decide +kernel
theorem dX6_takeB_50 : decode cX6_takeB 50 = .ok (.aload_n 0, 1) := by decide +kernel
theorem dX6_takeB_51 : decode cX6_takeB 51 = .ok (.getfield 28, 3) := by decide +kernel
theorem dX6_takeB_54 : decode cX6_takeB 54 = .ok (.iload_n 3, 1) := by decide +kernel
theorem dX6_takeB_55 : decode cX6_takeB 55 = .ok (.iaload, 1) := by decide +kernel
theorem dX6_takeB_56 : decode cX6_takeB 56 = .ok (.invokevirtual 168, 3) := by decide +kernel
theorem dX6_takeB_59 : decode cX6_takeB 59 = .ok (.aload_n 0, 1) := by decide +kernel
theorem dX6_takeB_60 : decode cX6_takeB 60 = .ok (.dup, 1) := by decide +kernel
theorem dX6_takeB_61 : decode cX6_takeB 61 = .ok (.getfield 171, 3) := by decide +kernel
theorem dX6_takeB_64 : decode cX6_takeB 64 = .ok (.aload_n 0, 1) := by decide +kernel
theorem dX6_takeB_65 : decode cX6_takeB 65 = .ok (.getfield 144, 3) := by decide +kernel
theorem dX6_takeB_68 : decode cX6_takeB 68 = .ok (.ifCond .eq 7, 3) := by decide +kernel
theorem dX6_takeB_71 : decode cX6_takeB 71 = .ok (.iconst 1, 1) := by decide +kernel
theorem dX6_takeB_72 : decode cX6_takeB 72 = .ok (.goto 4, 3) := by decide +kernel
theorem dX6_takeB_75 : decode cX6_takeB 75 = .ok (.iconst 0, 1) := by decide +kernel
theorem dX6_takeB_76 : decode cX6_takeB 76 = .ok (.iadd, 1) := by decide +kernel
theorem dX6_takeB_77 : decode cX6_takeB 77 = .ok (.putfield 171, 3) := by decide +kernel
theorem dX6_takeB_80 : decode cX6_takeB 80 = .ok (.aload_n 0, 1) := by decide +kernel
theorem dX6_takeB_81 : decode cX6_takeB 81 = .ok (.dup, 1) := by decide +kernel
theorem dX6_takeB_82 : decode cX6_takeB 82 = .ok (.getfield 174, 3) := by decide +kernel
theorem dX6_takeB_85 : decode cX6_takeB 85 = .ok (.aload_n 0, 1) := by decide +kernel
theorem dX6_takeB_86 : decode cX6_takeB 86 = .ok (.getfield 144, 3) := by decide +kernel
theorem dX6_takeB_89 : decode cX6_takeB 89 = .ok (.ifCond .eq 7, 3) := by decide +kernel
theorem dX6_takeB_92 : decode cX6_takeB 92 = .ok (.iconst 0, 1) := by decide +kernel
theorem dX6_takeB_93 : decode cX6_takeB 93 = .ok (.goto 4, 3) := by decide +kernel
theorem dX6_takeB_96 : decode cX6_takeB 96 = .ok (.iconst 1, 1) := by decide +kernel
theorem dX6_takeB_97 : decode cX6_takeB 97 = .ok (.isub, 1) := by decide +kernel
theorem dX6_takeB_98 : decode cX6_takeB 98 = .ok (.putfield 174, 3) := by decide +kernel
theorem dX6_takeB_101 : decode cX6_takeB 101 = .ok (.iinc 2 1, 3) := by decide +kernel
theorem dX6_takeB_104 : decode cX6_takeB 104 = .ok (.goto (-102), 3) := by decide +kernel
theorem dX6_takeB_107 : decode cX6_takeB 107 = .ok (.return_, 1) := by decide +kernel
theorem dX6_goesOn_0 : decode cX6_goesOn 0 = .ok (.aload_n 0, 1) := by decide +kernel
theorem dX6_goesOn_1 : decode cX6_goesOn 1 = .ok (.getfield 162, 3) := by decide +kernel
theorem dX6_goesOn_4 : decode cX6_goesOn 4 = .ok (.aload_n 0, 1) := by decide +kernel
theorem dX6_goesOn_5 : decode cX6_goesOn 5 = .ok (.getfield 165, 3) := by decide +kernel
theorem dX6_goesOn_8 : decode cX6_goesOn 8 = .ok (.if_icmp .ge 18, 3) := by decide +kernel
theorem dX6_goesOn_11 : decode cX6_goesOn 11 = .ok (.aload_n 0, 1) := by decide +kernel
theorem dX6_goesOn_12 : decode cX6_goesOn 12 = .ok (.getfield 171, 3) := by decide +kernel
theorem dX6_goesOn_15 : decode cX6_goesOn 15 = .ok (.aload_n 0, 1) := by decide +kernel
theorem dX6_goesOn_16 : decode cX6_goesOn 16 = .ok (.getfield 174, 3) := by decide +kernel
theorem dX6_goesOn_19 : decode cX6_goesOn 19 = .ok (.if_icmp .ge 7, 3) := by decide +kernel
theorem dX6_goesOn_22 : decode cX6_goesOn 22 = .ok (.iconst 1, 1) := by decide +kernel
theorem dX6_goesOn_23 : decode cX6_goesOn 23 = .ok (.goto 4, 3) := by decide +kernel
theorem dX6_goesOn_26 : decode cX6_goesOn 26 = .ok (.iconst 0, 1) := by decide +kernel
theorem dX6_goesOn_27 : decode cX6_goesOn 27 = .ok (.ireturn, 1) := by decide +kernel
set_option maxRecDepth 20000 in
theorem ggX6_merge_X6_seeks : GoodIn wsX6_merge wsX6_seeks := goodIn_r _ [16, 17, 18, 19, 15, 20, 2, 21, 22, 23, 24, 7, 8, 25, 26, 27, 28, 1, 29, 30, 31, 32, 33, 34, 35, 36, 37, 38, 39, 40, 65, 66, 67, 68, 69, 70, 71, 72, 73, 74, 75, 76, 77, 78, 79, 80, 81, 82, 83, 84, 85, 86, 87, 88, 89, 90] rfl (by decide +kernel)
set_option maxRecDepth 20000 in
theorem gX6_merge_X6_seeks : GoodIn wsX6_merge (wsV RX6 177 RX6 yX6_seeks wsX6_seeks) := goodIn_app (goodIn_of _ (by decide +kernel)) ggX6_merge_X6_seeks
set_option maxRecDepth 20000 in
theorem ggX6_merge_X6_goesOn : GoodIn wsX6_merge wsX6_goesOn := goodIn_r _ [44, 3, 4, 5, 6, 65, 66, 67, 68, 69, 70, 71, 72, 73, 74, 75, 76, 77, 78, 79, 80, 81, 82, 83, 84, 85, 86, 87, 88, 89, 90] rfl (by decide +kernel)
set_option maxRecDepth 20000 in
theorem gX6_merge_X6_goesOn : GoodIn wsX6_merge (wsV RX6 181 RX6 yX6_goesOn wsX6_goesOn) := goodIn_app (goodIn_of _ (by decide +kernel)) ggX6_merge_X6_goesOn
set_option maxRecDepth 20000 in
theorem ggX6_merge_X6_singly : GoodIn wsX6_merge wsX6_singly := goodIn_r _ [48, 1, 7, 5, 3, 6, 4, 41, 42, 43, 15, 44, 37, 38, 39, 40, 2, 8, 21, 22, 23, 24, 25, 26, 27, 28, 29, 30, 31, 32, 33, 34, 35, 36, 49, 50, 51, 52, 10, 9, 53, 54, 55, 56, 11, 57, 58, 59, 60, 65, 66, 67, 68, 69, 70, 71, 72, 73, 74, 75, 76, 77, 78, 79, 80, 81, 82, 83, 84, 85, 86, 87, 88, 89, 90] rfl (by decide +kernel)
set_option maxRecDepth 20000 in
theorem gX6_merge_X6_singly : GoodIn wsX6_merge (wsV RX6 185 RX6 yX6_singly wsX6_singly) := goodIn_app (goodIn_of _ (by decide +kernel)) ggX6_merge_X6_singly
set_option maxRecDepth 20000 in
theorem ggX6_merge_X6_leaps : GoodIn wsX6_merge wsX6_leaps := goodIn_r _ [64, 1, 7, 3, 4, 5, 6, 37, 38, 39, 15, 40, 2, 8, 12, 13, 14, 16, 17, 18, 19, 20, 21, 22, 23, 24, 25, 26, 27, 28, 29, 30, 31, 32, 33, 34, 35, 36, 57, 58, 59, 60, 9, 10, 53, 54, 55, 56, 11, 41, 42, 43, 44, 49, 50, 51, 52, 65, 66, 67, 68, 69, 70, 71, 72, 73, 74, 75, 76, 77, 78, 79, 80, 81, 82, 83, 84, 85, 86, 87, 88, 89, 90] rfl (by decide +kernel)
set_option maxRecDepth 20000 in
theorem gX6_merge_X6_leaps : GoodIn wsX6_merge (wsV RX6 188 RX6 yX6_leaps wsX6_leaps) := goodIn_app (goodIn_of _ (by decide +kernel)) ggX6_merge_X6_leaps
set_option maxRecDepth 20000 in
theorem ggX6_merge_X6_takeA : GoodIn wsX6_merge wsX6_takeA := goodIn_r _ [60, 7, 3, 4, 9, 10, 21, 22, 23, 15, 24, 8, 2, 53, 54, 55, 56, 11, 1, 65, 66, 67, 68, 69, 70, 71, 72, 73, 74, 75, 76, 77, 78, 79, 80, 81, 82, 83, 84, 85, 86, 87, 88, 89, 90] rfl (by decide +kernel)
set_option maxRecDepth 20000 in
theorem gX6_merge_X6_takeA : GoodIn wsX6_merge (wsV RX6 191 RX6 yX6_takeA wsX6_takeA) := goodIn_app (goodIn_of _ (by decide +kernel)) ggX6_merge_X6_takeA
set_option maxRecDepth 20000 in
theorem ggX6_merge_X6_takeB : GoodIn wsX6_merge wsX6_takeB := goodIn_r _ [52, 7, 5, 6, 10, 9, 37, 38, 39, 15, 40, 2, 8, 53, 54, 55, 56, 11, 1, 65, 66, 67, 68, 69, 70, 71, 72, 73, 74, 75, 76, 77, 78, 79, 80, 81, 82, 83, 84, 85, 86, 87, 88, 89, 90] rfl (by decide +kernel)
set_option maxRecDepth 20000 in
theorem gX6_merge_X6_takeB : GoodIn wsX6_merge (wsV RX6 195 RX6 yX6_takeB wsX6_takeB) := goodIn_app (goodIn_of _ (by decide +kernel)) ggX6_merge_X6_takeB
theorem dX6_merge_0 : decode cX6_merge 0 = .ok (.aload_n 0, 1) := by decide +kernel
theorem dX6_merge_1 : decode cX6_merge 1 = .ok (.getfield 37, 3) := by decide +kernel
theorem dX6_merge_4 : decode cX6_merge 4 = .ok (.iconst 5, 1) := by decide +kernel
theorem dX6_merge_5 : decode cX6_merge 5 = .ok (.dup2, 1) := by decide +kernel
theorem dX6_merge_6 : decode cX6_merge 6 = .ok (.iaload, 1) := by decide +kernel
theorem dX6_merge_7 : decode cX6_merge 7 = .ok (.iconst 1, 1) := by decide +kernel
theorem dX6_merge_8 : decode cX6_merge 8 = .ok (.iadd, 1) := by decide +kernel
theorem dX6_merge_9 : decode cX6_merge 9 = .ok (.iastore, 1) := by decide +kernel
theorem dX6_merge_10 : decode cX6_merge 10 = .ok (.aload_n 0, 1) := by decide +kernel
theorem dX6_merge_11 : decode cX6_merge 11 = .ok (.getfield 37, 3) := by decide +kernel
theorem dX6_merge_14 : decode cX6_merge 14 = .ok (.bipush 6, 2) := by decide +kernel
theorem dX6_merge_16 : decode cX6_merge 16 = .ok (.dup2, 1) := by decide +kernel
theorem dX6_merge_17 : decode cX6_merge 17 = .ok (.iaload, 1) := by decide +kernel
theorem dX6_merge_18 : decode cX6_merge 18 = .ok (.iload_n 2, 1) := by decide +kernel
theorem dX6_merge_19 : decode cX6_merge 19 = .ok (.iload_n 3, 1) := by decide +kernel
theorem dX6_merge_20 : decode cX6_merge 20 = .ok (.iadd, 1) := by decide +kernel
theorem dX6_merge_21 : decode cX6_merge 21 = .ok (.iadd, 1) := by decide +kernel
theorem dX6_merge_22 : decode cX6_merge 22 = .ok (.iastore, 1) := by decide +kernel
theorem dX6_merge_23 : decode cX6_merge 23 = .ok (.aload_n 0, 1) := by decide +kernel
theorem dX6_merge_24 : decode cX6_merge 24 = .ok (.iload_n 1, 1) := by decide +kernel
theorem dX6_merge_25 : decode cX6_merge 25 = .ok (.aload_n 0, 1) := by decide +kernel
theorem dX6_merge_26 : decode cX6_merge 26 = .ok (.iconst 4, 1) := by decide +kernel
theorem dX6_merge_27 : decode cX6_merge 27 = .ok (.iload_n 1, 1) := by decide +kernel
theorem dX6_merge_28 : decode cX6_merge 28 = .ok (.iconst 1, 1) := by decide +kernel
theorem dX6_merge_29 : decode cX6_merge 29 = .ok (.iload_n 2, 1) := by decide +kernel
theorem dX6_merge_30 : decode cX6_merge 30 = .ok (.aload_n 0, 1) := by decide +kernel
theorem dX6_merge_31 : decode cX6_merge 31 = .ok (.getfield 19, 3) := by decide +kernel
theorem dX6_merge_34 : decode cX6_merge 34 = .ok (.iload_n 1, 1) := by decide +kernel
theorem dX6_merge_35 : decode cX6_merge 35 = .ok (.iload_n 2, 1) := by decide +kernel
theorem dX6_merge_36 : decode cX6_merge 36 = .ok (.iadd, 1) := by decide +kernel
theorem dX6_merge_37 : decode cX6_merge 37 = .ok (.iaload, 1) := by decide +kernel
theorem dX6_merge_38 : decode cX6_merge 38 = .ok (.invokevirtual 177, 3) := by decide +kernel
theorem dX6_merge_41 : decode cX6_merge 41 = .ok (.iadd, 1) := by decide +kernel
theorem dX6_merge_42 : decode cX6_merge 42 = .ok (.putfield 162, 3) := by decide +kernel
theorem dX6_merge_45 : decode cX6_merge 45 = .ok (.aload_n 0, 1) := by decide +kernel
theorem dX6_merge_46 : decode cX6_merge 46 = .ok (.iload_n 1, 1) := by decide +kernel
theorem dX6_merge_47 : decode cX6_merge 47 = .ok (.iload_n 2, 1) := by decide +kernel
theorem dX6_merge_48 : decode cX6_merge 48 = .ok (.iadd, 1) := by decide +kernel
theorem dX6_merge_49 : decode cX6_merge 49 = .ok (.putfield 165, 3) := by decide +kernel
theorem dX6_merge_52 : decode cX6_merge 52 = .ok (.aload_n 0, 1) := by decide +kernel
theorem dX6_merge_53 : decode cX6_merge 53 = .ok (.aload_n 0, 1) := by decide +kernel
theorem dX6_merge_54 : decode cX6_merge 54 = .ok (.getfield 165, 3) := by decide +kernel
theorem dX6_merge_57 : decode cX6_merge 57 = .ok (.putfield 171, 3) := by decide +kernel
theorem dX6_merge_60 : decode cX6_merge 60 = .ok (.aload_n 0, 1) := by decide +kernel
theorem dX6_merge_61 : decode cX6_merge 61 = .ok (.aload_n 0, 1) := by decide +kernel
theorem dX6_merge_62 : decode cX6_merge 62 = .ok (.getfield 171, 3) := by decide +kernel
theorem dX6_merge_65 : decode cX6_merge 65 = .ok (.putfield 174, 3) := by decide +kernel
theorem dX6_merge_68 : decode cX6_merge 68 = .ok (.aload_n 0, 1) := by decide +kernel
theorem dX6_merge_69 : decode cX6_merge 69 = .ok (.getfield 162, 3) := by decide +kernel
theorem dX6_merge_72 : decode cX6_merge 72 = .ok (.aload_n 0, 1) := by decide +kernel
theorem dX6_merge_73 : decode cX6_merge 73 = .ok (.getfield 165, 3) := by decide +kernel
theorem dX6_merge_76 : decode cX6_merge 76 = .ok (.if_icmp .ne 4, 3) := by decide +kernel
theorem dX6_merge_79 : decode cX6_merge 79 = .ok (.return_, 1) := by decide +kernel
theorem dX6_merge_80 : decode cX6_merge 80 = .ok (.aload_n 0, 1) := by decide +kernel
theorem dX6_merge_81 : decode cX6_merge 81 = .ok (.aload_n 0, 1) := by decide +kernel
theorem dX6_merge_82 : decode cX6_merge 82 = .ok (.getfield 171, 3) := by decide +kernel
theorem dX6_merge_85 : decode cX6_merge 85 = .ok (.aload_n 0, 1) := by decide +kernel
theorem dX6_merge_86 : decode cX6_merge 86 = .ok (.iconst 5, 1) := by decide +kernel
theorem dX6_merge_87 : decode cX6_merge 87 = .ok (.aload_n 0, 1) := by decide +kernel
theorem dX6_merge_88 : decode cX6_merge 88 = .ok (.getfield 171, 3) := by decide +kernel
theorem dX6_merge_91 : decode cX6_merge 91 = .ok (.iconst 1, 1) := by decide +kernel
theorem dX6_merge_92 : decode cX6_merge 92 = .ok (.iload_n 3, 1) := by decide +kernel
theorem dX6_merge_93 : decode cX6_merge 93 = .ok (.aload_n 0, 1) := by decide +kernel
theorem dX6_merge_94 : decode cX6_merge 94 = .ok (.getfield 19, 3) := by decide +kernel
theorem dX6_merge_97 : decode cX6_merge 97 = .ok (.aload_n 0, 1) := by decide +kernel
theorem dX6_merge_98 : decode cX6_merge 98 = .ok (.getfield 165, 3) := by decide +kernel
theorem dX6_merge_101 : decode cX6_merge 101 = .ok (.iconst 1, 1) := by decide +kernel
theorem dX6_merge_102 : decode cX6_merge 102 = .ok (.isub, 1) := by decide +kernel
theorem dX6_merge_103 : decode cX6_merge 103 = .ok (.iaload, 1) := by decide +kernel
theorem dX6_merge_104 : decode cX6_merge 104 = .ok (.invokevirtual 177, 3) := by decide +kernel
theorem dX6_merge_107 : decode cX6_merge 107 = .ok (.iadd, 1) := by decide +kernel
theorem dX6_merge_108 : decode cX6_merge 108 = .ok (.putfield 174, 3) := by decide +kernel
theorem dX6_merge_111 : decode cX6_merge 111 = .ok (.aload_n 0, 1) := by decide +kernel
theorem dX6_merge_112 : decode cX6_merge 112 = .ok (.aload_n 0, 1) := by decide +kernel
theorem dX6_merge_113 : decode cX6_merge 113 = .ok (.getfield 165, 3) := by decide +kernel
theorem dX6_merge_116 : decode cX6_merge 116 = .ok (.aload_n 0, 1) := by decide +kernel
theorem dX6_merge_117 : decode cX6_merge 117 = .ok (.getfield 162, 3) := by decide +kernel
theorem dX6_merge_120 : decode cX6_merge 120 = .ok (.isub, 1) := by decide +kernel
theorem dX6_merge_121 : decode cX6_merge 121 = .ok (.aload_n 0, 1) := by decide +kernel
theorem dX6_merge_122 : decode cX6_merge 122 = .ok (.getfield 174, 3) := by decide +kernel
theorem dX6_merge_125 : decode cX6_merge 125 = .ok (.aload_n 0, 1) := by decide +kernel
theorem dX6_merge_126 : decode cX6_merge 126 = .ok (.getfield 171, 3) := by decide +kernel
theorem dX6_merge_129 : decode cX6_merge 129 = .ok (.isub, 1) := by decide +kernel
theorem dX6_merge_130 : decode cX6_merge 130 = .ok (.if_icmp .gt 7, 3) := by decide +kernel
theorem dX6_merge_133 : decode cX6_merge 133 = .ok (.iconst 1, 1) := by decide +kernel
theorem dX6_merge_134 : decode cX6_merge 134 = .ok (.goto 4, 3) := by decide +kernel
theorem dX6_merge_137 : decode cX6_merge 137 = .ok (.iconst 0, 1) := by decide +kernel
theorem dX6_merge_138 : decode cX6_merge 138 = .ok (.putfield 144, 3) := by decide +kernel
theorem dX6_merge_141 : decode cX6_merge 141 = .ok (.aload_n 0, 1) := by decide +kernel
theorem dX6_merge_142 : decode cX6_merge 142 = .ok (.getfield 144, 3) := by decide +kernel
theorem dX6_merge_145 : decode cX6_merge 145 = .ok (.ifCond .eq 10, 3) := by decide +kernel
theorem dX6_merge_148 : decode cX6_merge 148 = .ok (.aload_n 0, 1) := by decide +kernel
theorem dX6_merge_149 : decode cX6_merge 149 = .ok (.getfield 162, 3) := by decide +kernel
theorem dX6_merge_152 : decode cX6_merge 152 = .ok (.goto 7, 3) := by decide +kernel
theorem dX6_merge_155 : decode cX6_merge 155 = .ok (.aload_n 0, 1) := by decide +kernel
theorem dX6_merge_156 : decode cX6_merge 156 = .ok (.getfield 171, 3) := by decide +kernel
theorem dX6_merge_159 : decode cX6_merge 159 = .ok (.istore 4, 2) := by decide +kernel
theorem dX6_merge_161 : decode cX6_merge 161 = .ok (.aload_n 0, 1) := by decide +kernel
theorem dX6_merge_162 : decode cX6_merge 162 = .ok (.getfield 144, 3) := by decide +kernel
theorem dX6_merge_165 : decode cX6_merge 165 = .ok (.ifCond .eq 15, 3) := by decide +kernel
theorem dX6_merge_168 : decode cX6_merge 168 = .ok (.aload_n 0, 1) := by decide +kernel
theorem dX6_merge_169 : decode cX6_merge 169 = .ok (.getfield 165, 3) := by decide +kernel
theorem dX6_merge_172 : decode cX6_merge 172 = .ok (.aload_n 0, 1) := by decide +kernel
theorem dX6_merge_173 : decode cX6_merge 173 = .ok (.getfield 162, 3) := by decide +kernel
theorem dX6_merge_176 : decode cX6_merge 176 = .ok (.isub, 1) := by decide +kernel
theorem dX6_merge_177 : decode cX6_merge 177 = .ok (.goto 12, 3) := by decide +kernel
theorem dX6_merge_180 : decode cX6_merge 180 = .ok (.aload_n 0, 1) := by decide +kernel
theorem dX6_merge_181 : decode cX6_merge 181 = .ok (.getfield 174, 3) := by decide +kernel
theorem dX6_merge_184 : decode cX6_merge 184 = .ok (.aload_n 0, 1) := by decide +kernel
theorem dX6_merge_185 : decode cX6_merge 185 = .ok (.getfield 171, 3) := by decide +kernel
theorem dX6_merge_188 : decode cX6_merge 188 = .ok (.isub, 1) := by decide +kernel
theorem dX6_merge_189 : decode cX6_merge 189 = .ok (.istore 5, 2) := by decide +kernel
theorem dX6_merge_191 : decode cX6_merge 191 = .ok (.iconst 0, 1) := by decide +kernel
theorem dX6_merge_192 : decode cX6_merge 192 = .ok (.istore 6, 2) := by decide +kernel
theorem dX6_merge_194 : decode cX6_merge 194 = .ok (.iload 6, 2) := by decide +kernel
theorem dX6_merge_196 : decode cX6_merge 196 = .ok (.iload 5, 2) := by decide +kernel
theorem dX6_merge_198 : decode cX6_merge 198 = .ok (.if_icmp .ge 43, 3) := by decide +kernel
theorem dX6_merge_201 : decode cX6_merge 201 = .ok (.aload_n 0, 1) := by decide +kernel
theorem dX6_merge_202 : decode cX6_merge 202 = .ok (.getfield 25, 3) := by decide +kernel
theorem dX6_merge_205 : decode cX6_merge 205 = .ok (.iload 6, 2) := by decide +kernel
theorem dX6_merge_207 : decode cX6_merge 207 = .ok (.aload_n 0, 1) := by decide +kernel
theorem dX6_merge_208 : decode cX6_merge 208 = .ok (.getfield 19, 3) := by decide +kernel
theorem dX6_merge_211 : decode cX6_merge 211 = .ok (.iload 4, 2) := by decide +kernel
theorem dX6_merge_213 : decode cX6_merge 213 = .ok (.iload 6, 2) := by decide +kernel
theorem dX6_merge_215 : decode cX6_merge 215 = .ok (.iadd, 1) := by decide +kernel
theorem dX6_merge_216 : decode cX6_merge 216 = .ok (.iaload, 1) := by decide +kernel
theorem dX6_merge_217 : decode cX6_merge 217 = .ok (.iastore, 1) := by decide +kernel
theorem dX6_merge_218 : decode cX6_merge 218 = .ok (.aload_n 0, 1) := by decide +kernel
theorem dX6_merge_219 : decode cX6_merge 219 = .ok (.getfield 28, 3) := by decide +kernel
theorem dX6_merge_222 : decode cX6_merge 222 = .ok (.iload 6, 2) := by decide +kernel
theorem dX6_merge_224 : decode cX6_merge 224 = .ok (.aload_n 0, 1) := by decide +kernel
theorem dX6_merge_225 : decode cX6_merge 225 = .ok (.getfield 22, 3) := by decide +kernel
theorem dX6_merge_228 : decode cX6_merge 228 = .ok (.iload 4, 2) := by decide +kernel
theorem dX6_merge_230 : decode cX6_merge 230 = .ok (.iload 6, 2) := by decide +kernel
theorem dX6_merge_232 : decode cX6_merge 232 = .ok (.iadd, 1) := by decide +kernel
theorem dX6_merge_233 : decode cX6_merge 233 = .ok (.iaload, 1) := by decide +kernel
theorem dX6_merge_234 : decode cX6_merge 234 = .ok (.iastore, 1) := by decide +kernel
theorem dX6_merge_235 : decode cX6_merge 235 = .ok (.iinc 6 1, 3) := by decide +kernel
theorem dX6_merge_238 : decode cX6_merge 238 = .ok (.goto (-44), 3) := by decide +kernel
theorem dX6_merge_241 : decode cX6_merge 241 = .ok (.aload_n 0, 1) := by decide +kernel
theorem dX6_merge_242 : decode cX6_merge 242 = .ok (.getfield 37, 3) := by decide +kernel
theorem dX6_merge_245 : decode cX6_merge 245 = .ok (.iconst 1, 1) := by decide +kernel
theorem dX6_merge_246 : decode cX6_merge 246 = .ok (.dup2, 1) := by decide +kernel
theorem dX6_merge_247 : decode cX6_merge 247 = .ok (.iaload, 1) := by decide +kernel
theorem dX6_merge_248 : decode cX6_merge 248 = .ok (.iload 5, 2) := by decide +kernel
theorem dX6_merge_250 : decode cX6_merge 250 = .ok (.iadd, 1) := by decide +kernel
theorem dX6_merge_251 : decode cX6_merge 251 = .ok (.iastore, 1) := by decide +kernel
theorem dX6_merge_252 : decode cX6_merge 252 = .ok (.aload_n 0, 1) := by decide +kernel
theorem dX6_merge_253 : decode cX6_merge 253 = .ok (.getfield 37, 3) := by decide +kernel
theorem dX6_merge_256 : decode cX6_merge 256 = .ok (.bipush 7, 2) := by decide +kernel
theorem dX6_merge_258 : decode cX6_merge 258 = .ok (.iload 5, 2) := by decide +kernel
theorem dX6_merge_260 : decode cX6_merge 260 = .ok (.aload_n 0, 1) := by decide +kernel
theorem dX6_merge_261 : decode cX6_merge 261 = .ok (.getfield 37, 3) := by decide +kernel
theorem dX6_merge_264 : decode cX6_merge 264 = .ok (.bipush 7, 2) := by decide +kernel
theorem dX6_merge_266 : decode cX6_merge 266 = .ok (.iaload, 1) := by decide +kernel
theorem dX6_merge_267 : decode cX6_merge 267 = .ok (.if_icmp .le 8, 3) := by decide +kernel
theorem dX6_merge_270 : decode cX6_merge 270 = .ok (.iload 5, 2) := by decide +kernel
theorem dX6_merge_272 : decode cX6_merge 272 = .ok (.goto 10, 3) := by decide +kernel
theorem dX6_merge_275 : decode cX6_merge 275 = .ok (.aload_n 0, 1) := by decide +kernel
theorem dX6_merge_276 : decode cX6_merge 276 = .ok (.getfield 37, 3) := by decide +kernel
theorem dX6_merge_279 : decode cX6_merge 279 = .ok (.bipush 7, 2) := by decide +kernel
theorem dX6_merge_281 : decode cX6_merge 281 = .ok (.iaload, 1) := by decide +kernel
theorem dX6_merge_282 : decode cX6_merge 282 = .ok (.iastore, 1) := by decide +kernel
theorem dX6_merge_283 : decode cX6_merge 283 = .ok (.aload_n 0, 1) := by decide +kernel
theorem dX6_merge_284 : decode cX6_merge 284 = .ok (.aload_n 0, 1) := by decide +kernel
theorem dX6_merge_285 : decode cX6_merge 285 = .ok (.getfield 144, 3) := by decide +kernel
theorem dX6_merge_288 : decode cX6_merge 288 = .ok (.ifCond .eq 10, 3) := by decide +kernel
theorem dX6_merge_291 : decode cX6_merge 291 = .ok (.aload_n 0, 1) := by decide +kernel
theorem dX6_merge_292 : decode cX6_merge 292 = .ok (.getfield 162, 3) := by decide +kernel
theorem dX6_merge_295 : decode cX6_merge 295 = .ok (.goto 9, 3) := by decide +kernel
theorem dX6_merge_298 : decode cX6_merge 298 = .ok (.aload_n 0, 1) := by decide +kernel
theorem dX6_merge_299 : decode cX6_merge 299 = .ok (.getfield 174, 3) := by decide +kernel
theorem dX6_merge_302 : decode cX6_merge 302 = .ok (.iconst 1, 1) := by decide +kernel
theorem dX6_merge_303 : decode cX6_merge 303 = .ok (.isub, 1) := by decide +kernel
theorem dX6_merge_304 : decode cX6_merge 304 = .ok (.putfield 159, 3) := by decide +kernel
theorem dX6_merge_307 : decode cX6_merge 307 = .ok (.aload_n 0, 1) := by decide +kernel
theorem dX6_merge_308 : decode cX6_merge 308 = .ok (.getfield 144, 3) := by decide +kernel
theorem dX6_merge_311 : decode cX6_merge 311 = .ok (.ifCond .eq 24, 3) := by decide +kernel
theorem dX6_merge_314 : decode cX6_merge 314 = .ok (.aload_n 0, 1) := by decide +kernel
theorem dX6_merge_315 : decode cX6_merge 315 = .ok (.dup, 1) := by decide +kernel
theorem dX6_merge_316 : decode cX6_merge 316 = .ok (.getfield 165, 3) := by decide +kernel
theorem dX6_merge_319 : decode cX6_merge 319 = .ok (.aload_n 0, 1) := by decide +kernel
theorem dX6_merge_320 : decode cX6_merge 320 = .ok (.getfield 162, 3) := by decide +kernel
theorem dX6_merge_323 : decode cX6_merge 323 = .ok (.isub, 1) := by decide +kernel
theorem dX6_merge_324 : decode cX6_merge 324 = .ok (.putfield 165, 3) := by decide +kernel
theorem dX6_merge_327 : decode cX6_merge 327 = .ok (.aload_n 0, 1) := by decide +kernel
theorem dX6_merge_328 : decode cX6_merge 328 = .ok (.iconst 0, 1) := by decide +kernel
theorem dX6_merge_329 : decode cX6_merge 329 = .ok (.putfield 162, 3) := by decide +kernel
theorem dX6_merge_332 : decode cX6_merge 332 = .ok (.goto 21, 3) := by decide +kernel
theorem dX6_merge_335 : decode cX6_merge 335 = .ok (.aload_n 0, 1) := by decide +kernel
theorem dX6_merge_336 : decode cX6_merge 336 = .ok (.dup, 1) := by decide +kernel
theorem dX6_merge_337 : decode cX6_merge 337 = .ok (.getfield 174, 3) := by decide +kernel
theorem dX6_merge_340 : decode cX6_merge 340 = .ok (.aload_n 0, 1) := by decide +kernel
theorem dX6_merge_341 : decode cX6_merge 341 = .ok (.getfield 171, 3) := by decide +kernel
theorem dX6_merge_344 : decode cX6_merge 344 = .ok (.isub, 1) := by decide +kernel
theorem dX6_merge_345 : decode cX6_merge 345 = .ok (.putfield 174, 3) := by decide +kernel
theorem dX6_merge_348 : decode cX6_merge 348 = .ok (.aload_n 0, 1) := by decide +kernel
theorem dX6_merge_349 : decode cX6_merge 349 = .ok (.iconst 0, 1) := by decide +kernel
theorem dX6_merge_350 : decode cX6_merge 350 = .ok (.putfield 171, 3) := by decide +kernel
theorem dX6_merge_353 : decode cX6_merge 353 = .ok (.aload_n 0, 1) := by decide +kernel
theorem dX6_merge_354 : decode cX6_merge 354 = .ok (.invokevirtual 181, 3) := by decide +kernel
theorem dX6_merge_357 : decode cX6_merge 357 = .ok (.ifCond .eq 30, 3) := by decide +kernel
theorem dX6_merge_360 : decode cX6_merge 360 = .ok (.aload_n 0, 1) := by decide +kernel
theorem dX6_merge_361 : decode cX6_merge 361 = .ok (.invokevirtual 185, 3) := by decide +kernel
theorem dX6_merge_364 : decode cX6_merge 364 = .ok (.aload_n 0, 1) := by decide +kernel
theorem dX6_merge_365 : decode cX6_merge 365 = .ok (.invokevirtual 181, 3) := by decide +kernel
theorem dX6_merge_368 : decode cX6_merge 368 = .ok (.istore 6, 2) := by decide +kernel
theorem dX6_merge_370 : decode cX6_merge 370 = .ok (.iload 6, 2) := by decide +kernel
theorem dX6_merge_372 : decode cX6_merge 372 = .ok (.ifCond .eq 12, 3) := by decide +kernel
theorem dX6_merge_375 : decode cX6_merge 375 = .ok (.aload_n 0, 1) := by decide +kernel
theorem dX6_merge_376 : decode cX6_merge 376 = .ok (.invokevirtual 188, 3) := by decide +kernel
theorem dX6_merge_379 : decode cX6_merge 379 = .ok (.istore 6, 2) := by decide +kernel
theorem dX6_merge_381 : decode cX6_merge 381 = .ok (.goto (-11), 3) := by decide +kernel
theorem dX6_merge_384 : decode cX6_merge 384 = .ok (.goto (-31), 3) := by decide +kernel
theorem dX6_merge_387 : decode cX6_merge 387 = .ok (.aload_n 0, 1) := by decide +kernel
theorem dX6_merge_388 : decode cX6_merge 388 = .ok (.getfield 144, 3) := by decide +kernel
theorem dX6_merge_391 : decode cX6_merge 391 = .ok (.ifCond .eq 19, 3) := by decide +kernel
theorem dX6_merge_394 : decode cX6_merge 394 = .ok (.aload_n 0, 1) := by decide +kernel
theorem dX6_merge_395 : decode cX6_merge 395 = .ok (.aload_n 0, 1) := by decide +kernel
theorem dX6_merge_396 : decode cX6_merge 396 = .ok (.getfield 165, 3) := by decide +kernel
theorem dX6_merge_399 : decode cX6_merge 399 = .ok (.aload_n 0, 1) := by decide +kernel
theorem dX6_merge_400 : decode cX6_merge 400 = .ok (.getfield 162, 3) := by decide +kernel
theorem dX6_merge_403 : decode cX6_merge 403 = .ok (.isub, 1) := by decide +kernel
theorem dX6_merge_404 : decode cX6_merge 404 = .ok (.invokevirtual 191, 3) := by decide +kernel
theorem dX6_merge_407 : decode cX6_merge 407 = .ok (.goto 16, 3) := by decide +kernel
theorem dX6_merge_410 : decode cX6_merge 410 = .ok (.aload_n 0, 1) := by decide +kernel
theorem dX6_merge_411 : decode cX6_merge 411 = .ok (.aload_n 0, 1) := by decide +kernel
theorem dX6_merge_412 : decode cX6_merge 412 = .ok (.getfield 174, 3) := by decide +kernel
theorem dX6_merge_415 : decode cX6_merge 415 = .ok (.aload_n 0, 1) := by decide +kernel
theorem dX6_merge_416 : decode cX6_merge 416 = .ok (.getfield 171, 3) := by decide +kernel
theorem dX6_merge_419 : decode cX6_merge 419 = .ok (.isub, 1) := by decide +kernel
theorem dX6_merge_420 : decode cX6_merge 420 = .ok (.invokevirtual 195, 3) := by decide +kernel
theorem dX6_merge_423 : decode cX6_merge 423 = .ok (.return_, 1) := by decide +kernel
