theorem dX9_layPlan_0 : decode cX9_layPlan 0 = .ok (.iconst 0, 1) := by decide +kernel
theorem dX9_layPlan_1 : decode cX9_layPlan 1 = .ok (.istore_n 2, 1) := by decide +kernel
theorem dX9_layPlan_2 : decode cX9_layPlan 2 = .ok (.iload_n 2, 1) := by decide +kernel
theorem dX9_layPlan_3 : decode cX9_layPlan 3 = .ok (.sipush 5040, 3) := by decide +kernel
theorem dX9_layPlan_6 : decode cX9_layPlan 6 = .ok (.if_icmp .ge 17, 3) := by decide +kernel
theorem dX9_layPlan_9 : decode cX9_layPlan 9 = .ok (.aload_n 0, 1) := by decide +kernel
theorem dX9_layPlan_10 : decode cX9_layPlan 10 = .ok (.getfield 35, 3) := by decide +kernel
theorem dX9_layPlan_13 : decode cX9_layPlan 13 = .ok (.iload_n 2, 1) := by decide +kernel
theorem dX9_layPlan_14 : decode cX9_layPlan 14 = .ok (.bipush (-6), 2) := by decide +kernel
theorem dX9_layPlan_16 : decode cX9_layPlan 16 = .ok (.iastore, 1) := by decide +kernel
theorem dX9_layPlan_17 : decode cX9_layPlan 17 = .ok (.iinc 2 1, 3) := by decide +kernel
theorem dX9_layPlan_20 : decode cX9_layPlan 20 = .ok (.goto (-18), 3) := by decide +kernel
theorem dX9_layPlan_23 : decode cX9_layPlan 23 = .ok (.aload_n 0, 1) := by decide +kernel
theorem dX9_layPlan_24 : decode cX9_layPlan 24 = .ok (.invokevirtual 98, 3) := by decide +kernel
theorem dX9_layPlan_27 : decode cX9_layPlan 27 = .ok (.iconst 1, 1) := by decide +kernel
theorem dX9_layPlan_28 : decode cX9_layPlan 28 = .ok (.istore_n 2, 1) := by decide +kernel
theorem dX9_layPlan_29 : decode cX9_layPlan 29 = .ok (.aload_n 0, 1) := by decide +kernel
theorem dX9_layPlan_30 : decode cX9_layPlan 30 = .ok (.getfield 44, 3) := by decide +kernel
theorem dX9_layPlan_33 : decode cX9_layPlan 33 = .ok (.iconst 0, 1) := by decide +kernel
theorem dX9_layPlan_34 : decode cX9_layPlan 34 = .ok (.aload_n 0, 1) := by decide +kernel
theorem dX9_layPlan_35 : decode cX9_layPlan 35 = .ok (.invokevirtual 137, 3) := by decide +kernel
theorem dX9_layPlan_38 : decode cX9_layPlan 38 = .ok (.iastore, 1) := by decide +kernel
theorem dX9_layPlan_39 : decode cX9_layPlan 39 = .ok (.aload_n 0, 1) := by decide +kernel
theorem dX9_layPlan_40 : decode cX9_layPlan 40 = .ok (.getfield 35, 3) := by decide +kernel
theorem dX9_layPlan_43 : decode cX9_layPlan 43 = .ok (.aload_n 0, 1) := by decide +kernel
theorem dX9_layPlan_44 : decode cX9_layPlan 44 = .ok (.getfield 44, 3) := by decide +kernel
theorem dX9_layPlan_47 : decode cX9_layPlan 47 = .ok (.iconst 0, 1) := by decide +kernel
theorem dX9_layPlan_48 : decode cX9_layPlan 48 = .ok (.iaload, 1) := by decide +kernel
theorem dX9_layPlan_49 : decode cX9_layPlan 49 = .ok (.iconst 0, 1) := by decide +kernel
theorem dX9_layPlan_50 : decode cX9_layPlan 50 = .ok (.iastore, 1) := by decide +kernel
theorem dX9_layPlan_51 : decode cX9_layPlan 51 = .ok (.iconst 0, 1) := by decide +kernel
theorem dX9_layPlan_52 : decode cX9_layPlan 52 = .ok (.istore_n 3, 1) := by decide +kernel
theorem dX9_layPlan_53 : decode cX9_layPlan 53 = .ok (.iload_n 3, 1) := by decide +kernel
theorem dX9_layPlan_54 : decode cX9_layPlan 54 = .ok (.iload_n 2, 1) := by decide +kernel
theorem dX9_layPlan_55 : decode cX9_layPlan 55 = .ok (.if_icmp .ge 137, 3) := by decide +kernel
theorem dX9_layPlan_58 : decode cX9_layPlan 58 = .ok (.aload_n 0, 1) := by decide +kernel
theorem dX9_layPlan_59 : decode cX9_layPlan 59 = .ok (.aload_n 0, 1) := by decide +kernel
theorem dX9_layPlan_60 : decode cX9_layPlan 60 = .ok (.getfield 44, 3) := by decide +kernel
theorem dX9_layPlan_63 : decode cX9_layPlan 63 = .ok (.iload_n 3, 1) := by decide +kernel
theorem dX9_layPlan_64 : decode cX9_layPlan 64 = .ok (.iaload, 1) := by decide +kernel
theorem dX9_layPlan_65 : decode cX9_layPlan 65 = .ok (.invokevirtual 140, 3) := by decide +kernel
theorem dX9_layPlan_68 : decode cX9_layPlan 68 = .ok (.aload_n 0, 1) := by decide +kernel
theorem dX9_layPlan_69 : decode cX9_layPlan 69 = .ok (.iload_n 1, 1) := by decide +kernel
theorem dX9_layPlan_70 : decode cX9_layPlan 70 = .ok (.invokevirtual 134, 3) := by decide +kernel
theorem dX9_layPlan_73 : decode cX9_layPlan 73 = .ok (.ifCond .eq 10, 3) := by decide +kernel
theorem dX9_layPlan_76 : decode cX9_layPlan 76 = .ok (.aload_n 0, 1) := by decide +kernel
theorem dX9_layPlan_77 : decode cX9_layPlan 77 = .ok (.getfield 44, 3) := by decide +kernel
theorem dX9_layPlan_80 : decode cX9_layPlan 80 = .ok (.iload_n 3, 1) := by decide +kernel
theorem dX9_layPlan_81 : decode cX9_layPlan 81 = .ok (.iaload, 1) := by decide +kernel
theorem dX9_layPlan_82 : decode cX9_layPlan 82 = .ok (.ireturn, 1) := by decide +kernel
theorem dX9_layPlan_83 : decode cX9_layPlan 83 = .ok (.iconst 0, 1) := by decide +kernel
theorem dX9_layPlan_84 : decode cX9_layPlan 84 = .ok (.istore 4, 2) := by decide +kernel
theorem dX9_layPlan_86 : decode cX9_layPlan 86 = .ok (.iload 4, 2) := by decide +kernel
theorem dX9_layPlan_88 : decode cX9_layPlan 88 = .ok (.aload_n 0, 1) := by decide +kernel
theorem dX9_layPlan_89 : decode cX9_layPlan 89 = .ok (.invokevirtual 143, 3) := by decide +kernel
theorem dX9_layPlan_92 : decode cX9_layPlan 92 = .ok (.if_icmp .ge 94, 3) := by decide +kernel
theorem dX9_layPlan_95 : decode cX9_layPlan 95 = .ok (.aload_n 0, 1) := by decide +kernel
theorem dX9_layPlan_96 : decode cX9_layPlan 96 = .ok (.aload_n 0, 1) := by decide +kernel
theorem dX9_layPlan_97 : decode cX9_layPlan 97 = .ok (.getfield 44, 3) := by decide +kernel
theorem dX9_layPlan_100 : decode cX9_layPlan 100 = .ok (.iload_n 3, 1) := by decide +kernel
theorem dX9_layPlan_101 : decode cX9_layPlan 101 = .ok (.iaload, 1) := by decide +kernel
theorem dX9_layPlan_102 : decode cX9_layPlan 102 = .ok (.invokevirtual 140, 3) := by decide +kernel
theorem dX9_layPlan_105 : decode cX9_layPlan 105 = .ok (.aload_n 0, 1) := by decide +kernel
theorem dX9_layPlan_106 : decode cX9_layPlan 106 = .ok (.iload 4, 2) := by decide +kernel
theorem dX9_layPlan_108 : decode cX9_layPlan 108 = .ok (.invokevirtual 146, 3) := by decide +kernel
theorem dX9_layPlan_111 : decode cX9_layPlan 111 = .ok (.aload_n 0, 1) := by decide +kernel
theorem dX9_layPlan_112 : decode cX9_layPlan 112 = .ok (.invokevirtual 137, 3) := by decide +kernel
theorem dX9_layPlan_115 : decode cX9_layPlan 115 = .ok (.istore 5, 2) := by decide +kernel
theorem dX9_layPlan_117 : decode cX9_layPlan 117 = .ok (.aload_n 0, 1) := by decide +kernel
theorem dX9_layPlan_118 : decode cX9_layPlan 118 = .ok (.getfield 35, 3) := by decide +kernel
theorem dX9_layPlan_121 : decode cX9_layPlan 121 = .ok (.iload 5, 2) := by decide +kernel
theorem dX9_layPlan_123 : decode cX9_layPlan 123 = .ok (.iaload, 1) := by decide +kernel
theorem dX9_layPlan_124 : decode cX9_layPlan 124 = .ok (.ifCond .ge 56, 3) := by decide +kernel
theorem dX9_layPlan_127 : decode cX9_layPlan 127 = .ok (.aload_n 0, 1) := by decide +kernel
theorem dX9_layPlan_128 : decode cX9_layPlan 128 = .ok (.getfield 35, 3) := by decide +kernel
theorem dX9_layPlan_131 : decode cX9_layPlan 131 = .ok (.iload 5, 2) := by decide +kernel
theorem dX9_layPlan_133 : decode cX9_layPlan 133 = .ok (.aload_n 0, 1) := by decide +kernel
theorem dX9_layPlan_134 : decode cX9_layPlan 134 = .ok (.getfield 35, 3) := by decide +kernel
theorem dX9_layPlan_137 : decode cX9_layPlan 137 = .ok (.aload_n 0, 1) := by decide +kernel
theorem dX9_layPlan_138 : decode cX9_layPlan 138 = .ok (.getfield 44, 3) := by decide +kernel
theorem dX9_layPlan_141 : decode cX9_layPlan 141 = .ok (.iload_n 3, 1) := by decide +kernel
theorem dX9_layPlan_142 : decode cX9_layPlan 142 = .ok (.iaload, 1) := by decide +kernel
theorem dX9_layPlan_143 : decode cX9_layPlan 143 = .ok (.iaload, 1) := by decide +kernel
theorem dX9_layPlan_144 : decode cX9_layPlan 144 = .ok (.iconst 1, 1) := by decide +kernel
theorem dX9_layPlan_145 : decode cX9_layPlan 145 = .ok (.iadd, 1) := by decide +kernel
theorem dX9_layPlan_146 : decode cX9_layPlan 146 = .ok (.iastore, 1) := by decide +kernel
theorem dX9_layPlan_147 : decode cX9_layPlan 147 = .ok (.aload_n 0, 1) := by decide +kernel
theorem dX9_layPlan_148 : decode cX9_layPlan 148 = .ok (.getfield 38, 3) := by decide +kernel
theorem dX9_layPlan_151 : decode cX9_layPlan 151 = .ok (.iload 5, 2) := by decide +kernel
theorem dX9_layPlan_153 : decode cX9_layPlan 153 = .ok (.aload_n 0, 1) := by decide +kernel
theorem dX9_layPlan_154 : decode cX9_layPlan 154 = .ok (.getfield 44, 3) := by decide +kernel
theorem dX9_layPlan_157 : decode cX9_layPlan 157 = .ok (.iload_n 3, 1) := by decide +kernel
theorem dX9_layPlan_158 : decode cX9_layPlan 158 = .ok (.iaload, 1) := by decide +kernel
theorem dX9_layPlan_159 : decode cX9_layPlan 159 = .ok (.iastore, 1) := by decide +kernel
theorem dX9_layPlan_160 : decode cX9_layPlan 160 = .ok (.aload_n 0, 1) := by decide +kernel
theorem dX9_layPlan_161 : decode cX9_layPlan 161 = .ok (.getfield 41, 3) := by decide +kernel
theorem dX9_layPlan_164 : decode cX9_layPlan 164 = .ok (.iload 5, 2) := by decide +kernel
theorem dX9_layPlan_166 : decode cX9_layPlan 166 = .ok (.iload 4, 2) := by decide +kernel
theorem dX9_layPlan_168 : decode cX9_layPlan 168 = .ok (.iastore, 1) := by decide +kernel
theorem dX9_layPlan_169 : decode cX9_layPlan 169 = .ok (.aload_n 0, 1) := by decide +kernel
theorem dX9_layPlan_170 : decode cX9_layPlan 170 = .ok (.getfield 44, 3) := by decide +kernel
theorem dX9_layPlan_173 : decode cX9_layPlan 173 = .ok (.iload_n 2, 1) := by decide +kernel
theorem dX9_layPlan_174 : decode cX9_layPlan 174 = .ok (.iload 5, 2) := by decide +kernel
theorem dX9_layPlan_176 : decode cX9_layPlan 176 = .ok (.iastore, 1) := by decide +kernel
theorem dX9_layPlan_177 : decode cX9_layPlan 177 = .ok (.iinc 2 1, 3) := by decide +kernel
theorem dX9_layPlan_180 : decode cX9_layPlan 180 = .ok (.iinc 4 1, 3) := by decide +kernel
theorem dX9_layPlan_183 : decode cX9_layPlan 183 = .ok (.goto (-97), 3) := by decide +kernel
theorem dX9_layPlan_186 : decode cX9_layPlan 186 = .ok (.iinc 3 1, 3) := by decide +kernel
theorem dX9_layPlan_189 : decode cX9_layPlan 189 = .ok (.goto (-136), 3) := by decide +kernel
theorem dX9_layPlan_192 : decode cX9_layPlan 192 = .ok (.bipush (-6), 2) := by decide +kernel
theorem dX9_layPlan_194 : decode cX9_layPlan 194 = .ok (.ireturn, 1) := by decide +kernel
set_option maxRecDepth 20000 in
theorem ggX9_isLesson_X9_in : GoodIn wsX9_isLesson wsX9_in := goodIn_r _ [4] (by decide +kernel) (by decide +kernel)
set_option maxRecDepth 20000 in
theorem gX9_isLesson_X9_in : GoodIn wsX9_isLesson (va_wsS RX9 63 yX9_in wsX9_in) := goodIn_app (goodIn_of _ (by decide +kernel)) ggX9_isLesson_X9_in
theorem dX9_isLesson_0 : decode cX9_isLesson 0 = .ok (.iload_n 0, 1) := by decide +kernel
theorem dX9_isLesson_1 : decode cX9_isLesson 1 = .ok (.iconst 0, 1) := by decide +kernel
theorem dX9_isLesson_2 : decode cX9_isLesson 2 = .ok (.bipush 6, 2) := by decide +kernel
theorem dX9_isLesson_4 : decode cX9_isLesson 4 = .ok (.invokestatic 63, 3) := by decide +kernel
theorem dX9_isLesson_7 : decode cX9_isLesson 7 = .ok (.ireturn, 1) := by decide +kernel
set_option maxRecDepth 20000 in
theorem ggX9_plan_X9_isLesson : GoodIn wsX9_plan wsX9_isLesson := goodIn_r _ [8, 9, 10, 7, 11] (by decide +kernel) (by decide +kernel)
set_option maxRecDepth 20000 in
theorem gX9_plan_X9_isLesson : GoodIn wsX9_plan (va_wsS RX9 149 yX9_isLesson wsX9_isLesson) := goodIn_app (goodIn_of _ (by decide +kernel)) ggX9_plan_X9_isLesson
set_option maxRecDepth 20000 in
theorem ggX9_plan_X9_layPlan : GoodIn wsX9_plan wsX9_layPlan := goodIn_r _ [15, 1, 16, 2, 3, 17, 18, 19, 7, 20, 4, 21, 22, 23, 24, 25, 26, 27, 28, 29, 30, 31, 32, 33, 34, 35, 36, 37, 38, 39, 40, 41, 42, 43, 44, 45, 46, 47, 48, 49, 50, 51, 52, 53, 54, 55, 56, 57, 58, 59, 60, 61, 62, 63, 64, 65, 66, 67, 68, 69, 70, 71, 72, 73, 74, 75, 76, 77, 78, 79, 80, 81, 82, 83, 84, 85, 86, 87, 88, 89, 90, 91, 92, 93, 94, 95, 96, 97] (by decide +kernel) (by decide +kernel)
set_option maxRecDepth 20000 in
theorem gX9_plan_X9_layPlan : GoodIn wsX9_plan (wsV RX9 152 RX9 yX9_layPlan wsX9_layPlan) := goodIn_app (goodIn_of _ (by decide +kernel)) ggX9_plan_X9_layPlan
set_option maxRecDepth 20000 in
theorem ggX9_plan_X9_in : GoodIn wsX9_plan wsX9_in := goodIn_r _ [11] (by decide +kernel) (by decide +kernel)
set_option maxRecDepth 20000 in
theorem gX9_plan_X9_in : GoodIn wsX9_plan (va_wsS RX9 63 yX9_in wsX9_in) := goodIn_app (goodIn_of _ (by decide +kernel)) ggX9_plan_X9_in
theorem dX9_plan_0 : decode cX9_plan 0 = .ok (.iload_n 1, 1) := by decide +kernel
theorem dX9_plan_1 : decode cX9_plan 1 = .ok (.invokestatic 149, 3) := by decide +kernel
theorem dX9_plan_4 : decode cX9_plan 4 = .ok (.ifCond .ne 6, 3) := by decide +kernel
theorem dX9_plan_7 : decode cX9_plan 7 = .ok (.bipush (-2), 2) := by decide +kernel
theorem dX9_plan_9 : decode cX9_plan 9 = .ok (.ireturn, 1) := by decide +kernel
theorem dX9_plan_10 : decode cX9_plan 10 = .ok (.aload_n 0, 1) := by decide +kernel
theorem dX9_plan_11 : decode cX9_plan 11 = .ok (.iload_n 1, 1) := by decide +kernel
theorem dX9_plan_12 : decode cX9_plan 12 = .ok (.invokevirtual 152, 3) := by decide +kernel
theorem dX9_plan_15 : decode cX9_plan 15 = .ok (.istore_n 3, 1) := by decide +kernel
theorem dX9_plan_16 : decode cX9_plan 16 = .ok (.iload_n 3, 1) := by decide +kernel
theorem dX9_plan_17 : decode cX9_plan 17 = .ok (.ifCond .lt 8, 3) := by decide +kernel
theorem dX9_plan_20 : decode cX9_plan 20 = .ok (.iload_n 2, 1) := by decide +kernel
theorem dX9_plan_21 : decode cX9_plan 21 = .ok (.iconst (-1), 1) := by decide +kernel
theorem dX9_plan_22 : decode cX9_plan 22 = .ok (.if_icmp .ne 19, 3) := by decide +kernel
theorem dX9_plan_25 : decode cX9_plan 25 = .ok (.iload_n 3, 1) := by decide +kernel
theorem dX9_plan_26 : decode cX9_plan 26 = .ok (.ifCond .ge 8, 3) := by decide +kernel
theorem dX9_plan_29 : decode cX9_plan 29 = .ok (.bipush (-6), 2) := by decide +kernel
theorem dX9_plan_31 : decode cX9_plan 31 = .ok (.goto 9, 3) := by decide +kernel
theorem dX9_plan_34 : decode cX9_plan 34 = .ok (.aload_n 0, 1) := by decide +kernel
theorem dX9_plan_35 : decode cX9_plan 35 = .ok (.getfield 35, 3) := by decide +kernel
theorem dX9_plan_38 : decode cX9_plan 38 = .ok (.iload_n 3, 1) := by decide +kernel
theorem dX9_plan_39 : decode cX9_plan 39 = .ok (.iaload, 1) := by decide +kernel
theorem dX9_plan_40 : decode cX9_plan 40 = .ok (.ireturn, 1) := by decide +kernel
theorem dX9_plan_41 : decode cX9_plan 41 = .ok (.iload_n 2, 1) := by decide +kernel
theorem dX9_plan_42 : decode cX9_plan 42 = .ok (.iconst 0, 1) := by decide +kernel
theorem dX9_plan_43 : decode cX9_plan 43 = .ok (.aload_n 0, 1) := by decide +kernel
theorem dX9_plan_44 : decode cX9_plan 44 = .ok (.getfield 35, 3) := by decide +kernel
theorem dX9_plan_47 : decode cX9_plan 47 = .ok (.iload_n 3, 1) := by decide +kernel
theorem dX9_plan_48 : decode cX9_plan 48 = .ok (.iaload, 1) := by decide +kernel
theorem dX9_plan_49 : decode cX9_plan 49 = .ok (.iconst 1, 1) := by decide +kernel
theorem dX9_plan_50 : decode cX9_plan 50 = .ok (.isub, 1) := by decide +kernel
theorem dX9_plan_51 : decode cX9_plan 51 = .ok (.invokestatic 63, 3) := by decide +kernel
theorem dX9_plan_54 : decode cX9_plan 54 = .ok (.ifCond .ne 6, 3) := by decide +kernel
theorem dX9_plan_57 : decode cX9_plan 57 = .ok (.bipush (-6), 2) := by decide +kernel
theorem dX9_plan_59 : decode cX9_plan 59 = .ok (.ireturn, 1) := by decide +kernel
theorem dX9_plan_60 : decode cX9_plan 60 = .ok (.iload_n 3, 1) := by decide +kernel
theorem dX9_plan_61 : decode cX9_plan 61 = .ok (.istore 4, 2) := by decide +kernel
theorem dX9_plan_63 : decode cX9_plan 63 = .ok (.aload_n 0, 1) := by decide +kernel
theorem dX9_plan_64 : decode cX9_plan 64 = .ok (.getfield 35, 3) := by decide +kernel
theorem dX9_plan_67 : decode cX9_plan 67 = .ok (.iload 4, 2) := by decide +kernel
theorem dX9_plan_69 : decode cX9_plan 69 = .ok (.iaload, 1) := by decide +kernel
theorem dX9_plan_70 : decode cX9_plan 70 = .ok (.iload_n 2, 1) := by decide +kernel
theorem dX9_plan_71 : decode cX9_plan 71 = .ok (.iconst 1, 1) := by decide +kernel
theorem dX9_plan_72 : decode cX9_plan 72 = .ok (.iadd, 1) := by decide +kernel
theorem dX9_plan_73 : decode cX9_plan 73 = .ok (.if_icmp .le 15, 3) := by decide +kernel
theorem dX9_plan_76 : decode cX9_plan 76 = .ok (.aload_n 0, 1) := by decide +kernel
theorem dX9_plan_77 : decode cX9_plan 77 = .ok (.getfield 38, 3) := by decide +kernel
theorem dX9_plan_80 : decode cX9_plan 80 = .ok (.iload 4, 2) := by decide +kernel
theorem dX9_plan_82 : decode cX9_plan 82 = .ok (.iaload, 1) := by decide +kernel
theorem dX9_plan_83 : decode cX9_plan 83 = .ok (.istore 4, 2) := by decide +kernel
theorem dX9_plan_85 : decode cX9_plan 85 = .ok (.goto (-22), 3) := by decide +kernel
theorem dX9_plan_88 : decode cX9_plan 88 = .ok (.aload_n 0, 1) := by decide +kernel
theorem dX9_plan_89 : decode cX9_plan 89 = .ok (.getfield 41, 3) := by decide +kernel
theorem dX9_plan_92 : decode cX9_plan 92 = .ok (.iload 4, 2) := by decide +kernel
theorem dX9_plan_94 : decode cX9_plan 94 = .ok (.iaload, 1) := by decide +kernel
theorem dX9_plan_95 : decode cX9_plan 95 = .ok (.istore 5, 2) := by decide +kernel
theorem dX9_plan_97 : decode cX9_plan 97 = .ok (.iload 5, 2) := by decide +kernel
theorem dX9_plan_99 : decode cX9_plan 99 = .ok (.aload_n 0, 1) := by decide +kernel
theorem dX9_plan_100 : decode cX9_plan 100 = .ok (.getfield 13, 3) := by decide +kernel
theorem dX9_plan_103 : decode cX9_plan 103 = .ok (.if_icmp .ge 8, 3) := by decide +kernel
theorem dX9_plan_106 : decode cX9_plan 106 = .ok (.iload 5, 2) := by decide +kernel
theorem dX9_plan_108 : decode cX9_plan 108 = .ok (.goto 57, 3) := by decide +kernel
theorem dX9_plan_111 : decode cX9_plan 111 = .ok (.iload 5, 2) := by decide +kernel
theorem dX9_plan_113 : decode cX9_plan 113 = .ok (.iconst 2, 1) := by decide +kernel
theorem dX9_plan_114 : decode cX9_plan 114 = .ok (.aload_n 0, 1) := by decide +kernel
theorem dX9_plan_115 : decode cX9_plan 115 = .ok (.getfield 13, 3) := by decide +kernel
theorem dX9_plan_118 : decode cX9_plan 118 = .ok (.imul, 1) := by decide +kernel
theorem dX9_plan_119 : decode cX9_plan 119 = .ok (.if_icmp .ge 16, 3) := by decide +kernel
theorem dX9_plan_122 : decode cX9_plan 122 = .ok (.bipush 10, 2) := by decide +kernel
theorem dX9_plan_124 : decode cX9_plan 124 = .ok (.iload 5, 2) := by decide +kernel
theorem dX9_plan_126 : decode cX9_plan 126 = .ok (.iadd, 1) := by decide +kernel
theorem dX9_plan_127 : decode cX9_plan 127 = .ok (.aload_n 0, 1) := by decide +kernel
theorem dX9_plan_128 : decode cX9_plan 128 = .ok (.getfield 13, 3) := by decide +kernel
theorem dX9_plan_131 : decode cX9_plan 131 = .ok (.isub, 1) := by decide +kernel
theorem dX9_plan_132 : decode cX9_plan 132 = .ok (.goto 33, 3) := by decide +kernel
theorem dX9_plan_135 : decode cX9_plan 135 = .ok (.iload 5, 2) := by decide +kernel
theorem dX9_plan_137 : decode cX9_plan 137 = .ok (.iconst 2, 1) := by decide +kernel
theorem dX9_plan_138 : decode cX9_plan 138 = .ok (.aload_n 0, 1) := by decide +kernel
theorem dX9_plan_139 : decode cX9_plan 139 = .ok (.getfield 13, 3) := by decide +kernel
theorem dX9_plan_142 : decode cX9_plan 142 = .ok (.imul, 1) := by decide +kernel
theorem dX9_plan_143 : decode cX9_plan 143 = .ok (.if_icmp .ne 8, 3) := by decide +kernel
theorem dX9_plan_146 : decode cX9_plan 146 = .ok (.bipush 20, 2) := by decide +kernel
theorem dX9_plan_148 : decode cX9_plan 148 = .ok (.goto 17, 3) := by decide +kernel
theorem dX9_plan_151 : decode cX9_plan 151 = .ok (.bipush 30, 2) := by decide +kernel
theorem dX9_plan_153 : decode cX9_plan 153 = .ok (.iload 5, 2) := by decide +kernel
theorem dX9_plan_155 : decode cX9_plan 155 = .ok (.iadd, 1) := by decide +kernel
theorem dX9_plan_156 : decode cX9_plan 156 = .ok (.iconst 2, 1) := by decide +kernel
theorem dX9_plan_157 : decode cX9_plan 157 = .ok (.aload_n 0, 1) := by decide +kernel
theorem dX9_plan_158 : decode cX9_plan 158 = .ok (.getfield 13, 3) := by decide +kernel
theorem dX9_plan_161 : decode cX9_plan 161 = .ok (.imul, 1) := by decide +kernel
theorem dX9_plan_162 : decode cX9_plan 162 = .ok (.isub, 1) := by decide +kernel
theorem dX9_plan_163 : decode cX9_plan 163 = .ok (.iconst 1, 1) := by decide +kernel
theorem dX9_plan_164 : decode cX9_plan 164 = .ok (.isub, 1) := by decide +kernel
theorem dX9_plan_165 : decode cX9_plan 165 = .ok (.ireturn, 1) := by decide +kernel
theorem dX9_rowsOf_0 : decode cX9_rowsOf 0 = .ok (.iconst 1, 1) := by decide +kernel
theorem dX9_rowsOf_1 : decode cX9_rowsOf 1 = .ok (.istore_n 1, 1) := by decide +kernel
theorem dX9_rowsOf_2 : decode cX9_rowsOf 2 = .ok (.iconst 2, 1) := by decide +kernel
theorem dX9_rowsOf_3 : decode cX9_rowsOf 3 = .ok (.istore_n 2, 1) := by decide +kernel
theorem dX9_rowsOf_4 : decode cX9_rowsOf 4 = .ok (.iload_n 2, 1) := by decide +kernel
theorem dX9_rowsOf_5 : decode cX9_rowsOf 5 = .ok (.aload_n 0, 1) := by decide +kernel
theorem dX9_rowsOf_6 : decode cX9_rowsOf 6 = .ok (.getfield 13, 3) := by decide +kernel
theorem dX9_rowsOf_9 : decode cX9_rowsOf 9 = .ok (.if_icmp .gt 13, 3) := by decide +kernel
theorem dX9_rowsOf_12 : decode cX9_rowsOf 12 = .ok (.iload_n 1, 1) := by decide +kernel
theorem dX9_rowsOf_13 : decode cX9_rowsOf 13 = .ok (.iload_n 2, 1) := by decide +kernel
theorem dX9_rowsOf_14 : decode cX9_rowsOf 14 = .ok (.imul, 1) := by decide +kernel
theorem dX9_rowsOf_15 : decode cX9_rowsOf 15 = .ok (.istore_n 1, 1) := by decide +kernel
theorem dX9_rowsOf_16 : decode cX9_rowsOf 16 = .ok (.iinc 2 1, 3) := by decide +kernel
theorem dX9_rowsOf_19 : decode cX9_rowsOf 19 = .ok (.goto (-15), 3) := by decide +kernel
theorem dX9_rowsOf_22 : decode cX9_rowsOf 22 = .ok (.iload_n 1, 1) := by decide +kernel
theorem dX9_rowsOf_23 : decode cX9_rowsOf 23 = .ok (.ireturn, 1) := by decide +kernel
set_option maxRecDepth 20000 in
theorem ggX9_spread_X9_rowsOf : GoodIn wsX9_spread wsX9_rowsOf := goodIn_r _ [7, 8, 49, 50, 51, 52, 53, 54, 55, 56, 57, 58, 59, 60, 61, 62, 63, 64, 65, 66, 67] (by decide +kernel) (by decide +kernel)
set_option maxRecDepth 20000 in
theorem gX9_spread_X9_rowsOf : GoodIn wsX9_spread (wsV RX9 155 RX9 yX9_rowsOf wsX9_rowsOf) := goodIn_app (goodIn_of _ (by decide +kernel)) ggX9_spread_X9_rowsOf
set_option maxRecDepth 20000 in
theorem ggX9_spread_X9_kinds : GoodIn wsX9_spread wsX9_kinds := goodIn_r _ [12, 8, 49, 50, 51, 52, 53, 54, 55, 56, 57, 58, 59, 60, 61, 62, 63, 64, 65, 66, 67] (by decide +kernel) (by decide +kernel)
set_option maxRecDepth 20000 in
theorem gX9_spread_X9_kinds : GoodIn wsX9_spread (wsV RX9 143 RX9 yX9_kinds wsX9_kinds) := goodIn_app (goodIn_of _ (by decide +kernel)) ggX9_spread_X9_kinds
set_option maxRecDepth 20000 in
theorem ggX9_spread_X9_layRow : GoodIn wsX9_spread wsX9_layRow := goodIn_r _ [16, 17, 18, 19, 20, 21, 22, 6, 23, 8, 24, 25, 26, 27, 28, 49, 50, 51, 52, 53, 54, 55, 56, 57, 58, 59, 60, 61, 62, 63, 64, 65, 66, 67] (by decide +kernel) (by decide +kernel)
set_option maxRecDepth 20000 in
theorem gX9_spread_X9_layRow : GoodIn wsX9_spread (wsV RX9 140 RX9 yX9_layRow wsX9_layRow) := goodIn_app (goodIn_of _ (by decide +kernel)) ggX9_spread_X9_layRow
set_option maxRecDepth 20000 in
theorem ggX9_spread_X9_goEvent : GoodIn wsX9_spread wsX9_goEvent := goodIn_r _ [32, 8, 33, 34, 35, 6, 36, 25, 26, 27, 28, 19, 37, 38, 39, 40, 17, 41, 42, 43, 44, 49, 50, 51, 52, 53, 54, 55, 56, 57, 58, 59, 60, 61, 62, 63, 64, 65, 66, 67] (by decide +kernel) (by decide +kernel)
set_option maxRecDepth 20000 in
theorem gX9_spread_X9_goEvent : GoodIn wsX9_spread (wsV RX9 146 RX9 yX9_goEvent wsX9_goEvent) := goodIn_app (goodIn_of _ (by decide +kernel)) ggX9_spread_X9_goEvent
set_option maxRecDepth 20000 in
theorem ggX9_spread_X9_rank : GoodIn wsX9_spread wsX9_rank := goodIn_r _ [48, 17, 19, 49, 50, 51, 52, 53, 54, 55, 56, 57, 58, 59, 60, 61, 62, 63, 64, 65, 66, 67] (by decide +kernel) (by decide +kernel)
set_option maxRecDepth 20000 in
theorem gX9_spread_X9_rank : GoodIn wsX9_spread (wsV RX9 137 RX9 yX9_rank wsX9_rank) := goodIn_app (goodIn_of _ (by decide +kernel)) ggX9_spread_X9_rank
theorem dX9_spread_0 : decode cX9_spread 0 = .ok (.iconst 1, 1) := by decide +kernel
theorem dX9_spread_1 : decode cX9_spread 1 = .ok (.istore_n 1, 1) := by decide +kernel
theorem dX9_spread_2 : decode cX9_spread 2 = .ok (.iconst 0, 1) := by decide +kernel
theorem dX9_spread_3 : decode cX9_spread 3 = .ok (.istore_n 2, 1) := by decide +kernel
theorem dX9_spread_4 : decode cX9_spread 4 = .ok (.iload_n 1, 1) := by decide +kernel
theorem dX9_spread_5 : decode cX9_spread 5 = .ok (.ifCond .eq 152, 3) := by decide +kernel
theorem dX9_spread_8 : decode cX9_spread 8 = .ok (.iconst 0, 1) := by decide +kernel
theorem dX9_spread_9 : decode cX9_spread 9 = .ok (.istore_n 1, 1) := by decide +kernel
theorem dX9_spread_10 : decode cX9_spread 10 = .ok (.iconst 0, 1) := by decide +kernel
theorem dX9_spread_11 : decode cX9_spread 11 = .ok (.istore_n 3, 1) := by decide +kernel
theorem dX9_spread_12 : decode cX9_spread 12 = .ok (.iload_n 3, 1) := by decide +kernel
theorem dX9_spread_13 : decode cX9_spread 13 = .ok (.aload_n 0, 1) := by decide +kernel
theorem dX9_spread_14 : decode cX9_spread 14 = .ok (.invokevirtual 155, 3) := by decide +kernel
theorem dX9_spread_17 : decode cX9_spread 17 = .ok (.if_icmp .ge 87, 3) := by decide +kernel
theorem dX9_spread_20 : decode cX9_spread 20 = .ok (.aload_n 0, 1) := by decide +kernel
theorem dX9_spread_21 : decode cX9_spread 21 = .ok (.getfield 35, 3) := by decide +kernel
theorem dX9_spread_24 : decode cX9_spread 24 = .ok (.iload_n 3, 1) := by decide +kernel
theorem dX9_spread_25 : decode cX9_spread 25 = .ok (.iaload, 1) := by decide +kernel
theorem dX9_spread_26 : decode cX9_spread 26 = .ok (.iload_n 2, 1) := by decide +kernel
theorem dX9_spread_27 : decode cX9_spread 27 = .ok (.if_icmp .ne 71, 3) := by decide +kernel
theorem dX9_spread_30 : decode cX9_spread 30 = .ok (.iconst 0, 1) := by decide +kernel
theorem dX9_spread_31 : decode cX9_spread 31 = .ok (.istore 4, 2) := by decide +kernel
theorem dX9_spread_33 : decode cX9_spread 33 = .ok (.iload 4, 2) := by decide +kernel
theorem dX9_spread_35 : decode cX9_spread 35 = .ok (.aload_n 0, 1) := by decide +kernel
theorem dX9_spread_36 : decode cX9_spread 36 = .ok (.invokevirtual 143, 3) := by decide +kernel
theorem dX9_spread_39 : decode cX9_spread 39 = .ok (.if_icmp .ge 59, 3) := by decide +kernel
theorem dX9_spread_42 : decode cX9_spread 42 = .ok (.aload_n 0, 1) := by decide +kernel
theorem dX9_spread_43 : decode cX9_spread 43 = .ok (.iload_n 3, 1) := by decide +kernel
theorem dX9_spread_44 : decode cX9_spread 44 = .ok (.invokevirtual 140, 3) := by decide +kernel
theorem dX9_spread_47 : decode cX9_spread 47 = .ok (.aload_n 0, 1) := by decide +kernel
theorem dX9_spread_48 : decode cX9_spread 48 = .ok (.iload 4, 2) := by decide +kernel
theorem dX9_spread_50 : decode cX9_spread 50 = .ok (.invokevirtual 146, 3) := by decide +kernel
theorem dX9_spread_53 : decode cX9_spread 53 = .ok (.aload_n 0, 1) := by decide +kernel
theorem dX9_spread_54 : decode cX9_spread 54 = .ok (.invokevirtual 137, 3) := by decide +kernel
theorem dX9_spread_57 : decode cX9_spread 57 = .ok (.istore 5, 2) := by decide +kernel
theorem dX9_spread_59 : decode cX9_spread 59 = .ok (.aload_n 0, 1) := by decide +kernel
theorem dX9_spread_60 : decode cX9_spread 60 = .ok (.getfield 35, 3) := by decide +kernel
theorem dX9_spread_63 : decode cX9_spread 63 = .ok (.iload 5, 2) := by decide +kernel
theorem dX9_spread_65 : decode cX9_spread 65 = .ok (.aload_n 0, 1) := by decide +kernel
theorem dX9_spread_66 : decode cX9_spread 66 = .ok (.getfield 35, 3) := by decide +kernel
theorem dX9_spread_69 : decode cX9_spread 69 = .ok (.iload 5, 2) := by decide +kernel
theorem dX9_spread_71 : decode cX9_spread 71 = .ok (.iaload, 1) := by decide +kernel
theorem dX9_spread_72 : decode cX9_spread 72 = .ok (.iload_n 2, 1) := by decide +kernel
theorem dX9_spread_73 : decode cX9_spread 73 = .ok (.iconst 1, 1) := by decide +kernel
theorem dX9_spread_74 : decode cX9_spread 74 = .ok (.iadd, 1) := by decide +kernel
theorem dX9_spread_75 : decode cX9_spread 75 = .ok (.if_icmp .le 9, 3) := by decide +kernel
theorem dX9_spread_78 : decode cX9_spread 78 = .ok (.iload_n 2, 1) := by decide +kernel
theorem dX9_spread_79 : decode cX9_spread 79 = .ok (.iconst 1, 1) := by decide +kernel
theorem dX9_spread_80 : decode cX9_spread 80 = .ok (.iadd, 1) := by decide +kernel
theorem dX9_spread_81 : decode cX9_spread 81 = .ok (.goto 10, 3) := by decide +kernel
theorem dX9_spread_84 : decode cX9_spread 84 = .ok (.aload_n 0, 1) := by decide +kernel
theorem dX9_spread_85 : decode cX9_spread 85 = .ok (.getfield 35, 3) := by decide +kernel
theorem dX9_spread_88 : decode cX9_spread 88 = .ok (.iload 5, 2) := by decide +kernel
theorem dX9_spread_90 : decode cX9_spread 90 = .ok (.iaload, 1) := by decide +kernel
theorem dX9_spread_91 : decode cX9_spread 91 = .ok (.iastore, 1) := by decide +kernel
theorem dX9_spread_92 : decode cX9_spread 92 = .ok (.iinc 4 1, 3) := by decide +kernel
theorem dX9_spread_95 : decode cX9_spread 95 = .ok (.goto (-62), 3) := by decide +kernel
theorem dX9_spread_98 : decode cX9_spread 98 = .ok (.iinc 3 1, 3) := by decide +kernel
theorem dX9_spread_101 : decode cX9_spread 101 = .ok (.goto (-89), 3) := by decide +kernel
theorem dX9_spread_104 : decode cX9_spread 104 = .ok (.iconst 0, 1) := by decide +kernel
theorem dX9_spread_105 : decode cX9_spread 105 = .ok (.istore_n 3, 1) := by decide +kernel
theorem dX9_spread_106 : decode cX9_spread 106 = .ok (.iload_n 3, 1) := by decide +kernel
theorem dX9_spread_107 : decode cX9_spread 107 = .ok (.aload_n 0, 1) := by decide +kernel
theorem dX9_spread_108 : decode cX9_spread 108 = .ok (.invokevirtual 155, 3) := by decide +kernel
theorem dX9_spread_111 : decode cX9_spread 111 = .ok (.if_icmp .ge 40, 3) := by decide +kernel
theorem dX9_spread_114 : decode cX9_spread 114 = .ok (.iload_n 1, 1) := by decide +kernel
theorem dX9_spread_115 : decode cX9_spread 115 = .ok (.ifCond .ne 24, 3) := by decide +kernel
theorem dX9_spread_118 : decode cX9_spread 118 = .ok (.aload_n 0, 1) := by decide +kernel
theorem dX9_spread_119 : decode cX9_spread 119 = .ok (.getfield 35, 3) := by decide +kernel
theorem dX9_spread_122 : decode cX9_spread 122 = .ok (.iload_n 3, 1) := by decide +kernel
theorem dX9_spread_123 : decode cX9_spread 123 = .ok (.iaload, 1) := by decide +kernel
theorem dX9_spread_124 : decode cX9_spread 124 = .ok (.iload_n 2, 1) := by decide +kernel
theorem dX9_spread_125 : decode cX9_spread 125 = .ok (.if_icmp .le 18, 3) := by decide +kernel
theorem dX9_spread_128 : decode cX9_spread 128 = .ok (.aload_n 0, 1) := by decide +kernel
theorem dX9_spread_129 : decode cX9_spread 129 = .ok (.getfield 35, 3) := by decide +kernel
theorem dX9_spread_132 : decode cX9_spread 132 = .ok (.iload_n 3, 1) := by decide +kernel
theorem dX9_spread_133 : decode cX9_spread 133 = .ok (.iaload, 1) := by decide +kernel
theorem dX9_spread_134 : decode cX9_spread 134 = .ok (.ldc 158, 2) := by decide +kernel
theorem dX9_spread_136 : decode cX9_spread 136 = .ok (.if_icmp .ge 7, 3) := by decide +kernel
theorem dX9_spread_139 : decode cX9_spread 139 = .ok (.iconst 1, 1) := by decide +kernel
theorem dX9_spread_140 : decode cX9_spread 140 = .ok (.goto 4, 3) := by decide +kernel
theorem dX9_spread_143 : decode cX9_spread 143 = .ok (.iconst 0, 1) := by decide +kernel
theorem dX9_spread_144 : decode cX9_spread 144 = .ok (.istore_n 1, 1) := by decide +kernel
theorem dX9_spread_145 : decode cX9_spread 145 = .ok (.iinc 3 1, 3) := by decide +kernel
theorem dX9_spread_148 : decode cX9_spread 148 = .ok (.goto (-42), 3) := by decide +kernel
theorem dX9_spread_151 : decode cX9_spread 151 = .ok (.iinc 2 1, 3) := by decide +kernel
theorem dX9_spread_154 : decode cX9_spread 154 = .ok (.goto (-150), 3) := by decide +kernel
theorem dX9_spread_157 : decode cX9_spread 157 = .ok (.return_, 1) := by decide +kernel
set_option maxRecDepth 20000 in
theorem ggX9_week_X9_in : GoodIn wsX9_week wsX9_in := goodIn_r _ [6] (by decide +kernel) (by decide +kernel)
set_option maxRecDepth 20000 in
theorem gX9_week_X9_in : GoodIn wsX9_week (va_wsS RX9 63 yX9_in wsX9_in) := goodIn_app (goodIn_of _ (by decide +kernel)) ggX9_week_X9_in
set_option maxRecDepth 20000 in
theorem ggX9_week_X9_isLesson : GoodIn wsX9_week wsX9_isLesson := goodIn_r _ [9, 3, 4, 5, 6] (by decide +kernel) (by decide +kernel)
set_option maxRecDepth 20000 in
theorem gX9_week_X9_isLesson : GoodIn wsX9_week (va_wsS RX9 149 yX9_isLesson wsX9_isLesson) := goodIn_app (goodIn_of _ (by decide +kernel)) ggX9_week_X9_isLesson
set_option maxRecDepth 20000 in
theorem ggX9_week_X9_asNow : GoodIn wsX9_week wsX9_asNow := goodIn_r _ [13, 14, 15, 16, 17, 85, 86, 87, 88, 89, 90, 91, 92, 93, 94, 95, 96, 97, 98, 99, 100, 101, 102, 103] (by decide +kernel) (by decide +kernel)
set_option maxRecDepth 20000 in
theorem gX9_week_X9_asNow : GoodIn wsX9_week (wsV RX9 98 RX9 yX9_asNow wsX9_asNow) := goodIn_app (goodIn_of _ (by decide +kernel)) ggX9_week_X9_asNow
set_option maxRecDepth 20000 in
theorem ggX9_week_X9_rank : GoodIn wsX9_week wsX9_rank := goodIn_r _ [21, 15, 16, 85, 86, 87, 88, 89, 90, 91, 92, 93, 94, 95, 96, 97, 98, 99, 100, 101, 102, 103] (by decide +kernel) (by decide +kernel)
set_option maxRecDepth 20000 in
theorem gX9_week_X9_rank : GoodIn wsX9_week (wsV RX9 137 RX9 yX9_rank wsX9_rank) := goodIn_app (goodIn_of _ (by decide +kernel)) ggX9_week_X9_rank
set_option maxRecDepth 20000 in
theorem ggX9_week_X9_spreadFrom : GoodIn wsX9_week wsX9_spreadFrom := goodIn_r _ [25, 2, 1, 26, 27, 28, 5, 29, 14, 30, 31, 32, 33, 34, 35, 36, 37, 38, 39, 40, 41, 15, 42, 16, 10, 11, 12, 13, 17, 43, 44, 45, 46, 47, 48, 49, 50, 51, 52, 53, 54, 55, 56, 57, 58, 59, 60, 61, 62, 18, 19, 20, 21, 85, 86, 87, 88, 89, 90, 91, 92, 93, 94, 95, 96, 97, 98, 99, 100, 101, 102, 103] (by decide +kernel) (by decide +kernel)
set_option maxRecDepth 20000 in
theorem gX9_week_X9_spreadFrom : GoodIn wsX9_week (wsV RX9 159 RX9 yX9_spreadFrom wsX9_spreadFrom) := goodIn_app (goodIn_of _ (by decide +kernel)) ggX9_week_X9_spreadFrom
set_option maxRecDepth 20000 in
theorem ggX9_week_X9_rowsOf : GoodIn wsX9_week wsX9_rowsOf := goodIn_r _ [29, 14, 85, 86, 87, 88, 89, 90, 91, 92, 93, 94, 95, 96, 97, 98, 99, 100, 101, 102, 103] (by decide +kernel) (by decide +kernel)
set_option maxRecDepth 20000 in
theorem gX9_week_X9_rowsOf : GoodIn wsX9_week (wsV RX9 155 RX9 yX9_rowsOf wsX9_rowsOf) := goodIn_app (goodIn_of _ (by decide +kernel)) ggX9_week_X9_rowsOf
set_option maxRecDepth 20000 in
theorem ggX9_week_X9_layRow : GoodIn wsX9_week wsX9_layRow := goodIn_r _ [41, 15, 42, 16, 10, 11, 12, 5, 13, 14, 17, 43, 44, 45, 46, 85, 86, 87, 88, 89, 90, 91, 92, 93, 94, 95, 96, 97, 98, 99, 100, 101, 102, 103] (by decide +kernel) (by decide +kernel)
set_option maxRecDepth 20000 in
theorem gX9_week_X9_layRow : GoodIn wsX9_week (wsV RX9 140 RX9 yX9_layRow wsX9_layRow) := goodIn_app (goodIn_of _ (by decide +kernel)) ggX9_week_X9_layRow
set_option maxRecDepth 20000 in
theorem ggX9_week_X9_isTaught : GoodIn wsX9_week wsX9_isTaught := goodIn_r _ [66, 15, 67, 68, 69, 5, 70, 71, 16, 72, 73, 74, 75, 76, 77, 78, 79, 80, 81, 82, 83, 84, 85, 86, 87, 88, 89, 90, 91, 92, 93, 94, 95, 96, 97, 98, 99, 100, 101, 102, 103] (by decide +kernel) (by decide +kernel)
set_option maxRecDepth 20000 in
theorem gX9_week_X9_isTaught : GoodIn wsX9_week (wsV RX9 134 RX9 yX9_isTaught wsX9_isTaught) := goodIn_app (goodIn_of _ (by decide +kernel)) ggX9_week_X9_isTaught
theorem dX9_week_0 : decode cX9_week 0 = .ok (.iconst 1, 1) := by decide +kernel
theorem dX9_week_1 : decode cX9_week 1 = .ok (.istore_n 3, 1) := by decide +kernel
theorem dX9_week_2 : decode cX9_week 2 = .ok (.iconst 0, 1) := by decide +kernel
theorem dX9_week_3 : decode cX9_week 3 = .ok (.istore 4, 2) := by decide +kernel
theorem dX9_week_5 : decode cX9_week 5 = .ok (.iload 4, 2) := by decide +kernel
theorem dX9_week_7 : decode cX9_week 7 = .ok (.iload_n 2, 1) := by decide +kernel
theorem dX9_week_8 : decode cX9_week 8 = .ok (.if_icmp .ge 23, 3) := by decide +kernel
theorem dX9_week_11 : decode cX9_week 11 = .ok (.iload_n 2, 1) := by decide +kernel
theorem dX9_week_12 : decode cX9_week 12 = .ok (.iconst 1, 1) := by decide +kernel
theorem dX9_week_13 : decode cX9_week 13 = .ok (.iconst 4, 1) := by decide +kernel
theorem dX9_week_14 : decode cX9_week 14 = .ok (.invokestatic 63, 3) := by decide +kernel
theorem dX9_week_17 : decode cX9_week 17 = .ok (.ifCond .eq 14, 3) := by decide +kernel
theorem dX9_week_20 : decode cX9_week 20 = .ok (.iload_n 3, 1) := by decide +kernel
theorem dX9_week_21 : decode cX9_week 21 = .ok (.bipush 10, 2) := by decide +kernel
theorem dX9_week_23 : decode cX9_week 23 = .ok (.imul, 1) := by decide +kernel
theorem dX9_week_24 : decode cX9_week 24 = .ok (.istore_n 3, 1) := by decide +kernel
theorem dX9_week_25 : decode cX9_week 25 = .ok (.iinc 4 1, 3) := by decide +kernel
theorem dX9_week_28 : decode cX9_week 28 = .ok (.goto (-23), 3) := by decide +kernel
theorem dX9_week_31 : decode cX9_week 31 = .ok (.iload_n 2, 1) := by decide +kernel
theorem dX9_week_32 : decode cX9_week 32 = .ok (.iconst 1, 1) := by decide +kernel
theorem dX9_week_33 : decode cX9_week 33 = .ok (.iconst 4, 1) := by decide +kernel
theorem dX9_week_34 : decode cX9_week 34 = .ok (.invokestatic 63, 3) := by decide +kernel
theorem dX9_week_37 : decode cX9_week 37 = .ok (.ifCond .eq 14, 3) := by decide +kernel
theorem dX9_week_40 : decode cX9_week 40 = .ok (.iload_n 1, 1) := by decide +kernel
theorem dX9_week_41 : decode cX9_week 41 = .ok (.iconst 0, 1) := by decide +kernel
theorem dX9_week_42 : decode cX9_week 42 = .ok (.iload_n 3, 1) := by decide +kernel
theorem dX9_week_43 : decode cX9_week 43 = .ok (.iconst 1, 1) := by decide +kernel
theorem dX9_week_44 : decode cX9_week 44 = .ok (.isub, 1) := by decide +kernel
theorem dX9_week_45 : decode cX9_week 45 = .ok (.invokestatic 63, 3) := by decide +kernel
theorem dX9_week_48 : decode cX9_week 48 = .ok (.ifCond .ne 6, 3) := by decide +kernel
theorem dX9_week_51 : decode cX9_week 51 = .ok (.bipush (-2), 2) := by decide +kernel
theorem dX9_week_53 : decode cX9_week 53 = .ok (.ireturn, 1) := by decide +kernel
theorem dX9_week_54 : decode cX9_week 54 = .ok (.iconst 1, 1) := by decide +kernel
theorem dX9_week_55 : decode cX9_week 55 = .ok (.istore 4, 2) := by decide +kernel
theorem dX9_week_57 : decode cX9_week 57 = .ok (.iload 4, 2) := by decide +kernel
theorem dX9_week_59 : decode cX9_week 59 = .ok (.iload_n 3, 1) := by decide +kernel
theorem dX9_week_60 : decode cX9_week 60 = .ok (.if_icmp .ge 29, 3) := by decide +kernel
theorem dX9_week_63 : decode cX9_week 63 = .ok (.iload_n 1, 1) := by decide +kernel
theorem dX9_week_64 : decode cX9_week 64 = .ok (.iload 4, 2) := by decide +kernel
theorem dX9_week_66 : decode cX9_week 66 = .ok (.idiv, 1) := by decide +kernel
theorem dX9_week_67 : decode cX9_week 67 = .ok (.bipush 10, 2) := by decide +kernel
theorem dX9_week_69 : decode cX9_week 69 = .ok (.irem, 1) := by decide +kernel
theorem dX9_week_70 : decode cX9_week 70 = .ok (.invokestatic 149, 3) := by decide +kernel
theorem dX9_week_73 : decode cX9_week 73 = .ok (.ifCond .ne 6, 3) := by decide +kernel
theorem dX9_week_76 : decode cX9_week 76 = .ok (.bipush (-2), 2) := by decide +kernel
theorem dX9_week_78 : decode cX9_week 78 = .ok (.ireturn, 1) := by decide +kernel
theorem dX9_week_79 : decode cX9_week 79 = .ok (.iload 4, 2) := by decide +kernel
theorem dX9_week_81 : decode cX9_week 81 = .ok (.bipush 10, 2) := by decide +kernel
theorem dX9_week_83 : decode cX9_week 83 = .ok (.imul, 1) := by decide +kernel
theorem dX9_week_84 : decode cX9_week 84 = .ok (.istore 4, 2) := by decide +kernel
theorem dX9_week_86 : decode cX9_week 86 = .ok (.goto (-29), 3) := by decide +kernel
theorem dX9_week_89 : decode cX9_week 89 = .ok (.iconst 0, 1) := by decide +kernel
theorem dX9_week_90 : decode cX9_week 90 = .ok (.istore 4, 2) := by decide +kernel
theorem dX9_week_92 : decode cX9_week 92 = .ok (.iload 4, 2) := by decide +kernel
theorem dX9_week_94 : decode cX9_week 94 = .ok (.sipush 5040, 3) := by decide +kernel
theorem dX9_week_97 : decode cX9_week 97 = .ok (.if_icmp .ge 18, 3) := by decide +kernel
theorem dX9_week_100 : decode cX9_week 100 = .ok (.aload_n 0, 1) := by decide +kernel
theorem dX9_week_101 : decode cX9_week 101 = .ok (.getfield 35, 3) := by decide +kernel
theorem dX9_week_104 : decode cX9_week 104 = .ok (.iload 4, 2) := by decide +kernel
theorem dX9_week_106 : decode cX9_week 106 = .ok (.ldc 158, 2) := by decide +kernel
theorem dX9_week_108 : decode cX9_week 108 = .ok (.iastore, 1) := by decide +kernel
theorem dX9_week_109 : decode cX9_week 109 = .ok (.iinc 4 1, 3) := by decide +kernel
theorem dX9_week_112 : decode cX9_week 112 = .ok (.goto (-20), 3) := by decide +kernel
theorem dX9_week_115 : decode cX9_week 115 = .ok (.aload_n 0, 1) := by decide +kernel
theorem dX9_week_116 : decode cX9_week 116 = .ok (.invokevirtual 98, 3) := by decide +kernel
theorem dX9_week_119 : decode cX9_week 119 = .ok (.aload_n 0, 1) := by decide +kernel
theorem dX9_week_120 : decode cX9_week 120 = .ok (.getfield 35, 3) := by decide +kernel
theorem dX9_week_123 : decode cX9_week 123 = .ok (.aload_n 0, 1) := by decide +kernel
theorem dX9_week_124 : decode cX9_week 124 = .ok (.invokevirtual 137, 3) := by decide +kernel
theorem dX9_week_127 : decode cX9_week 127 = .ok (.iconst 0, 1) := by decide +kernel
theorem dX9_week_128 : decode cX9_week 128 = .ok (.iastore, 1) := by decide +kernel
theorem dX9_week_129 : decode cX9_week 129 = .ok (.ldc 158, 2) := by decide +kernel
theorem dX9_week_131 : decode cX9_week 131 = .ok (.istore 4, 2) := by decide +kernel
theorem dX9_week_133 : decode cX9_week 133 = .ok (.iload_n 3, 1) := by decide +kernel
theorem dX9_week_134 : decode cX9_week 134 = .ok (.bipush 10, 2) := by decide +kernel
theorem dX9_week_136 : decode cX9_week 136 = .ok (.idiv, 1) := by decide +kernel
theorem dX9_week_137 : decode cX9_week 137 = .ok (.istore 5, 2) := by decide +kernel
theorem dX9_week_139 : decode cX9_week 139 = .ok (.iload 5, 2) := by decide +kernel
theorem dX9_week_141 : decode cX9_week 141 = .ok (.ifCond .le 104, 3) := by decide +kernel
theorem dX9_week_144 : decode cX9_week 144 = .ok (.aload_n 0, 1) := by decide +kernel
theorem dX9_week_145 : decode cX9_week 145 = .ok (.invokevirtual 159, 3) := by decide +kernel
theorem dX9_week_148 : decode cX9_week 148 = .ok (.ldc 158, 2) := by decide +kernel
theorem dX9_week_150 : decode cX9_week 150 = .ok (.istore 4, 2) := by decide +kernel
theorem dX9_week_152 : decode cX9_week 152 = .ok (.iconst 0, 1) := by decide +kernel
theorem dX9_week_153 : decode cX9_week 153 = .ok (.istore 6, 2) := by decide +kernel
theorem dX9_week_155 : decode cX9_week 155 = .ok (.iload 6, 2) := by decide +kernel
theorem dX9_week_157 : decode cX9_week 157 = .ok (.aload_n 0, 1) := by decide +kernel
theorem dX9_week_158 : decode cX9_week 158 = .ok (.invokevirtual 155, 3) := by decide +kernel
theorem dX9_week_161 : decode cX9_week 161 = .ok (.if_icmp .ge 74, 3) := by decide +kernel
theorem dX9_week_164 : decode cX9_week 164 = .ok (.aload_n 0, 1) := by decide +kernel
theorem dX9_week_165 : decode cX9_week 165 = .ok (.iload 6, 2) := by decide +kernel
theorem dX9_week_167 : decode cX9_week 167 = .ok (.invokevirtual 140, 3) := by decide +kernel
theorem dX9_week_170 : decode cX9_week 170 = .ok (.aload_n 0, 1) := by decide +kernel
theorem dX9_week_171 : decode cX9_week 171 = .ok (.getfield 35, 3) := by decide +kernel
theorem dX9_week_174 : decode cX9_week 174 = .ok (.iload 6, 2) := by decide +kernel
theorem dX9_week_176 : decode cX9_week 176 = .ok (.aload_n 0, 1) := by decide +kernel
theorem dX9_week_177 : decode cX9_week 177 = .ok (.iload_n 1, 1) := by decide +kernel
theorem dX9_week_178 : decode cX9_week 178 = .ok (.iload 5, 2) := by decide +kernel
theorem dX9_week_180 : decode cX9_week 180 = .ok (.idiv, 1) := by decide +kernel
theorem dX9_week_181 : decode cX9_week 181 = .ok (.bipush 10, 2) := by decide +kernel
theorem dX9_week_183 : decode cX9_week 183 = .ok (.irem, 1) := by decide +kernel
theorem dX9_week_184 : decode cX9_week 184 = .ok (.invokevirtual 134, 3) := by decide +kernel
theorem dX9_week_187 : decode cX9_week 187 = .ok (.ifCond .eq 13, 3) := by decide +kernel
theorem dX9_week_190 : decode cX9_week 190 = .ok (.aload_n 0, 1) := by decide +kernel
theorem dX9_week_191 : decode cX9_week 191 = .ok (.getfield 35, 3) := by decide +kernel
theorem dX9_week_194 : decode cX9_week 194 = .ok (.iload 6, 2) := by decide +kernel
theorem dX9_week_196 : decode cX9_week 196 = .ok (.iaload, 1) := by decide +kernel
theorem dX9_week_197 : decode cX9_week 197 = .ok (.goto 5, 3) := by decide +kernel
theorem dX9_week_200 : decode cX9_week 200 = .ok (.ldc 158, 2) := by decide +kernel
theorem dX9_week_202 : decode cX9_week 202 = .ok (.iastore, 1) := by decide +kernel
theorem dX9_week_203 : decode cX9_week 203 = .ok (.aload_n 0, 1) := by decide +kernel
theorem dX9_week_204 : decode cX9_week 204 = .ok (.getfield 35, 3) := by decide +kernel
theorem dX9_week_207 : decode cX9_week 207 = .ok (.iload 6, 2) := by decide +kernel
theorem dX9_week_209 : decode cX9_week 209 = .ok (.iaload, 1) := by decide +kernel
theorem dX9_week_210 : decode cX9_week 210 = .ok (.iload 4, 2) := by decide +kernel
theorem dX9_week_212 : decode cX9_week 212 = .ok (.if_icmp .ge 13, 3) := by decide +kernel
theorem dX9_week_215 : decode cX9_week 215 = .ok (.aload_n 0, 1) := by decide +kernel
theorem dX9_week_216 : decode cX9_week 216 = .ok (.getfield 35, 3) := by decide +kernel
theorem dX9_week_219 : decode cX9_week 219 = .ok (.iload 6, 2) := by decide +kernel
theorem dX9_week_221 : decode cX9_week 221 = .ok (.iaload, 1) := by decide +kernel
theorem dX9_week_222 : decode cX9_week 222 = .ok (.goto 5, 3) := by decide +kernel
theorem dX9_week_225 : decode cX9_week 225 = .ok (.iload 4, 2) := by decide +kernel
theorem dX9_week_227 : decode cX9_week 227 = .ok (.istore 4, 2) := by decide +kernel
theorem dX9_week_229 : decode cX9_week 229 = .ok (.iinc 6 1, 3) := by decide +kernel
theorem dX9_week_232 : decode cX9_week 232 = .ok (.goto (-77), 3) := by decide +kernel
theorem dX9_week_235 : decode cX9_week 235 = .ok (.iload 5, 2) := by decide +kernel
theorem dX9_week_237 : decode cX9_week 237 = .ok (.bipush 10, 2) := by decide +kernel
theorem dX9_week_239 : decode cX9_week 239 = .ok (.idiv, 1) := by decide +kernel
theorem dX9_week_240 : decode cX9_week 240 = .ok (.istore 5, 2) := by decide +kernel
theorem dX9_week_242 : decode cX9_week 242 = .ok (.goto (-103), 3) := by decide +kernel
theorem dX9_week_245 : decode cX9_week 245 = .ok (.iload 4, 2) := by decide +kernel
theorem dX9_week_247 : decode cX9_week 247 = .ok (.ldc 158, 2) := by decide +kernel
theorem dX9_week_249 : decode cX9_week 249 = .ok (.if_icmp .ge 8, 3) := by decide +kernel
theorem dX9_week_252 : decode cX9_week 252 = .ok (.iload 4, 2) := by decide +kernel
theorem dX9_week_254 : decode cX9_week 254 = .ok (.goto 5, 3) := by decide +kernel
theorem dX9_week_257 : decode cX9_week 257 = .ok (.bipush (-6), 2) := by decide +kernel
theorem dX9_week_259 : decode cX9_week 259 = .ok (.ireturn, 1) := by decide +kernel
set_option maxRecDepth 20000 in
theorem ggX9_spreadFrom_X9_rowsOf : GoodIn wsX9_spreadFrom wsX9_rowsOf := goodIn_r _ [7, 8, 53, 54, 55, 56, 57, 58, 59, 60, 61, 62, 63, 64, 65, 66, 67, 68, 69, 70, 71] (by decide +kernel) (by decide +kernel)
set_option maxRecDepth 20000 in
theorem gX9_spreadFrom_X9_rowsOf : GoodIn wsX9_spreadFrom (wsV RX9 155 RX9 yX9_rowsOf wsX9_rowsOf) := goodIn_app (goodIn_of _ (by decide +kernel)) ggX9_spreadFrom_X9_rowsOf
set_option maxRecDepth 20000 in
theorem ggX9_spreadFrom_X9_spread : GoodIn wsX9_spreadFrom wsX9_spread := goodIn_r _ [12, 2, 1, 3, 4, 5, 6, 7, 8, 13, 14, 15, 16, 17, 18, 19, 20, 21, 22, 23, 24, 25, 26, 27, 28, 29, 30, 31, 32, 33, 34, 35, 36, 37, 38, 39, 40, 41, 42, 43, 44, 45, 46, 47, 48, 49, 50, 51, 52, 53, 54, 55, 56, 57, 58, 59, 60, 61, 62, 63, 64, 65, 66, 67, 68, 69, 70, 71] (by decide +kernel) (by decide +kernel)
set_option maxRecDepth 20000 in
theorem gX9_spreadFrom_X9_spread : GoodIn wsX9_spreadFrom (wsV RX9 162 RX9 yX9_spread wsX9_spread) := goodIn_app (goodIn_of _ (by decide +kernel)) ggX9_spreadFrom_X9_spread
theorem dX9_spreadFrom_0 : decode cX9_spreadFrom 0 = .ok (.ldc 158, 2) := by decide +kernel
theorem dX9_spreadFrom_2 : decode cX9_spreadFrom 2 = .ok (.istore_n 1, 1) := by decide +kernel
theorem dX9_spreadFrom_3 : decode cX9_spreadFrom 3 = .ok (.iconst 0, 1) := by decide +kernel
theorem dX9_spreadFrom_4 : decode cX9_spreadFrom 4 = .ok (.istore_n 2, 1) := by decide +kernel
theorem dX9_spreadFrom_5 : decode cX9_spreadFrom 5 = .ok (.iload_n 2, 1) := by decide +kernel
theorem dX9_spreadFrom_6 : decode cX9_spreadFrom 6 = .ok (.aload_n 0, 1) := by decide +kernel
theorem dX9_spreadFrom_7 : decode cX9_spreadFrom 7 = .ok (.invokevirtual 155, 3) := by decide +kernel
theorem dX9_spreadFrom_10 : decode cX9_spreadFrom 10 = .ok (.if_icmp .ge 30, 3) := by decide +kernel
theorem dX9_spreadFrom_13 : decode cX9_spreadFrom 13 = .ok (.aload_n 0, 1) := by decide +kernel
theorem dX9_spreadFrom_14 : decode cX9_spreadFrom 14 = .ok (.getfield 35, 3) := by decide +kernel
theorem dX9_spreadFrom_17 : decode cX9_spreadFrom 17 = .ok (.iload_n 2, 1) := by decide +kernel
theorem dX9_spreadFrom_18 : decode cX9_spreadFrom 18 = .ok (.iaload, 1) := by decide +kernel
theorem dX9_spreadFrom_19 : decode cX9_spreadFrom 19 = .ok (.iload_n 1, 1) := by decide +kernel
theorem dX9_spreadFrom_20 : decode cX9_spreadFrom 20 = .ok (.if_icmp .ge 12, 3) := by decide +kernel
theorem dX9_spreadFrom_23 : decode cX9_spreadFrom 23 = .ok (.aload_n 0, 1) := by decide +kernel
theorem dX9_spreadFrom_24 : decode cX9_spreadFrom 24 = .ok (.getfield 35, 3) := by decide +kernel
theorem dX9_spreadFrom_27 : decode cX9_spreadFrom 27 = .ok (.iload_n 2, 1) := by decide +kernel
theorem dX9_spreadFrom_28 : decode cX9_spreadFrom 28 = .ok (.iaload, 1) := by decide +kernel
theorem dX9_spreadFrom_29 : decode cX9_spreadFrom 29 = .ok (.goto 4, 3) := by decide +kernel
theorem dX9_spreadFrom_32 : decode cX9_spreadFrom 32 = .ok (.iload_n 1, 1) := by decide +kernel
theorem dX9_spreadFrom_33 : decode cX9_spreadFrom 33 = .ok (.istore_n 1, 1) := by decide +kernel
theorem dX9_spreadFrom_34 : decode cX9_spreadFrom 34 = .ok (.iinc 2 1, 3) := by decide +kernel
theorem dX9_spreadFrom_37 : decode cX9_spreadFrom 37 = .ok (.goto (-32), 3) := by decide +kernel
theorem dX9_spreadFrom_40 : decode cX9_spreadFrom 40 = .ok (.iload_n 1, 1) := by decide +kernel
theorem dX9_spreadFrom_41 : decode cX9_spreadFrom 41 = .ok (.ldc 158, 2) := by decide +kernel
theorem dX9_spreadFrom_43 : decode cX9_spreadFrom 43 = .ok (.if_icmp .ne 4, 3) := by decide +kernel
theorem dX9_spreadFrom_46 : decode cX9_spreadFrom 46 = .ok (.return_, 1) := by decide +kernel
theorem dX9_spreadFrom_47 : decode cX9_spreadFrom 47 = .ok (.iconst 0, 1) := by decide +kernel
theorem dX9_spreadFrom_48 : decode cX9_spreadFrom 48 = .ok (.istore_n 2, 1) := by decide +kernel
theorem dX9_spreadFrom_49 : decode cX9_spreadFrom 49 = .ok (.iload_n 2, 1) := by decide +kernel
theorem dX9_spreadFrom_50 : decode cX9_spreadFrom 50 = .ok (.aload_n 0, 1) := by decide +kernel
theorem dX9_spreadFrom_51 : decode cX9_spreadFrom 51 = .ok (.invokevirtual 155, 3) := by decide +kernel
theorem dX9_spreadFrom_54 : decode cX9_spreadFrom 54 = .ok (.if_icmp .ge 34, 3) := by decide +kernel
theorem dX9_spreadFrom_57 : decode cX9_spreadFrom 57 = .ok (.aload_n 0, 1) := by decide +kernel
theorem dX9_spreadFrom_58 : decode cX9_spreadFrom 58 = .ok (.getfield 35, 3) := by decide +kernel
theorem dX9_spreadFrom_61 : decode cX9_spreadFrom 61 = .ok (.iload_n 2, 1) := by decide +kernel
theorem dX9_spreadFrom_62 : decode cX9_spreadFrom 62 = .ok (.dup2, 1) := by decide +kernel
theorem dX9_spreadFrom_63 : decode cX9_spreadFrom 63 = .ok (.iaload, 1) := by decide +kernel
theorem dX9_spreadFrom_64 : decode cX9_spreadFrom 64 = .ok (.aload_n 0, 1) := by decide +kernel
theorem dX9_spreadFrom_65 : decode cX9_spreadFrom 65 = .ok (.getfield 35, 3) := by decide +kernel
theorem dX9_spreadFrom_68 : decode cX9_spreadFrom 68 = .ok (.iload_n 2, 1) := by decide +kernel
theorem dX9_spreadFrom_69 : decode cX9_spreadFrom 69 = .ok (.iaload, 1) := by decide +kernel
theorem dX9_spreadFrom_70 : decode cX9_spreadFrom 70 = .ok (.ldc 158, 2) := by decide +kernel
theorem dX9_spreadFrom_72 : decode cX9_spreadFrom 72 = .ok (.if_icmp .ge 7, 3) := by decide +kernel
theorem dX9_spreadFrom_75 : decode cX9_spreadFrom 75 = .ok (.iload_n 1, 1) := by decide +kernel
theorem dX9_spreadFrom_76 : decode cX9_spreadFrom 76 = .ok (.goto 4, 3) := by decide +kernel
theorem dX9_spreadFrom_79 : decode cX9_spreadFrom 79 = .ok (.iconst 0, 1) := by decide +kernel
theorem dX9_spreadFrom_80 : decode cX9_spreadFrom 80 = .ok (.isub, 1) := by decide +kernel
theorem dX9_spreadFrom_81 : decode cX9_spreadFrom 81 = .ok (.iastore, 1) := by decide +kernel
theorem dX9_spreadFrom_82 : decode cX9_spreadFrom 82 = .ok (.iinc 2 1, 3) := by decide +kernel
theorem dX9_spreadFrom_85 : decode cX9_spreadFrom 85 = .ok (.goto (-36), 3) := by decide +kernel
theorem dX9_spreadFrom_88 : decode cX9_spreadFrom 88 = .ok (.aload_n 0, 1) := by decide +kernel
theorem dX9_spreadFrom_89 : decode cX9_spreadFrom 89 = .ok (.invokevirtual 162, 3) := by decide +kernel
theorem dX9_spreadFrom_92 : decode cX9_spreadFrom 92 = .ok (.iconst 0, 1) := by decide +kernel
theorem dX9_spreadFrom_93 : decode cX9_spreadFrom 93 = .ok (.istore_n 2, 1) := by decide +kernel
theorem dX9_spreadFrom_94 : decode cX9_spreadFrom 94 = .ok (.iload_n 2, 1) := by decide +kernel
theorem dX9_spreadFrom_95 : decode cX9_spreadFrom 95 = .ok (.aload_n 0, 1) := by decide +kernel
theorem dX9_spreadFrom_96 : decode cX9_spreadFrom 96 = .ok (.invokevirtual 155, 3) := by decide +kernel
theorem dX9_spreadFrom_99 : decode cX9_spreadFrom 99 = .ok (.if_icmp .ge 34, 3) := by decide +kernel
theorem dX9_spreadFrom_102 : decode cX9_spreadFrom 102 = .ok (.aload_n 0, 1) := by decide +kernel
theorem dX9_spreadFrom_103 : decode cX9_spreadFrom 103 = .ok (.getfield 35, 3) := by decide +kernel
theorem dX9_spreadFrom_106 : decode cX9_spreadFrom 106 = .ok (.iload_n 2, 1) := by decide +kernel
theorem dX9_spreadFrom_107 : decode cX9_spreadFrom 107 = .ok (.dup2, 1) := by decide +kernel
theorem dX9_spreadFrom_108 : decode cX9_spreadFrom 108 = .ok (.iaload, 1) := by decide +kernel
theorem dX9_spreadFrom_109 : decode cX9_spreadFrom 109 = .ok (.aload_n 0, 1) := by decide +kernel
theorem dX9_spreadFrom_110 : decode cX9_spreadFrom 110 = .ok (.getfield 35, 3) := by decide +kernel
theorem dX9_spreadFrom_113 : decode cX9_spreadFrom 113 = .ok (.iload_n 2, 1) := by decide +kernel
theorem dX9_spreadFrom_114 : decode cX9_spreadFrom 114 = .ok (.iaload, 1) := by decide +kernel
theorem dX9_spreadFrom_115 : decode cX9_spreadFrom 115 = .ok (.ldc 158, 2) := by decide +kernel
theorem dX9_spreadFrom_117 : decode cX9_spreadFrom 117 = .ok (.if_icmp .ge 7, 3) := by decide +kernel
theorem dX9_spreadFrom_120 : decode cX9_spreadFrom 120 = .ok (.iload_n 1, 1) := by decide +kernel
theorem dX9_spreadFrom_121 : decode cX9_spreadFrom 121 = .ok (.goto 4, 3) := by decide +kernel
theorem dX9_spreadFrom_124 : decode cX9_spreadFrom 124 = .ok (.iconst 0, 1) := by decide +kernel
theorem dX9_spreadFrom_125 : decode cX9_spreadFrom 125 = .ok (.iadd, 1) := by decide +kernel
theorem dX9_spreadFrom_126 : decode cX9_spreadFrom 126 = .ok (.iastore, 1) := by decide +kernel
theorem dX9_spreadFrom_127 : decode cX9_spreadFrom 127 = .ok (.iinc 2 1, 3) := by decide +kernel
theorem dX9_spreadFrom_130 : decode cX9_spreadFrom 130 = .ok (.goto (-36), 3) := by decide +kernel
theorem dX9_spreadFrom_133 : decode cX9_spreadFrom 133 = .ok (.return_, 1) := by decide +kernel
set_option maxRecDepth 20000 in
theorem ggX9_sell_X9_isLesson : GoodIn wsX9_sell wsX9_isLesson := goodIn_r _ [6, 7, 8, 5, 9] (by decide +kernel) (by decide +kernel)
set_option maxRecDepth 20000 in
theorem gX9_sell_X9_isLesson : GoodIn wsX9_sell (va_wsS RX9 149 yX9_isLesson wsX9_isLesson) := goodIn_app (goodIn_of _ (by decide +kernel)) ggX9_sell_X9_isLesson
set_option maxRecDepth 20000 in
theorem ggX9_sell_X9_asNow : GoodIn wsX9_sell wsX9_asNow := goodIn_r _ [13, 1, 14, 2, 15, 58, 59, 60, 61, 62, 63, 64, 65, 66, 67, 68, 69, 70, 71, 72, 73, 74, 75, 76] (by decide +kernel) (by decide +kernel)
set_option maxRecDepth 20000 in
theorem gX9_sell_X9_asNow : GoodIn wsX9_sell (wsV RX9 98 RX9 yX9_asNow wsX9_asNow) := goodIn_app (goodIn_of _ (by decide +kernel)) ggX9_sell_X9_asNow
set_option maxRecDepth 20000 in
theorem ggX9_sell_X9_happen : GoodIn wsX9_sell wsX9_happen := goodIn_r _ [19, 14, 20, 21, 22, 5, 23, 24, 25, 26, 27, 2, 28, 29, 30, 31, 32, 33, 34, 35, 58, 59, 60, 61, 62, 63, 64, 65, 66, 67, 68, 69, 70, 71, 72, 73, 74, 75, 76] (by decide +kernel) (by decide +kernel)
set_option maxRecDepth 20000 in
theorem gX9_sell_X9_happen : GoodIn wsX9_sell (wsV RX9 107 RX9 yX9_happen wsX9_happen) := goodIn_app (goodIn_of _ (by decide +kernel)) ggX9_sell_X9_happen
set_option maxRecDepth 20000 in
theorem ggX9_sell_X9_isTaught : GoodIn wsX9_sell wsX9_isTaught := goodIn_r _ [39, 14, 40, 41, 42, 5, 43, 44, 2, 45, 46, 47, 48, 49, 50, 51, 52, 53, 54, 55, 56, 57, 58, 59, 60, 61, 62, 63, 64, 65, 66, 67, 68, 69, 70, 71, 72, 73, 74, 75, 76] (by decide +kernel) (by decide +kernel)
set_option maxRecDepth 20000 in
theorem gX9_sell_X9_isTaught : GoodIn wsX9_sell (wsV RX9 134 RX9 yX9_isTaught wsX9_isTaught) := goodIn_app (goodIn_of _ (by decide +kernel)) ggX9_sell_X9_isTaught
theorem dX9_sell_0 : decode cX9_sell 0 = .ok (.iload_n 1, 1) := by decide +kernel
theorem dX9_sell_1 : decode cX9_sell 1 = .ok (.invokestatic 149, 3) := by decide +kernel
theorem dX9_sell_4 : decode cX9_sell 4 = .ok (.ifCond .ne 6, 3) := by decide +kernel
theorem dX9_sell_7 : decode cX9_sell 7 = .ok (.bipush (-2), 2) := by decide +kernel
theorem dX9_sell_9 : decode cX9_sell 9 = .ok (.ireturn, 1) := by decide +kernel
theorem dX9_sell_10 : decode cX9_sell 10 = .ok (.iconst 0, 1) := by decide +kernel
theorem dX9_sell_11 : decode cX9_sell 11 = .ok (.istore_n 2, 1) := by decide +kernel
theorem dX9_sell_12 : decode cX9_sell 12 = .ok (.iconst 0, 1) := by decide +kernel
theorem dX9_sell_13 : decode cX9_sell 13 = .ok (.istore_n 3, 1) := by decide +kernel
theorem dX9_sell_14 : decode cX9_sell 14 = .ok (.iload_n 3, 1) := by decide +kernel
theorem dX9_sell_15 : decode cX9_sell 15 = .ok (.aload_n 0, 1) := by decide +kernel
theorem dX9_sell_16 : decode cX9_sell 16 = .ok (.getfield 13, 3) := by decide +kernel
theorem dX9_sell_19 : decode cX9_sell 19 = .ok (.if_icmp .ge 58, 3) := by decide +kernel
theorem dX9_sell_22 : decode cX9_sell 22 = .ok (.aload_n 0, 1) := by decide +kernel
theorem dX9_sell_23 : decode cX9_sell 23 = .ok (.getfield 13, 3) := by decide +kernel
theorem dX9_sell_26 : decode cX9_sell 26 = .ok (.iconst 1, 1) := by decide +kernel
theorem dX9_sell_27 : decode cX9_sell 27 = .ok (.if_icmp .le 50, 3) := by decide +kernel
theorem dX9_sell_30 : decode cX9_sell 30 = .ok (.aload_n 0, 1) := by decide +kernel
theorem dX9_sell_31 : decode cX9_sell 31 = .ok (.invokevirtual 98, 3) := by decide +kernel
theorem dX9_sell_34 : decode cX9_sell 34 = .ok (.aload_n 0, 1) := by decide +kernel
theorem dX9_sell_35 : decode cX9_sell 35 = .ok (.getfield 29, 3) := by decide +kernel
theorem dX9_sell_38 : decode cX9_sell 38 = .ok (.iload_n 3, 1) := by decide +kernel
theorem dX9_sell_39 : decode cX9_sell 39 = .ok (.iaload, 1) := by decide +kernel
theorem dX9_sell_40 : decode cX9_sell 40 = .ok (.istore 4, 2) := by decide +kernel
theorem dX9_sell_42 : decode cX9_sell 42 = .ok (.iload_n 2, 1) := by decide +kernel
theorem dX9_sell_43 : decode cX9_sell 43 = .ok (.aload_n 0, 1) := by decide +kernel
theorem dX9_sell_44 : decode cX9_sell 44 = .ok (.bipush 120, 2) := by decide +kernel
theorem dX9_sell_46 : decode cX9_sell 46 = .ok (.iload_n 3, 1) := by decide +kernel
theorem dX9_sell_47 : decode cX9_sell 47 = .ok (.invokevirtual 107, 3) := by decide +kernel
theorem dX9_sell_50 : decode cX9_sell 50 = .ok (.ifCond .eq 18, 3) := by decide +kernel
theorem dX9_sell_53 : decode cX9_sell 53 = .ok (.aload_n 0, 1) := by decide +kernel
theorem dX9_sell_54 : decode cX9_sell 54 = .ok (.iload_n 1, 1) := by decide +kernel
theorem dX9_sell_55 : decode cX9_sell 55 = .ok (.invokevirtual 134, 3) := by decide +kernel
theorem dX9_sell_58 : decode cX9_sell 58 = .ok (.ifCond .eq 10, 3) := by decide +kernel
theorem dX9_sell_61 : decode cX9_sell 61 = .ok (.iconst 1, 1) := by decide +kernel
theorem dX9_sell_62 : decode cX9_sell 62 = .ok (.iload 4, 2) := by decide +kernel
theorem dX9_sell_64 : decode cX9_sell 64 = .ok (.ishl, 1) := by decide +kernel
theorem dX9_sell_65 : decode cX9_sell 65 = .ok (.goto 4, 3) := by decide +kernel
theorem dX9_sell_68 : decode cX9_sell 68 = .ok (.iconst 0, 1) := by decide +kernel
theorem dX9_sell_69 : decode cX9_sell 69 = .ok (.ior, 1) := by decide +kernel
theorem dX9_sell_70 : decode cX9_sell 70 = .ok (.istore_n 2, 1) := by decide +kernel
theorem dX9_sell_71 : decode cX9_sell 71 = .ok (.iinc 3 1, 3) := by decide +kernel
theorem dX9_sell_74 : decode cX9_sell 74 = .ok (.goto (-60), 3) := by decide +kernel
theorem dX9_sell_77 : decode cX9_sell 77 = .ok (.iload_n 2, 1) := by decide +kernel
theorem dX9_sell_78 : decode cX9_sell 78 = .ok (.ireturn, 1) := by decide +kernel
theorem dX9_isThere_0 : decode cX9_isThere 0 = .ok (.iconst 0, 1) := by decide +kernel
theorem dX9_isThere_1 : decode cX9_isThere 1 = .ok (.istore_n 2, 1) := by decide +kernel
theorem dX9_isThere_2 : decode cX9_isThere 2 = .ok (.iconst 0, 1) := by decide +kernel
theorem dX9_isThere_3 : decode cX9_isThere 3 = .ok (.istore_n 3, 1) := by decide +kernel
theorem dX9_isThere_4 : decode cX9_isThere 4 = .ok (.iload_n 3, 1) := by decide +kernel
theorem dX9_isThere_5 : decode cX9_isThere 5 = .ok (.aload_n 0, 1) := by decide +kernel
theorem dX9_isThere_6 : decode cX9_isThere 6 = .ok (.getfield 13, 3) := by decide +kernel
theorem dX9_isThere_9 : decode cX9_isThere 9 = .ok (.if_icmp .ge 29, 3) := by decide +kernel
theorem dX9_isThere_12 : decode cX9_isThere 12 = .ok (.iload_n 2, 1) := by decide +kernel
theorem dX9_isThere_13 : decode cX9_isThere 13 = .ok (.ifCond .ne 13, 3) := by decide +kernel
theorem dX9_isThere_16 : decode cX9_isThere 16 = .ok (.aload_n 0, 1) := by decide +kernel
theorem dX9_isThere_17 : decode cX9_isThere 17 = .ok (.getfield 20, 3) := by decide +kernel
theorem dX9_isThere_20 : decode cX9_isThere 20 = .ok (.iload_n 3, 1) := by decide +kernel
theorem dX9_isThere_21 : decode cX9_isThere 21 = .ok (.iaload, 1) := by decide +kernel
theorem dX9_isThere_22 : decode cX9_isThere 22 = .ok (.iload_n 1, 1) := by decide +kernel
theorem dX9_isThere_23 : decode cX9_isThere 23 = .ok (.if_icmp .ne 7, 3) := by decide +kernel
theorem dX9_isThere_26 : decode cX9_isThere 26 = .ok (.iconst 1, 1) := by decide +kernel
theorem dX9_isThere_27 : decode cX9_isThere 27 = .ok (.goto 4, 3) := by decide +kernel
theorem dX9_isThere_30 : decode cX9_isThere 30 = .ok (.iconst 0, 1) := by decide +kernel
theorem dX9_isThere_31 : decode cX9_isThere 31 = .ok (.istore_n 2, 1) := by decide +kernel
theorem dX9_isThere_32 : decode cX9_isThere 32 = .ok (.iinc 3 1, 3) := by decide +kernel
theorem dX9_isThere_35 : decode cX9_isThere 35 = .ok (.goto (-31), 3) := by decide +kernel
theorem dX9_isThere_38 : decode cX9_isThere 38 = .ok (.iload_n 2, 1) := by decide +kernel
theorem dX9_isThere_39 : decode cX9_isThere 39 = .ok (.ireturn, 1) := by decide +kernel
set_option maxRecDepth 20000 in
theorem ggX9_worn_X9_isThere : GoodIn wsX9_worn wsX9_isThere := goodIn_r _ [6, 7, 8, 42, 43, 44, 45, 46, 47, 48, 49, 50, 51, 52, 53, 54, 55, 56, 57, 58, 59, 60] (by decide +kernel) (by decide +kernel)
set_option maxRecDepth 20000 in
theorem gX9_worn_X9_isThere : GoodIn wsX9_worn (wsV RX9 165 RX9 yX9_isThere wsX9_isThere) := goodIn_app (goodIn_of _ (by decide +kernel)) ggX9_worn_X9_isThere
set_option maxRecDepth 20000 in
theorem ggX9_worn_X9_isLesson : GoodIn wsX9_worn wsX9_isLesson := goodIn_r _ [11, 12, 13, 5, 14] (by decide +kernel) (by decide +kernel)
set_option maxRecDepth 20000 in
theorem gX9_worn_X9_isLesson : GoodIn wsX9_worn (va_wsS RX9 149 yX9_isLesson wsX9_isLesson) := goodIn_app (goodIn_of _ (by decide +kernel)) ggX9_worn_X9_isLesson
set_option maxRecDepth 20000 in
theorem ggX9_worn_X9_in : GoodIn wsX9_worn wsX9_in := goodIn_r _ [14] (by decide +kernel) (by decide +kernel)
set_option maxRecDepth 20000 in
theorem gX9_worn_X9_in : GoodIn wsX9_worn (va_wsS RX9 63 yX9_in wsX9_in) := goodIn_app (goodIn_of _ (by decide +kernel)) ggX9_worn_X9_in
set_option maxRecDepth 20000 in
theorem ggX9_worn_X9_asNow : GoodIn wsX9_worn wsX9_asNow := goodIn_r _ [18, 7, 19, 20, 8, 42, 43, 44, 45, 46, 47, 48, 49, 50, 51, 52, 53, 54, 55, 56, 57, 58, 59, 60] (by decide +kernel) (by decide +kernel)
set_option maxRecDepth 20000 in
theorem gX9_worn_X9_asNow : GoodIn wsX9_worn (wsV RX9 98 RX9 yX9_asNow wsX9_asNow) := goodIn_app (goodIn_of _ (by decide +kernel)) ggX9_worn_X9_asNow
set_option maxRecDepth 20000 in
theorem ggX9_worn_X9_isTaught : GoodIn wsX9_worn wsX9_isTaught := goodIn_r _ [24, 19, 25, 26, 27, 5, 28, 1, 20, 29, 30, 31, 32, 33, 34, 35, 36, 37, 38, 39, 40, 41, 42, 43, 44, 45, 46, 47, 48, 49, 50, 51, 52, 53, 54, 55, 56, 57, 58, 59, 60] (by decide +kernel) (by decide +kernel)
set_option maxRecDepth 20000 in
theorem gX9_worn_X9_isTaught : GoodIn wsX9_worn (wsV RX9 134 RX9 yX9_isTaught wsX9_isTaught) := goodIn_app (goodIn_of _ (by decide +kernel)) ggX9_worn_X9_isTaught
theorem dX9_worn_0 : decode cX9_worn 0 = .ok (.aload_n 0, 1) := by decide +kernel
theorem dX9_worn_1 : decode cX9_worn 1 = .ok (.iload_n 1, 1) := by decide +kernel
theorem dX9_worn_2 : decode cX9_worn 2 = .ok (.invokevirtual 165, 3) := by decide +kernel
theorem dX9_worn_5 : decode cX9_worn 5 = .ok (.ifCond .ne 5, 3) := by decide +kernel
theorem dX9_worn_8 : decode cX9_worn 8 = .ok (.iconst (-1), 1) := by decide +kernel
theorem dX9_worn_9 : decode cX9_worn 9 = .ok (.ireturn, 1) := by decide +kernel
theorem dX9_worn_10 : decode cX9_worn 10 = .ok (.iload_n 2, 1) := by decide +kernel
theorem dX9_worn_11 : decode cX9_worn 11 = .ok (.invokestatic 149, 3) := by decide +kernel
theorem dX9_worn_14 : decode cX9_worn 14 = .ok (.ifCond .eq 12, 3) := by decide +kernel
theorem dX9_worn_17 : decode cX9_worn 17 = .ok (.iload_n 3, 1) := by decide +kernel
theorem dX9_worn_18 : decode cX9_worn 18 = .ok (.iconst 0, 1) := by decide +kernel
theorem dX9_worn_19 : decode cX9_worn 19 = .ok (.iconst 2, 1) := by decide +kernel
theorem dX9_worn_20 : decode cX9_worn 20 = .ok (.invokestatic 63, 3) := by decide +kernel
theorem dX9_worn_23 : decode cX9_worn 23 = .ok (.ifCond .ne 6, 3) := by decide +kernel
theorem dX9_worn_26 : decode cX9_worn 26 = .ok (.bipush (-2), 2) := by decide +kernel
theorem dX9_worn_28 : decode cX9_worn 28 = .ok (.ireturn, 1) := by decide +kernel
theorem dX9_worn_29 : decode cX9_worn 29 = .ok (.aload_n 0, 1) := by decide +kernel
theorem dX9_worn_30 : decode cX9_worn 30 = .ok (.invokevirtual 98, 3) := by decide +kernel
theorem dX9_worn_33 : decode cX9_worn 33 = .ok (.aload_n 0, 1) := by decide +kernel
theorem dX9_worn_34 : decode cX9_worn 34 = .ok (.getfield 16, 3) := by decide +kernel
theorem dX9_worn_37 : decode cX9_worn 37 = .ok (.iload_n 1, 1) := by decide +kernel
theorem dX9_worn_38 : decode cX9_worn 38 = .ok (.iaload, 1) := by decide +kernel
theorem dX9_worn_39 : decode cX9_worn 39 = .ok (.istore 4, 2) := by decide +kernel
theorem dX9_worn_41 : decode cX9_worn 41 = .ok (.iconst 0, 1) := by decide +kernel
theorem dX9_worn_42 : decode cX9_worn 42 = .ok (.istore 5, 2) := by decide +kernel
theorem dX9_worn_44 : decode cX9_worn 44 = .ok (.bipush (-6), 2) := by decide +kernel
theorem dX9_worn_46 : decode cX9_worn 46 = .ok (.istore 6, 2) := by decide +kernel
theorem dX9_worn_48 : decode cX9_worn 48 = .ok (.bipush (-6), 2) := by decide +kernel
theorem dX9_worn_50 : decode cX9_worn 50 = .ok (.istore 7, 2) := by decide +kernel
theorem dX9_worn_52 : decode cX9_worn 52 = .ok (.iconst 0, 1) := by decide +kernel
theorem dX9_worn_53 : decode cX9_worn 53 = .ok (.istore 8, 2) := by decide +kernel
theorem dX9_worn_55 : decode cX9_worn 55 = .ok (.iload 8, 2) := by decide +kernel
theorem dX9_worn_57 : decode cX9_worn 57 = .ok (.bipush 100, 2) := by decide +kernel
theorem dX9_worn_59 : decode cX9_worn 59 = .ok (.if_icmp .ge 46, 3) := by decide +kernel
theorem dX9_worn_62 : decode cX9_worn 62 = .ok (.aload_n 0, 1) := by decide +kernel
theorem dX9_worn_63 : decode cX9_worn 63 = .ok (.getfield 16, 3) := by decide +kernel
theorem dX9_worn_66 : decode cX9_worn 66 = .ok (.iload_n 1, 1) := by decide +kernel
theorem dX9_worn_67 : decode cX9_worn 67 = .ok (.iload 8, 2) := by decide +kernel
theorem dX9_worn_69 : decode cX9_worn 69 = .ok (.iastore, 1) := by decide +kernel
theorem dX9_worn_70 : decode cX9_worn 70 = .ok (.aload_n 0, 1) := by decide +kernel
theorem dX9_worn_71 : decode cX9_worn 71 = .ok (.iload_n 2, 1) := by decide +kernel
theorem dX9_worn_72 : decode cX9_worn 72 = .ok (.invokevirtual 134, 3) := by decide +kernel
theorem dX9_worn_75 : decode cX9_worn 75 = .ok (.ifCond .eq 24, 3) := by decide +kernel
theorem dX9_worn_78 : decode cX9_worn 78 = .ok (.iload 5, 2) := by decide +kernel
theorem dX9_worn_80 : decode cX9_worn 80 = .ok (.ifCond .ne 8, 3) := by decide +kernel
theorem dX9_worn_83 : decode cX9_worn 83 = .ok (.iload 8, 2) := by decide +kernel
theorem dX9_worn_85 : decode cX9_worn 85 = .ok (.goto 5, 3) := by decide +kernel
theorem dX9_worn_88 : decode cX9_worn 88 = .ok (.iload 6, 2) := by decide +kernel
theorem dX9_worn_90 : decode cX9_worn 90 = .ok (.istore 6, 2) := by decide +kernel
theorem dX9_worn_92 : decode cX9_worn 92 = .ok (.iload 8, 2) := by decide +kernel
theorem dX9_worn_94 : decode cX9_worn 94 = .ok (.istore 7, 2) := by decide +kernel
theorem dX9_worn_96 : decode cX9_worn 96 = .ok (.iinc 5 1, 3) := by decide +kernel
theorem dX9_worn_99 : decode cX9_worn 99 = .ok (.iinc 8 1, 3) := by decide +kernel
theorem dX9_worn_102 : decode cX9_worn 102 = .ok (.goto (-47), 3) := by decide +kernel
theorem dX9_worn_105 : decode cX9_worn 105 = .ok (.aload_n 0, 1) := by decide +kernel
theorem dX9_worn_106 : decode cX9_worn 106 = .ok (.getfield 16, 3) := by decide +kernel
theorem dX9_worn_109 : decode cX9_worn 109 = .ok (.iload_n 1, 1) := by decide +kernel
theorem dX9_worn_110 : decode cX9_worn 110 = .ok (.iload 4, 2) := by decide +kernel
theorem dX9_worn_112 : decode cX9_worn 112 = .ok (.iastore, 1) := by decide +kernel
theorem dX9_worn_113 : decode cX9_worn 113 = .ok (.iload_n 3, 1) := by decide +kernel
theorem dX9_worn_114 : decode cX9_worn 114 = .ok (.ifCond .ne 8, 3) := by decide +kernel
theorem dX9_worn_117 : decode cX9_worn 117 = .ok (.iload 5, 2) := by decide +kernel
theorem dX9_worn_119 : decode cX9_worn 119 = .ok (.goto 15, 3) := by decide +kernel
theorem dX9_worn_122 : decode cX9_worn 122 = .ok (.iload_n 3, 1) := by decide +kernel
theorem dX9_worn_123 : decode cX9_worn 123 = .ok (.iconst 1, 1) := by decide +kernel
theorem dX9_worn_124 : decode cX9_worn 124 = .ok (.if_icmp .ne 8, 3) := by decide +kernel
theorem dX9_worn_127 : decode cX9_worn 127 = .ok (.iload 6, 2) := by decide +kernel
theorem dX9_worn_129 : decode cX9_worn 129 = .ok (.goto 5, 3) := by decide +kernel
theorem dX9_worn_132 : decode cX9_worn 132 = .ok (.iload 7, 2) := by decide +kernel
theorem dX9_worn_134 : decode cX9_worn 134 = .ok (.ireturn, 1) := by decide +kernel
set_option maxRecDepth 20000 in
theorem ggX9_rivals_X9_in : GoodIn wsX9_rivals wsX9_in := goodIn_r _ [6] (by decide +kernel) (by decide +kernel)
set_option maxRecDepth 20000 in
theorem gX9_rivals_X9_in : GoodIn wsX9_rivals (va_wsS RX9 63 yX9_in wsX9_in) := goodIn_app (goodIn_of _ (by decide +kernel)) ggX9_rivals_X9_in
set_option maxRecDepth 20000 in
theorem ggX9_rivals_X9_asNow : GoodIn wsX9_rivals wsX9_asNow := goodIn_r _ [10, 11, 2, 12, 13, 23, 24, 25, 26, 27, 28, 29, 30, 31, 32, 33, 34, 35, 36, 37, 38, 39, 40, 41] (by decide +kernel) (by decide +kernel)
set_option maxRecDepth 20000 in
theorem gX9_rivals_X9_asNow : GoodIn wsX9_rivals (wsV RX9 98 RX9 yX9_asNow wsX9_asNow) := goodIn_app (goodIn_of _ (by decide +kernel)) ggX9_rivals_X9_asNow
set_option maxRecDepth 20000 in
theorem ggX9_rivals_X9_sumOf : GoodIn wsX9_rivals wsX9_sumOf := goodIn_r _ [17, 18, 19, 20, 5, 21, 22, 12, 23, 24, 25, 26, 27, 28, 29, 30, 31, 32, 33, 34, 35, 36, 37, 38, 39, 40, 41] (by decide +kernel) (by decide +kernel)
set_option maxRecDepth 20000 in
theorem gX9_rivals_X9_sumOf : GoodIn wsX9_rivals (wsV RX9 124 RX9 yX9_sumOf wsX9_sumOf) := goodIn_app (goodIn_of _ (by decide +kernel)) ggX9_rivals_X9_sumOf
theorem dX9_rivals_0 : decode cX9_rivals 0 = .ok (.iload_n 1, 1) := by decide +kernel
theorem dX9_rivals_1 : decode cX9_rivals 1 = .ok (.iconst 0, 1) := by decide +kernel
theorem dX9_rivals_2 : decode cX9_rivals 2 = .ok (.iconst 1, 1) := by decide +kernel
theorem dX9_rivals_3 : decode cX9_rivals 3 = .ok (.invokestatic 63, 3) := by decide +kernel
theorem dX9_rivals_6 : decode cX9_rivals 6 = .ok (.ifCond .ne 6, 3) := by decide +kernel
theorem dX9_rivals_9 : decode cX9_rivals 9 = .ok (.bipush (-2), 2) := by decide +kernel
theorem dX9_rivals_11 : decode cX9_rivals 11 = .ok (.ireturn, 1) := by decide +kernel
theorem dX9_rivals_12 : decode cX9_rivals 12 = .ok (.aload_n 0, 1) := by decide +kernel
theorem dX9_rivals_13 : decode cX9_rivals 13 = .ok (.invokevirtual 98, 3) := by decide +kernel
theorem dX9_rivals_16 : decode cX9_rivals 16 = .ok (.iconst 0, 1) := by decide +kernel
theorem dX9_rivals_17 : decode cX9_rivals 17 = .ok (.istore_n 2, 1) := by decide +kernel
theorem dX9_rivals_18 : decode cX9_rivals 18 = .ok (.iconst 0, 1) := by decide +kernel
theorem dX9_rivals_19 : decode cX9_rivals 19 = .ok (.istore_n 3, 1) := by decide +kernel
theorem dX9_rivals_20 : decode cX9_rivals 20 = .ok (.iload_n 3, 1) := by decide +kernel
theorem dX9_rivals_21 : decode cX9_rivals 21 = .ok (.bipush 64, 2) := by decide +kernel
theorem dX9_rivals_23 : decode cX9_rivals 23 = .ok (.if_icmp .ge 16, 3) := by decide +kernel
theorem dX9_rivals_26 : decode cX9_rivals 26 = .ok (.aload_n 0, 1) := by decide +kernel
theorem dX9_rivals_27 : decode cX9_rivals 27 = .ok (.getfield 47, 3) := by decide +kernel
theorem dX9_rivals_30 : decode cX9_rivals 30 = .ok (.iload_n 3, 1) := by decide +kernel
theorem dX9_rivals_31 : decode cX9_rivals 31 = .ok (.iconst 0, 1) := by decide +kernel
theorem dX9_rivals_32 : decode cX9_rivals 32 = .ok (.iastore, 1) := by decide +kernel
theorem dX9_rivals_33 : decode cX9_rivals 33 = .ok (.iinc 3 1, 3) := by decide +kernel
theorem dX9_rivals_36 : decode cX9_rivals 36 = .ok (.goto (-16), 3) := by decide +kernel
theorem dX9_rivals_39 : decode cX9_rivals 39 = .ok (.iconst 1, 1) := by decide +kernel
theorem dX9_rivals_40 : decode cX9_rivals 40 = .ok (.istore_n 3, 1) := by decide +kernel
theorem dX9_rivals_41 : decode cX9_rivals 41 = .ok (.iload_n 3, 1) := by decide +kernel
theorem dX9_rivals_42 : decode cX9_rivals 42 = .ok (.aload_n 0, 1) := by decide +kernel
theorem dX9_rivals_43 : decode cX9_rivals 43 = .ok (.getfield 81, 3) := by decide +kernel
theorem dX9_rivals_46 : decode cX9_rivals 46 = .ok (.if_icmp .gt 125, 3) := by decide +kernel
theorem dX9_rivals_49 : decode cX9_rivals 49 = .ok (.iconst 0, 1) := by decide +kernel
theorem dX9_rivals_50 : decode cX9_rivals 50 = .ok (.istore 4, 2) := by decide +kernel
theorem dX9_rivals_52 : decode cX9_rivals 52 = .ok (.iload 4, 2) := by decide +kernel
theorem dX9_rivals_54 : decode cX9_rivals 54 = .ok (.iload_n 3, 1) := by decide +kernel
theorem dX9_rivals_55 : decode cX9_rivals 55 = .ok (.iadd, 1) := by decide +kernel
theorem dX9_rivals_56 : decode cX9_rivals 56 = .ok (.aload_n 0, 1) := by decide +kernel
theorem dX9_rivals_57 : decode cX9_rivals 57 = .ok (.getfield 81, 3) := by decide +kernel
theorem dX9_rivals_60 : decode cX9_rivals 60 = .ok (.if_icmp .gt 105, 3) := by decide +kernel
theorem dX9_rivals_63 : decode cX9_rivals 63 = .ok (.iload 4, 2) := by decide +kernel
theorem dX9_rivals_65 : decode cX9_rivals 65 = .ok (.iload_n 3, 1) := by decide +kernel
theorem dX9_rivals_66 : decode cX9_rivals 66 = .ok (.iadd, 1) := by decide +kernel
theorem dX9_rivals_67 : decode cX9_rivals 67 = .ok (.istore 5, 2) := by decide +kernel
theorem dX9_rivals_69 : decode cX9_rivals 69 = .ok (.aload_n 0, 1) := by decide +kernel
theorem dX9_rivals_70 : decode cX9_rivals 70 = .ok (.iload 4, 2) := by decide +kernel
theorem dX9_rivals_72 : decode cX9_rivals 72 = .ok (.iload 5, 2) := by decide +kernel
theorem dX9_rivals_74 : decode cX9_rivals 74 = .ok (.invokevirtual 124, 3) := by decide +kernel
theorem dX9_rivals_77 : decode cX9_rivals 77 = .ok (.istore 6, 2) := by decide +kernel
theorem dX9_rivals_79 : decode cX9_rivals 79 = .ok (.iload 6, 2) := by decide +kernel
theorem dX9_rivals_81 : decode cX9_rivals 81 = .ok (.aload_n 0, 1) := by decide +kernel
theorem dX9_rivals_82 : decode cX9_rivals 82 = .ok (.getfield 47, 3) := by decide +kernel
theorem dX9_rivals_85 : decode cX9_rivals 85 = .ok (.bipush 8, 2) := by decide +kernel
theorem dX9_rivals_87 : decode cX9_rivals 87 = .ok (.iload 4, 2) := by decide +kernel
theorem dX9_rivals_89 : decode cX9_rivals 89 = .ok (.iconst 1, 1) := by decide +kernel
theorem dX9_rivals_90 : decode cX9_rivals 90 = .ok (.iadd, 1) := by decide +kernel
theorem dX9_rivals_91 : decode cX9_rivals 91 = .ok (.imul, 1) := by decide +kernel
theorem dX9_rivals_92 : decode cX9_rivals 92 = .ok (.iload 5, 2) := by decide +kernel
theorem dX9_rivals_94 : decode cX9_rivals 94 = .ok (.iadd, 1) := by decide +kernel
theorem dX9_rivals_95 : decode cX9_rivals 95 = .ok (.iaload, 1) := by decide +kernel
theorem dX9_rivals_96 : decode cX9_rivals 96 = .ok (.isub, 1) := by decide +kernel
theorem dX9_rivals_97 : decode cX9_rivals 97 = .ok (.istore 7, 2) := by decide +kernel
theorem dX9_rivals_99 : decode cX9_rivals 99 = .ok (.iload 6, 2) := by decide +kernel
theorem dX9_rivals_101 : decode cX9_rivals 101 = .ok (.aload_n 0, 1) := by decide +kernel
theorem dX9_rivals_102 : decode cX9_rivals 102 = .ok (.getfield 47, 3) := by decide +kernel
theorem dX9_rivals_105 : decode cX9_rivals 105 = .ok (.bipush 8, 2) := by decide +kernel
theorem dX9_rivals_107 : decode cX9_rivals 107 = .ok (.iload 4, 2) := by decide +kernel
theorem dX9_rivals_109 : decode cX9_rivals 109 = .ok (.imul, 1) := by decide +kernel
theorem dX9_rivals_110 : decode cX9_rivals 110 = .ok (.iload 5, 2) := by decide +kernel
theorem dX9_rivals_112 : decode cX9_rivals 112 = .ok (.iadd, 1) := by decide +kernel
theorem dX9_rivals_113 : decode cX9_rivals 113 = .ok (.iconst 1, 1) := by decide +kernel
theorem dX9_rivals_114 : decode cX9_rivals 114 = .ok (.isub, 1) := by decide +kernel
theorem dX9_rivals_115 : decode cX9_rivals 115 = .ok (.iaload, 1) := by decide +kernel
theorem dX9_rivals_116 : decode cX9_rivals 116 = .ok (.isub, 1) := by decide +kernel
theorem dX9_rivals_117 : decode cX9_rivals 117 = .ok (.istore 8, 2) := by decide +kernel
theorem dX9_rivals_119 : decode cX9_rivals 119 = .ok (.aload_n 0, 1) := by decide +kernel
theorem dX9_rivals_120 : decode cX9_rivals 120 = .ok (.getfield 47, 3) := by decide +kernel
theorem dX9_rivals_123 : decode cX9_rivals 123 = .ok (.bipush 8, 2) := by decide +kernel
theorem dX9_rivals_125 : decode cX9_rivals 125 = .ok (.iload 4, 2) := by decide +kernel
theorem dX9_rivals_127 : decode cX9_rivals 127 = .ok (.imul, 1) := by decide +kernel
theorem dX9_rivals_128 : decode cX9_rivals 128 = .ok (.iload 5, 2) := by decide +kernel
theorem dX9_rivals_130 : decode cX9_rivals 130 = .ok (.iadd, 1) := by decide +kernel
theorem dX9_rivals_131 : decode cX9_rivals 131 = .ok (.iload 7, 2) := by decide +kernel
theorem dX9_rivals_133 : decode cX9_rivals 133 = .ok (.iload 8, 2) := by decide +kernel
theorem dX9_rivals_135 : decode cX9_rivals 135 = .ok (.if_icmp .lt 8, 3) := by decide +kernel
theorem dX9_rivals_138 : decode cX9_rivals 138 = .ok (.iload 7, 2) := by decide +kernel
theorem dX9_rivals_140 : decode cX9_rivals 140 = .ok (.goto 5, 3) := by decide +kernel
theorem dX9_rivals_143 : decode cX9_rivals 143 = .ok (.iload 8, 2) := by decide +kernel
theorem dX9_rivals_145 : decode cX9_rivals 145 = .ok (.iastore, 1) := by decide +kernel
theorem dX9_rivals_146 : decode cX9_rivals 146 = .ok (.iload 7, 2) := by decide +kernel
theorem dX9_rivals_148 : decode cX9_rivals 148 = .ok (.iload 8, 2) := by decide +kernel
theorem dX9_rivals_150 : decode cX9_rivals 150 = .ok (.if_icmp .lt 7, 3) := by decide +kernel
theorem dX9_rivals_153 : decode cX9_rivals 153 = .ok (.iconst 0, 1) := by decide +kernel
theorem dX9_rivals_154 : decode cX9_rivals 154 = .ok (.goto 4, 3) := by decide +kernel
theorem dX9_rivals_157 : decode cX9_rivals 157 = .ok (.iconst 1, 1) := by decide +kernel
theorem dX9_rivals_158 : decode cX9_rivals 158 = .ok (.istore_n 2, 1) := by decide +kernel
theorem dX9_rivals_159 : decode cX9_rivals 159 = .ok (.iinc 4 1, 3) := by decide +kernel
theorem dX9_rivals_162 : decode cX9_rivals 162 = .ok (.goto (-110), 3) := by decide +kernel
theorem dX9_rivals_165 : decode cX9_rivals 165 = .ok (.iinc 3 1, 3) := by decide +kernel
theorem dX9_rivals_168 : decode cX9_rivals 168 = .ok (.goto (-127), 3) := by decide +kernel
theorem dX9_rivals_171 : decode cX9_rivals 171 = .ok (.iload_n 1, 1) := by decide +kernel
theorem dX9_rivals_172 : decode cX9_rivals 172 = .ok (.ifCond .ne 15, 3) := by decide +kernel
theorem dX9_rivals_175 : decode cX9_rivals 175 = .ok (.aload_n 0, 1) := by decide +kernel
theorem dX9_rivals_176 : decode cX9_rivals 176 = .ok (.getfield 47, 3) := by decide +kernel
theorem dX9_rivals_179 : decode cX9_rivals 179 = .ok (.aload_n 0, 1) := by decide +kernel
theorem dX9_rivals_180 : decode cX9_rivals 180 = .ok (.getfield 81, 3) := by decide +kernel
theorem dX9_rivals_183 : decode cX9_rivals 183 = .ok (.iaload, 1) := by decide +kernel
theorem dX9_rivals_184 : decode cX9_rivals 184 = .ok (.goto 4, 3) := by decide +kernel
theorem dX9_rivals_187 : decode cX9_rivals 187 = .ok (.iload_n 2, 1) := by decide +kernel
theorem dX9_rivals_188 : decode cX9_rivals 188 = .ok (.ireturn, 1) := by decide +kernel
set_option maxRecDepth 20000 in
theorem ggX9_seen_X9_isSwan : GoodIn wsX9_seen wsX9_isSwan := goodIn_r _ [7, 8, 9, 10, 6, 11, 12, 13, 14, 15, 16, 17, 18, 19, 20, 21, 22, 23, 24, 25, 26, 27, 28, 29, 30] (by decide +kernel) (by decide +kernel)
set_option maxRecDepth 20000 in
theorem gX9_seen_X9_isSwan : GoodIn wsX9_seen (wsV RX9 67 RX9 yX9_isSwan wsX9_isSwan) := goodIn_app (goodIn_of _ (by decide +kernel)) ggX9_seen_X9_isSwan
set_option maxRecDepth 20000 in
theorem ggX9_seen_X9_in : GoodIn wsX9_seen wsX9_in := goodIn_r _ [11] (by decide +kernel) (by decide +kernel)
set_option maxRecDepth 20000 in
theorem gX9_seen_X9_in : GoodIn wsX9_seen (va_wsS RX9 63 yX9_in wsX9_in) := goodIn_app (goodIn_of _ (by decide +kernel)) ggX9_seen_X9_in
theorem dX9_seen_0 : decode cX9_seen 0 = .ok (.aload_n 0, 1) := by decide +kernel
theorem dX9_seen_1 : decode cX9_seen 1 = .ok (.iload_n 1, 1) := by decide +kernel
theorem dX9_seen_2 : decode cX9_seen 2 = .ok (.invokevirtual 67, 3) := by decide +kernel
theorem dX9_seen_5 : decode cX9_seen 5 = .ok (.ifCond .ne 5, 3) := by decide +kernel
theorem dX9_seen_8 : decode cX9_seen 8 = .ok (.iconst (-1), 1) := by decide +kernel
theorem dX9_seen_9 : decode cX9_seen 9 = .ok (.ireturn, 1) := by decide +kernel
theorem dX9_seen_10 : decode cX9_seen 10 = .ok (.iload_n 2, 1) := by decide +kernel
theorem dX9_seen_11 : decode cX9_seen 11 = .ok (.iconst 0, 1) := by decide +kernel
theorem dX9_seen_12 : decode cX9_seen 12 = .ok (.bipush 6, 2) := by decide +kernel
theorem dX9_seen_14 : decode cX9_seen 14 = .ok (.invokestatic 63, 3) := by decide +kernel
theorem dX9_seen_17 : decode cX9_seen 17 = .ok (.ifCond .ne 6, 3) := by decide +kernel
theorem dX9_seen_20 : decode cX9_seen 20 = .ok (.bipush (-2), 2) := by decide +kernel
theorem dX9_seen_22 : decode cX9_seen 22 = .ok (.ireturn, 1) := by decide +kernel
theorem dX9_seen_23 : decode cX9_seen 23 = .ok (.aload_n 0, 1) := by decide +kernel
theorem dX9_seen_24 : decode cX9_seen 24 = .ok (.getfield 60, 3) := by decide +kernel
theorem dX9_seen_27 : decode cX9_seen 27 = .ok (.bipush 6, 2) := by decide +kernel
theorem dX9_seen_29 : decode cX9_seen 29 = .ok (.if_icmp .ne 6, 3) := by decide +kernel
theorem dX9_seen_32 : decode cX9_seen 32 = .ok (.bipush (-4), 2) := by decide +kernel
theorem dX9_seen_34 : decode cX9_seen 34 = .ok (.ireturn, 1) := by decide +kernel
theorem dX9_seen_35 : decode cX9_seen 35 = .ok (.aload_n 0, 1) := by decide +kernel
theorem dX9_seen_36 : decode cX9_seen 36 = .ok (.getfield 23, 3) := by decide +kernel
theorem dX9_seen_39 : decode cX9_seen 39 = .ok (.iconst 2, 1) := by decide +kernel
theorem dX9_seen_40 : decode cX9_seen 40 = .ok (.aload_n 0, 1) := by decide +kernel
theorem dX9_seen_41 : decode cX9_seen 41 = .ok (.getfield 60, 3) := by decide +kernel
theorem dX9_seen_44 : decode cX9_seen 44 = .ok (.imul, 1) := by decide +kernel
theorem dX9_seen_45 : decode cX9_seen 45 = .ok (.iload_n 1, 1) := by decide +kernel
theorem dX9_seen_46 : decode cX9_seen 46 = .ok (.iastore, 1) := by decide +kernel
theorem dX9_seen_47 : decode cX9_seen 47 = .ok (.aload_n 0, 1) := by decide +kernel
theorem dX9_seen_48 : decode cX9_seen 48 = .ok (.getfield 23, 3) := by decide +kernel
theorem dX9_seen_51 : decode cX9_seen 51 = .ok (.iconst 2, 1) := by decide +kernel
theorem dX9_seen_52 : decode cX9_seen 52 = .ok (.aload_n 0, 1) := by decide +kernel
theorem dX9_seen_53 : decode cX9_seen 53 = .ok (.getfield 60, 3) := by decide +kernel
theorem dX9_seen_56 : decode cX9_seen 56 = .ok (.imul, 1) := by decide +kernel
theorem dX9_seen_57 : decode cX9_seen 57 = .ok (.iconst 1, 1) := by decide +kernel
theorem dX9_seen_58 : decode cX9_seen 58 = .ok (.iadd, 1) := by decide +kernel
theorem dX9_seen_59 : decode cX9_seen 59 = .ok (.iload_n 2, 1) := by decide +kernel
theorem dX9_seen_60 : decode cX9_seen 60 = .ok (.iastore, 1) := by decide +kernel
theorem dX9_seen_61 : decode cX9_seen 61 = .ok (.aload_n 0, 1) := by decide +kernel
theorem dX9_seen_62 : decode cX9_seen 62 = .ok (.dup, 1) := by decide +kernel
theorem dX9_seen_63 : decode cX9_seen 63 = .ok (.getfield 60, 3) := by decide +kernel
theorem dX9_seen_66 : decode cX9_seen 66 = .ok (.iconst 1, 1) := by decide +kernel
theorem dX9_seen_67 : decode cX9_seen 67 = .ok (.iadd, 1) := by decide +kernel
theorem dX9_seen_68 : decode cX9_seen 68 = .ok (.putfield 60, 3) := by decide +kernel
theorem dX9_seen_71 : decode cX9_seen 71 = .ok (.aload_n 0, 1) := by decide +kernel
theorem dX9_seen_72 : decode cX9_seen 72 = .ok (.getfield 60, 3) := by decide +kernel
theorem dX9_seen_75 : decode cX9_seen 75 = .ok (.ireturn, 1) := by decide +kernel
theorem dX9_forget_0 : decode cX9_forget 0 = .ok (.aload_n 0, 1) := by decide +kernel
theorem dX9_forget_1 : decode cX9_forget 1 = .ok (.getfield 60, 3) := by decide +kernel
theorem dX9_forget_4 : decode cX9_forget 4 = .ok (.istore_n 1, 1) := by decide +kernel
theorem dX9_forget_5 : decode cX9_forget 5 = .ok (.aload_n 0, 1) := by decide +kernel
theorem dX9_forget_6 : decode cX9_forget 6 = .ok (.iconst 0, 1) := by decide +kernel
theorem dX9_forget_7 : decode cX9_forget 7 = .ok (.putfield 60, 3) := by decide +kernel
theorem dX9_forget_10 : decode cX9_forget 10 = .ok (.iload_n 1, 1) := by decide +kernel
theorem dX9_forget_11 : decode cX9_forget 11 = .ok (.ireturn, 1) := by decide +kernel
set_option maxRecDepth 20000 in
theorem ggX9_filled_X9_faultOf : GoodIn wsX9_filled wsX9_faultOf := goodIn_r _ [9, 10, 11, 12, 13, 8, 14, 15, 16, 17, 53, 54, 55, 56, 57, 58, 59, 60, 61, 62, 63, 64, 65, 66, 67, 68, 69, 70, 71] (by decide +kernel) (by decide +kernel)
set_option maxRecDepth 20000 in
theorem gX9_filled_X9_faultOf : GoodIn wsX9_filled (wsV RX9 77 RX9 yX9_faultOf wsX9_faultOf) := goodIn_app (goodIn_of _ (by decide +kernel)) ggX9_filled_X9_faultOf
set_option maxRecDepth 20000 in
theorem ggX9_filled_X9_opens : GoodIn wsX9_filled wsX9_opens := goodIn_r _ [21, 10, 11, 53, 54, 55, 56, 57, 58, 59, 60, 61, 62, 63, 64, 65, 66, 67, 68, 69, 70, 71] (by decide +kernel) (by decide +kernel)
set_option maxRecDepth 20000 in
theorem gX9_filled_X9_opens : GoodIn wsX9_filled (wsV RX9 104 RX9 yX9_opens wsX9_opens) := goodIn_app (goodIn_of _ (by decide +kernel)) ggX9_filled_X9_opens
set_option maxRecDepth 20000 in
theorem ggX9_filled_X9_goDay : GoodIn wsX9_filled wsX9_goDay := goodIn_r _ [25, 26, 10, 11, 27, 28, 29, 8, 30, 31, 3, 4, 32, 18, 19, 20, 21, 33, 34, 35, 36, 37, 38, 39, 40, 41, 42, 43, 44, 45, 46, 47, 48, 49, 50, 51, 52, 53, 54, 55, 56, 57, 58, 59, 60, 61, 62, 63, 64, 65, 66, 67, 68, 69, 70, 71] (by decide +kernel) (by decide +kernel)
set_option maxRecDepth 20000 in
theorem gX9_filled_X9_goDay : GoodIn wsX9_filled (wsV RX9 111 RX9 yX9_goDay wsX9_goDay) := goodIn_app (goodIn_of _ (by decide +kernel)) ggX9_filled_X9_goDay
set_option maxRecDepth 20000 in
theorem ggX9_filled_X9_in : GoodIn wsX9_filled wsX9_in := goodIn_r _ [17] (by decide +kernel) (by decide +kernel)
set_option maxRecDepth 20000 in
theorem gX9_filled_X9_in : GoodIn wsX9_filled (va_wsS RX9 63 yX9_in wsX9_in) := goodIn_app (goodIn_of _ (by decide +kernel)) ggX9_filled_X9_in
theorem dX9_filled_0 : decode cX9_filled 0 = .ok (.aload_n 0, 1) := by decide +kernel
theorem dX9_filled_1 : decode cX9_filled 1 = .ok (.invokevirtual 77, 3) := by decide +kernel
theorem dX9_filled_4 : decode cX9_filled 4 = .ok (.ifCond .lt 6, 3) := by decide +kernel
theorem dX9_filled_7 : decode cX9_filled 7 = .ok (.bipush (-5), 2) := by decide +kernel
theorem dX9_filled_9 : decode cX9_filled 9 = .ok (.ireturn, 1) := by decide +kernel
theorem dX9_filled_10 : decode cX9_filled 10 = .ok (.iconst 1, 1) := by decide +kernel
theorem dX9_filled_11 : decode cX9_filled 11 = .ok (.istore_n 2, 1) := by decide +kernel
theorem dX9_filled_12 : decode cX9_filled 12 = .ok (.iconst 0, 1) := by decide +kernel
theorem dX9_filled_13 : decode cX9_filled 13 = .ok (.istore_n 3, 1) := by decide +kernel
theorem dX9_filled_14 : decode cX9_filled 14 = .ok (.iload_n 3, 1) := by decide +kernel
theorem dX9_filled_15 : decode cX9_filled 15 = .ok (.aload_n 0, 1) := by decide +kernel
theorem dX9_filled_16 : decode cX9_filled 16 = .ok (.invokevirtual 104, 3) := by decide +kernel
theorem dX9_filled_19 : decode cX9_filled 19 = .ok (.if_icmp .ge 14, 3) := by decide +kernel
theorem dX9_filled_22 : decode cX9_filled 22 = .ok (.iload_n 2, 1) := by decide +kernel
theorem dX9_filled_23 : decode cX9_filled 23 = .ok (.bipush 10, 2) := by decide +kernel
theorem dX9_filled_25 : decode cX9_filled 25 = .ok (.imul, 1) := by decide +kernel
theorem dX9_filled_26 : decode cX9_filled 26 = .ok (.istore_n 2, 1) := by decide +kernel
theorem dX9_filled_27 : decode cX9_filled 27 = .ok (.iinc 3 1, 3) := by decide +kernel
theorem dX9_filled_30 : decode cX9_filled 30 = .ok (.goto (-16), 3) := by decide +kernel
theorem dX9_filled_33 : decode cX9_filled 33 = .ok (.iconst 0, 1) := by decide +kernel
theorem dX9_filled_34 : decode cX9_filled 34 = .ok (.istore_n 3, 1) := by decide +kernel
theorem dX9_filled_35 : decode cX9_filled 35 = .ok (.bipush (-6), 2) := by decide +kernel
theorem dX9_filled_37 : decode cX9_filled 37 = .ok (.istore 4, 2) := by decide +kernel
theorem dX9_filled_39 : decode cX9_filled 39 = .ok (.iconst 0, 1) := by decide +kernel
theorem dX9_filled_40 : decode cX9_filled 40 = .ok (.istore 5, 2) := by decide +kernel
theorem dX9_filled_42 : decode cX9_filled 42 = .ok (.iload 5, 2) := by decide +kernel
theorem dX9_filled_44 : decode cX9_filled 44 = .ok (.iload_n 2, 1) := by decide +kernel
theorem dX9_filled_45 : decode cX9_filled 45 = .ok (.if_icmp .ge 123, 3) := by decide +kernel
theorem dX9_filled_48 : decode cX9_filled 48 = .ok (.aload_n 0, 1) := by decide +kernel
theorem dX9_filled_49 : decode cX9_filled 49 = .ok (.iload 5, 2) := by decide +kernel
theorem dX9_filled_51 : decode cX9_filled 51 = .ok (.invokevirtual 111, 3) := by decide +kernel
theorem dX9_filled_54 : decode cX9_filled 54 = .ok (.ifCond .ge 7, 3) := by decide +kernel
theorem dX9_filled_57 : decode cX9_filled 57 = .ok (.iconst 1, 1) := by decide +kernel
theorem dX9_filled_58 : decode cX9_filled 58 = .ok (.goto 4, 3) := by decide +kernel
theorem dX9_filled_61 : decode cX9_filled 61 = .ok (.iconst 0, 1) := by decide +kernel
theorem dX9_filled_62 : decode cX9_filled 62 = .ok (.istore 6, 2) := by decide +kernel
theorem dX9_filled_64 : decode cX9_filled 64 = .ok (.iconst 0, 1) := by decide +kernel
theorem dX9_filled_65 : decode cX9_filled 65 = .ok (.istore 7, 2) := by decide +kernel
theorem dX9_filled_67 : decode cX9_filled 67 = .ok (.iload 7, 2) := by decide +kernel
theorem dX9_filled_69 : decode cX9_filled 69 = .ok (.aload_n 0, 1) := by decide +kernel
theorem dX9_filled_70 : decode cX9_filled 70 = .ok (.getfield 60, 3) := by decide +kernel
theorem dX9_filled_73 : decode cX9_filled 73 = .ok (.if_icmp .ge 67, 3) := by decide +kernel
theorem dX9_filled_76 : decode cX9_filled 76 = .ok (.iload 6, 2) := by decide +kernel
theorem dX9_filled_78 : decode cX9_filled 78 = .ok (.ifCond .eq 62, 3) := by decide +kernel
theorem dX9_filled_81 : decode cX9_filled 81 = .ok (.aload_n 0, 1) := by decide +kernel
theorem dX9_filled_82 : decode cX9_filled 82 = .ok (.getfield 23, 3) := by decide +kernel
theorem dX9_filled_85 : decode cX9_filled 85 = .ok (.iconst 2, 1) := by decide +kernel
theorem dX9_filled_86 : decode cX9_filled 86 = .ok (.iload 7, 2) := by decide +kernel
theorem dX9_filled_88 : decode cX9_filled 88 = .ok (.imul, 1) := by decide +kernel
theorem dX9_filled_89 : decode cX9_filled 89 = .ok (.iconst 1, 1) := by decide +kernel
theorem dX9_filled_90 : decode cX9_filled 90 = .ok (.iadd, 1) := by decide +kernel
theorem dX9_filled_91 : decode cX9_filled 91 = .ok (.iaload, 1) := by decide +kernel
theorem dX9_filled_92 : decode cX9_filled 92 = .ok (.aload_n 0, 1) := by decide +kernel
theorem dX9_filled_93 : decode cX9_filled 93 = .ok (.getfield 81, 3) := by decide +kernel
theorem dX9_filled_96 : decode cX9_filled 96 = .ok (.if_icmp .ge 35, 3) := by decide +kernel
theorem dX9_filled_99 : decode cX9_filled 99 = .ok (.aload_n 0, 1) := by decide +kernel
theorem dX9_filled_100 : decode cX9_filled 100 = .ok (.getfield 29, 3) := by decide +kernel
theorem dX9_filled_103 : decode cX9_filled 103 = .ok (.aload_n 0, 1) := by decide +kernel
theorem dX9_filled_104 : decode cX9_filled 104 = .ok (.getfield 23, 3) := by decide +kernel
theorem dX9_filled_107 : decode cX9_filled 107 = .ok (.iconst 2, 1) := by decide +kernel
theorem dX9_filled_108 : decode cX9_filled 108 = .ok (.iload 7, 2) := by decide +kernel
theorem dX9_filled_110 : decode cX9_filled 110 = .ok (.imul, 1) := by decide +kernel
theorem dX9_filled_111 : decode cX9_filled 111 = .ok (.iconst 1, 1) := by decide +kernel
theorem dX9_filled_112 : decode cX9_filled 112 = .ok (.iadd, 1) := by decide +kernel
theorem dX9_filled_113 : decode cX9_filled 113 = .ok (.iaload, 1) := by decide +kernel
theorem dX9_filled_114 : decode cX9_filled 114 = .ok (.iaload, 1) := by decide +kernel
theorem dX9_filled_115 : decode cX9_filled 115 = .ok (.aload_n 0, 1) := by decide +kernel
theorem dX9_filled_116 : decode cX9_filled 116 = .ok (.getfield 23, 3) := by decide +kernel
theorem dX9_filled_119 : decode cX9_filled 119 = .ok (.iconst 2, 1) := by decide +kernel
theorem dX9_filled_120 : decode cX9_filled 120 = .ok (.iload 7, 2) := by decide +kernel
theorem dX9_filled_122 : decode cX9_filled 122 = .ok (.imul, 1) := by decide +kernel
theorem dX9_filled_123 : decode cX9_filled 123 = .ok (.iaload, 1) := by decide +kernel
theorem dX9_filled_124 : decode cX9_filled 124 = .ok (.if_icmp .ne 7, 3) := by decide +kernel
theorem dX9_filled_127 : decode cX9_filled 127 = .ok (.iconst 1, 1) := by decide +kernel
theorem dX9_filled_128 : decode cX9_filled 128 = .ok (.goto 4, 3) := by decide +kernel
theorem dX9_filled_131 : decode cX9_filled 131 = .ok (.iconst 0, 1) := by decide +kernel
theorem dX9_filled_132 : decode cX9_filled 132 = .ok (.istore 6, 2) := by decide +kernel
theorem dX9_filled_134 : decode cX9_filled 134 = .ok (.iinc 7 1, 3) := by decide +kernel
theorem dX9_filled_137 : decode cX9_filled 137 = .ok (.goto (-70), 3) := by decide +kernel
theorem dX9_filled_140 : decode cX9_filled 140 = .ok (.iload 6, 2) := by decide +kernel
theorem dX9_filled_142 : decode cX9_filled 142 = .ok (.ifCond .eq 20, 3) := by decide +kernel
theorem dX9_filled_145 : decode cX9_filled 145 = .ok (.iload 4, 2) := by decide +kernel
theorem dX9_filled_147 : decode cX9_filled 147 = .ok (.ifCond .ge 8, 3) := by decide +kernel
theorem dX9_filled_150 : decode cX9_filled 150 = .ok (.iload 5, 2) := by decide +kernel
theorem dX9_filled_152 : decode cX9_filled 152 = .ok (.goto 5, 3) := by decide +kernel
theorem dX9_filled_155 : decode cX9_filled 155 = .ok (.iload 4, 2) := by decide +kernel
theorem dX9_filled_157 : decode cX9_filled 157 = .ok (.istore 4, 2) := by decide +kernel
theorem dX9_filled_159 : decode cX9_filled 159 = .ok (.iinc 3 1, 3) := by decide +kernel
theorem dX9_filled_162 : decode cX9_filled 162 = .ok (.iinc 5 1, 3) := by decide +kernel
theorem dX9_filled_165 : decode cX9_filled 165 = .ok (.goto (-123), 3) := by decide +kernel
theorem dX9_filled_168 : decode cX9_filled 168 = .ok (.iload_n 1, 1) := by decide +kernel
theorem dX9_filled_169 : decode cX9_filled 169 = .ok (.iconst (-1), 1) := by decide +kernel
theorem dX9_filled_170 : decode cX9_filled 170 = .ok (.if_icmp .ne 5, 3) := by decide +kernel
theorem dX9_filled_173 : decode cX9_filled 173 = .ok (.iload_n 3, 1) := by decide +kernel
theorem dX9_filled_174 : decode cX9_filled 174 = .ok (.ireturn, 1) := by decide +kernel
theorem dX9_filled_175 : decode cX9_filled 175 = .ok (.iload 4, 2) := by decide +kernel
theorem dX9_filled_177 : decode cX9_filled 177 = .ok (.ifCond .lt 17, 3) := by decide +kernel
theorem dX9_filled_180 : decode cX9_filled 180 = .ok (.iload_n 1, 1) := by decide +kernel
theorem dX9_filled_181 : decode cX9_filled 181 = .ok (.iconst 0, 1) := by decide +kernel
theorem dX9_filled_182 : decode cX9_filled 182 = .ok (.aload_n 0, 1) := by decide +kernel
theorem dX9_filled_183 : decode cX9_filled 183 = .ok (.invokevirtual 104, 3) := by decide +kernel
theorem dX9_filled_186 : decode cX9_filled 186 = .ok (.iconst 1, 1) := by decide +kernel
theorem dX9_filled_187 : decode cX9_filled 187 = .ok (.isub, 1) := by decide +kernel
theorem dX9_filled_188 : decode cX9_filled 188 = .ok (.invokestatic 63, 3) := by decide +kernel
theorem dX9_filled_191 : decode cX9_filled 191 = .ok (.ifCond .ne 6, 3) := by decide +kernel
theorem dX9_filled_194 : decode cX9_filled 194 = .ok (.bipush (-6), 2) := by decide +kernel
theorem dX9_filled_196 : decode cX9_filled 196 = .ok (.ireturn, 1) := by decide +kernel
theorem dX9_filled_197 : decode cX9_filled 197 = .ok (.iload 4, 2) := by decide +kernel
theorem dX9_filled_199 : decode cX9_filled 199 = .ok (.istore 5, 2) := by decide +kernel
theorem dX9_filled_201 : decode cX9_filled 201 = .ok (.aload_n 0, 1) := by decide +kernel
theorem dX9_filled_202 : decode cX9_filled 202 = .ok (.invokevirtual 104, 3) := by decide +kernel
theorem dX9_filled_205 : decode cX9_filled 205 = .ok (.iconst 1, 1) := by decide +kernel
theorem dX9_filled_206 : decode cX9_filled 206 = .ok (.isub, 1) := by decide +kernel
theorem dX9_filled_207 : decode cX9_filled 207 = .ok (.istore 6, 2) := by decide +kernel
theorem dX9_filled_209 : decode cX9_filled 209 = .ok (.iload 6, 2) := by decide +kernel
theorem dX9_filled_211 : decode cX9_filled 211 = .ok (.iload_n 1, 1) := by decide +kernel
theorem dX9_filled_212 : decode cX9_filled 212 = .ok (.if_icmp .le 16, 3) := by decide +kernel
theorem dX9_filled_215 : decode cX9_filled 215 = .ok (.iload 5, 2) := by decide +kernel
theorem dX9_filled_217 : decode cX9_filled 217 = .ok (.bipush 10, 2) := by decide +kernel
theorem dX9_filled_219 : decode cX9_filled 219 = .ok (.idiv, 1) := by decide +kernel
theorem dX9_filled_220 : decode cX9_filled 220 = .ok (.istore 5, 2) := by decide +kernel
theorem dX9_filled_222 : decode cX9_filled 222 = .ok (.iinc 6 (-1), 3) := by decide +kernel
theorem dX9_filled_225 : decode cX9_filled 225 = .ok (.goto (-16), 3) := by decide +kernel
theorem dX9_filled_228 : decode cX9_filled 228 = .ok (.iload 5, 2) := by decide +kernel
theorem dX9_filled_230 : decode cX9_filled 230 = .ok (.bipush 10, 2) := by decide +kernel
theorem dX9_filled_232 : decode cX9_filled 232 = .ok (.irem, 1) := by decide +kernel
theorem dX9_filled_233 : decode cX9_filled 233 = .ok (.ireturn, 1) := by decide +kernel
set_option maxRecDepth 20000 in
theorem ggX9_pikes_X9_isLesson : GoodIn wsX9_pikes wsX9_isLesson := goodIn_r _ [6, 7, 8, 5, 9] (by decide +kernel) (by decide +kernel)
set_option maxRecDepth 20000 in
theorem gX9_pikes_X9_isLesson : GoodIn wsX9_pikes (va_wsS RX9 149 yX9_isLesson wsX9_isLesson) := goodIn_app (goodIn_of _ (by decide +kernel)) ggX9_pikes_X9_isLesson
set_option maxRecDepth 20000 in
theorem ggX9_pikes_X9_in : GoodIn wsX9_pikes wsX9_in := goodIn_r _ [9] (by decide +kernel) (by decide +kernel)
set_option maxRecDepth 20000 in
theorem gX9_pikes_X9_in : GoodIn wsX9_pikes (va_wsS RX9 63 yX9_in wsX9_in) := goodIn_app (goodIn_of _ (by decide +kernel)) ggX9_pikes_X9_in
set_option maxRecDepth 20000 in
theorem ggX9_pikes_X9_asNow : GoodIn wsX9_pikes wsX9_asNow := goodIn_r _ [13, 2, 14, 15, 16, 47, 48, 49, 50, 51, 52, 53, 54, 55, 56, 57, 58, 59, 60, 61, 62, 63, 64, 65] (by decide +kernel) (by decide +kernel)
set_option maxRecDepth 20000 in
theorem gX9_pikes_X9_asNow : GoodIn wsX9_pikes (wsV RX9 98 RX9 yX9_asNow wsX9_asNow) := goodIn_app (goodIn_of _ (by decide +kernel)) ggX9_pikes_X9_asNow
set_option maxRecDepth 20000 in
theorem ggX9_pikes_X9_pike : GoodIn wsX9_pikes wsX9_pike := goodIn_r _ [20, 14, 21, 22, 23, 5, 24, 15, 47, 48, 49, 50, 51, 52, 53, 54, 55, 56, 57, 58, 59, 60, 61, 62, 63, 64, 65] (by decide +kernel) (by decide +kernel)
set_option maxRecDepth 20000 in
theorem gX9_pikes_X9_pike : GoodIn wsX9_pikes (wsV RX9 95 RX9 yX9_pike wsX9_pike) := goodIn_app (goodIn_of _ (by decide +kernel)) ggX9_pikes_X9_pike
set_option maxRecDepth 20000 in
theorem ggX9_pikes_X9_isTaught : GoodIn wsX9_pikes wsX9_isTaught := goodIn_r _ [28, 14, 29, 30, 31, 5, 32, 33, 15, 34, 35, 36, 37, 38, 39, 40, 41, 42, 43, 44, 45, 46, 47, 48, 49, 50, 51, 52, 53, 54, 55, 56, 57, 58, 59, 60, 61, 62, 63, 64, 65] (by decide +kernel) (by decide +kernel)
set_option maxRecDepth 20000 in
theorem gX9_pikes_X9_isTaught : GoodIn wsX9_pikes (wsV RX9 134 RX9 yX9_isTaught wsX9_isTaught) := goodIn_app (goodIn_of _ (by decide +kernel)) ggX9_pikes_X9_isTaught
theorem dX9_pikes_0 : decode cX9_pikes 0 = .ok (.iload_n 1, 1) := by decide +kernel
theorem dX9_pikes_1 : decode cX9_pikes 1 = .ok (.invokestatic 149, 3) := by decide +kernel
theorem dX9_pikes_4 : decode cX9_pikes 4 = .ok (.ifCond .eq 21, 3) := by decide +kernel
theorem dX9_pikes_7 : decode cX9_pikes 7 = .ok (.iload_n 2, 1) := by decide +kernel
theorem dX9_pikes_8 : decode cX9_pikes 8 = .ok (.iconst 0, 1) := by decide +kernel
theorem dX9_pikes_9 : decode cX9_pikes 9 = .ok (.iconst 3, 1) := by decide +kernel
theorem dX9_pikes_10 : decode cX9_pikes 10 = .ok (.invokestatic 63, 3) := by decide +kernel
theorem dX9_pikes_13 : decode cX9_pikes 13 = .ok (.ifCond .eq 12, 3) := by decide +kernel
theorem dX9_pikes_16 : decode cX9_pikes 16 = .ok (.iload_n 3, 1) := by decide +kernel
theorem dX9_pikes_17 : decode cX9_pikes 17 = .ok (.iconst 0, 1) := by decide +kernel
theorem dX9_pikes_18 : decode cX9_pikes 18 = .ok (.iconst 1, 1) := by decide +kernel
theorem dX9_pikes_19 : decode cX9_pikes 19 = .ok (.invokestatic 63, 3) := by decide +kernel
theorem dX9_pikes_22 : decode cX9_pikes 22 = .ok (.ifCond .ne 7, 3) := by decide +kernel
theorem dX9_pikes_25 : decode cX9_pikes 25 = .ok (.ldc2_w 168, 3) := by decide +kernel
theorem dX9_pikes_28 : decode cX9_pikes 28 = .ok (.lreturn, 1) := by decide +kernel
theorem dX9_pikes_29 : decode cX9_pikes 29 = .ok (.iconst 1, 1) := by decide +kernel
theorem dX9_pikes_30 : decode cX9_pikes 30 = .ok (.istore 4, 2) := by decide +kernel
theorem dX9_pikes_32 : decode cX9_pikes 32 = .ok (.iconst 0, 1) := by decide +kernel
theorem dX9_pikes_33 : decode cX9_pikes 33 = .ok (.istore 5, 2) := by decide +kernel
theorem dX9_pikes_35 : decode cX9_pikes 35 = .ok (.iload 5, 2) := by decide +kernel
theorem dX9_pikes_37 : decode cX9_pikes 37 = .ok (.iload_n 2, 1) := by decide +kernel
theorem dX9_pikes_38 : decode cX9_pikes 38 = .ok (.if_icmp .ge 18, 3) := by decide +kernel
theorem dX9_pikes_41 : decode cX9_pikes 41 = .ok (.iload 4, 2) := by decide +kernel
theorem dX9_pikes_43 : decode cX9_pikes 43 = .ok (.aload_n 0, 1) := by decide +kernel
theorem dX9_pikes_44 : decode cX9_pikes 44 = .ok (.getfield 13, 3) := by decide +kernel
theorem dX9_pikes_47 : decode cX9_pikes 47 = .ok (.imul, 1) := by decide +kernel
theorem dX9_pikes_48 : decode cX9_pikes 48 = .ok (.istore 4, 2) := by decide +kernel
theorem dX9_pikes_50 : decode cX9_pikes 50 = .ok (.iinc 5 1, 3) := by decide +kernel
theorem dX9_pikes_53 : decode cX9_pikes 53 = .ok (.goto (-18), 3) := by decide +kernel
theorem dX9_pikes_56 : decode cX9_pikes 56 = .ok (.iconst 0, 1) := by decide +kernel
theorem dX9_pikes_57 : decode cX9_pikes 57 = .ok (.istore 5, 2) := by decide +kernel
theorem dX9_pikes_59 : decode cX9_pikes 59 = .ok (.iconst 0, 1) := by decide +kernel
theorem dX9_pikes_60 : decode cX9_pikes 60 = .ok (.istore 6, 2) := by decide +kernel
theorem dX9_pikes_62 : decode cX9_pikes 62 = .ok (.iload 6, 2) := by decide +kernel
theorem dX9_pikes_64 : decode cX9_pikes 64 = .ok (.iload 4, 2) := by decide +kernel
theorem dX9_pikes_66 : decode cX9_pikes 66 = .ok (.if_icmp .ge 70, 3) := by decide +kernel
theorem dX9_pikes_69 : decode cX9_pikes 69 = .ok (.aload_n 0, 1) := by decide +kernel
theorem dX9_pikes_70 : decode cX9_pikes 70 = .ok (.invokevirtual 98, 3) := by decide +kernel
theorem dX9_pikes_73 : decode cX9_pikes 73 = .ok (.iload 6, 2) := by decide +kernel
theorem dX9_pikes_75 : decode cX9_pikes 75 = .ok (.istore 7, 2) := by decide +kernel
theorem dX9_pikes_77 : decode cX9_pikes 77 = .ok (.iconst 0, 1) := by decide +kernel
theorem dX9_pikes_78 : decode cX9_pikes 78 = .ok (.istore 8, 2) := by decide +kernel
theorem dX9_pikes_80 : decode cX9_pikes 80 = .ok (.iload 8, 2) := by decide +kernel
theorem dX9_pikes_82 : decode cX9_pikes 82 = .ok (.iload_n 2, 1) := by decide +kernel
theorem dX9_pikes_83 : decode cX9_pikes 83 = .ok (.if_icmp .ge 29, 3) := by decide +kernel
theorem dX9_pikes_86 : decode cX9_pikes 86 = .ok (.aload_n 0, 1) := by decide +kernel
theorem dX9_pikes_87 : decode cX9_pikes 87 = .ok (.iload 7, 2) := by decide +kernel
theorem dX9_pikes_89 : decode cX9_pikes 89 = .ok (.aload_n 0, 1) := by decide +kernel
theorem dX9_pikes_90 : decode cX9_pikes 90 = .ok (.getfield 13, 3) := by decide +kernel
theorem dX9_pikes_93 : decode cX9_pikes 93 = .ok (.irem, 1) := by decide +kernel
theorem dX9_pikes_94 : decode cX9_pikes 94 = .ok (.invokevirtual 95, 3) := by decide +kernel
theorem dX9_pikes_97 : decode cX9_pikes 97 = .ok (.iload 7, 2) := by decide +kernel
theorem dX9_pikes_99 : decode cX9_pikes 99 = .ok (.aload_n 0, 1) := by decide +kernel
theorem dX9_pikes_100 : decode cX9_pikes 100 = .ok (.getfield 13, 3) := by decide +kernel
theorem dX9_pikes_103 : decode cX9_pikes 103 = .ok (.idiv, 1) := by decide +kernel
theorem dX9_pikes_104 : decode cX9_pikes 104 = .ok (.istore 7, 2) := by decide +kernel
theorem dX9_pikes_106 : decode cX9_pikes 106 = .ok (.iinc 8 1, 3) := by decide +kernel
theorem dX9_pikes_109 : decode cX9_pikes 109 = .ok (.goto (-29), 3) := by decide +kernel
theorem dX9_pikes_112 : decode cX9_pikes 112 = .ok (.iload 5, 2) := by decide +kernel
theorem dX9_pikes_114 : decode cX9_pikes 114 = .ok (.aload_n 0, 1) := by decide +kernel
theorem dX9_pikes_115 : decode cX9_pikes 115 = .ok (.iload_n 1, 1) := by decide +kernel
theorem dX9_pikes_116 : decode cX9_pikes 116 = .ok (.invokevirtual 134, 3) := by decide +kernel
theorem dX9_pikes_119 : decode cX9_pikes 119 = .ok (.ifCond .eq 7, 3) := by decide +kernel
theorem dX9_pikes_122 : decode cX9_pikes 122 = .ok (.iconst 1, 1) := by decide +kernel
theorem dX9_pikes_123 : decode cX9_pikes 123 = .ok (.goto 4, 3) := by decide +kernel
theorem dX9_pikes_126 : decode cX9_pikes 126 = .ok (.iconst 0, 1) := by decide +kernel
theorem dX9_pikes_127 : decode cX9_pikes 127 = .ok (.iadd, 1) := by decide +kernel
theorem dX9_pikes_128 : decode cX9_pikes 128 = .ok (.istore 5, 2) := by decide +kernel
theorem dX9_pikes_130 : decode cX9_pikes 130 = .ok (.iinc 6 1, 3) := by decide +kernel
theorem dX9_pikes_133 : decode cX9_pikes 133 = .ok (.goto (-71), 3) := by decide +kernel
theorem dX9_pikes_136 : decode cX9_pikes 136 = .ok (.iload 5, 2) := by decide +kernel
theorem dX9_pikes_138 : decode cX9_pikes 138 = .ok (.istore 6, 2) := by decide +kernel
theorem dX9_pikes_140 : decode cX9_pikes 140 = .ok (.iload 4, 2) := by decide +kernel
theorem dX9_pikes_142 : decode cX9_pikes 142 = .ok (.istore 7, 2) := by decide +kernel
theorem dX9_pikes_144 : decode cX9_pikes 144 = .ok (.iload 7, 2) := by decide +kernel
theorem dX9_pikes_146 : decode cX9_pikes 146 = .ok (.ifCond .eq 21, 3) := by decide +kernel
theorem dX9_pikes_149 : decode cX9_pikes 149 = .ok (.iload 6, 2) := by decide +kernel
theorem dX9_pikes_151 : decode cX9_pikes 151 = .ok (.iload 7, 2) := by decide +kernel
theorem dX9_pikes_153 : decode cX9_pikes 153 = .ok (.irem, 1) := by decide +kernel
theorem dX9_pikes_154 : decode cX9_pikes 154 = .ok (.istore 8, 2) := by decide +kernel
theorem dX9_pikes_156 : decode cX9_pikes 156 = .ok (.iload 7, 2) := by decide +kernel
theorem dX9_pikes_158 : decode cX9_pikes 158 = .ok (.istore 6, 2) := by decide +kernel
theorem dX9_pikes_160 : decode cX9_pikes 160 = .ok (.iload 8, 2) := by decide +kernel
theorem dX9_pikes_162 : decode cX9_pikes 162 = .ok (.istore 7, 2) := by decide +kernel
theorem dX9_pikes_164 : decode cX9_pikes 164 = .ok (.goto (-20), 3) := by decide +kernel
theorem dX9_pikes_167 : decode cX9_pikes 167 = .ok (.iload_n 3, 1) := by decide +kernel
theorem dX9_pikes_168 : decode cX9_pikes 168 = .ok (.ifCond .ne 12, 3) := by decide +kernel
theorem dX9_pikes_171 : decode cX9_pikes 171 = .ok (.iload 5, 2) := by decide +kernel
theorem dX9_pikes_173 : decode cX9_pikes 173 = .ok (.iload 6, 2) := by decide +kernel
theorem dX9_pikes_175 : decode cX9_pikes 175 = .ok (.idiv, 1) := by decide +kernel
theorem dX9_pikes_176 : decode cX9_pikes 176 = .ok (.i2l, 1) := by decide +kernel
theorem dX9_pikes_177 : decode cX9_pikes 177 = .ok (.goto 9, 3) := by decide +kernel
theorem dX9_pikes_180 : decode cX9_pikes 180 = .ok (.iload 4, 2) := by decide +kernel
theorem dX9_pikes_182 : decode cX9_pikes 182 = .ok (.iload 6, 2) := by decide +kernel
theorem dX9_pikes_184 : decode cX9_pikes 184 = .ok (.idiv, 1) := by decide +kernel
theorem dX9_pikes_185 : decode cX9_pikes 185 = .ok (.i2l, 1) := by decide +kernel
theorem dX9_pikes_186 : decode cX9_pikes 186 = .ok (.lreturn, 1) := by decide +kernel
set_option maxRecDepth 20000 in
theorem ggX9_year_X9_in : GoodIn wsX9_year wsX9_in := goodIn_r _ [8] (by decide +kernel) (by decide +kernel)
set_option maxRecDepth 20000 in
theorem gX9_year_X9_in : GoodIn wsX9_year (va_wsS RX9 63 yX9_in wsX9_in) := goodIn_app (goodIn_of _ (by decide +kernel)) ggX9_year_X9_in
set_option maxRecDepth 20000 in
theorem ggX9_year_X9_isLesson : GoodIn wsX9_year wsX9_isLesson := goodIn_r _ [11, 5, 6, 7, 8] (by decide +kernel) (by decide +kernel)
set_option maxRecDepth 20000 in
theorem gX9_year_X9_isLesson : GoodIn wsX9_year (va_wsS RX9 149 yX9_isLesson wsX9_isLesson) := goodIn_app (goodIn_of _ (by decide +kernel)) ggX9_year_X9_isLesson
set_option maxRecDepth 20000 in
theorem ggX9_year_X9_asNow : GoodIn wsX9_year wsX9_asNow := goodIn_r _ [15, 16, 3, 4, 17, 52, 53, 54, 55, 56, 57, 58, 59, 60, 61, 62, 63, 64, 65, 66, 67, 68, 69, 70] (by decide +kernel) (by decide +kernel)
set_option maxRecDepth 20000 in
theorem gX9_year_X9_asNow : GoodIn wsX9_year (wsV RX9 98 RX9 yX9_asNow wsX9_asNow) := goodIn_app (goodIn_of _ (by decide +kernel)) ggX9_year_X9_asNow
set_option maxRecDepth 20000 in
theorem ggX9_year_X9_bread : GoodIn wsX9_year wsX9_bread := goodIn_r _ [21, 22, 23, 24, 7, 25, 4, 52, 53, 54, 55, 56, 57, 58, 59, 60, 61, 62, 63, 64, 65, 66, 67, 68, 69, 70] (by decide +kernel) (by decide +kernel)
set_option maxRecDepth 20000 in
theorem gX9_year_X9_bread : GoodIn wsX9_year (wsV RX9 91 RX9 yX9_bread wsX9_bread) := goodIn_app (goodIn_of _ (by decide +kernel)) ggX9_year_X9_bread
set_option maxRecDepth 20000 in
theorem ggX9_year_X9_pike : GoodIn wsX9_year wsX9_pike := goodIn_r _ [29, 3, 22, 23, 24, 7, 25, 4, 52, 53, 54, 55, 56, 57, 58, 59, 60, 61, 62, 63, 64, 65, 66, 67, 68, 69, 70] (by decide +kernel) (by decide +kernel)
set_option maxRecDepth 20000 in
theorem gX9_year_X9_pike : GoodIn wsX9_year (wsV RX9 95 RX9 yX9_pike wsX9_pike) := goodIn_app (goodIn_of _ (by decide +kernel)) ggX9_year_X9_pike
set_option maxRecDepth 20000 in
theorem ggX9_year_X9_isTaught : GoodIn wsX9_year wsX9_isTaught := goodIn_r _ [33, 3, 34, 35, 36, 7, 37, 38, 4, 39, 40, 41, 42, 43, 44, 45, 46, 47, 48, 49, 50, 51, 52, 53, 54, 55, 56, 57, 58, 59, 60, 61, 62, 63, 64, 65, 66, 67, 68, 69, 70] (by decide +kernel) (by decide +kernel)
set_option maxRecDepth 20000 in
theorem gX9_year_X9_isTaught : GoodIn wsX9_year (wsV RX9 134 RX9 yX9_isTaught wsX9_isTaught) := goodIn_app (goodIn_of _ (by decide +kernel)) ggX9_year_X9_isTaught
theorem dX9_year_0 : decode cX9_year 0 = .ok (.iload_n 1, 1) := by decide +kernel
theorem dX9_year_1 : decode cX9_year 1 = .ok (.iconst 0, 1) := by decide +kernel
theorem dX9_year_2 : decode cX9_year 2 = .ok (.sipush 9999, 3) := by decide +kernel
theorem dX9_year_5 : decode cX9_year 5 = .ok (.invokestatic 63, 3) := by decide +kernel
theorem dX9_year_8 : decode cX9_year 8 = .ok (.ifCond .eq 36, 3) := by decide +kernel
theorem dX9_year_11 : decode cX9_year 11 = .ok (.iload_n 2, 1) := by decide +kernel
theorem dX9_year_12 : decode cX9_year 12 = .ok (.iconst 1, 1) := by decide +kernel
theorem dX9_year_13 : decode cX9_year 13 = .ok (.bipush 99, 2) := by decide +kernel
theorem dX9_year_15 : decode cX9_year 15 = .ok (.invokestatic 63, 3) := by decide +kernel
theorem dX9_year_18 : decode cX9_year 18 = .ok (.ifCond .eq 26, 3) := by decide +kernel
theorem dX9_year_21 : decode cX9_year 21 = .ok (.iload_n 3, 1) := by decide +kernel
theorem dX9_year_22 : decode cX9_year 22 = .ok (.invokestatic 149, 3) := by decide +kernel
theorem dX9_year_25 : decode cX9_year 25 = .ok (.ifCond .ne 22, 3) := by decide +kernel
theorem dX9_year_28 : decode cX9_year 28 = .ok (.iload_n 3, 1) := by decide +kernel
theorem dX9_year_29 : decode cX9_year 29 = .ok (.bipush 10, 2) := by decide +kernel
theorem dX9_year_31 : decode cX9_year 31 = .ok (.bipush 9, 2) := by decide +kernel
theorem dX9_year_33 : decode cX9_year 33 = .ok (.aload_n 0, 1) := by decide +kernel
theorem dX9_year_34 : decode cX9_year 34 = .ok (.getfield 7, 3) := by decide +kernel
theorem dX9_year_37 : decode cX9_year 37 = .ok (.iadd, 1) := by decide +kernel
theorem dX9_year_38 : decode cX9_year 38 = .ok (.invokestatic 63, 3) := by decide +kernel
theorem dX9_year_41 : decode cX9_year 41 = .ok (.ifCond .ne 6, 3) := by decide +kernel
theorem dX9_year_44 : decode cX9_year 44 = .ok (.bipush (-2), 2) := by decide +kernel
theorem dX9_year_46 : decode cX9_year 46 = .ok (.ireturn, 1) := by decide +kernel
theorem dX9_year_47 : decode cX9_year 47 = .ok (.aload_n 0, 1) := by decide +kernel
theorem dX9_year_48 : decode cX9_year 48 = .ok (.invokevirtual 98, 3) := by decide +kernel
theorem dX9_year_51 : decode cX9_year 51 = .ok (.iload_n 1, 1) := by decide +kernel
theorem dX9_year_52 : decode cX9_year 52 = .ok (.istore 4, 2) := by decide +kernel
theorem dX9_year_54 : decode cX9_year 54 = .ok (.iconst 0, 1) := by decide +kernel
theorem dX9_year_55 : decode cX9_year 55 = .ok (.istore 5, 2) := by decide +kernel
theorem dX9_year_57 : decode cX9_year 57 = .ok (.iconst 0, 1) := by decide +kernel
theorem dX9_year_58 : decode cX9_year 58 = .ok (.istore 6, 2) := by decide +kernel
theorem dX9_year_60 : decode cX9_year 60 = .ok (.iload 6, 2) := by decide +kernel
theorem dX9_year_62 : decode cX9_year 62 = .ok (.iload_n 2, 1) := by decide +kernel
theorem dX9_year_63 : decode cX9_year 63 = .ok (.if_icmp .ge 107, 3) := by decide +kernel
theorem dX9_year_66 : decode cX9_year 66 = .ok (.bipush 75, 2) := by decide +kernel
theorem dX9_year_68 : decode cX9_year 68 = .ok (.iload 4, 2) := by decide +kernel
theorem dX9_year_70 : decode cX9_year 70 = .ok (.imul, 1) := by decide +kernel
theorem dX9_year_71 : decode cX9_year 71 = .ok (.bipush 74, 2) := by decide +kernel
theorem dX9_year_73 : decode cX9_year 73 = .ok (.iadd, 1) := by decide +kernel
theorem dX9_year_74 : decode cX9_year 74 = .ok (.ldc 170, 2) := by decide +kernel
theorem dX9_year_76 : decode cX9_year 76 = .ok (.irem, 1) := by decide +kernel
theorem dX9_year_77 : decode cX9_year 77 = .ok (.istore 4, 2) := by decide +kernel
theorem dX9_year_79 : decode cX9_year 79 = .ok (.iload 4, 2) := by decide +kernel
theorem dX9_year_81 : decode cX9_year 81 = .ok (.iconst 2, 1) := by decide +kernel
theorem dX9_year_82 : decode cX9_year 82 = .ok (.irem, 1) := by decide +kernel
theorem dX9_year_83 : decode cX9_year 83 = .ok (.ifCond .ne 19, 3) := by decide +kernel
theorem dX9_year_86 : decode cX9_year 86 = .ok (.aload_n 0, 1) := by decide +kernel
theorem dX9_year_87 : decode cX9_year 87 = .ok (.iload 4, 2) := by decide +kernel
theorem dX9_year_89 : decode cX9_year 89 = .ok (.iconst 2, 1) := by decide +kernel
theorem dX9_year_90 : decode cX9_year 90 = .ok (.idiv, 1) := by decide +kernel
theorem dX9_year_91 : decode cX9_year 91 = .ok (.aload_n 0, 1) := by decide +kernel
theorem dX9_year_92 : decode cX9_year 92 = .ok (.getfield 81, 3) := by decide +kernel
theorem dX9_year_95 : decode cX9_year 95 = .ok (.irem, 1) := by decide +kernel
theorem dX9_year_96 : decode cX9_year 96 = .ok (.invokevirtual 91, 3) := by decide +kernel
theorem dX9_year_99 : decode cX9_year 99 = .ok (.goto 16, 3) := by decide +kernel
theorem dX9_year_102 : decode cX9_year 102 = .ok (.aload_n 0, 1) := by decide +kernel
theorem dX9_year_103 : decode cX9_year 103 = .ok (.iload 4, 2) := by decide +kernel
theorem dX9_year_105 : decode cX9_year 105 = .ok (.iconst 2, 1) := by decide +kernel
theorem dX9_year_106 : decode cX9_year 106 = .ok (.idiv, 1) := by decide +kernel
theorem dX9_year_107 : decode cX9_year 107 = .ok (.aload_n 0, 1) := by decide +kernel
theorem dX9_year_108 : decode cX9_year 108 = .ok (.getfield 81, 3) := by decide +kernel
theorem dX9_year_111 : decode cX9_year 111 = .ok (.irem, 1) := by decide +kernel
theorem dX9_year_112 : decode cX9_year 112 = .ok (.invokevirtual 95, 3) := by decide +kernel
theorem dX9_year_115 : decode cX9_year 115 = .ok (.iload_n 3, 1) := by decide +kernel
theorem dX9_year_116 : decode cX9_year 116 = .ok (.bipush 10, 2) := by decide +kernel
theorem dX9_year_118 : decode cX9_year 118 = .ok (.if_icmp .ge 11, 3) := by decide +kernel
theorem dX9_year_121 : decode cX9_year 121 = .ok (.aload_n 0, 1) := by decide +kernel
theorem dX9_year_122 : decode cX9_year 122 = .ok (.iload_n 3, 1) := by decide +kernel
theorem dX9_year_123 : decode cX9_year 123 = .ok (.invokevirtual 134, 3) := by decide +kernel
theorem dX9_year_126 : decode cX9_year 126 = .ok (.goto 21, 3) := by decide +kernel
theorem dX9_year_129 : decode cX9_year 129 = .ok (.aload_n 0, 1) := by decide +kernel
theorem dX9_year_130 : decode cX9_year 130 = .ok (.getfield 29, 3) := by decide +kernel
theorem dX9_year_133 : decode cX9_year 133 = .ok (.iconst 0, 1) := by decide +kernel
theorem dX9_year_134 : decode cX9_year 134 = .ok (.iaload, 1) := by decide +kernel
theorem dX9_year_135 : decode cX9_year 135 = .ok (.iload_n 3, 1) := by decide +kernel
theorem dX9_year_136 : decode cX9_year 136 = .ok (.bipush 10, 2) := by decide +kernel
theorem dX9_year_138 : decode cX9_year 138 = .ok (.isub, 1) := by decide +kernel
theorem dX9_year_139 : decode cX9_year 139 = .ok (.if_icmp .ne 7, 3) := by decide +kernel
theorem dX9_year_142 : decode cX9_year 142 = .ok (.iconst 1, 1) := by decide +kernel
theorem dX9_year_143 : decode cX9_year 143 = .ok (.goto 4, 3) := by decide +kernel
theorem dX9_year_146 : decode cX9_year 146 = .ok (.iconst 0, 1) := by decide +kernel
theorem dX9_year_147 : decode cX9_year 147 = .ok (.istore 7, 2) := by decide +kernel
theorem dX9_year_149 : decode cX9_year 149 = .ok (.iload 5, 2) := by decide +kernel
theorem dX9_year_151 : decode cX9_year 151 = .ok (.iload 7, 2) := by decide +kernel
theorem dX9_year_153 : decode cX9_year 153 = .ok (.ifCond .eq 7, 3) := by decide +kernel
theorem dX9_year_156 : decode cX9_year 156 = .ok (.iconst 1, 1) := by decide +kernel
theorem dX9_year_157 : decode cX9_year 157 = .ok (.goto 4, 3) := by decide +kernel
theorem dX9_year_160 : decode cX9_year 160 = .ok (.iconst 0, 1) := by decide +kernel
theorem dX9_year_161 : decode cX9_year 161 = .ok (.iadd, 1) := by decide +kernel
theorem dX9_year_162 : decode cX9_year 162 = .ok (.istore 5, 2) := by decide +kernel
theorem dX9_year_164 : decode cX9_year 164 = .ok (.iinc 6 1, 3) := by decide +kernel
theorem dX9_year_167 : decode cX9_year 167 = .ok (.goto (-107), 3) := by decide +kernel
theorem dX9_year_170 : decode cX9_year 170 = .ok (.iload 5, 2) := by decide +kernel
theorem dX9_year_172 : decode cX9_year 172 = .ok (.ireturn, 1) := by decide +kernel
set_option maxRecDepth 20000 in
theorem ggX9_image_X9_in : GoodIn wsX9_image wsX9_in := goodIn_r _ [12] (by decide +kernel) (by decide +kernel)
set_option maxRecDepth 20000 in
theorem gX9_image_X9_in : GoodIn wsX9_image (va_wsS RX9 63 yX9_in wsX9_in) := goodIn_app (goodIn_of _ (by decide +kernel)) ggX9_image_X9_in
theorem dX9_image_0 : decode cX9_image 0 = .ok (.iload_n 1, 1) := by decide +kernel
theorem dX9_image_1 : decode cX9_image 1 = .ok (.iconst 0, 1) := by decide +kernel
theorem dX9_image_2 : decode cX9_image 2 = .ok (.iconst 1, 1) := by decide +kernel
theorem dX9_image_3 : decode cX9_image 3 = .ok (.invokestatic 63, 3) := by decide +kernel
theorem dX9_image_6 : decode cX9_image 6 = .ok (.ifCond .ne 6, 3) := by decide +kernel
theorem dX9_image_9 : decode cX9_image 9 = .ok (.bipush (-2), 2) := by decide +kernel
theorem dX9_image_11 : decode cX9_image 11 = .ok (.ireturn, 1) := by decide +kernel
theorem dX9_image_12 : decode cX9_image 12 = .ok (.bipush 32, 2) := by decide +kernel
theorem dX9_image_14 : decode cX9_image 14 = .ok (.iload_n 1, 1) := by decide +kernel
theorem dX9_image_15 : decode cX9_image 15 = .ok (.imul, 1) := by decide +kernel
theorem dX9_image_16 : decode cX9_image 16 = .ok (.istore_n 2, 1) := by decide +kernel
theorem dX9_image_17 : decode cX9_image 17 = .ok (.iconst 0, 1) := by decide +kernel
theorem dX9_image_18 : decode cX9_image 18 = .ok (.istore_n 3, 1) := by decide +kernel
theorem dX9_image_19 : decode cX9_image 19 = .ok (.iload_n 3, 1) := by decide +kernel
theorem dX9_image_20 : decode cX9_image 20 = .ok (.bipush 7, 2) := by decide +kernel
theorem dX9_image_22 : decode cX9_image 22 = .ok (.if_icmp .ge 40, 3) := by decide +kernel
theorem dX9_image_25 : decode cX9_image 25 = .ok (.aload_n 0, 1) := by decide +kernel
theorem dX9_image_26 : decode cX9_image 26 = .ok (.getfield 50, 3) := by decide +kernel
theorem dX9_image_29 : decode cX9_image 29 = .ok (.iload_n 2, 1) := by decide +kernel
theorem dX9_image_30 : decode cX9_image 30 = .ok (.iload_n 3, 1) := by decide +kernel
theorem dX9_image_31 : decode cX9_image 31 = .ok (.iadd, 1) := by decide +kernel
theorem dX9_image_32 : decode cX9_image 32 = .ok (.aload_n 0, 1) := by decide +kernel
theorem dX9_image_33 : decode cX9_image 33 = .ok (.getfield 16, 3) := by decide +kernel
theorem dX9_image_36 : decode cX9_image 36 = .ok (.iload_n 3, 1) := by decide +kernel
theorem dX9_image_37 : decode cX9_image 37 = .ok (.iaload, 1) := by decide +kernel
theorem dX9_image_38 : decode cX9_image 38 = .ok (.iastore, 1) := by decide +kernel
theorem dX9_image_39 : decode cX9_image 39 = .ok (.aload_n 0, 1) := by decide +kernel
theorem dX9_image_40 : decode cX9_image 40 = .ok (.getfield 50, 3) := by decide +kernel
theorem dX9_image_43 : decode cX9_image 43 = .ok (.iload_n 2, 1) := by decide +kernel
theorem dX9_image_44 : decode cX9_image 44 = .ok (.bipush 7, 2) := by decide +kernel
theorem dX9_image_46 : decode cX9_image 46 = .ok (.iadd, 1) := by decide +kernel
theorem dX9_image_47 : decode cX9_image 47 = .ok (.iload_n 3, 1) := by decide +kernel
theorem dX9_image_48 : decode cX9_image 48 = .ok (.iadd, 1) := by decide +kernel
theorem dX9_image_49 : decode cX9_image 49 = .ok (.aload_n 0, 1) := by decide +kernel
theorem dX9_image_50 : decode cX9_image 50 = .ok (.getfield 20, 3) := by decide +kernel
theorem dX9_image_53 : decode cX9_image 53 = .ok (.iload_n 3, 1) := by decide +kernel
theorem dX9_image_54 : decode cX9_image 54 = .ok (.iaload, 1) := by decide +kernel
theorem dX9_image_55 : decode cX9_image 55 = .ok (.iastore, 1) := by decide +kernel
theorem dX9_image_56 : decode cX9_image 56 = .ok (.iinc 3 1, 3) := by decide +kernel
theorem dX9_image_59 : decode cX9_image 59 = .ok (.goto (-40), 3) := by decide +kernel
theorem dX9_image_62 : decode cX9_image 62 = .ok (.iconst 0, 1) := by decide +kernel
theorem dX9_image_63 : decode cX9_image 63 = .ok (.istore_n 3, 1) := by decide +kernel
theorem dX9_image_64 : decode cX9_image 64 = .ok (.iload_n 3, 1) := by decide +kernel
theorem dX9_image_65 : decode cX9_image 65 = .ok (.bipush 12, 2) := by decide +kernel
theorem dX9_image_67 : decode cX9_image 67 = .ok (.if_icmp .ge 26, 3) := by decide +kernel
theorem dX9_image_70 : decode cX9_image 70 = .ok (.aload_n 0, 1) := by decide +kernel
theorem dX9_image_71 : decode cX9_image 71 = .ok (.getfield 50, 3) := by decide +kernel
theorem dX9_image_74 : decode cX9_image 74 = .ok (.iload_n 2, 1) := by decide +kernel
theorem dX9_image_75 : decode cX9_image 75 = .ok (.bipush 14, 2) := by decide +kernel
theorem dX9_image_77 : decode cX9_image 77 = .ok (.iadd, 1) := by decide +kernel
theorem dX9_image_78 : decode cX9_image 78 = .ok (.iload_n 3, 1) := by decide +kernel
theorem dX9_image_79 : decode cX9_image 79 = .ok (.iadd, 1) := by decide +kernel
theorem dX9_image_80 : decode cX9_image 80 = .ok (.aload_n 0, 1) := by decide +kernel
theorem dX9_image_81 : decode cX9_image 81 = .ok (.getfield 23, 3) := by decide +kernel
theorem dX9_image_84 : decode cX9_image 84 = .ok (.iload_n 3, 1) := by decide +kernel
theorem dX9_image_85 : decode cX9_image 85 = .ok (.iaload, 1) := by decide +kernel
theorem dX9_image_86 : decode cX9_image 86 = .ok (.iastore, 1) := by decide +kernel
theorem dX9_image_87 : decode cX9_image 87 = .ok (.iinc 3 1, 3) := by decide +kernel
theorem dX9_image_90 : decode cX9_image 90 = .ok (.goto (-26), 3) := by decide +kernel
theorem dX9_image_93 : decode cX9_image 93 = .ok (.aload_n 0, 1) := by decide +kernel
theorem dX9_image_94 : decode cX9_image 94 = .ok (.getfield 50, 3) := by decide +kernel
theorem dX9_image_97 : decode cX9_image 97 = .ok (.iload_n 2, 1) := by decide +kernel
theorem dX9_image_98 : decode cX9_image 98 = .ok (.bipush 26, 2) := by decide +kernel
theorem dX9_image_100 : decode cX9_image 100 = .ok (.iadd, 1) := by decide +kernel
theorem dX9_image_101 : decode cX9_image 101 = .ok (.aload_n 0, 1) := by decide +kernel
theorem dX9_image_102 : decode cX9_image 102 = .ok (.getfield 7, 3) := by decide +kernel
theorem dX9_image_105 : decode cX9_image 105 = .ok (.iastore, 1) := by decide +kernel
theorem dX9_image_106 : decode cX9_image 106 = .ok (.aload_n 0, 1) := by decide +kernel
theorem dX9_image_107 : decode cX9_image 107 = .ok (.getfield 50, 3) := by decide +kernel
theorem dX9_image_110 : decode cX9_image 110 = .ok (.iload_n 2, 1) := by decide +kernel
theorem dX9_image_111 : decode cX9_image 111 = .ok (.bipush 27, 2) := by decide +kernel
theorem dX9_image_113 : decode cX9_image 113 = .ok (.iadd, 1) := by decide +kernel
theorem dX9_image_114 : decode cX9_image 114 = .ok (.aload_n 0, 1) := by decide +kernel
theorem dX9_image_115 : decode cX9_image 115 = .ok (.getfield 13, 3) := by decide +kernel
theorem dX9_image_118 : decode cX9_image 118 = .ok (.iastore, 1) := by decide +kernel
theorem dX9_image_119 : decode cX9_image 119 = .ok (.aload_n 0, 1) := by decide +kernel
theorem dX9_image_120 : decode cX9_image 120 = .ok (.getfield 50, 3) := by decide +kernel
theorem dX9_image_123 : decode cX9_image 123 = .ok (.iload_n 2, 1) := by decide +kernel
theorem dX9_image_124 : decode cX9_image 124 = .ok (.bipush 28, 2) := by decide +kernel
theorem dX9_image_126 : decode cX9_image 126 = .ok (.iadd, 1) := by decide +kernel
theorem dX9_image_127 : decode cX9_image 127 = .ok (.aload_n 0, 1) := by decide +kernel
theorem dX9_image_128 : decode cX9_image 128 = .ok (.getfield 60, 3) := by decide +kernel
theorem dX9_image_131 : decode cX9_image 131 = .ok (.iastore, 1) := by decide +kernel
theorem dX9_image_132 : decode cX9_image 132 = .ok (.aload_n 0, 1) := by decide +kernel
theorem dX9_image_133 : decode cX9_image 133 = .ok (.getfield 53, 3) := by decide +kernel
theorem dX9_image_136 : decode cX9_image 136 = .ok (.iload_n 1, 1) := by decide +kernel
theorem dX9_image_137 : decode cX9_image 137 = .ok (.iconst 1, 1) := by decide +kernel
theorem dX9_image_138 : decode cX9_image 138 = .ok (.bastore, 1) := by decide +kernel
theorem dX9_image_139 : decode cX9_image 139 = .ok (.iconst 1, 1) := by decide +kernel
theorem dX9_image_140 : decode cX9_image 140 = .ok (.ireturn, 1) := by decide +kernel
set_option maxRecDepth 20000 in
theorem ggX9_restore_X9_in : GoodIn wsX9_restore wsX9_in := goodIn_r _ [12] (by decide +kernel) (by decide +kernel)
set_option maxRecDepth 20000 in
theorem gX9_restore_X9_in : GoodIn wsX9_restore (va_wsS RX9 63 yX9_in wsX9_in) := goodIn_app (goodIn_of _ (by decide +kernel)) ggX9_restore_X9_in
theorem dX9_restore_0 : decode cX9_restore 0 = .ok (.iload_n 1, 1) := by decide +kernel
theorem dX9_restore_1 : decode cX9_restore 1 = .ok (.iconst 0, 1) := by decide +kernel
theorem dX9_restore_2 : decode cX9_restore 2 = .ok (.iconst 1, 1) := by decide +kernel
theorem dX9_restore_3 : decode cX9_restore 3 = .ok (.invokestatic 63, 3) := by decide +kernel
theorem dX9_restore_6 : decode cX9_restore 6 = .ok (.ifCond .ne 6, 3) := by decide +kernel
theorem dX9_restore_9 : decode cX9_restore 9 = .ok (.bipush (-2), 2) := by decide +kernel
theorem dX9_restore_11 : decode cX9_restore 11 = .ok (.ireturn, 1) := by decide +kernel
theorem dX9_restore_12 : decode cX9_restore 12 = .ok (.aload_n 0, 1) := by decide +kernel
theorem dX9_restore_13 : decode cX9_restore 13 = .ok (.getfield 53, 3) := by decide +kernel
theorem dX9_restore_16 : decode cX9_restore 16 = .ok (.iload_n 1, 1) := by decide +kernel
theorem dX9_restore_17 : decode cX9_restore 17 = .ok (.baload, 1) := by decide +kernel
theorem dX9_restore_18 : decode cX9_restore 18 = .ok (.ifCond .ne 6, 3) := by decide +kernel
theorem dX9_restore_21 : decode cX9_restore 21 = .ok (.bipush (-3), 2) := by decide +kernel
theorem dX9_restore_23 : decode cX9_restore 23 = .ok (.ireturn, 1) := by decide +kernel
theorem dX9_restore_24 : decode cX9_restore 24 = .ok (.bipush 32, 2) := by decide +kernel
theorem dX9_restore_26 : decode cX9_restore 26 = .ok (.iload_n 1, 1) := by decide +kernel
theorem dX9_restore_27 : decode cX9_restore 27 = .ok (.imul, 1) := by decide +kernel
theorem dX9_restore_28 : decode cX9_restore 28 = .ok (.istore_n 2, 1) := by decide +kernel
theorem dX9_restore_29 : decode cX9_restore 29 = .ok (.iconst 0, 1) := by decide +kernel
theorem dX9_restore_30 : decode cX9_restore 30 = .ok (.istore_n 3, 1) := by decide +kernel
theorem dX9_restore_31 : decode cX9_restore 31 = .ok (.iload_n 3, 1) := by decide +kernel
theorem dX9_restore_32 : decode cX9_restore 32 = .ok (.bipush 7, 2) := by decide +kernel
theorem dX9_restore_34 : decode cX9_restore 34 = .ok (.if_icmp .ge 40, 3) := by decide +kernel
theorem dX9_restore_37 : decode cX9_restore 37 = .ok (.aload_n 0, 1) := by decide +kernel
theorem dX9_restore_38 : decode cX9_restore 38 = .ok (.getfield 16, 3) := by decide +kernel
theorem dX9_restore_41 : decode cX9_restore 41 = .ok (.iload_n 3, 1) := by decide +kernel
theorem dX9_restore_42 : decode cX9_restore 42 = .ok (.aload_n 0, 1) := by decide +kernel
theorem dX9_restore_43 : decode cX9_restore 43 = .ok (.getfield 50, 3) := by decide +kernel
theorem dX9_restore_46 : decode cX9_restore 46 = .ok (.iload_n 2, 1) := by decide +kernel
theorem dX9_restore_47 : decode cX9_restore 47 = .ok (.iload_n 3, 1) := by decide +kernel
theorem dX9_restore_48 : decode cX9_restore 48 = .ok (.iadd, 1) := by decide +kernel
theorem dX9_restore_49 : decode cX9_restore 49 = .ok (.iaload, 1) := by decide +kernel
theorem dX9_restore_50 : decode cX9_restore 50 = .ok (.iastore, 1) := by decide +kernel
theorem dX9_restore_51 : decode cX9_restore 51 = .ok (.aload_n 0, 1) := by decide +kernel
theorem dX9_restore_52 : decode cX9_restore 52 = .ok (.getfield 20, 3) := by decide +kernel
theorem dX9_restore_55 : decode cX9_restore 55 = .ok (.iload_n 3, 1) := by decide +kernel
theorem dX9_restore_56 : decode cX9_restore 56 = .ok (.aload_n 0, 1) := by decide +kernel
theorem dX9_restore_57 : decode cX9_restore 57 = .ok (.getfield 50, 3) := by decide +kernel
theorem dX9_restore_60 : decode cX9_restore 60 = .ok (.iload_n 2, 1) := by decide +kernel
theorem dX9_restore_61 : decode cX9_restore 61 = .ok (.bipush 7, 2) := by decide +kernel
theorem dX9_restore_63 : decode cX9_restore 63 = .ok (.iadd, 1) := by decide +kernel
theorem dX9_restore_64 : decode cX9_restore 64 = .ok (.iload_n 3, 1) := by decide +kernel
theorem dX9_restore_65 : decode cX9_restore 65 = .ok (.iadd, 1) := by decide +kernel
theorem dX9_restore_66 : decode cX9_restore 66 = .ok (.iaload, 1) := by decide +kernel
theorem dX9_restore_67 : decode cX9_restore 67 = .ok (.iastore, 1) := by decide +kernel
theorem dX9_restore_68 : decode cX9_restore 68 = .ok (.iinc 3 1, 3) := by decide +kernel
theorem dX9_restore_71 : decode cX9_restore 71 = .ok (.goto (-40), 3) := by decide +kernel
theorem dX9_restore_74 : decode cX9_restore 74 = .ok (.iconst 0, 1) := by decide +kernel
theorem dX9_restore_75 : decode cX9_restore 75 = .ok (.istore_n 3, 1) := by decide +kernel
theorem dX9_restore_76 : decode cX9_restore 76 = .ok (.iload_n 3, 1) := by decide +kernel
theorem dX9_restore_77 : decode cX9_restore 77 = .ok (.bipush 12, 2) := by decide +kernel
theorem dX9_restore_79 : decode cX9_restore 79 = .ok (.if_icmp .ge 26, 3) := by decide +kernel
theorem dX9_restore_82 : decode cX9_restore 82 = .ok (.aload_n 0, 1) := by decide +kernel
theorem dX9_restore_83 : decode cX9_restore 83 = .ok (.getfield 23, 3) := by decide +kernel
theorem dX9_restore_86 : decode cX9_restore 86 = .ok (.iload_n 3, 1) := by decide +kernel
theorem dX9_restore_87 : decode cX9_restore 87 = .ok (.aload_n 0, 1) := by decide +kernel
theorem dX9_restore_88 : decode cX9_restore 88 = .ok (.getfield 50, 3) := by decide +kernel
theorem dX9_restore_91 : decode cX9_restore 91 = .ok (.iload_n 2, 1) := by decide +kernel
theorem dX9_restore_92 : decode cX9_restore 92 = .ok (.bipush 14, 2) := by decide +kernel
theorem dX9_restore_94 : decode cX9_restore 94 = .ok (.iadd, 1) := by decide +kernel
theorem dX9_restore_95 : decode cX9_restore 95 = .ok (.iload_n 3, 1) := by decide +kernel
theorem dX9_restore_96 : decode cX9_restore 96 = .ok (.iadd, 1) := by decide +kernel
theorem dX9_restore_97 : decode cX9_restore 97 = .ok (.iaload, 1) := by decide +kernel
theorem dX9_restore_98 : decode cX9_restore 98 = .ok (.iastore, 1) := by decide +kernel
theorem dX9_restore_99 : decode cX9_restore 99 = .ok (.iinc 3 1, 3) := by decide +kernel
theorem dX9_restore_102 : decode cX9_restore 102 = .ok (.goto (-26), 3) := by decide +kernel
theorem dX9_restore_105 : decode cX9_restore 105 = .ok (.aload_n 0, 1) := by decide +kernel
theorem dX9_restore_106 : decode cX9_restore 106 = .ok (.aload_n 0, 1) := by decide +kernel
theorem dX9_restore_107 : decode cX9_restore 107 = .ok (.getfield 50, 3) := by decide +kernel
theorem dX9_restore_110 : decode cX9_restore 110 = .ok (.iload_n 2, 1) := by decide +kernel
theorem dX9_restore_111 : decode cX9_restore 111 = .ok (.bipush 26, 2) := by decide +kernel
theorem dX9_restore_113 : decode cX9_restore 113 = .ok (.iadd, 1) := by decide +kernel
theorem dX9_restore_114 : decode cX9_restore 114 = .ok (.iaload, 1) := by decide +kernel
theorem dX9_restore_115 : decode cX9_restore 115 = .ok (.putfield 7, 3) := by decide +kernel
theorem dX9_restore_118 : decode cX9_restore 118 = .ok (.aload_n 0, 1) := by decide +kernel
theorem dX9_restore_119 : decode cX9_restore 119 = .ok (.aload_n 0, 1) := by decide +kernel
theorem dX9_restore_120 : decode cX9_restore 120 = .ok (.getfield 50, 3) := by decide +kernel
theorem dX9_restore_123 : decode cX9_restore 123 = .ok (.iload_n 2, 1) := by decide +kernel
theorem dX9_restore_124 : decode cX9_restore 124 = .ok (.bipush 27, 2) := by decide +kernel
theorem dX9_restore_126 : decode cX9_restore 126 = .ok (.iadd, 1) := by decide +kernel
theorem dX9_restore_127 : decode cX9_restore 127 = .ok (.iaload, 1) := by decide +kernel
theorem dX9_restore_128 : decode cX9_restore 128 = .ok (.putfield 13, 3) := by decide +kernel
theorem dX9_restore_131 : decode cX9_restore 131 = .ok (.aload_n 0, 1) := by decide +kernel
theorem dX9_restore_132 : decode cX9_restore 132 = .ok (.aload_n 0, 1) := by decide +kernel
theorem dX9_restore_133 : decode cX9_restore 133 = .ok (.getfield 50, 3) := by decide +kernel
theorem dX9_restore_136 : decode cX9_restore 136 = .ok (.iload_n 2, 1) := by decide +kernel
theorem dX9_restore_137 : decode cX9_restore 137 = .ok (.bipush 28, 2) := by decide +kernel
theorem dX9_restore_139 : decode cX9_restore 139 = .ok (.iadd, 1) := by decide +kernel
theorem dX9_restore_140 : decode cX9_restore 140 = .ok (.iaload, 1) := by decide +kernel
theorem dX9_restore_141 : decode cX9_restore 141 = .ok (.putfield 60, 3) := by decide +kernel
theorem dX9_restore_144 : decode cX9_restore 144 = .ok (.iconst 1, 1) := by decide +kernel
theorem dX9_restore_145 : decode cX9_restore 145 = .ok (.ireturn, 1) := by decide +kernel
set_option maxRecDepth 20000 in
theorem ggX9_told_X9_in : GoodIn wsX9_told wsX9_in := goodIn_r _ [9] (by decide +kernel) (by decide +kernel)
set_option maxRecDepth 20000 in
theorem gX9_told_X9_in : GoodIn wsX9_told (va_wsS RX9 63 yX9_in wsX9_in) := goodIn_app (goodIn_of _ (by decide +kernel)) ggX9_told_X9_in
theorem dX9_told_0 : decode cX9_told 0 = .ok (.iload_n 1, 1) := by decide +kernel
theorem dX9_told_1 : decode cX9_told 1 = .ok (.bipush 10, 2) := by decide +kernel
theorem dX9_told_3 : decode cX9_told 3 = .ok (.bipush 9, 2) := by decide +kernel
theorem dX9_told_5 : decode cX9_told 5 = .ok (.aload_n 0, 1) := by decide +kernel
theorem dX9_told_6 : decode cX9_told 6 = .ok (.getfield 7, 3) := by decide +kernel
theorem dX9_told_9 : decode cX9_told 9 = .ok (.iadd, 1) := by decide +kernel
theorem dX9_told_10 : decode cX9_told 10 = .ok (.invokestatic 63, 3) := by decide +kernel
theorem dX9_told_13 : decode cX9_told 13 = .ok (.ifCond .eq 13, 3) := by decide +kernel
theorem dX9_told_16 : decode cX9_told 16 = .ok (.aload_n 0, 1) := by decide +kernel
theorem dX9_told_17 : decode cX9_told 17 = .ok (.getfield 16, 3) := by decide +kernel
theorem dX9_told_20 : decode cX9_told 20 = .ok (.iload_n 1, 1) := by decide +kernel
theorem dX9_told_21 : decode cX9_told 21 = .ok (.bipush 10, 2) := by decide +kernel
theorem dX9_told_23 : decode cX9_told 23 = .ok (.isub, 1) := by decide +kernel
theorem dX9_told_24 : decode cX9_told 24 = .ok (.iaload, 1) := by decide +kernel
theorem dX9_told_25 : decode cX9_told 25 = .ok (.ireturn, 1) := by decide +kernel
theorem dX9_told_26 : decode cX9_told 26 = .ok (.iload_n 1, 1) := by decide +kernel
theorem dX9_told_27 : decode cX9_told 27 = .ok (.tableswitch 40 0 2 #[25, 30, 35], 25) := by decide +kernel
theorem dX9_told_52 : decode cX9_told 52 = .ok (.aload_n 0, 1) := by decide +kernel
theorem dX9_told_53 : decode cX9_told 53 = .ok (.getfield 71, 3) := by decide +kernel
theorem dX9_told_56 : decode cX9_told 56 = .ok (.ireturn, 1) := by decide +kernel
theorem dX9_told_57 : decode cX9_told 57 = .ok (.aload_n 0, 1) := by decide +kernel
theorem dX9_told_58 : decode cX9_told 58 = .ok (.getfield 7, 3) := by decide +kernel
theorem dX9_told_61 : decode cX9_told 61 = .ok (.ireturn, 1) := by decide +kernel
theorem dX9_told_62 : decode cX9_told 62 = .ok (.aload_n 0, 1) := by decide +kernel
theorem dX9_told_63 : decode cX9_told 63 = .ok (.getfield 13, 3) := by decide +kernel
theorem dX9_told_66 : decode cX9_told 66 = .ok (.ireturn, 1) := by decide +kernel
theorem dX9_told_67 : decode cX9_told 67 = .ok (.iload_n 1, 1) := by decide +kernel
theorem dX9_told_68 : decode cX9_told 68 = .ok (.iconst 3, 1) := by decide +kernel
theorem dX9_told_69 : decode cX9_told 69 = .ok (.if_icmp .ne 10, 3) := by decide +kernel
theorem dX9_told_72 : decode cX9_told 72 = .ok (.aload_n 0, 1) := by decide +kernel
theorem dX9_told_73 : decode cX9_told 73 = .ok (.getfield 60, 3) := by decide +kernel
theorem dX9_told_76 : decode cX9_told 76 = .ok (.goto 5, 3) := by decide +kernel
theorem dX9_told_79 : decode cX9_told 79 = .ok (.bipush (-2), 2) := by decide +kernel
theorem dX9_told_81 : decode cX9_told 81 = .ok (.ireturn, 1) := by decide +kernel
