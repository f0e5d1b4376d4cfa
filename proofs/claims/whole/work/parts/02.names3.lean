theorem dX0_shelveEndsAt_129 : decode cX0_shelveEndsAt 129 = .ok (.isub, 1) := by decide +kernel
theorem dX0_shelveEndsAt_130 : decode cX0_shelveEndsAt 130 = .ok (.iconst 1, 1) := by decide +kernel
theorem dX0_shelveEndsAt_131 : decode cX0_shelveEndsAt 131 = .ok (.iadd, 1) := by decide +kernel
theorem dX0_shelveEndsAt_132 : decode cX0_shelveEndsAt 132 = .ok (.istore 20, 2) := by decide +kernel
theorem dX0_shelveEndsAt_134 : decode cX0_shelveEndsAt 134 = .ok (.iload 20, 2) := by decide +kernel
theorem dX0_shelveEndsAt_136 : decode cX0_shelveEndsAt 136 = .ok (.iload 20, 2) := by decide +kernel
theorem dX0_shelveEndsAt_138 : decode cX0_shelveEndsAt 138 = .ok (.iload 9, 2) := by decide +kernel
theorem dX0_shelveEndsAt_140 : decode cX0_shelveEndsAt 140 = .ok (.isub, 1) := by decide +kernel
theorem dX0_shelveEndsAt_141 : decode cX0_shelveEndsAt 141 = .ok (.lload 14, 2) := by decide +kernel
theorem dX0_shelveEndsAt_143 : decode cX0_shelveEndsAt 143 = .ok (.invokestatic 90, 3) := by decide +kernel
theorem dX0_shelveEndsAt_146 : decode cX0_shelveEndsAt 146 = .ok (.iload 5, 2) := by decide +kernel
theorem dX0_shelveEndsAt_148 : decode cX0_shelveEndsAt 148 = .ok (.invokestatic 139, 3) := by decide +kernel
theorem dX0_shelveEndsAt_151 : decode cX0_shelveEndsAt 151 = .ok (.istore 21, 2) := by decide +kernel
theorem dX0_shelveEndsAt_153 : decode cX0_shelveEndsAt 153 = .ok (.aload_n 0, 1) := by decide +kernel
theorem dX0_shelveEndsAt_154 : decode cX0_shelveEndsAt 154 = .ok (.iload 19, 2) := by decide +kernel
theorem dX0_shelveEndsAt_156 : decode cX0_shelveEndsAt 156 = .ok (.iload_n 1, 1) := by decide +kernel
theorem dX0_shelveEndsAt_157 : decode cX0_shelveEndsAt 157 = .ok (.iload 21, 2) := by decide +kernel
theorem dX0_shelveEndsAt_159 : decode cX0_shelveEndsAt 159 = .ok (.iload 19, 2) := by decide +kernel
theorem dX0_shelveEndsAt_161 : decode cX0_shelveEndsAt 161 = .ok (.iload_n 2, 1) := by decide +kernel
theorem dX0_shelveEndsAt_162 : decode cX0_shelveEndsAt 162 = .ok (.if_icmp .ge 15, 3) := by decide +kernel
theorem dX0_shelveEndsAt_165 : decode cX0_shelveEndsAt 165 = .ok (.bipush 10, 2) := by decide +kernel
theorem dX0_shelveEndsAt_167 : decode cX0_shelveEndsAt 167 = .ok (.aload_n 0, 1) := by decide +kernel
theorem dX0_shelveEndsAt_168 : decode cX0_shelveEndsAt 168 = .ok (.iload 19, 2) := by decide +kernel
theorem dX0_shelveEndsAt_170 : decode cX0_shelveEndsAt 170 = .ok (.invokevirtual 125, 3) := by decide +kernel
theorem dX0_shelveEndsAt_173 : decode cX0_shelveEndsAt 173 = .ok (.imul, 1) := by decide +kernel
theorem dX0_shelveEndsAt_174 : decode cX0_shelveEndsAt 174 = .ok (.goto 4, 3) := by decide +kernel
theorem dX0_shelveEndsAt_177 : decode cX0_shelveEndsAt 177 = .ok (.iconst 0, 1) := by decide +kernel
theorem dX0_shelveEndsAt_178 : decode cX0_shelveEndsAt 178 = .ok (.iadd, 1) := by decide +kernel
theorem dX0_shelveEndsAt_179 : decode cX0_shelveEndsAt 179 = .ok (.iload 6, 2) := by decide +kernel
theorem dX0_shelveEndsAt_181 : decode cX0_shelveEndsAt 181 = .ok (.invokevirtual 143, 3) := by decide +kernel
theorem dX0_shelveEndsAt_184 : decode cX0_shelveEndsAt 184 = .ok (.iinc 16 1, 3) := by decide +kernel
theorem dX0_shelveEndsAt_187 : decode cX0_shelveEndsAt 187 = .ok (.goto (-159), 3) := by decide +kernel
theorem dX0_shelveEndsAt_190 : decode cX0_shelveEndsAt 190 = .ok (.return_, 1) := by decide +kernel
theorem dX0_signCost_0 : decode cX0_signCost 0 = .ok (.iload_n 0, 1) := by decide +kernel
theorem dX0_signCost_1 : decode cX0_signCost 1 = .ok (.iload_n 3, 1) := by decide +kernel
theorem dX0_signCost_2 : decode cX0_signCost 2 = .ok (.isub, 1) := by decide +kernel
theorem dX0_signCost_3 : decode cX0_signCost 3 = .ok (.istore 4, 2) := by decide +kernel
theorem dX0_signCost_5 : decode cX0_signCost 5 = .ok (.iload_n 2, 1) := by decide +kernel
theorem dX0_signCost_6 : decode cX0_signCost 6 = .ok (.ifCond .ne 7, 3) := by decide +kernel
theorem dX0_signCost_9 : decode cX0_signCost 9 = .ok (.iconst 0, 1) := by decide +kernel
theorem dX0_signCost_10 : decode cX0_signCost 10 = .ok (.goto 8, 3) := by decide +kernel
theorem dX0_signCost_13 : decode cX0_signCost 13 = .ok (.iconst 2, 1) := by decide +kernel
theorem dX0_signCost_14 : decode cX0_signCost 14 = .ok (.iload_n 2, 1) := by decide +kernel
theorem dX0_signCost_15 : decode cX0_signCost 15 = .ok (.iconst 1, 1) := by decide +kernel
theorem dX0_signCost_16 : decode cX0_signCost 16 = .ok (.isub, 1) := by decide +kernel
theorem dX0_signCost_17 : decode cX0_signCost 17 = .ok (.imul, 1) := by decide +kernel
theorem dX0_signCost_18 : decode cX0_signCost 18 = .ok (.istore 5, 2) := by decide +kernel
theorem dX0_signCost_20 : decode cX0_signCost 20 = .ok (.iload 4, 2) := by decide +kernel
theorem dX0_signCost_22 : decode cX0_signCost 22 = .ok (.iload 4, 2) := by decide +kernel
theorem dX0_signCost_24 : decode cX0_signCost 24 = .ok (.imul, 1) := by decide +kernel
theorem dX0_signCost_25 : decode cX0_signCost 25 = .ok (.iconst 5, 1) := by decide +kernel
theorem dX0_signCost_26 : decode cX0_signCost 26 = .ok (.iload_n 1, 1) := by decide +kernel
theorem dX0_signCost_27 : decode cX0_signCost 27 = .ok (.imul, 1) := by decide +kernel
theorem dX0_signCost_28 : decode cX0_signCost 28 = .ok (.iadd, 1) := by decide +kernel
theorem dX0_signCost_29 : decode cX0_signCost 29 = .ok (.iload 5, 2) := by decide +kernel
theorem dX0_signCost_31 : decode cX0_signCost 31 = .ok (.iadd, 1) := by decide +kernel
theorem dX0_signCost_32 : decode cX0_signCost 32 = .ok (.ireturn, 1) := by decide +kernel
set_option maxRecDepth 20000 in
theorem ggX0_goOnFrom_X0_shelf : GoodIn wsX0_goOnFrom wsX0_shelf := goodIn_r _ [7] (by decide +kernel) (by decide +kernel)
set_option maxRecDepth 20000 in
theorem gX0_goOnFrom_X0_shelf : GoodIn wsX0_goOnFrom (va_wsS RX0 82 yX0_shelf wsX0_shelf) := goodIn_app (goodIn_of _ (by decide +kernel)) ggX0_goOnFrom_X0_shelf
set_option maxRecDepth 20000 in
theorem ggX0_goOnFrom_X0_shelve : GoodIn wsX0_goOnFrom wsX0_shelve := goodIn_r _ [11, 1, 2, 12, 13, 14, 15, 3, 4, 5, 6, 7, 16, 17, 18, 19, 20, 21, 22, 23, 24, 25, 26] (by decide +kernel) (by decide +kernel)
set_option maxRecDepth 20000 in
theorem gX0_goOnFrom_X0_shelve : GoodIn wsX0_goOnFrom (wsV RX0 147 RX0 yX0_shelve wsX0_shelve) := goodIn_app (goodIn_of _ (by decide +kernel)) ggX0_goOnFrom_X0_shelve
theorem dX0_goOnFrom_0 : decode cX0_goOnFrom 0 = .ok (.aload_n 0, 1) := by decide +kernel
theorem dX0_goOnFrom_1 : decode cX0_goOnFrom 1 = .ok (.getfield 39, 3) := by decide +kernel
theorem dX0_goOnFrom_4 : decode cX0_goOnFrom 4 = .ok (.iload_n 1, 1) := by decide +kernel
theorem dX0_goOnFrom_5 : decode cX0_goOnFrom 5 = .ok (.iaload, 1) := by decide +kernel
theorem dX0_goOnFrom_6 : decode cX0_goOnFrom 6 = .ok (.istore 5, 2) := by decide +kernel
theorem dX0_goOnFrom_8 : decode cX0_goOnFrom 8 = .ok (.iconst 0, 1) := by decide +kernel
theorem dX0_goOnFrom_9 : decode cX0_goOnFrom 9 = .ok (.istore 6, 2) := by decide +kernel
theorem dX0_goOnFrom_11 : decode cX0_goOnFrom 11 = .ok (.iload 6, 2) := by decide +kernel
theorem dX0_goOnFrom_13 : decode cX0_goOnFrom 13 = .ok (.iload 5, 2) := by decide +kernel
theorem dX0_goOnFrom_15 : decode cX0_goOnFrom 15 = .ok (.if_icmp .ge 49, 3) := by decide +kernel
theorem dX0_goOnFrom_18 : decode cX0_goOnFrom 18 = .ok (.iload_n 1, 1) := by decide +kernel
theorem dX0_goOnFrom_19 : decode cX0_goOnFrom 19 = .ok (.invokestatic 82, 3) := by decide +kernel
theorem dX0_goOnFrom_22 : decode cX0_goOnFrom 22 = .ok (.iload 6, 2) := by decide +kernel
theorem dX0_goOnFrom_24 : decode cX0_goOnFrom 24 = .ok (.iadd, 1) := by decide +kernel
theorem dX0_goOnFrom_25 : decode cX0_goOnFrom 25 = .ok (.istore 7, 2) := by decide +kernel
theorem dX0_goOnFrom_27 : decode cX0_goOnFrom 27 = .ok (.aload_n 0, 1) := by decide +kernel
theorem dX0_goOnFrom_28 : decode cX0_goOnFrom 28 = .ok (.iload_n 2, 1) := by decide +kernel
theorem dX0_goOnFrom_29 : decode cX0_goOnFrom 29 = .ok (.iload_n 3, 1) := by decide +kernel
theorem dX0_goOnFrom_30 : decode cX0_goOnFrom 30 = .ok (.aload_n 0, 1) := by decide +kernel
theorem dX0_goOnFrom_31 : decode cX0_goOnFrom 31 = .ok (.getfield 35, 3) := by decide +kernel
theorem dX0_goOnFrom_34 : decode cX0_goOnFrom 34 = .ok (.iload 7, 2) := by decide +kernel
theorem dX0_goOnFrom_36 : decode cX0_goOnFrom 36 = .ok (.iaload, 1) := by decide +kernel
theorem dX0_goOnFrom_37 : decode cX0_goOnFrom 37 = .ok (.iadd, 1) := by decide +kernel
theorem dX0_goOnFrom_38 : decode cX0_goOnFrom 38 = .ok (.aload_n 0, 1) := by decide +kernel
theorem dX0_goOnFrom_39 : decode cX0_goOnFrom 39 = .ok (.getfield 32, 3) := by decide +kernel
theorem dX0_goOnFrom_42 : decode cX0_goOnFrom 42 = .ok (.iload 7, 2) := by decide +kernel
theorem dX0_goOnFrom_44 : decode cX0_goOnFrom 44 = .ok (.laload, 1) := by decide +kernel
theorem dX0_goOnFrom_45 : decode cX0_goOnFrom 45 = .ok (.lconst 1, 1) := by decide +kernel
theorem dX0_goOnFrom_46 : decode cX0_goOnFrom 46 = .ok (.iload_n 2, 1) := by decide +kernel
theorem dX0_goOnFrom_47 : decode cX0_goOnFrom 47 = .ok (.lshl, 1) := by decide +kernel
theorem dX0_goOnFrom_48 : decode cX0_goOnFrom 48 = .ok (.lor, 1) := by decide +kernel
theorem dX0_goOnFrom_49 : decode cX0_goOnFrom 49 = .ok (.iload 4, 2) := by decide +kernel
theorem dX0_goOnFrom_51 : decode cX0_goOnFrom 51 = .ok (.invokevirtual 147, 3) := by decide +kernel
theorem dX0_goOnFrom_54 : decode cX0_goOnFrom 54 = .ok (.ifCond .ne 4, 3) := by decide +kernel
theorem dX0_goOnFrom_57 : decode cX0_goOnFrom 57 = .ok (.return_, 1) := by decide +kernel
theorem dX0_goOnFrom_58 : decode cX0_goOnFrom 58 = .ok (.iinc 6 1, 3) := by decide +kernel
theorem dX0_goOnFrom_61 : decode cX0_goOnFrom 61 = .ok (.goto (-50), 3) := by decide +kernel
theorem dX0_goOnFrom_64 : decode cX0_goOnFrom 64 = .ok (.return_, 1) := by decide +kernel
set_option maxRecDepth 20000 in
theorem ggX0_shelve_X0_shelf : GoodIn wsX0_shelve wsX0_shelf := goodIn_r _ [11] (by decide +kernel) (by decide +kernel)
set_option maxRecDepth 20000 in
theorem gX0_shelve_X0_shelf : GoodIn wsX0_shelve (va_wsS RX0 82 yX0_shelf wsX0_shelf) := goodIn_app (goodIn_of _ (by decide +kernel)) ggX0_shelve_X0_shelf
theorem dX0_shelve_0 : decode cX0_shelve 0 = .ok (.iload_n 1, 1) := by decide +kernel
theorem dX0_shelve_1 : decode cX0_shelve 1 = .ok (.invokestatic 82, 3) := by decide +kernel
theorem dX0_shelve_4 : decode cX0_shelve 4 = .ok (.istore 6, 2) := by decide +kernel
theorem dX0_shelve_6 : decode cX0_shelve 6 = .ok (.aload_n 0, 1) := by decide +kernel
theorem dX0_shelve_7 : decode cX0_shelve 7 = .ok (.getfield 39, 3) := by decide +kernel
theorem dX0_shelve_10 : decode cX0_shelve 10 = .ok (.iload_n 1, 1) := by decide +kernel
theorem dX0_shelve_11 : decode cX0_shelve 11 = .ok (.iaload, 1) := by decide +kernel
theorem dX0_shelve_12 : decode cX0_shelve 12 = .ok (.istore 7, 2) := by decide +kernel
theorem dX0_shelve_14 : decode cX0_shelve 14 = .ok (.iload 7, 2) := by decide +kernel
theorem dX0_shelve_16 : decode cX0_shelve 16 = .ok (.iload 5, 2) := by decide +kernel
theorem dX0_shelve_18 : decode cX0_shelve 18 = .ok (.if_icmp .lt 21, 3) := by decide +kernel
theorem dX0_shelve_21 : decode cX0_shelve 21 = .ok (.aload_n 0, 1) := by decide +kernel
theorem dX0_shelve_22 : decode cX0_shelve 22 = .ok (.getfield 35, 3) := by decide +kernel
theorem dX0_shelve_25 : decode cX0_shelve 25 = .ok (.iload 6, 2) := by decide +kernel
theorem dX0_shelve_27 : decode cX0_shelve 27 = .ok (.iload 5, 2) := by decide +kernel
theorem dX0_shelve_29 : decode cX0_shelve 29 = .ok (.iadd, 1) := by decide +kernel
theorem dX0_shelve_30 : decode cX0_shelve 30 = .ok (.iconst 1, 1) := by decide +kernel
theorem dX0_shelve_31 : decode cX0_shelve 31 = .ok (.isub, 1) := by decide +kernel
theorem dX0_shelve_32 : decode cX0_shelve 32 = .ok (.iaload, 1) := by decide +kernel
theorem dX0_shelve_33 : decode cX0_shelve 33 = .ok (.iload_n 2, 1) := by decide +kernel
theorem dX0_shelve_34 : decode cX0_shelve 34 = .ok (.if_icmp .gt 5, 3) := by decide +kernel
theorem dX0_shelve_37 : decode cX0_shelve 37 = .ok (.iconst 0, 1) := by decide +kernel
theorem dX0_shelve_38 : decode cX0_shelve 38 = .ok (.ireturn, 1) := by decide +kernel
theorem dX0_shelve_39 : decode cX0_shelve 39 = .ok (.iload 7, 2) := by decide +kernel
theorem dX0_shelve_41 : decode cX0_shelve 41 = .ok (.iload 5, 2) := by decide +kernel
theorem dX0_shelve_43 : decode cX0_shelve 43 = .ok (.iconst 1, 1) := by decide +kernel
theorem dX0_shelve_44 : decode cX0_shelve 44 = .ok (.isub, 1) := by decide +kernel
theorem dX0_shelve_45 : decode cX0_shelve 45 = .ok (.invokestatic 9, 3) := by decide +kernel
theorem dX0_shelve_48 : decode cX0_shelve 48 = .ok (.istore 8, 2) := by decide +kernel
theorem dX0_shelve_50 : decode cX0_shelve 50 = .ok (.iload 8, 2) := by decide +kernel
theorem dX0_shelve_52 : decode cX0_shelve 52 = .ok (.ifCond .le 69, 3) := by decide +kernel
theorem dX0_shelve_55 : decode cX0_shelve 55 = .ok (.aload_n 0, 1) := by decide +kernel
theorem dX0_shelve_56 : decode cX0_shelve 56 = .ok (.getfield 35, 3) := by decide +kernel
theorem dX0_shelve_59 : decode cX0_shelve 59 = .ok (.iload 6, 2) := by decide +kernel
theorem dX0_shelve_61 : decode cX0_shelve 61 = .ok (.iload 8, 2) := by decide +kernel
theorem dX0_shelve_63 : decode cX0_shelve 63 = .ok (.iadd, 1) := by decide +kernel
theorem dX0_shelve_64 : decode cX0_shelve 64 = .ok (.iconst 1, 1) := by decide +kernel
theorem dX0_shelve_65 : decode cX0_shelve 65 = .ok (.isub, 1) := by decide +kernel
theorem dX0_shelve_66 : decode cX0_shelve 66 = .ok (.iaload, 1) := by decide +kernel
theorem dX0_shelve_67 : decode cX0_shelve 67 = .ok (.iload_n 2, 1) := by decide +kernel
theorem dX0_shelve_68 : decode cX0_shelve 68 = .ok (.if_icmp .le 53, 3) := by decide +kernel
theorem dX0_shelve_71 : decode cX0_shelve 71 = .ok (.aload_n 0, 1) := by decide +kernel
theorem dX0_shelve_72 : decode cX0_shelve 72 = .ok (.getfield 35, 3) := by decide +kernel
theorem dX0_shelve_75 : decode cX0_shelve 75 = .ok (.iload 6, 2) := by decide +kernel
theorem dX0_shelve_77 : decode cX0_shelve 77 = .ok (.iload 8, 2) := by decide +kernel
theorem dX0_shelve_79 : decode cX0_shelve 79 = .ok (.iadd, 1) := by decide +kernel
theorem dX0_shelve_80 : decode cX0_shelve 80 = .ok (.aload_n 0, 1) := by decide +kernel
theorem dX0_shelve_81 : decode cX0_shelve 81 = .ok (.getfield 35, 3) := by decide +kernel
theorem dX0_shelve_84 : decode cX0_shelve 84 = .ok (.iload 6, 2) := by decide +kernel
theorem dX0_shelve_86 : decode cX0_shelve 86 = .ok (.iload 8, 2) := by decide +kernel
theorem dX0_shelve_88 : decode cX0_shelve 88 = .ok (.iadd, 1) := by decide +kernel
theorem dX0_shelve_89 : decode cX0_shelve 89 = .ok (.iconst 1, 1) := by decide +kernel
theorem dX0_shelve_90 : decode cX0_shelve 90 = .ok (.isub, 1) := by decide +kernel
theorem dX0_shelve_91 : decode cX0_shelve 91 = .ok (.iaload, 1) := by decide +kernel
theorem dX0_shelve_92 : decode cX0_shelve 92 = .ok (.iastore, 1) := by decide +kernel
theorem dX0_shelve_93 : decode cX0_shelve 93 = .ok (.aload_n 0, 1) := by decide +kernel
theorem dX0_shelve_94 : decode cX0_shelve 94 = .ok (.getfield 32, 3) := by decide +kernel
theorem dX0_shelve_97 : decode cX0_shelve 97 = .ok (.iload 6, 2) := by decide +kernel
theorem dX0_shelve_99 : decode cX0_shelve 99 = .ok (.iload 8, 2) := by decide +kernel
theorem dX0_shelve_101 : decode cX0_shelve 101 = .ok (.iadd, 1) := by decide +kernel
theorem dX0_shelve_102 : decode cX0_shelve 102 = .ok (.aload_n 0, 1) := by decide +kernel
theorem dX0_shelve_103 : decode cX0_shelve 103 = .ok (.getfield 32, 3) := by decide +kernel
theorem dX0_shelve_106 : decode cX0_shelve 106 = .ok (.iload 6, 2) := by decide +kernel
theorem dX0_shelve_108 : decode cX0_shelve 108 = .ok (.iload 8, 2) := by decide +kernel
theorem dX0_shelve_110 : decode cX0_shelve 110 = .ok (.iadd, 1) := by decide +kernel
theorem dX0_shelve_111 : decode cX0_shelve 111 = .ok (.iconst 1, 1) := by decide +kernel
theorem dX0_shelve_112 : decode cX0_shelve 112 = .ok (.isub, 1) := by decide +kernel
theorem dX0_shelve_113 : decode cX0_shelve 113 = .ok (.laload, 1) := by decide +kernel
theorem dX0_shelve_114 : decode cX0_shelve 114 = .ok (.lastore, 1) := by decide +kernel
theorem dX0_shelve_115 : decode cX0_shelve 115 = .ok (.iinc 8 (-1), 3) := by decide +kernel
theorem dX0_shelve_118 : decode cX0_shelve 118 = .ok (.goto (-68), 3) := by decide +kernel
theorem dX0_shelve_121 : decode cX0_shelve 121 = .ok (.aload_n 0, 1) := by decide +kernel
theorem dX0_shelve_122 : decode cX0_shelve 122 = .ok (.getfield 35, 3) := by decide +kernel
theorem dX0_shelve_125 : decode cX0_shelve 125 = .ok (.iload 6, 2) := by decide +kernel
theorem dX0_shelve_127 : decode cX0_shelve 127 = .ok (.iload 8, 2) := by decide +kernel
theorem dX0_shelve_129 : decode cX0_shelve 129 = .ok (.iadd, 1) := by decide +kernel
theorem dX0_shelve_130 : decode cX0_shelve 130 = .ok (.iload_n 2, 1) := by decide +kernel
theorem dX0_shelve_131 : decode cX0_shelve 131 = .ok (.iastore, 1) := by decide +kernel
theorem dX0_shelve_132 : decode cX0_shelve 132 = .ok (.aload_n 0, 1) := by decide +kernel
theorem dX0_shelve_133 : decode cX0_shelve 133 = .ok (.getfield 32, 3) := by decide +kernel
theorem dX0_shelve_136 : decode cX0_shelve 136 = .ok (.iload 6, 2) := by decide +kernel
theorem dX0_shelve_138 : decode cX0_shelve 138 = .ok (.iload 8, 2) := by decide +kernel
theorem dX0_shelve_140 : decode cX0_shelve 140 = .ok (.iadd, 1) := by decide +kernel
theorem dX0_shelve_141 : decode cX0_shelve 141 = .ok (.lload_n 3, 1) := by decide +kernel
theorem dX0_shelve_142 : decode cX0_shelve 142 = .ok (.lastore, 1) := by decide +kernel
theorem dX0_shelve_143 : decode cX0_shelve 143 = .ok (.aload_n 0, 1) := by decide +kernel
theorem dX0_shelve_144 : decode cX0_shelve 144 = .ok (.getfield 39, 3) := by decide +kernel
theorem dX0_shelve_147 : decode cX0_shelve 147 = .ok (.iload_n 1, 1) := by decide +kernel
theorem dX0_shelve_148 : decode cX0_shelve 148 = .ok (.iload 7, 2) := by decide +kernel
theorem dX0_shelve_150 : decode cX0_shelve 150 = .ok (.iconst 1, 1) := by decide +kernel
theorem dX0_shelve_151 : decode cX0_shelve 151 = .ok (.iadd, 1) := by decide +kernel
theorem dX0_shelve_152 : decode cX0_shelve 152 = .ok (.iload 5, 2) := by decide +kernel
theorem dX0_shelve_154 : decode cX0_shelve 154 = .ok (.invokestatic 9, 3) := by decide +kernel
theorem dX0_shelve_157 : decode cX0_shelve 157 = .ok (.iastore, 1) := by decide +kernel
theorem dX0_shelve_158 : decode cX0_shelve 158 = .ok (.iconst 1, 1) := by decide +kernel
theorem dX0_shelve_159 : decode cX0_shelve 159 = .ok (.ireturn, 1) := by decide +kernel
theorem dX1_init_0 : decode cX1_init 0 = .ok (.aload_n 0, 1) := by decide +kernel
theorem dX1_init_1 : decode cX1_init 1 = .ok (.invokespecial 1, 3) := by decide +kernel
theorem dX1_init_4 : decode cX1_init 4 = .ok (.aload_n 0, 1) := by decide +kernel
theorem dX1_init_5 : decode cX1_init 5 = .ok (.sipush 2400, 3) := by decide +kernel
theorem dX1_init_8 : decode cX1_init 8 = .ok (.newarray .boolean, 2) := by decide +kernel
theorem dX1_init_10 : decode cX1_init 10 = .ok (.putfield 7, 3) := by decide +kernel
theorem dX1_init_13 : decode cX1_init 13 = .ok (.aload_n 0, 1) := by decide +kernel
theorem dX1_init_14 : decode cX1_init 14 = .ok (.bipush 61, 2) := by decide +kernel
theorem dX1_init_16 : decode cX1_init 16 = .ok (.newarray .int, 2) := by decide +kernel
theorem dX1_init_18 : decode cX1_init 18 = .ok (.putfield 13, 3) := by decide +kernel
theorem dX1_init_21 : decode cX1_init 21 = .ok (.aload_n 0, 1) := by decide +kernel
theorem dX1_init_22 : decode cX1_init 22 = .ok (.sipush 2440, 3) := by decide +kernel
theorem dX1_init_25 : decode cX1_init 25 = .ok (.newarray .long, 2) := by decide +kernel
theorem dX1_init_27 : decode cX1_init 27 = .ok (.putfield 17, 3) := by decide +kernel
theorem dX1_init_30 : decode cX1_init 30 = .ok (.aload_n 0, 1) := by decide +kernel
theorem dX1_init_31 : decode cX1_init 31 = .ok (.sipush 2440, 3) := by decide +kernel
theorem dX1_init_34 : decode cX1_init 34 = .ok (.newarray .int, 2) := by decide +kernel
theorem dX1_init_36 : decode cX1_init 36 = .ok (.putfield 21, 3) := by decide +kernel
theorem dX1_init_39 : decode cX1_init 39 = .ok (.aload_n 0, 1) := by decide +kernel
theorem dX1_init_40 : decode cX1_init 40 = .ok (.sipush 2440, 3) := by decide +kernel
theorem dX1_init_43 : decode cX1_init 43 = .ok (.newarray .int, 2) := by decide +kernel
theorem dX1_init_45 : decode cX1_init 45 = .ok (.putfield 24, 3) := by decide +kernel
theorem dX1_init_48 : decode cX1_init 48 = .ok (.aload_n 0, 1) := by decide +kernel
theorem dX1_init_49 : decode cX1_init 49 = .ok (.bipush 40, 2) := by decide +kernel
theorem dX1_init_51 : decode cX1_init 51 = .ok (.newarray .long, 2) := by decide +kernel
theorem dX1_init_53 : decode cX1_init 53 = .ok (.putfield 27, 3) := by decide +kernel
theorem dX1_init_56 : decode cX1_init 56 = .ok (.aload_n 0, 1) := by decide +kernel
theorem dX1_init_57 : decode cX1_init 57 = .ok (.bipush 40, 2) := by decide +kernel
theorem dX1_init_59 : decode cX1_init 59 = .ok (.newarray .int, 2) := by decide +kernel
theorem dX1_init_61 : decode cX1_init 61 = .ok (.putfield 30, 3) := by decide +kernel
theorem dX1_init_64 : decode cX1_init 64 = .ok (.aload_n 0, 1) := by decide +kernel
theorem dX1_init_65 : decode cX1_init 65 = .ok (.sipush 2480, 3) := by decide +kernel
theorem dX1_init_68 : decode cX1_init 68 = .ok (.newarray .int, 2) := by decide +kernel
theorem dX1_init_70 : decode cX1_init 70 = .ok (.putfield 33, 3) := by decide +kernel
theorem dX1_init_73 : decode cX1_init 73 = .ok (.aload_n 0, 1) := by decide +kernel
theorem dX1_init_74 : decode cX1_init 74 = .ok (.bipush 61, 2) := by decide +kernel
theorem dX1_init_76 : decode cX1_init 76 = .ok (.newarray .long, 2) := by decide +kernel
theorem dX1_init_78 : decode cX1_init 78 = .ok (.putfield 36, 3) := by decide +kernel
theorem dX1_init_81 : decode cX1_init 81 = .ok (.aload_n 0, 1) := by decide +kernel
theorem dX1_init_82 : decode cX1_init 82 = .ok (.bipush 61, 2) := by decide +kernel
theorem dX1_init_84 : decode cX1_init 84 = .ok (.newarray .long, 2) := by decide +kernel
theorem dX1_init_86 : decode cX1_init 86 = .ok (.putfield 39, 3) := by decide +kernel
theorem dX1_init_89 : decode cX1_init 89 = .ok (.aload_n 0, 1) := by decide +kernel
theorem dX1_init_90 : decode cX1_init 90 = .ok (.sipush 3721, 3) := by decide +kernel
theorem dX1_init_93 : decode cX1_init 93 = .ok (.newarray .long, 2) := by decide +kernel
theorem dX1_init_95 : decode cX1_init 95 = .ok (.putfield 42, 3) := by decide +kernel
theorem dX1_init_98 : decode cX1_init 98 = .ok (.aload_n 0, 1) := by decide +kernel
theorem dX1_init_99 : decode cX1_init 99 = .ok (.bipush 61, 2) := by decide +kernel
theorem dX1_init_101 : decode cX1_init 101 = .ok (.newarray .boolean, 2) := by decide +kernel
theorem dX1_init_103 : decode cX1_init 103 = .ok (.putfield 45, 3) := by decide +kernel
theorem dX1_init_106 : decode cX1_init 106 = .ok (.aload_n 0, 1) := by decide +kernel
theorem dX1_init_107 : decode cX1_init 107 = .ok (.iload_n 1, 1) := by decide +kernel
theorem dX1_init_108 : decode cX1_init 108 = .ok (.iconst 1, 1) := by decide +kernel
theorem dX1_init_109 : decode cX1_init 109 = .ok (.if_icmp .ge 7, 3) := by decide +kernel
theorem dX1_init_112 : decode cX1_init 112 = .ok (.iconst 1, 1) := by decide +kernel
theorem dX1_init_113 : decode cX1_init 113 = .ok (.goto 15, 3) := by decide +kernel
theorem dX1_init_116 : decode cX1_init 116 = .ok (.iload_n 1, 1) := by decide +kernel
theorem dX1_init_117 : decode cX1_init 117 = .ok (.bipush 60, 2) := by decide +kernel
theorem dX1_init_119 : decode cX1_init 119 = .ok (.if_icmp .le 8, 3) := by decide +kernel
theorem dX1_init_122 : decode cX1_init 122 = .ok (.bipush 60, 2) := by decide +kernel
theorem dX1_init_124 : decode cX1_init 124 = .ok (.goto 4, 3) := by decide +kernel
theorem dX1_init_127 : decode cX1_init 127 = .ok (.iload_n 1, 1) := by decide +kernel
theorem dX1_init_128 : decode cX1_init 128 = .ok (.putfield 48, 3) := by decide +kernel
theorem dX1_init_131 : decode cX1_init 131 = .ok (.aload_n 0, 1) := by decide +kernel
theorem dX1_init_132 : decode cX1_init 132 = .ok (.iload_n 2, 1) := by decide +kernel
theorem dX1_init_133 : decode cX1_init 133 = .ok (.iconst 1, 1) := by decide +kernel
theorem dX1_init_134 : decode cX1_init 134 = .ok (.if_icmp .ge 7, 3) := by decide +kernel
theorem dX1_init_137 : decode cX1_init 137 = .ok (.iconst 1, 1) := by decide +kernel
theorem dX1_init_138 : decode cX1_init 138 = .ok (.goto 15, 3) := by decide +kernel
theorem dX1_init_141 : decode cX1_init 141 = .ok (.iload_n 2, 1) := by decide +kernel
theorem dX1_init_142 : decode cX1_init 142 = .ok (.bipush 40, 2) := by decide +kernel
theorem dX1_init_144 : decode cX1_init 144 = .ok (.if_icmp .le 8, 3) := by decide +kernel
theorem dX1_init_147 : decode cX1_init 147 = .ok (.bipush 40, 2) := by decide +kernel
theorem dX1_init_149 : decode cX1_init 149 = .ok (.goto 4, 3) := by decide +kernel
theorem dX1_init_152 : decode cX1_init 152 = .ok (.iload_n 2, 1) := by decide +kernel
theorem dX1_init_153 : decode cX1_init 153 = .ok (.putfield 52, 3) := by decide +kernel
theorem dX1_init_156 : decode cX1_init 156 = .ok (.return_, 1) := by decide +kernel
theorem dX1_thrown_0 : decode cX1_thrown 0 = .ok (.aload_n 0, 1) := by decide +kernel
theorem dX1_thrown_1 : decode cX1_thrown 1 = .ok (.getfield 55, 3) := by decide +kernel
theorem dX1_thrown_4 : decode cX1_thrown 4 = .ok (.ireturn, 1) := by decide +kernel
theorem dX1_column_0 : decode cX1_column 0 = .ok (.aload_n 0, 1) := by decide +kernel
theorem dX1_column_1 : decode cX1_column 1 = .ok (.iload_n 1, 1) := by decide +kernel
theorem dX1_column_2 : decode cX1_column 2 = .ok (.ifCond .lt 23, 3) := by decide +kernel
theorem dX1_column_5 : decode cX1_column 5 = .ok (.iload_n 1, 1) := by decide +kernel
theorem dX1_column_6 : decode cX1_column 6 = .ok (.aload_n 0, 1) := by decide +kernel
theorem dX1_column_7 : decode cX1_column 7 = .ok (.getfield 48, 3) := by decide +kernel
theorem dX1_column_10 : decode cX1_column 10 = .ok (.if_icmp .ge 15, 3) := by decide +kernel
theorem dX1_column_13 : decode cX1_column 13 = .ok (.iload_n 2, 1) := by decide +kernel
theorem dX1_column_14 : decode cX1_column 14 = .ok (.ifCond .lt 11, 3) := by decide +kernel
theorem dX1_column_17 : decode cX1_column 17 = .ok (.iload_n 2, 1) := by decide +kernel
theorem dX1_column_18 : decode cX1_column 18 = .ok (.aload_n 0, 1) := by decide +kernel
theorem dX1_column_19 : decode cX1_column 19 = .ok (.getfield 52, 3) := by decide +kernel
theorem dX1_column_22 : decode cX1_column 22 = .ok (.if_icmp .lt 7, 3) := by decide +kernel
theorem dX1_column_25 : decode cX1_column 25 = .ok (.iconst 1, 1) := by decide +kernel
theorem dX1_column_26 : decode cX1_column 26 = .ok (.goto 4, 3) := by decide +kernel
theorem dX1_column_29 : decode cX1_column 29 = .ok (.iconst 0, 1) := by decide +kernel
theorem dX1_column_30 : decode cX1_column 30 = .ok (.putfield 55, 3) := by decide +kernel
theorem dX1_column_33 : decode cX1_column 33 = .ok (.aload_n 0, 1) := by decide +kernel
theorem dX1_column_34 : decode cX1_column 34 = .ok (.getfield 55, 3) := by decide +kernel
theorem dX1_column_37 : decode cX1_column 37 = .ok (.ifCond .ne 15, 3) := by decide +kernel
theorem dX1_column_40 : decode cX1_column 40 = .ok (.aload_n 0, 1) := by decide +kernel
theorem dX1_column_41 : decode cX1_column 41 = .ok (.getfield 7, 3) := by decide +kernel
theorem dX1_column_44 : decode cX1_column 44 = .ok (.bipush 60, 2) := by decide +kernel
theorem dX1_column_46 : decode cX1_column 46 = .ok (.iload_n 2, 1) := by decide +kernel
theorem dX1_column_47 : decode cX1_column 47 = .ok (.imul, 1) := by decide +kernel
theorem dX1_column_48 : decode cX1_column 48 = .ok (.iload_n 1, 1) := by decide +kernel
theorem dX1_column_49 : decode cX1_column 49 = .ok (.iadd, 1) := by decide +kernel
theorem dX1_column_50 : decode cX1_column 50 = .ok (.iload_n 3, 1) := by decide +kernel
theorem dX1_column_51 : decode cX1_column 51 = .ok (.bastore, 1) := by decide +kernel
theorem dX1_column_52 : decode cX1_column 52 = .ok (.return_, 1) := by decide +kernel
theorem dX1_isDark_0 : decode cX1_isDark 0 = .ok (.aload_n 0, 1) := by decide +kernel
theorem dX1_isDark_1 : decode cX1_isDark 1 = .ok (.getfield 7, 3) := by decide +kernel
theorem dX1_isDark_4 : decode cX1_isDark 4 = .ok (.bipush 60, 2) := by decide +kernel
theorem dX1_isDark_6 : decode cX1_isDark 6 = .ok (.iload_n 2, 1) := by decide +kernel
theorem dX1_isDark_7 : decode cX1_isDark 7 = .ok (.imul, 1) := by decide +kernel
theorem dX1_isDark_8 : decode cX1_isDark 8 = .ok (.iload_n 1, 1) := by decide +kernel
theorem dX1_isDark_9 : decode cX1_isDark 9 = .ok (.iadd, 1) := by decide +kernel
theorem dX1_isDark_10 : decode cX1_isDark 10 = .ok (.baload, 1) := by decide +kernel
theorem dX1_isDark_11 : decode cX1_isDark 11 = .ok (.ireturn, 1) := by decide +kernel
set_option maxRecDepth 20000 in
theorem ggX1_hasDark_X1_isDark : GoodIn wsX1_hasDark wsX1_isDark := goodIn_r _ [7, 8, 9, 10, 11, 12, 13, 14, 15, 16, 17, 18, 19, 20, 21, 22, 23, 24, 25] (by decide +kernel) (by decide +kernel)
set_option maxRecDepth 20000 in
theorem gX1_hasDark_X1_isDark : GoodIn wsX1_hasDark (wsV RX1 58 RX1 yX1_isDark wsX1_isDark) := goodIn_app (goodIn_of _ (by decide +kernel)) ggX1_hasDark_X1_isDark
theorem dX1_hasDark_0 : decode cX1_hasDark 0 = .ok (.iconst 0, 1) := by decide +kernel
theorem dX1_hasDark_1 : decode cX1_hasDark 1 = .ok (.istore_n 2, 1) := by decide +kernel
theorem dX1_hasDark_2 : decode cX1_hasDark 2 = .ok (.iconst 0, 1) := by decide +kernel
theorem dX1_hasDark_3 : decode cX1_hasDark 3 = .ok (.istore_n 3, 1) := by decide +kernel
theorem dX1_hasDark_4 : decode cX1_hasDark 4 = .ok (.iload_n 3, 1) := by decide +kernel
theorem dX1_hasDark_5 : decode cX1_hasDark 5 = .ok (.aload_n 0, 1) := by decide +kernel
theorem dX1_hasDark_6 : decode cX1_hasDark 6 = .ok (.getfield 52, 3) := by decide +kernel
theorem dX1_hasDark_9 : decode cX1_hasDark 9 = .ok (.if_icmp .ge 40, 3) := by decide +kernel
theorem dX1_hasDark_12 : decode cX1_hasDark 12 = .ok (.iload_n 1, 1) := by decide +kernel
theorem dX1_hasDark_13 : decode cX1_hasDark 13 = .ok (.ifCond .lt 36, 3) := by decide +kernel
theorem dX1_hasDark_16 : decode cX1_hasDark 16 = .ok (.iload_n 1, 1) := by decide +kernel
theorem dX1_hasDark_17 : decode cX1_hasDark 17 = .ok (.aload_n 0, 1) := by decide +kernel
theorem dX1_hasDark_18 : decode cX1_hasDark 18 = .ok (.getfield 48, 3) := by decide +kernel
theorem dX1_hasDark_21 : decode cX1_hasDark 21 = .ok (.if_icmp .ge 28, 3) := by decide +kernel
theorem dX1_hasDark_24 : decode cX1_hasDark 24 = .ok (.iload_n 2, 1) := by decide +kernel
theorem dX1_hasDark_25 : decode cX1_hasDark 25 = .ok (.ifCond .ne 12, 3) := by decide +kernel
theorem dX1_hasDark_28 : decode cX1_hasDark 28 = .ok (.aload_n 0, 1) := by decide +kernel
theorem dX1_hasDark_29 : decode cX1_hasDark 29 = .ok (.iload_n 1, 1) := by decide +kernel
theorem dX1_hasDark_30 : decode cX1_hasDark 30 = .ok (.iload_n 3, 1) := by decide +kernel
theorem dX1_hasDark_31 : decode cX1_hasDark 31 = .ok (.invokevirtual 58, 3) := by decide +kernel
theorem dX1_hasDark_34 : decode cX1_hasDark 34 = .ok (.ifCond .eq 7, 3) := by decide +kernel
theorem dX1_hasDark_37 : decode cX1_hasDark 37 = .ok (.iconst 1, 1) := by decide +kernel
theorem dX1_hasDark_38 : decode cX1_hasDark 38 = .ok (.goto 4, 3) := by decide +kernel
theorem dX1_hasDark_41 : decode cX1_hasDark 41 = .ok (.iconst 0, 1) := by decide +kernel
theorem dX1_hasDark_42 : decode cX1_hasDark 42 = .ok (.istore_n 2, 1) := by decide +kernel
theorem dX1_hasDark_43 : decode cX1_hasDark 43 = .ok (.iinc 3 1, 3) := by decide +kernel
theorem dX1_hasDark_46 : decode cX1_hasDark 46 = .ok (.goto (-42), 3) := by decide +kernel
theorem dX1_hasDark_49 : decode cX1_hasDark 49 = .ok (.iload_n 2, 1) := by decide +kernel
theorem dX1_hasDark_50 : decode cX1_hasDark 50 = .ok (.ireturn, 1) := by decide +kernel
set_option maxRecDepth 20000 in
theorem ggX1_inRow_X1_isDark : GoodIn wsX1_inRow wsX1_isDark := goodIn_r _ [6, 7, 8, 9, 10, 11, 12, 13, 14, 15, 16, 17, 18, 19, 20, 21, 22, 23, 24] (by decide +kernel) (by decide +kernel)
set_option maxRecDepth 20000 in
theorem gX1_inRow_X1_isDark : GoodIn wsX1_inRow (wsV RX1 58 RX1 yX1_isDark wsX1_isDark) := goodIn_app (goodIn_of _ (by decide +kernel)) ggX1_inRow_X1_isDark
theorem dX1_inRow_0 : decode cX1_inRow 0 = .ok (.iconst 0, 1) := by decide +kernel
theorem dX1_inRow_1 : decode cX1_inRow 1 = .ok (.istore_n 2, 1) := by decide +kernel
theorem dX1_inRow_2 : decode cX1_inRow 2 = .ok (.iconst 0, 1) := by decide +kernel
theorem dX1_inRow_3 : decode cX1_inRow 3 = .ok (.istore_n 3, 1) := by decide +kernel
theorem dX1_inRow_4 : decode cX1_inRow 4 = .ok (.iload_n 3, 1) := by decide +kernel
theorem dX1_inRow_5 : decode cX1_inRow 5 = .ok (.aload_n 0, 1) := by decide +kernel
theorem dX1_inRow_6 : decode cX1_inRow 6 = .ok (.getfield 48, 3) := by decide +kernel
theorem dX1_inRow_9 : decode cX1_inRow 9 = .ok (.if_icmp .ge 26, 3) := by decide +kernel
theorem dX1_inRow_12 : decode cX1_inRow 12 = .ok (.aload_n 0, 1) := by decide +kernel
theorem dX1_inRow_13 : decode cX1_inRow 13 = .ok (.iload_n 3, 1) := by decide +kernel
theorem dX1_inRow_14 : decode cX1_inRow 14 = .ok (.iload_n 1, 1) := by decide +kernel
theorem dX1_inRow_15 : decode cX1_inRow 15 = .ok (.invokevirtual 58, 3) := by decide +kernel
theorem dX1_inRow_18 : decode cX1_inRow 18 = .ok (.ifCond .eq 9, 3) := by decide +kernel
theorem dX1_inRow_21 : decode cX1_inRow 21 = .ok (.iload_n 2, 1) := by decide +kernel
theorem dX1_inRow_22 : decode cX1_inRow 22 = .ok (.iconst 1, 1) := by decide +kernel
theorem dX1_inRow_23 : decode cX1_inRow 23 = .ok (.iadd, 1) := by decide +kernel
theorem dX1_inRow_24 : decode cX1_inRow 24 = .ok (.goto 4, 3) := by decide +kernel
theorem dX1_inRow_27 : decode cX1_inRow 27 = .ok (.iload_n 2, 1) := by decide +kernel
theorem dX1_inRow_28 : decode cX1_inRow 28 = .ok (.istore_n 2, 1) := by decide +kernel
theorem dX1_inRow_29 : decode cX1_inRow 29 = .ok (.iinc 3 1, 3) := by decide +kernel
theorem dX1_inRow_32 : decode cX1_inRow 32 = .ok (.goto (-28), 3) := by decide +kernel
theorem dX1_inRow_35 : decode cX1_inRow 35 = .ok (.iload_n 2, 1) := by decide +kernel
theorem dX1_inRow_36 : decode cX1_inRow 36 = .ok (.ireturn, 1) := by decide +kernel
set_option maxRecDepth 20000 in
theorem ggX1_mostInRow_X1_inRow : GoodIn wsX1_mostInRow wsX1_inRow := goodIn_r _ [6, 7, 8, 9, 10, 5, 11, 12, 13, 14, 15, 16, 17, 18, 19, 20, 21, 22, 23, 24, 25, 26, 27, 28, 29] (by decide +kernel) (by decide +kernel)
set_option maxRecDepth 20000 in
theorem gX1_mostInRow_X1_inRow : GoodIn wsX1_mostInRow (wsV RX1 62 RX1 yX1_inRow wsX1_inRow) := goodIn_app (goodIn_of _ (by decide +kernel)) ggX1_mostInRow_X1_inRow
theorem dX1_mostInRow_0 : decode cX1_mostInRow 0 = .ok (.iconst 0, 1) := by decide +kernel
theorem dX1_mostInRow_1 : decode cX1_mostInRow 1 = .ok (.istore_n 1, 1) := by decide +kernel
theorem dX1_mostInRow_2 : decode cX1_mostInRow 2 = .ok (.iconst 0, 1) := by decide +kernel
theorem dX1_mostInRow_3 : decode cX1_mostInRow 3 = .ok (.istore_n 2, 1) := by decide +kernel
theorem dX1_mostInRow_4 : decode cX1_mostInRow 4 = .ok (.iload_n 2, 1) := by decide +kernel
theorem dX1_mostInRow_5 : decode cX1_mostInRow 5 = .ok (.aload_n 0, 1) := by decide +kernel
theorem dX1_mostInRow_6 : decode cX1_mostInRow 6 = .ok (.getfield 52, 3) := by decide +kernel
theorem dX1_mostInRow_9 : decode cX1_mostInRow 9 = .ok (.if_icmp .ge 28, 3) := by decide +kernel
theorem dX1_mostInRow_12 : decode cX1_mostInRow 12 = .ok (.aload_n 0, 1) := by decide +kernel
theorem dX1_mostInRow_13 : decode cX1_mostInRow 13 = .ok (.iload_n 2, 1) := by decide +kernel
theorem dX1_mostInRow_14 : decode cX1_mostInRow 14 = .ok (.invokevirtual 62, 3) := by decide +kernel
theorem dX1_mostInRow_17 : decode cX1_mostInRow 17 = .ok (.iload_n 1, 1) := by decide +kernel
theorem dX1_mostInRow_18 : decode cX1_mostInRow 18 = .ok (.if_icmp .le 11, 3) := by decide +kernel
theorem dX1_mostInRow_21 : decode cX1_mostInRow 21 = .ok (.aload_n 0, 1) := by decide +kernel
theorem dX1_mostInRow_22 : decode cX1_mostInRow 22 = .ok (.iload_n 2, 1) := by decide +kernel
theorem dX1_mostInRow_23 : decode cX1_mostInRow 23 = .ok (.invokevirtual 62, 3) := by decide +kernel
theorem dX1_mostInRow_26 : decode cX1_mostInRow 26 = .ok (.goto 4, 3) := by decide +kernel
theorem dX1_mostInRow_29 : decode cX1_mostInRow 29 = .ok (.iload_n 1, 1) := by decide +kernel
theorem dX1_mostInRow_30 : decode cX1_mostInRow 30 = .ok (.istore_n 1, 1) := by decide +kernel
theorem dX1_mostInRow_31 : decode cX1_mostInRow 31 = .ok (.iinc 2 1, 3) := by decide +kernel
theorem dX1_mostInRow_34 : decode cX1_mostInRow 34 = .ok (.goto (-30), 3) := by decide +kernel
theorem dX1_mostInRow_37 : decode cX1_mostInRow 37 = .ok (.iload_n 1, 1) := by decide +kernel
theorem dX1_mostInRow_38 : decode cX1_mostInRow 38 = .ok (.ireturn, 1) := by decide +kernel
set_option maxRecDepth 20000 in
theorem ggX1_middle_X1_mostInRow : GoodIn wsX1_middle wsX1_mostInRow := goodIn_r _ [5, 6, 7, 8, 9, 4, 10, 11, 12, 13, 14, 15, 16, 17, 18, 19, 20, 21, 22, 23, 24, 25, 26, 27, 28, 29, 30, 31, 32, 33] (by decide +kernel) (by decide +kernel)
set_option maxRecDepth 20000 in
theorem gX1_middle_X1_mostInRow : GoodIn wsX1_middle (wsV RX1 66 RX1 yX1_mostInRow wsX1_mostInRow) := goodIn_app (goodIn_of _ (by decide +kernel)) ggX1_middle_X1_mostInRow
set_option maxRecDepth 20000 in
theorem ggX1_middle_X1_inRow : GoodIn wsX1_middle wsX1_inRow := goodIn_r _ [10, 11, 12, 13, 14, 4, 15, 16, 17, 18, 19, 20, 21, 22, 23, 24, 25, 26, 27, 28, 29, 30, 31, 32, 33] (by decide +kernel) (by decide +kernel)
set_option maxRecDepth 20000 in
theorem gX1_middle_X1_inRow : GoodIn wsX1_middle (wsV RX1 62 RX1 yX1_inRow wsX1_inRow) := goodIn_app (goodIn_of _ (by decide +kernel)) ggX1_middle_X1_inRow
theorem dX1_middle_0 : decode cX1_middle 0 = .ok (.aload_n 0, 1) := by decide +kernel
theorem dX1_middle_1 : decode cX1_middle 1 = .ok (.invokevirtual 66, 3) := by decide +kernel
theorem dX1_middle_4 : decode cX1_middle 4 = .ok (.istore_n 1, 1) := by decide +kernel
theorem dX1_middle_5 : decode cX1_middle 5 = .ok (.iconst 0, 1) := by decide +kernel
theorem dX1_middle_6 : decode cX1_middle 6 = .ok (.istore_n 2, 1) := by decide +kernel
theorem dX1_middle_7 : decode cX1_middle 7 = .ok (.iconst 2, 1) := by decide +kernel
theorem dX1_middle_8 : decode cX1_middle 8 = .ok (.aload_n 0, 1) := by decide +kernel
theorem dX1_middle_9 : decode cX1_middle 9 = .ok (.iload_n 2, 1) := by decide +kernel
theorem dX1_middle_10 : decode cX1_middle 10 = .ok (.invokevirtual 62, 3) := by decide +kernel
theorem dX1_middle_13 : decode cX1_middle 13 = .ok (.imul, 1) := by decide +kernel
theorem dX1_middle_14 : decode cX1_middle 14 = .ok (.iload_n 1, 1) := by decide +kernel
theorem dX1_middle_15 : decode cX1_middle 15 = .ok (.if_icmp .ge 9, 3) := by decide +kernel
theorem dX1_middle_18 : decode cX1_middle 18 = .ok (.iinc 2 1, 3) := by decide +kernel
theorem dX1_middle_21 : decode cX1_middle 21 = .ok (.goto (-14), 3) := by decide +kernel
theorem dX1_middle_24 : decode cX1_middle 24 = .ok (.iload_n 2, 1) := by decide +kernel
theorem dX1_middle_25 : decode cX1_middle 25 = .ok (.ireturn, 1) := by decide +kernel
set_option maxRecDepth 20000 in
theorem ggX1_baseline_X1_mostInRow : GoodIn wsX1_baseline wsX1_mostInRow := goodIn_r _ [6, 1, 7, 8, 9, 5, 10, 11, 12, 13, 14, 15, 16, 17, 18, 19, 20, 21, 22, 23, 24, 25, 26, 27, 28, 29, 30, 31, 32, 33] (by decide +kernel) (by decide +kernel)
set_option maxRecDepth 20000 in
theorem gX1_baseline_X1_mostInRow : GoodIn wsX1_baseline (wsV RX1 66 RX1 yX1_mostInRow wsX1_mostInRow) := goodIn_app (goodIn_of _ (by decide +kernel)) ggX1_baseline_X1_mostInRow
set_option maxRecDepth 20000 in
theorem ggX1_baseline_X1_inRow : GoodIn wsX1_baseline wsX1_inRow := goodIn_r _ [10, 11, 12, 13, 14, 5, 15, 16, 17, 18, 19, 20, 21, 22, 23, 24, 25, 26, 27, 28, 29, 30, 31, 32, 33] (by decide +kernel) (by decide +kernel)
set_option maxRecDepth 20000 in
theorem gX1_baseline_X1_inRow : GoodIn wsX1_baseline (wsV RX1 62 RX1 yX1_inRow wsX1_inRow) := goodIn_app (goodIn_of _ (by decide +kernel)) ggX1_baseline_X1_inRow
theorem dX1_baseline_0 : decode cX1_baseline 0 = .ok (.aload_n 0, 1) := by decide +kernel
theorem dX1_baseline_1 : decode cX1_baseline 1 = .ok (.invokevirtual 66, 3) := by decide +kernel
theorem dX1_baseline_4 : decode cX1_baseline 4 = .ok (.istore_n 1, 1) := by decide +kernel
theorem dX1_baseline_5 : decode cX1_baseline 5 = .ok (.aload_n 0, 1) := by decide +kernel
theorem dX1_baseline_6 : decode cX1_baseline 6 = .ok (.getfield 52, 3) := by decide +kernel
theorem dX1_baseline_9 : decode cX1_baseline 9 = .ok (.iconst 1, 1) := by decide +kernel
theorem dX1_baseline_10 : decode cX1_baseline 10 = .ok (.isub, 1) := by decide +kernel
theorem dX1_baseline_11 : decode cX1_baseline 11 = .ok (.istore_n 2, 1) := by decide +kernel
theorem dX1_baseline_12 : decode cX1_baseline 12 = .ok (.iconst 2, 1) := by decide +kernel
theorem dX1_baseline_13 : decode cX1_baseline 13 = .ok (.aload_n 0, 1) := by decide +kernel
theorem dX1_baseline_14 : decode cX1_baseline 14 = .ok (.iload_n 2, 1) := by decide +kernel
theorem dX1_baseline_15 : decode cX1_baseline 15 = .ok (.invokevirtual 62, 3) := by decide +kernel
theorem dX1_baseline_18 : decode cX1_baseline 18 = .ok (.imul, 1) := by decide +kernel
theorem dX1_baseline_19 : decode cX1_baseline 19 = .ok (.iload_n 1, 1) := by decide +kernel
theorem dX1_baseline_20 : decode cX1_baseline 20 = .ok (.if_icmp .ge 9, 3) := by decide +kernel
theorem dX1_baseline_23 : decode cX1_baseline 23 = .ok (.iinc 2 (-1), 3) := by decide +kernel
theorem dX1_baseline_26 : decode cX1_baseline 26 = .ok (.goto (-14), 3) := by decide +kernel
theorem dX1_baseline_29 : decode cX1_baseline 29 = .ok (.iload_n 2, 1) := by decide +kernel
theorem dX1_baseline_30 : decode cX1_baseline 30 = .ok (.ireturn, 1) := by decide +kernel
set_option maxRecDepth 20000 in
theorem ggX1_from_X1_hasDark : GoodIn wsX1_from wsX1_hasDark := goodIn_r _ [5, 6, 7, 8, 9, 10, 4, 11, 12, 13, 14, 15, 16, 17, 18, 19, 20, 21, 22, 23, 24, 25, 26, 27, 28, 29] (by decide +kernel) (by decide +kernel)
set_option maxRecDepth 20000 in
theorem gX1_from_X1_hasDark : GoodIn wsX1_from (wsV RX1 70 RX1 yX1_hasDark wsX1_hasDark) := goodIn_app (goodIn_of _ (by decide +kernel)) ggX1_from_X1_hasDark
theorem dX1_from_0 : decode cX1_from 0 = .ok (.iconst 0, 1) := by decide +kernel
theorem dX1_from_1 : decode cX1_from 1 = .ok (.istore_n 1, 1) := by decide +kernel
theorem dX1_from_2 : decode cX1_from 2 = .ok (.aload_n 0, 1) := by decide +kernel
theorem dX1_from_3 : decode cX1_from 3 = .ok (.iload_n 1, 1) := by decide +kernel
theorem dX1_from_4 : decode cX1_from 4 = .ok (.invokevirtual 70, 3) := by decide +kernel
theorem dX1_from_7 : decode cX1_from 7 = .ok (.ifCond .ne 9, 3) := by decide +kernel
theorem dX1_from_10 : decode cX1_from 10 = .ok (.iinc 1 1, 3) := by decide +kernel
theorem dX1_from_13 : decode cX1_from 13 = .ok (.goto (-11), 3) := by decide +kernel
theorem dX1_from_16 : decode cX1_from 16 = .ok (.iload_n 1, 1) := by decide +kernel
theorem dX1_from_17 : decode cX1_from 17 = .ok (.ireturn, 1) := by decide +kernel
set_option maxRecDepth 20000 in
theorem ggX1_until_X1_hasDark : GoodIn wsX1_until wsX1_hasDark := goodIn_r _ [6, 7, 1, 8, 9, 10, 5, 11, 12, 13, 14, 15, 16, 17, 18, 19, 20, 21, 22, 23, 24, 25, 26, 27, 28, 29] (by decide +kernel) (by decide +kernel)
set_option maxRecDepth 20000 in
theorem gX1_until_X1_hasDark : GoodIn wsX1_until (wsV RX1 70 RX1 yX1_hasDark wsX1_hasDark) := goodIn_app (goodIn_of _ (by decide +kernel)) ggX1_until_X1_hasDark
theorem dX1_until_0 : decode cX1_until 0 = .ok (.aload_n 0, 1) := by decide +kernel
theorem dX1_until_1 : decode cX1_until 1 = .ok (.getfield 48, 3) := by decide +kernel
theorem dX1_until_4 : decode cX1_until 4 = .ok (.istore_n 1, 1) := by decide +kernel
theorem dX1_until_5 : decode cX1_until 5 = .ok (.aload_n 0, 1) := by decide +kernel
theorem dX1_until_6 : decode cX1_until 6 = .ok (.iload_n 1, 1) := by decide +kernel
theorem dX1_until_7 : decode cX1_until 7 = .ok (.iconst 1, 1) := by decide +kernel
theorem dX1_until_8 : decode cX1_until 8 = .ok (.isub, 1) := by decide +kernel
theorem dX1_until_9 : decode cX1_until 9 = .ok (.invokevirtual 70, 3) := by decide +kernel
theorem dX1_until_12 : decode cX1_until 12 = .ok (.ifCond .ne 9, 3) := by decide +kernel
theorem dX1_until_15 : decode cX1_until 15 = .ok (.iinc 1 (-1), 3) := by decide +kernel
theorem dX1_until_18 : decode cX1_until 18 = .ok (.goto (-13), 3) := by decide +kernel
theorem dX1_until_21 : decode cX1_until 21 = .ok (.iload_n 1, 1) := by decide +kernel
theorem dX1_until_22 : decode cX1_until 22 = .ok (.ireturn, 1) := by decide +kernel
set_option maxRecDepth 20000 in
theorem ggX1_due_X1_baseline : GoodIn wsX1_due wsX1_baseline := goodIn_r _ [5, 6, 7, 8, 9, 4, 10, 11, 12, 13, 14, 15, 16, 17, 18, 19, 20, 25, 26, 27, 28, 29, 30, 31, 32, 33, 34, 35, 36, 37, 38, 39, 40, 41] (by decide +kernel) (by decide +kernel)
set_option maxRecDepth 20000 in
theorem gX1_due_X1_baseline : GoodIn wsX1_due (wsV RX1 74 RX1 yX1_baseline wsX1_baseline) := goodIn_app (goodIn_of _ (by decide +kernel)) ggX1_due_X1_baseline
set_option maxRecDepth 20000 in
theorem ggX1_due_X1_middle : GoodIn wsX1_due wsX1_middle := goodIn_r _ [24, 7, 8, 9, 4, 10, 6, 11, 12, 13, 14, 15, 16, 17, 18, 19, 20, 25, 26, 27, 28, 29, 30, 31, 32, 33, 34, 35, 36, 37, 38, 39, 40, 41] (by decide +kernel) (by decide +kernel)
set_option maxRecDepth 20000 in
theorem gX1_due_X1_middle : GoodIn wsX1_due (wsV RX1 77 RX1 yX1_middle wsX1_middle) := goodIn_app (goodIn_of _ (by decide +kernel)) ggX1_due_X1_middle
theorem dX1_due_0 : decode cX1_due 0 = .ok (.iconst 3, 1) := by decide +kernel
theorem dX1_due_1 : decode cX1_due 1 = .ok (.aload_n 0, 1) := by decide +kernel
theorem dX1_due_2 : decode cX1_due 2 = .ok (.invokevirtual 74, 3) := by decide +kernel
theorem dX1_due_5 : decode cX1_due 5 = .ok (.aload_n 0, 1) := by decide +kernel
theorem dX1_due_6 : decode cX1_due 6 = .ok (.invokevirtual 77, 3) := by decide +kernel
theorem dX1_due_9 : decode cX1_due 9 = .ok (.isub, 1) := by decide +kernel
theorem dX1_due_10 : decode cX1_due 10 = .ok (.imul, 1) := by decide +kernel
theorem dX1_due_11 : decode cX1_due 11 = .ok (.iconst 4, 1) := by decide +kernel
theorem dX1_due_12 : decode cX1_due 12 = .ok (.idiv, 1) := by decide +kernel
theorem dX1_due_13 : decode cX1_due 13 = .ok (.iconst 2, 1) := by decide +kernel
theorem dX1_due_14 : decode cX1_due 14 = .ok (.iadd, 1) := by decide +kernel
theorem dX1_due_15 : decode cX1_due 15 = .ok (.ireturn, 1) := by decide +kernel
set_option maxRecDepth 20000 in
theorem ggX1_touch_X1_isDark : GoodIn wsX1_touch wsX1_isDark := goodIn_r _ [6, 7, 8, 9, 10, 11, 12, 13, 14, 15, 16, 17, 18, 19, 20, 21, 22, 23, 24] (by decide +kernel) (by decide +kernel)
set_option maxRecDepth 20000 in
theorem gX1_touch_X1_isDark : GoodIn wsX1_touch (wsV RX1 58 RX1 yX1_isDark wsX1_isDark) := goodIn_app (goodIn_of _ (by decide +kernel)) ggX1_touch_X1_isDark
theorem dX1_touch_0 : decode cX1_touch 0 = .ok (.iconst 0, 1) := by decide +kernel
theorem dX1_touch_1 : decode cX1_touch 1 = .ok (.istore_n 2, 1) := by decide +kernel
theorem dX1_touch_2 : decode cX1_touch 2 = .ok (.iconst 0, 1) := by decide +kernel
theorem dX1_touch_3 : decode cX1_touch 3 = .ok (.istore_n 3, 1) := by decide +kernel
theorem dX1_touch_4 : decode cX1_touch 4 = .ok (.iload_n 3, 1) := by decide +kernel
theorem dX1_touch_5 : decode cX1_touch 5 = .ok (.aload_n 0, 1) := by decide +kernel
theorem dX1_touch_6 : decode cX1_touch 6 = .ok (.getfield 52, 3) := by decide +kernel
theorem dX1_touch_9 : decode cX1_touch 9 = .ok (.if_icmp .ge 37, 3) := by decide +kernel
theorem dX1_touch_12 : decode cX1_touch 12 = .ok (.aload_n 0, 1) := by decide +kernel
theorem dX1_touch_13 : decode cX1_touch 13 = .ok (.iload_n 1, 1) := by decide +kernel
theorem dX1_touch_14 : decode cX1_touch 14 = .ok (.iconst 1, 1) := by decide +kernel
theorem dX1_touch_15 : decode cX1_touch 15 = .ok (.isub, 1) := by decide +kernel
theorem dX1_touch_16 : decode cX1_touch 16 = .ok (.iload_n 3, 1) := by decide +kernel
theorem dX1_touch_17 : decode cX1_touch 17 = .ok (.invokevirtual 58, 3) := by decide +kernel
theorem dX1_touch_20 : decode cX1_touch 20 = .ok (.ifCond .eq 18, 3) := by decide +kernel
theorem dX1_touch_23 : decode cX1_touch 23 = .ok (.aload_n 0, 1) := by decide +kernel
theorem dX1_touch_24 : decode cX1_touch 24 = .ok (.iload_n 1, 1) := by decide +kernel
theorem dX1_touch_25 : decode cX1_touch 25 = .ok (.iload_n 3, 1) := by decide +kernel
theorem dX1_touch_26 : decode cX1_touch 26 = .ok (.invokevirtual 58, 3) := by decide +kernel
theorem dX1_touch_29 : decode cX1_touch 29 = .ok (.ifCond .eq 9, 3) := by decide +kernel
theorem dX1_touch_32 : decode cX1_touch 32 = .ok (.iload_n 2, 1) := by decide +kernel
theorem dX1_touch_33 : decode cX1_touch 33 = .ok (.iconst 1, 1) := by decide +kernel
theorem dX1_touch_34 : decode cX1_touch 34 = .ok (.iadd, 1) := by decide +kernel
theorem dX1_touch_35 : decode cX1_touch 35 = .ok (.goto 4, 3) := by decide +kernel
theorem dX1_touch_38 : decode cX1_touch 38 = .ok (.iload_n 2, 1) := by decide +kernel
theorem dX1_touch_39 : decode cX1_touch 39 = .ok (.istore_n 2, 1) := by decide +kernel
theorem dX1_touch_40 : decode cX1_touch 40 = .ok (.iinc 3 1, 3) := by decide +kernel
theorem dX1_touch_43 : decode cX1_touch 43 = .ok (.goto (-39), 3) := by decide +kernel
theorem dX1_touch_46 : decode cX1_touch 46 = .ok (.iload_n 2, 1) := by decide +kernel
theorem dX1_touch_47 : decode cX1_touch 47 = .ok (.ireturn, 1) := by decide +kernel
set_option maxRecDepth 20000 in
theorem ggX1_mayCut_X1_touch : GoodIn wsX1_mayCut wsX1_touch := goodIn_r _ [5, 6, 7, 8, 9, 4, 10, 11, 17, 18, 19, 20, 21, 22, 23, 24, 25, 26, 27, 28, 29, 30, 31, 32, 33] (by decide +kernel) (by decide +kernel)
set_option maxRecDepth 20000 in
theorem gX1_mayCut_X1_touch : GoodIn wsX1_mayCut (wsV RX1 80 RX1 yX1_touch wsX1_touch) := goodIn_app (goodIn_of _ (by decide +kernel)) ggX1_mayCut_X1_touch
set_option maxRecDepth 20000 in
theorem ggX1_mayCut_X1_hasDark : GoodIn wsX1_mayCut wsX1_hasDark := goodIn_r _ [15, 6, 16, 7, 8, 9, 4, 10, 11, 17, 18, 19, 20, 21, 22, 23, 24, 25, 26, 27, 28, 29, 30, 31, 32, 33] (by decide +kernel) (by decide +kernel)
set_option maxRecDepth 20000 in
theorem gX1_mayCut_X1_hasDark : GoodIn wsX1_mayCut (wsV RX1 70 RX1 yX1_hasDark wsX1_hasDark) := goodIn_app (goodIn_of _ (by decide +kernel)) ggX1_mayCut_X1_hasDark
theorem dX1_mayCut_0 : decode cX1_mayCut 0 = .ok (.aload_n 0, 1) := by decide +kernel
theorem dX1_mayCut_1 : decode cX1_mayCut 1 = .ok (.iload_n 1, 1) := by decide +kernel
theorem dX1_mayCut_2 : decode cX1_mayCut 2 = .ok (.invokevirtual 80, 3) := by decide +kernel
theorem dX1_mayCut_5 : decode cX1_mayCut 5 = .ok (.iconst 3, 1) := by decide +kernel
theorem dX1_mayCut_6 : decode cX1_mayCut 6 = .ok (.if_icmp .ge 25, 3) := by decide +kernel
theorem dX1_mayCut_9 : decode cX1_mayCut 9 = .ok (.aload_n 0, 1) := by decide +kernel
theorem dX1_mayCut_10 : decode cX1_mayCut 10 = .ok (.iload_n 1, 1) := by decide +kernel
theorem dX1_mayCut_11 : decode cX1_mayCut 11 = .ok (.iconst 1, 1) := by decide +kernel
theorem dX1_mayCut_12 : decode cX1_mayCut 12 = .ok (.isub, 1) := by decide +kernel
theorem dX1_mayCut_13 : decode cX1_mayCut 13 = .ok (.invokevirtual 70, 3) := by decide +kernel
theorem dX1_mayCut_16 : decode cX1_mayCut 16 = .ok (.ifCond .ne 11, 3) := by decide +kernel
theorem dX1_mayCut_19 : decode cX1_mayCut 19 = .ok (.aload_n 0, 1) := by decide +kernel
theorem dX1_mayCut_20 : decode cX1_mayCut 20 = .ok (.iload_n 1, 1) := by decide +kernel
theorem dX1_mayCut_21 : decode cX1_mayCut 21 = .ok (.invokevirtual 70, 3) := by decide +kernel
theorem dX1_mayCut_24 : decode cX1_mayCut 24 = .ok (.ifCond .eq 7, 3) := by decide +kernel
theorem dX1_mayCut_27 : decode cX1_mayCut 27 = .ok (.iconst 1, 1) := by decide +kernel
theorem dX1_mayCut_28 : decode cX1_mayCut 28 = .ok (.goto 4, 3) := by decide +kernel
theorem dX1_mayCut_31 : decode cX1_mayCut 31 = .ok (.iconst 0, 1) := by decide +kernel
theorem dX1_mayCut_32 : decode cX1_mayCut 32 = .ok (.ireturn, 1) := by decide +kernel
set_option maxRecDepth 20000 in
theorem ggX1_sign_X1_hasDark : GoodIn wsX1_sign wsX1_hasDark := goodIn_r _ [10, 4, 11, 12, 13, 14, 9, 15, 16, 21, 22, 23, 24, 25, 26, 27, 28, 29, 30, 31, 32, 33, 34, 35, 36, 37] (by decide +kernel) (by decide +kernel)
set_option maxRecDepth 20000 in
theorem gX1_sign_X1_hasDark : GoodIn wsX1_sign (wsV RX1 70 RX1 yX1_hasDark wsX1_hasDark) := goodIn_app (goodIn_of _ (by decide +kernel)) ggX1_sign_X1_hasDark
set_option maxRecDepth 20000 in
theorem ggX1_sign_X1_isBroken : GoodIn wsX1_sign wsX1_isBroken := goodIn_r _ [20, 12, 13, 14, 9, 15, 16, 21, 22, 23, 24, 25, 26, 27, 28, 29, 30, 31, 32, 33, 34, 35, 36, 37] (by decide +kernel) (by decide +kernel)
set_option maxRecDepth 20000 in
theorem gX1_sign_X1_isBroken : GoodIn wsX1_sign (wsV RX1 90 RX1 yX1_isBroken wsX1_isBroken) := goodIn_app (goodIn_of _ (by decide +kernel)) ggX1_sign_X1_isBroken
theorem dX1_sign_0 : decode cX1_sign 0 = .ok (.iload_n 1, 1) := by decide +kernel
theorem dX1_sign_1 : decode cX1_sign 1 = .ok (.istore_n 3, 1) := by decide +kernel
theorem dX1_sign_2 : decode cX1_sign 2 = .ok (.iload_n 3, 1) := by decide +kernel
theorem dX1_sign_3 : decode cX1_sign 3 = .ok (.iload_n 2, 1) := by decide +kernel
theorem dX1_sign_4 : decode cX1_sign 4 = .ok (.if_icmp .ge 17, 3) := by decide +kernel
theorem dX1_sign_7 : decode cX1_sign 7 = .ok (.aload_n 0, 1) := by decide +kernel
theorem dX1_sign_8 : decode cX1_sign 8 = .ok (.iload_n 3, 1) := by decide +kernel
theorem dX1_sign_9 : decode cX1_sign 9 = .ok (.invokevirtual 70, 3) := by decide +kernel
theorem dX1_sign_12 : decode cX1_sign 12 = .ok (.ifCond .ne 9, 3) := by decide +kernel
theorem dX1_sign_15 : decode cX1_sign 15 = .ok (.iinc 3 1, 3) := by decide +kernel
theorem dX1_sign_18 : decode cX1_sign 18 = .ok (.goto (-16), 3) := by decide +kernel
theorem dX1_sign_21 : decode cX1_sign 21 = .ok (.iload_n 3, 1) := by decide +kernel
theorem dX1_sign_22 : decode cX1_sign 22 = .ok (.iload_n 2, 1) := by decide +kernel
theorem dX1_sign_23 : decode cX1_sign 23 = .ok (.if_icmp .ne 7, 3) := by decide +kernel
theorem dX1_sign_26 : decode cX1_sign 26 = .ok (.ldc2_w 83, 3) := by decide +kernel
theorem dX1_sign_29 : decode cX1_sign 29 = .ok (.lreturn, 1) := by decide +kernel
theorem dX1_sign_30 : decode cX1_sign 30 = .ok (.iload_n 2, 1) := by decide +kernel
theorem dX1_sign_31 : decode cX1_sign 31 = .ok (.iconst 1, 1) := by decide +kernel
theorem dX1_sign_32 : decode cX1_sign 32 = .ok (.isub, 1) := by decide +kernel
theorem dX1_sign_33 : decode cX1_sign 33 = .ok (.istore 4, 2) := by decide +kernel
theorem dX1_sign_35 : decode cX1_sign 35 = .ok (.aload_n 0, 1) := by decide +kernel
theorem dX1_sign_36 : decode cX1_sign 36 = .ok (.iload 4, 2) := by decide +kernel
theorem dX1_sign_38 : decode cX1_sign 38 = .ok (.invokevirtual 70, 3) := by decide +kernel
theorem dX1_sign_41 : decode cX1_sign 41 = .ok (.ifCond .ne 9, 3) := by decide +kernel
theorem dX1_sign_44 : decode cX1_sign 44 = .ok (.iinc 4 (-1), 3) := by decide +kernel
theorem dX1_sign_47 : decode cX1_sign 47 = .ok (.goto (-12), 3) := by decide +kernel
theorem dX1_sign_50 : decode cX1_sign 50 = .ok (.iload 4, 2) := by decide +kernel
theorem dX1_sign_52 : decode cX1_sign 52 = .ok (.iload_n 3, 1) := by decide +kernel
theorem dX1_sign_53 : decode cX1_sign 53 = .ok (.isub, 1) := by decide +kernel
theorem dX1_sign_54 : decode cX1_sign 54 = .ok (.iconst 1, 1) := by decide +kernel
theorem dX1_sign_55 : decode cX1_sign 55 = .ok (.iadd, 1) := by decide +kernel
theorem dX1_sign_56 : decode cX1_sign 56 = .ok (.aload_n 0, 1) := by decide +kernel
theorem dX1_sign_57 : decode cX1_sign 57 = .ok (.getfield 85, 3) := by decide +kernel
theorem dX1_sign_60 : decode cX1_sign 60 = .ok (.isub, 1) := by decide +kernel
theorem dX1_sign_61 : decode cX1_sign 61 = .ok (.istore 5, 2) := by decide +kernel
theorem dX1_sign_63 : decode cX1_sign 63 = .ok (.iload 5, 2) := by decide +kernel
theorem dX1_sign_65 : decode cX1_sign 65 = .ok (.iload 5, 2) := by decide +kernel
theorem dX1_sign_67 : decode cX1_sign 67 = .ok (.imul, 1) := by decide +kernel
theorem dX1_sign_68 : decode cX1_sign 68 = .ok (.i2l, 1) := by decide +kernel
theorem dX1_sign_69 : decode cX1_sign 69 = .ok (.lstore 6, 2) := by decide +kernel
theorem dX1_sign_71 : decode cX1_sign 71 = .ok (.iload_n 3, 1) := by decide +kernel
theorem dX1_sign_72 : decode cX1_sign 72 = .ok (.istore 8, 2) := by decide +kernel
theorem dX1_sign_74 : decode cX1_sign 74 = .ok (.iload 8, 2) := by decide +kernel
theorem dX1_sign_76 : decode cX1_sign 76 = .ok (.iload 4, 2) := by decide +kernel
theorem dX1_sign_78 : decode cX1_sign 78 = .ok (.if_icmp .gt 31, 3) := by decide +kernel
theorem dX1_sign_81 : decode cX1_sign 81 = .ok (.aload_n 0, 1) := by decide +kernel
theorem dX1_sign_82 : decode cX1_sign 82 = .ok (.iload 8, 2) := by decide +kernel
theorem dX1_sign_84 : decode cX1_sign 84 = .ok (.invokevirtual 70, 3) := by decide +kernel
theorem dX1_sign_87 : decode cX1_sign 87 = .ok (.ifCond .eq 8, 3) := by decide +kernel
theorem dX1_sign_90 : decode cX1_sign 90 = .ok (.lload 6, 2) := by decide +kernel
theorem dX1_sign_92 : decode cX1_sign 92 = .ok (.goto 9, 3) := by decide +kernel
theorem dX1_sign_95 : decode cX1_sign 95 = .ok (.lload 6, 2) := by decide +kernel
theorem dX1_sign_97 : decode cX1_sign 97 = .ok (.ldc2_w 88, 3) := by decide +kernel
theorem dX1_sign_100 : decode cX1_sign 100 = .ok (.ladd, 1) := by decide +kernel
theorem dX1_sign_101 : decode cX1_sign 101 = .ok (.lstore 6, 2) := by decide +kernel
theorem dX1_sign_103 : decode cX1_sign 103 = .ok (.iinc 8 1, 3) := by decide +kernel
theorem dX1_sign_106 : decode cX1_sign 106 = .ok (.goto (-32), 3) := by decide +kernel
theorem dX1_sign_109 : decode cX1_sign 109 = .ok (.iconst 0, 1) := by decide +kernel
theorem dX1_sign_110 : decode cX1_sign 110 = .ok (.istore 8, 2) := by decide +kernel
theorem dX1_sign_112 : decode cX1_sign 112 = .ok (.iconst 0, 1) := by decide +kernel
theorem dX1_sign_113 : decode cX1_sign 113 = .ok (.istore 9, 2) := by decide +kernel
theorem dX1_sign_115 : decode cX1_sign 115 = .ok (.iload 9, 2) := by decide +kernel
theorem dX1_sign_117 : decode cX1_sign 117 = .ok (.aload_n 0, 1) := by decide +kernel
theorem dX1_sign_118 : decode cX1_sign 118 = .ok (.getfield 52, 3) := by decide +kernel
theorem dX1_sign_121 : decode cX1_sign 121 = .ok (.if_icmp .ge 31, 3) := by decide +kernel
theorem dX1_sign_124 : decode cX1_sign 124 = .ok (.aload_n 0, 1) := by decide +kernel
theorem dX1_sign_125 : decode cX1_sign 125 = .ok (.iload_n 1, 1) := by decide +kernel
theorem dX1_sign_126 : decode cX1_sign 126 = .ok (.iload_n 2, 1) := by decide +kernel
theorem dX1_sign_127 : decode cX1_sign 127 = .ok (.iload 9, 2) := by decide +kernel
theorem dX1_sign_129 : decode cX1_sign 129 = .ok (.invokevirtual 90, 3) := by decide +kernel
theorem dX1_sign_132 : decode cX1_sign 132 = .ok (.ifCond .eq 10, 3) := by decide +kernel
theorem dX1_sign_135 : decode cX1_sign 135 = .ok (.iload 8, 2) := by decide +kernel
theorem dX1_sign_137 : decode cX1_sign 137 = .ok (.iconst 1, 1) := by decide +kernel
theorem dX1_sign_138 : decode cX1_sign 138 = .ok (.iadd, 1) := by decide +kernel
theorem dX1_sign_139 : decode cX1_sign 139 = .ok (.goto 5, 3) := by decide +kernel
theorem dX1_sign_142 : decode cX1_sign 142 = .ok (.iload 8, 2) := by decide +kernel
theorem dX1_sign_144 : decode cX1_sign 144 = .ok (.istore 8, 2) := by decide +kernel
theorem dX1_sign_146 : decode cX1_sign 146 = .ok (.iinc 9 1, 3) := by decide +kernel
theorem dX1_sign_149 : decode cX1_sign 149 = .ok (.goto (-34), 3) := by decide +kernel
theorem dX1_sign_152 : decode cX1_sign 152 = .ok (.iload 8, 2) := by decide +kernel
theorem dX1_sign_154 : decode cX1_sign 154 = .ok (.ifCond .le 18, 3) := by decide +kernel
theorem dX1_sign_157 : decode cX1_sign 157 = .ok (.lload 6, 2) := by decide +kernel
theorem dX1_sign_159 : decode cX1_sign 159 = .ok (.ldc2_w 94, 3) := by decide +kernel
theorem dX1_sign_162 : decode cX1_sign 162 = .ok (.iload 8, 2) := by decide +kernel
theorem dX1_sign_164 : decode cX1_sign 164 = .ok (.iconst 1, 1) := by decide +kernel
theorem dX1_sign_165 : decode cX1_sign 165 = .ok (.isub, 1) := by decide +kernel
theorem dX1_sign_166 : decode cX1_sign 166 = .ok (.i2l, 1) := by decide +kernel
theorem dX1_sign_167 : decode cX1_sign 167 = .ok (.lmul, 1) := by decide +kernel
theorem dX1_sign_168 : decode cX1_sign 168 = .ok (.ladd, 1) := by decide +kernel
theorem dX1_sign_169 : decode cX1_sign 169 = .ok (.goto 5, 3) := by decide +kernel
theorem dX1_sign_172 : decode cX1_sign 172 = .ok (.lload 6, 2) := by decide +kernel
theorem dX1_sign_174 : decode cX1_sign 174 = .ok (.lreturn, 1) := by decide +kernel
set_option maxRecDepth 20000 in
theorem ggX1_isBroken_X1_isDark : GoodIn wsX1_isBroken wsX1_isDark := goodIn_r _ [5, 6, 7, 8, 9, 10, 11, 12, 13, 14, 15, 16, 17, 18, 19, 20, 21, 22, 23] (by decide +kernel) (by decide +kernel)
set_option maxRecDepth 20000 in
theorem gX1_isBroken_X1_isDark : GoodIn wsX1_isBroken (wsV RX1 58 RX1 yX1_isDark wsX1_isDark) := goodIn_app (goodIn_of _ (by decide +kernel)) ggX1_isBroken_X1_isDark
theorem dX1_isBroken_0 : decode cX1_isBroken 0 = .ok (.iconst 0, 1) := by decide +kernel
theorem dX1_isBroken_1 : decode cX1_isBroken 1 = .ok (.istore 4, 2) := by decide +kernel
theorem dX1_isBroken_3 : decode cX1_isBroken 3 = .ok (.iconst 0, 1) := by decide +kernel
theorem dX1_isBroken_4 : decode cX1_isBroken 4 = .ok (.istore 5, 2) := by decide +kernel
theorem dX1_isBroken_6 : decode cX1_isBroken 6 = .ok (.iconst 0, 1) := by decide +kernel
theorem dX1_isBroken_7 : decode cX1_isBroken 7 = .ok (.istore 6, 2) := by decide +kernel
theorem dX1_isBroken_9 : decode cX1_isBroken 9 = .ok (.iload_n 1, 1) := by decide +kernel
theorem dX1_isBroken_10 : decode cX1_isBroken 10 = .ok (.istore 7, 2) := by decide +kernel
theorem dX1_isBroken_12 : decode cX1_isBroken 12 = .ok (.iload 7, 2) := by decide +kernel
theorem dX1_isBroken_14 : decode cX1_isBroken 14 = .ok (.iload_n 2, 1) := by decide +kernel
theorem dX1_isBroken_15 : decode cX1_isBroken 15 = .ok (.if_icmp .ge 85, 3) := by decide +kernel
theorem dX1_isBroken_18 : decode cX1_isBroken 18 = .ok (.iload 6, 2) := by decide +kernel
theorem dX1_isBroken_20 : decode cX1_isBroken 20 = .ok (.ifCond .ne 23, 3) := by decide +kernel
theorem dX1_isBroken_23 : decode cX1_isBroken 23 = .ok (.iload 4, 2) := by decide +kernel
theorem dX1_isBroken_25 : decode cX1_isBroken 25 = .ok (.ifCond .eq 22, 3) := by decide +kernel
theorem dX1_isBroken_28 : decode cX1_isBroken 28 = .ok (.iload 5, 2) := by decide +kernel
theorem dX1_isBroken_30 : decode cX1_isBroken 30 = .ok (.ifCond .eq 17, 3) := by decide +kernel
theorem dX1_isBroken_33 : decode cX1_isBroken 33 = .ok (.aload_n 0, 1) := by decide +kernel
theorem dX1_isBroken_34 : decode cX1_isBroken 34 = .ok (.iload 7, 2) := by decide +kernel
theorem dX1_isBroken_36 : decode cX1_isBroken 36 = .ok (.iload_n 3, 1) := by decide +kernel
theorem dX1_isBroken_37 : decode cX1_isBroken 37 = .ok (.invokevirtual 58, 3) := by decide +kernel
theorem dX1_isBroken_40 : decode cX1_isBroken 40 = .ok (.ifCond .eq 7, 3) := by decide +kernel
theorem dX1_isBroken_43 : decode cX1_isBroken 43 = .ok (.iconst 1, 1) := by decide +kernel
theorem dX1_isBroken_44 : decode cX1_isBroken 44 = .ok (.goto 4, 3) := by decide +kernel
