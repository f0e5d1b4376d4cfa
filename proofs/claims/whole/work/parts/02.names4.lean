theorem dX1_isBroken_47 : decode cX1_isBroken 47 = .ok (.iconst 0, 1) := by decide +kernel
theorem dX1_isBroken_48 : decode cX1_isBroken 48 = .ok (.istore 6, 2) := by decide +kernel
theorem dX1_isBroken_50 : decode cX1_isBroken 50 = .ok (.iload 4, 2) := by decide +kernel
theorem dX1_isBroken_52 : decode cX1_isBroken 52 = .ok (.ifCond .eq 17, 3) := by decide +kernel
theorem dX1_isBroken_55 : decode cX1_isBroken 55 = .ok (.aload_n 0, 1) := by decide +kernel
theorem dX1_isBroken_56 : decode cX1_isBroken 56 = .ok (.iload 7, 2) := by decide +kernel
theorem dX1_isBroken_58 : decode cX1_isBroken 58 = .ok (.iload_n 3, 1) := by decide +kernel
theorem dX1_isBroken_59 : decode cX1_isBroken 59 = .ok (.invokevirtual 58, 3) := by decide +kernel
theorem dX1_isBroken_62 : decode cX1_isBroken 62 = .ok (.ifCond .ne 7, 3) := by decide +kernel
theorem dX1_isBroken_65 : decode cX1_isBroken 65 = .ok (.iconst 1, 1) := by decide +kernel
theorem dX1_isBroken_66 : decode cX1_isBroken 66 = .ok (.goto 4, 3) := by decide +kernel
theorem dX1_isBroken_69 : decode cX1_isBroken 69 = .ok (.iconst 0, 1) := by decide +kernel
theorem dX1_isBroken_70 : decode cX1_isBroken 70 = .ok (.istore 5, 2) := by decide +kernel
theorem dX1_isBroken_72 : decode cX1_isBroken 72 = .ok (.iload 4, 2) := by decide +kernel
theorem dX1_isBroken_74 : decode cX1_isBroken 74 = .ok (.ifCond .ne 13, 3) := by decide +kernel
theorem dX1_isBroken_77 : decode cX1_isBroken 77 = .ok (.aload_n 0, 1) := by decide +kernel
theorem dX1_isBroken_78 : decode cX1_isBroken 78 = .ok (.iload 7, 2) := by decide +kernel
theorem dX1_isBroken_80 : decode cX1_isBroken 80 = .ok (.iload_n 3, 1) := by decide +kernel
theorem dX1_isBroken_81 : decode cX1_isBroken 81 = .ok (.invokevirtual 58, 3) := by decide +kernel
theorem dX1_isBroken_84 : decode cX1_isBroken 84 = .ok (.ifCond .eq 7, 3) := by decide +kernel
theorem dX1_isBroken_87 : decode cX1_isBroken 87 = .ok (.iconst 1, 1) := by decide +kernel
theorem dX1_isBroken_88 : decode cX1_isBroken 88 = .ok (.goto 4, 3) := by decide +kernel
theorem dX1_isBroken_91 : decode cX1_isBroken 91 = .ok (.iconst 0, 1) := by decide +kernel
theorem dX1_isBroken_92 : decode cX1_isBroken 92 = .ok (.istore 4, 2) := by decide +kernel
theorem dX1_isBroken_94 : decode cX1_isBroken 94 = .ok (.iinc 7 1, 3) := by decide +kernel
theorem dX1_isBroken_97 : decode cX1_isBroken 97 = .ok (.goto (-85), 3) := by decide +kernel
theorem dX1_isBroken_100 : decode cX1_isBroken 100 = .ok (.iload 6, 2) := by decide +kernel
theorem dX1_isBroken_102 : decode cX1_isBroken 102 = .ok (.ireturn, 1) := by decide +kernel
theorem dX1_keep_0 : decode cX1_keep 0 = .ok (.aload_n 0, 1) := by decide +kernel
theorem dX1_keep_1 : decode cX1_keep 1 = .ok (.getfield 13, 3) := by decide +kernel
theorem dX1_keep_4 : decode cX1_keep 4 = .ok (.iload_n 1, 1) := by decide +kernel
theorem dX1_keep_5 : decode cX1_keep 5 = .ok (.iaload, 1) := by decide +kernel
theorem dX1_keep_6 : decode cX1_keep 6 = .ok (.istore 6, 2) := by decide +kernel
theorem dX1_keep_8 : decode cX1_keep 8 = .ok (.iload 6, 2) := by decide +kernel
theorem dX1_keep_10 : decode cX1_keep 10 = .ok (.ifCond .le 28, 3) := by decide +kernel
theorem dX1_keep_13 : decode cX1_keep 13 = .ok (.aload_n 0, 1) := by decide +kernel
theorem dX1_keep_14 : decode cX1_keep 14 = .ok (.getfield 17, 3) := by decide +kernel
theorem dX1_keep_17 : decode cX1_keep 17 = .ok (.bipush 40, 2) := by decide +kernel
theorem dX1_keep_19 : decode cX1_keep 19 = .ok (.iload_n 1, 1) := by decide +kernel
theorem dX1_keep_20 : decode cX1_keep 20 = .ok (.imul, 1) := by decide +kernel
theorem dX1_keep_21 : decode cX1_keep 21 = .ok (.iload 6, 2) := by decide +kernel
theorem dX1_keep_23 : decode cX1_keep 23 = .ok (.iadd, 1) := by decide +kernel
theorem dX1_keep_24 : decode cX1_keep 24 = .ok (.iconst 1, 1) := by decide +kernel
theorem dX1_keep_25 : decode cX1_keep 25 = .ok (.isub, 1) := by decide +kernel
theorem dX1_keep_26 : decode cX1_keep 26 = .ok (.laload, 1) := by decide +kernel
theorem dX1_keep_27 : decode cX1_keep 27 = .ok (.lload_n 2, 1) := by decide +kernel
theorem dX1_keep_28 : decode cX1_keep 28 = .ok (.lcmp, 1) := by decide +kernel
theorem dX1_keep_29 : decode cX1_keep 29 = .ok (.ifCond .le 9, 3) := by decide +kernel
theorem dX1_keep_32 : decode cX1_keep 32 = .ok (.iinc 6 (-1), 3) := by decide +kernel
theorem dX1_keep_35 : decode cX1_keep 35 = .ok (.goto (-27), 3) := by decide +kernel
theorem dX1_keep_38 : decode cX1_keep 38 = .ok (.iload 6, 2) := by decide +kernel
theorem dX1_keep_40 : decode cX1_keep 40 = .ok (.bipush 40, 2) := by decide +kernel
theorem dX1_keep_42 : decode cX1_keep 42 = .ok (.if_icmp .ne 4, 3) := by decide +kernel
theorem dX1_keep_45 : decode cX1_keep 45 = .ok (.return_, 1) := by decide +kernel
theorem dX1_keep_46 : decode cX1_keep 46 = .ok (.aload_n 0, 1) := by decide +kernel
theorem dX1_keep_47 : decode cX1_keep 47 = .ok (.getfield 13, 3) := by decide +kernel
theorem dX1_keep_50 : decode cX1_keep 50 = .ok (.iload_n 1, 1) := by decide +kernel
theorem dX1_keep_51 : decode cX1_keep 51 = .ok (.aload_n 0, 1) := by decide +kernel
theorem dX1_keep_52 : decode cX1_keep 52 = .ok (.getfield 13, 3) := by decide +kernel
theorem dX1_keep_55 : decode cX1_keep 55 = .ok (.iload_n 1, 1) := by decide +kernel
theorem dX1_keep_56 : decode cX1_keep 56 = .ok (.iaload, 1) := by decide +kernel
theorem dX1_keep_57 : decode cX1_keep 57 = .ok (.bipush 40, 2) := by decide +kernel
theorem dX1_keep_59 : decode cX1_keep 59 = .ok (.if_icmp .ge 14, 3) := by decide +kernel
theorem dX1_keep_62 : decode cX1_keep 62 = .ok (.aload_n 0, 1) := by decide +kernel
theorem dX1_keep_63 : decode cX1_keep 63 = .ok (.getfield 13, 3) := by decide +kernel
theorem dX1_keep_66 : decode cX1_keep 66 = .ok (.iload_n 1, 1) := by decide +kernel
theorem dX1_keep_67 : decode cX1_keep 67 = .ok (.iaload, 1) := by decide +kernel
theorem dX1_keep_68 : decode cX1_keep 68 = .ok (.iconst 1, 1) := by decide +kernel
theorem dX1_keep_69 : decode cX1_keep 69 = .ok (.iadd, 1) := by decide +kernel
theorem dX1_keep_70 : decode cX1_keep 70 = .ok (.goto 5, 3) := by decide +kernel
theorem dX1_keep_73 : decode cX1_keep 73 = .ok (.bipush 40, 2) := by decide +kernel
theorem dX1_keep_75 : decode cX1_keep 75 = .ok (.iastore, 1) := by decide +kernel
theorem dX1_keep_76 : decode cX1_keep 76 = .ok (.aload_n 0, 1) := by decide +kernel
theorem dX1_keep_77 : decode cX1_keep 77 = .ok (.getfield 13, 3) := by decide +kernel
theorem dX1_keep_80 : decode cX1_keep 80 = .ok (.iload_n 1, 1) := by decide +kernel
theorem dX1_keep_81 : decode cX1_keep 81 = .ok (.iaload, 1) := by decide +kernel
theorem dX1_keep_82 : decode cX1_keep 82 = .ok (.iconst 1, 1) := by decide +kernel
theorem dX1_keep_83 : decode cX1_keep 83 = .ok (.isub, 1) := by decide +kernel
theorem dX1_keep_84 : decode cX1_keep 84 = .ok (.istore 7, 2) := by decide +kernel
theorem dX1_keep_86 : decode cX1_keep 86 = .ok (.iload 7, 2) := by decide +kernel
theorem dX1_keep_88 : decode cX1_keep 88 = .ok (.iload 6, 2) := by decide +kernel
theorem dX1_keep_90 : decode cX1_keep 90 = .ok (.if_icmp .le 87, 3) := by decide +kernel
theorem dX1_keep_93 : decode cX1_keep 93 = .ok (.aload_n 0, 1) := by decide +kernel
theorem dX1_keep_94 : decode cX1_keep 94 = .ok (.getfield 17, 3) := by decide +kernel
theorem dX1_keep_97 : decode cX1_keep 97 = .ok (.bipush 40, 2) := by decide +kernel
theorem dX1_keep_99 : decode cX1_keep 99 = .ok (.iload_n 1, 1) := by decide +kernel
theorem dX1_keep_100 : decode cX1_keep 100 = .ok (.imul, 1) := by decide +kernel
theorem dX1_keep_101 : decode cX1_keep 101 = .ok (.iload 7, 2) := by decide +kernel
theorem dX1_keep_103 : decode cX1_keep 103 = .ok (.iadd, 1) := by decide +kernel
theorem dX1_keep_104 : decode cX1_keep 104 = .ok (.aload_n 0, 1) := by decide +kernel
theorem dX1_keep_105 : decode cX1_keep 105 = .ok (.getfield 17, 3) := by decide +kernel
theorem dX1_keep_108 : decode cX1_keep 108 = .ok (.bipush 40, 2) := by decide +kernel
theorem dX1_keep_110 : decode cX1_keep 110 = .ok (.iload_n 1, 1) := by decide +kernel
theorem dX1_keep_111 : decode cX1_keep 111 = .ok (.imul, 1) := by decide +kernel
theorem dX1_keep_112 : decode cX1_keep 112 = .ok (.iload 7, 2) := by decide +kernel
theorem dX1_keep_114 : decode cX1_keep 114 = .ok (.iadd, 1) := by decide +kernel
theorem dX1_keep_115 : decode cX1_keep 115 = .ok (.iconst 1, 1) := by decide +kernel
theorem dX1_keep_116 : decode cX1_keep 116 = .ok (.isub, 1) := by decide +kernel
theorem dX1_keep_117 : decode cX1_keep 117 = .ok (.laload, 1) := by decide +kernel
theorem dX1_keep_118 : decode cX1_keep 118 = .ok (.lastore, 1) := by decide +kernel
theorem dX1_keep_119 : decode cX1_keep 119 = .ok (.aload_n 0, 1) := by decide +kernel
theorem dX1_keep_120 : decode cX1_keep 120 = .ok (.getfield 21, 3) := by decide +kernel
theorem dX1_keep_123 : decode cX1_keep 123 = .ok (.bipush 40, 2) := by decide +kernel
theorem dX1_keep_125 : decode cX1_keep 125 = .ok (.iload_n 1, 1) := by decide +kernel
theorem dX1_keep_126 : decode cX1_keep 126 = .ok (.imul, 1) := by decide +kernel
theorem dX1_keep_127 : decode cX1_keep 127 = .ok (.iload 7, 2) := by decide +kernel
theorem dX1_keep_129 : decode cX1_keep 129 = .ok (.iadd, 1) := by decide +kernel
theorem dX1_keep_130 : decode cX1_keep 130 = .ok (.aload_n 0, 1) := by decide +kernel
theorem dX1_keep_131 : decode cX1_keep 131 = .ok (.getfield 21, 3) := by decide +kernel
theorem dX1_keep_134 : decode cX1_keep 134 = .ok (.bipush 40, 2) := by decide +kernel
theorem dX1_keep_136 : decode cX1_keep 136 = .ok (.iload_n 1, 1) := by decide +kernel
theorem dX1_keep_137 : decode cX1_keep 137 = .ok (.imul, 1) := by decide +kernel
theorem dX1_keep_138 : decode cX1_keep 138 = .ok (.iload 7, 2) := by decide +kernel
theorem dX1_keep_140 : decode cX1_keep 140 = .ok (.iadd, 1) := by decide +kernel
theorem dX1_keep_141 : decode cX1_keep 141 = .ok (.iconst 1, 1) := by decide +kernel
theorem dX1_keep_142 : decode cX1_keep 142 = .ok (.isub, 1) := by decide +kernel
theorem dX1_keep_143 : decode cX1_keep 143 = .ok (.iaload, 1) := by decide +kernel
theorem dX1_keep_144 : decode cX1_keep 144 = .ok (.iastore, 1) := by decide +kernel
theorem dX1_keep_145 : decode cX1_keep 145 = .ok (.aload_n 0, 1) := by decide +kernel
theorem dX1_keep_146 : decode cX1_keep 146 = .ok (.getfield 24, 3) := by decide +kernel
theorem dX1_keep_149 : decode cX1_keep 149 = .ok (.bipush 40, 2) := by decide +kernel
theorem dX1_keep_151 : decode cX1_keep 151 = .ok (.iload_n 1, 1) := by decide +kernel
theorem dX1_keep_152 : decode cX1_keep 152 = .ok (.imul, 1) := by decide +kernel
theorem dX1_keep_153 : decode cX1_keep 153 = .ok (.iload 7, 2) := by decide +kernel
theorem dX1_keep_155 : decode cX1_keep 155 = .ok (.iadd, 1) := by decide +kernel
theorem dX1_keep_156 : decode cX1_keep 156 = .ok (.aload_n 0, 1) := by decide +kernel
theorem dX1_keep_157 : decode cX1_keep 157 = .ok (.getfield 24, 3) := by decide +kernel
theorem dX1_keep_160 : decode cX1_keep 160 = .ok (.bipush 40, 2) := by decide +kernel
theorem dX1_keep_162 : decode cX1_keep 162 = .ok (.iload_n 1, 1) := by decide +kernel
theorem dX1_keep_163 : decode cX1_keep 163 = .ok (.imul, 1) := by decide +kernel
theorem dX1_keep_164 : decode cX1_keep 164 = .ok (.iload 7, 2) := by decide +kernel
theorem dX1_keep_166 : decode cX1_keep 166 = .ok (.iadd, 1) := by decide +kernel
theorem dX1_keep_167 : decode cX1_keep 167 = .ok (.iconst 1, 1) := by decide +kernel
theorem dX1_keep_168 : decode cX1_keep 168 = .ok (.isub, 1) := by decide +kernel
theorem dX1_keep_169 : decode cX1_keep 169 = .ok (.iaload, 1) := by decide +kernel
theorem dX1_keep_170 : decode cX1_keep 170 = .ok (.iastore, 1) := by decide +kernel
theorem dX1_keep_171 : decode cX1_keep 171 = .ok (.iinc 7 (-1), 3) := by decide +kernel
theorem dX1_keep_174 : decode cX1_keep 174 = .ok (.goto (-88), 3) := by decide +kernel
theorem dX1_keep_177 : decode cX1_keep 177 = .ok (.aload_n 0, 1) := by decide +kernel
theorem dX1_keep_178 : decode cX1_keep 178 = .ok (.getfield 17, 3) := by decide +kernel
theorem dX1_keep_181 : decode cX1_keep 181 = .ok (.bipush 40, 2) := by decide +kernel
theorem dX1_keep_183 : decode cX1_keep 183 = .ok (.iload_n 1, 1) := by decide +kernel
theorem dX1_keep_184 : decode cX1_keep 184 = .ok (.imul, 1) := by decide +kernel
theorem dX1_keep_185 : decode cX1_keep 185 = .ok (.iload 6, 2) := by decide +kernel
theorem dX1_keep_187 : decode cX1_keep 187 = .ok (.iadd, 1) := by decide +kernel
theorem dX1_keep_188 : decode cX1_keep 188 = .ok (.lload_n 2, 1) := by decide +kernel
theorem dX1_keep_189 : decode cX1_keep 189 = .ok (.lastore, 1) := by decide +kernel
theorem dX1_keep_190 : decode cX1_keep 190 = .ok (.aload_n 0, 1) := by decide +kernel
theorem dX1_keep_191 : decode cX1_keep 191 = .ok (.getfield 21, 3) := by decide +kernel
theorem dX1_keep_194 : decode cX1_keep 194 = .ok (.bipush 40, 2) := by decide +kernel
theorem dX1_keep_196 : decode cX1_keep 196 = .ok (.iload_n 1, 1) := by decide +kernel
theorem dX1_keep_197 : decode cX1_keep 197 = .ok (.imul, 1) := by decide +kernel
theorem dX1_keep_198 : decode cX1_keep 198 = .ok (.iload 6, 2) := by decide +kernel
theorem dX1_keep_200 : decode cX1_keep 200 = .ok (.iadd, 1) := by decide +kernel
theorem dX1_keep_201 : decode cX1_keep 201 = .ok (.iload 4, 2) := by decide +kernel
theorem dX1_keep_203 : decode cX1_keep 203 = .ok (.iastore, 1) := by decide +kernel
theorem dX1_keep_204 : decode cX1_keep 204 = .ok (.aload_n 0, 1) := by decide +kernel
theorem dX1_keep_205 : decode cX1_keep 205 = .ok (.getfield 24, 3) := by decide +kernel
theorem dX1_keep_208 : decode cX1_keep 208 = .ok (.bipush 40, 2) := by decide +kernel
theorem dX1_keep_210 : decode cX1_keep 210 = .ok (.iload_n 1, 1) := by decide +kernel
theorem dX1_keep_211 : decode cX1_keep 211 = .ok (.imul, 1) := by decide +kernel
theorem dX1_keep_212 : decode cX1_keep 212 = .ok (.iload 6, 2) := by decide +kernel
theorem dX1_keep_214 : decode cX1_keep 214 = .ok (.iadd, 1) := by decide +kernel
theorem dX1_keep_215 : decode cX1_keep 215 = .ok (.iload 5, 2) := by decide +kernel
theorem dX1_keep_217 : decode cX1_keep 217 = .ok (.iastore, 1) := by decide +kernel
theorem dX1_keep_218 : decode cX1_keep 218 = .ok (.return_, 1) := by decide +kernel
set_option maxRecDepth 20000 in
theorem ggX1_look_X1_due : GoodIn wsX1_look wsX1_due := goodIn_r _ [9, 10, 11, 12, 8, 13, 14, 15, 16, 17, 18, 19, 20, 21, 22, 23, 24, 25, 26, 27, 28, 29, 30, 31, 32, 55, 56, 57, 58, 59, 60, 61, 62, 63, 64, 65, 66, 67, 68, 69, 70, 71] (by decide +kernel) (by decide +kernel)
set_option maxRecDepth 20000 in
theorem gX1_look_X1_due : GoodIn wsX1_look (wsV RX1 96 RX1 yX1_due wsX1_due) := goodIn_app (goodIn_of _ (by decide +kernel)) ggX1_look_X1_due
set_option maxRecDepth 20000 in
theorem ggX1_look_X1_mayCut : GoodIn wsX1_look wsX1_mayCut := goodIn_r _ [36, 37, 38, 39, 8, 40, 14, 24, 25, 26, 27, 28, 41, 42, 43, 44, 23, 55, 56, 57, 58, 59, 60, 61, 62, 63, 64, 65, 66, 67, 68, 69, 70, 71] (by decide +kernel) (by decide +kernel)
set_option maxRecDepth 20000 in
theorem gX1_look_X1_mayCut : GoodIn wsX1_look (wsV RX1 99 RX1 yX1_mayCut wsX1_mayCut) := goodIn_app (goodIn_of _ (by decide +kernel)) ggX1_look_X1_mayCut
set_option maxRecDepth 20000 in
theorem ggX1_look_X1_sign : GoodIn wsX1_look wsX1_sign := goodIn_r _ [48, 4, 1, 49, 14, 50, 41, 42, 43, 8, 44, 23, 24, 25, 26, 27, 28, 51, 52, 53, 54, 55, 56, 57, 58, 59, 60, 61, 62, 63, 64, 65, 66, 67, 68, 69, 70, 71] (by decide +kernel) (by decide +kernel)
set_option maxRecDepth 20000 in
theorem gX1_look_X1_sign : GoodIn wsX1_look (wsV RX1 102 RX1 yX1_sign wsX1_sign) := goodIn_app (goodIn_of _ (by decide +kernel)) ggX1_look_X1_sign
theorem dX1_look_0 : decode cX1_look 0 = .ok (.aload_n 0, 1) := by decide +kernel
theorem dX1_look_1 : decode cX1_look 1 = .ok (.aload_n 0, 1) := by decide +kernel
theorem dX1_look_2 : decode cX1_look 2 = .ok (.invokevirtual 96, 3) := by decide +kernel
theorem dX1_look_5 : decode cX1_look 5 = .ok (.putfield 85, 3) := by decide +kernel
theorem dX1_look_8 : decode cX1_look 8 = .ok (.iload_n 1, 1) := by decide +kernel
theorem dX1_look_9 : decode cX1_look 9 = .ok (.istore_n 3, 1) := by decide +kernel
theorem dX1_look_10 : decode cX1_look 10 = .ok (.iload_n 3, 1) := by decide +kernel
theorem dX1_look_11 : decode cX1_look 11 = .ok (.iload_n 2, 1) := by decide +kernel
theorem dX1_look_12 : decode cX1_look 12 = .ok (.if_icmp .gt 38, 3) := by decide +kernel
theorem dX1_look_15 : decode cX1_look 15 = .ok (.aload_n 0, 1) := by decide +kernel
theorem dX1_look_16 : decode cX1_look 16 = .ok (.getfield 45, 3) := by decide +kernel
theorem dX1_look_19 : decode cX1_look 19 = .ok (.iload_n 3, 1) := by decide +kernel
theorem dX1_look_20 : decode cX1_look 20 = .ok (.iload_n 3, 1) := by decide +kernel
theorem dX1_look_21 : decode cX1_look 21 = .ok (.iload_n 1, 1) := by decide +kernel
theorem dX1_look_22 : decode cX1_look 22 = .ok (.if_icmp .eq 16, 3) := by decide +kernel
theorem dX1_look_25 : decode cX1_look 25 = .ok (.iload_n 3, 1) := by decide +kernel
theorem dX1_look_26 : decode cX1_look 26 = .ok (.iload_n 2, 1) := by decide +kernel
theorem dX1_look_27 : decode cX1_look 27 = .ok (.if_icmp .eq 11, 3) := by decide +kernel
theorem dX1_look_30 : decode cX1_look 30 = .ok (.aload_n 0, 1) := by decide +kernel
theorem dX1_look_31 : decode cX1_look 31 = .ok (.iload_n 3, 1) := by decide +kernel
theorem dX1_look_32 : decode cX1_look 32 = .ok (.invokevirtual 99, 3) := by decide +kernel
theorem dX1_look_35 : decode cX1_look 35 = .ok (.ifCond .eq 7, 3) := by decide +kernel
theorem dX1_look_38 : decode cX1_look 38 = .ok (.iconst 1, 1) := by decide +kernel
theorem dX1_look_39 : decode cX1_look 39 = .ok (.goto 4, 3) := by decide +kernel
theorem dX1_look_42 : decode cX1_look 42 = .ok (.iconst 0, 1) := by decide +kernel
theorem dX1_look_43 : decode cX1_look 43 = .ok (.bastore, 1) := by decide +kernel
theorem dX1_look_44 : decode cX1_look 44 = .ok (.iinc 3 1, 3) := by decide +kernel
theorem dX1_look_47 : decode cX1_look 47 = .ok (.goto (-37), 3) := by decide +kernel
theorem dX1_look_50 : decode cX1_look 50 = .ok (.iload_n 1, 1) := by decide +kernel
theorem dX1_look_51 : decode cX1_look 51 = .ok (.istore_n 3, 1) := by decide +kernel
theorem dX1_look_52 : decode cX1_look 52 = .ok (.iload_n 3, 1) := by decide +kernel
theorem dX1_look_53 : decode cX1_look 53 = .ok (.iload_n 2, 1) := by decide +kernel
theorem dX1_look_54 : decode cX1_look 54 = .ok (.if_icmp .ge 70, 3) := by decide +kernel
theorem dX1_look_57 : decode cX1_look 57 = .ok (.iload_n 3, 1) := by decide +kernel
theorem dX1_look_58 : decode cX1_look 58 = .ok (.iconst 1, 1) := by decide +kernel
theorem dX1_look_59 : decode cX1_look 59 = .ok (.iadd, 1) := by decide +kernel
theorem dX1_look_60 : decode cX1_look 60 = .ok (.istore 4, 2) := by decide +kernel
theorem dX1_look_62 : decode cX1_look 62 = .ok (.iload 4, 2) := by decide +kernel
theorem dX1_look_64 : decode cX1_look 64 = .ok (.iload_n 2, 1) := by decide +kernel
theorem dX1_look_65 : decode cX1_look 65 = .ok (.if_icmp .gt 53, 3) := by decide +kernel
theorem dX1_look_68 : decode cX1_look 68 = .ok (.aload_n 0, 1) := by decide +kernel
theorem dX1_look_69 : decode cX1_look 69 = .ok (.getfield 42, 3) := by decide +kernel
theorem dX1_look_72 : decode cX1_look 72 = .ok (.bipush 61, 2) := by decide +kernel
theorem dX1_look_74 : decode cX1_look 74 = .ok (.iload_n 3, 1) := by decide +kernel
theorem dX1_look_75 : decode cX1_look 75 = .ok (.imul, 1) := by decide +kernel
theorem dX1_look_76 : decode cX1_look 76 = .ok (.iload 4, 2) := by decide +kernel
theorem dX1_look_78 : decode cX1_look 78 = .ok (.iadd, 1) := by decide +kernel
theorem dX1_look_79 : decode cX1_look 79 = .ok (.aload_n 0, 1) := by decide +kernel
theorem dX1_look_80 : decode cX1_look 80 = .ok (.getfield 45, 3) := by decide +kernel
theorem dX1_look_83 : decode cX1_look 83 = .ok (.iload_n 3, 1) := by decide +kernel
theorem dX1_look_84 : decode cX1_look 84 = .ok (.baload, 1) := by decide +kernel
theorem dX1_look_85 : decode cX1_look 85 = .ok (.ifCond .eq 23, 3) := by decide +kernel
theorem dX1_look_88 : decode cX1_look 88 = .ok (.aload_n 0, 1) := by decide +kernel
theorem dX1_look_89 : decode cX1_look 89 = .ok (.getfield 45, 3) := by decide +kernel
theorem dX1_look_92 : decode cX1_look 92 = .ok (.iload 4, 2) := by decide +kernel
theorem dX1_look_94 : decode cX1_look 94 = .ok (.baload, 1) := by decide +kernel
theorem dX1_look_95 : decode cX1_look 95 = .ok (.ifCond .eq 13, 3) := by decide +kernel
theorem dX1_look_98 : decode cX1_look 98 = .ok (.aload_n 0, 1) := by decide +kernel
theorem dX1_look_99 : decode cX1_look 99 = .ok (.iload_n 3, 1) := by decide +kernel
theorem dX1_look_100 : decode cX1_look 100 = .ok (.iload 4, 2) := by decide +kernel
theorem dX1_look_102 : decode cX1_look 102 = .ok (.invokevirtual 102, 3) := by decide +kernel
theorem dX1_look_105 : decode cX1_look 105 = .ok (.goto 6, 3) := by decide +kernel
theorem dX1_look_108 : decode cX1_look 108 = .ok (.ldc2_w 83, 3) := by decide +kernel
theorem dX1_look_111 : decode cX1_look 111 = .ok (.lastore, 1) := by decide +kernel
theorem dX1_look_112 : decode cX1_look 112 = .ok (.iinc 4 1, 3) := by decide +kernel
theorem dX1_look_115 : decode cX1_look 115 = .ok (.goto (-53), 3) := by decide +kernel
theorem dX1_look_118 : decode cX1_look 118 = .ok (.iinc 3 1, 3) := by decide +kernel
theorem dX1_look_121 : decode cX1_look 121 = .ok (.goto (-69), 3) := by decide +kernel
theorem dX1_look_124 : decode cX1_look 124 = .ok (.return_, 1) := by decide +kernel
set_option maxRecDepth 20000 in
theorem ggX1_fill_X1_look : GoodIn wsX1_fill wsX1_look := goodIn_r _ [10, 11, 2, 3, 12, 13, 14, 15, 9, 16, 17, 18, 19, 20, 21, 22, 23, 24, 25, 26, 27, 28, 29, 30, 31, 32, 33, 34, 35, 36, 37, 38, 39, 40, 41, 42, 43, 44, 45, 46, 47, 48, 49, 50, 51, 52, 53, 54, 55, 56, 57, 58, 59, 60, 61, 68, 69, 70, 71, 72, 73, 74, 75, 76, 77, 78, 79, 80, 81, 82, 83, 84] (by decide +kernel) (by decide +kernel)
set_option maxRecDepth 20000 in
theorem gX1_fill_X1_look : GoodIn wsX1_fill (wsV RX1 106 RX1 yX1_look wsX1_look) := goodIn_app (goodIn_of _ (by decide +kernel)) ggX1_fill_X1_look
set_option maxRecDepth 20000 in
theorem ggX1_fill_X1_keep : GoodIn wsX1_fill wsX1_keep := goodIn_r _ [65, 1, 5, 66, 67, 68, 69, 70, 71, 72, 73, 74, 75, 76, 77, 78, 79, 80, 81, 82, 83, 84] (by decide +kernel) (by decide +kernel)
set_option maxRecDepth 20000 in
theorem gX1_fill_X1_keep : GoodIn wsX1_fill (wsV RX1 110 RX1 yX1_keep wsX1_keep) := goodIn_app (goodIn_of _ (by decide +kernel)) ggX1_fill_X1_keep
set_option maxRecDepth 20000 in
theorem ggX1_fill_X1_touch : GoodIn wsX1_fill wsX1_touch := goodIn_r _ [47, 21, 31, 32, 33, 9, 34, 35, 68, 69, 70, 71, 72, 73, 74, 75, 76, 77, 78, 79, 80, 81, 82, 83, 84] (by decide +kernel) (by decide +kernel)
set_option maxRecDepth 20000 in
theorem gX1_fill_X1_touch : GoodIn wsX1_fill (wsV RX1 80 RX1 yX1_touch wsX1_touch) := goodIn_app (goodIn_of _ (by decide +kernel)) ggX1_fill_X1_touch
theorem dX1_fill_0 : decode cX1_fill 0 = .ok (.aload_n 0, 1) := by decide +kernel
theorem dX1_fill_1 : decode cX1_fill 1 = .ok (.iload_n 1, 1) := by decide +kernel
theorem dX1_fill_2 : decode cX1_fill 2 = .ok (.iload_n 2, 1) := by decide +kernel
theorem dX1_fill_3 : decode cX1_fill 3 = .ok (.invokevirtual 106, 3) := by decide +kernel
theorem dX1_fill_6 : decode cX1_fill 6 = .ok (.iload_n 2, 1) := by decide +kernel
theorem dX1_fill_7 : decode cX1_fill 7 = .ok (.istore_n 3, 1) := by decide +kernel
theorem dX1_fill_8 : decode cX1_fill 8 = .ok (.iload_n 3, 1) := by decide +kernel
theorem dX1_fill_9 : decode cX1_fill 9 = .ok (.iload_n 1, 1) := by decide +kernel
theorem dX1_fill_10 : decode cX1_fill 10 = .ok (.if_icmp .lt 147, 3) := by decide +kernel
theorem dX1_fill_13 : decode cX1_fill 13 = .ok (.aload_n 0, 1) := by decide +kernel
theorem dX1_fill_14 : decode cX1_fill 14 = .ok (.getfield 13, 3) := by decide +kernel
theorem dX1_fill_17 : decode cX1_fill 17 = .ok (.iload_n 3, 1) := by decide +kernel
theorem dX1_fill_18 : decode cX1_fill 18 = .ok (.iconst 0, 1) := by decide +kernel
theorem dX1_fill_19 : decode cX1_fill 19 = .ok (.iastore, 1) := by decide +kernel
theorem dX1_fill_20 : decode cX1_fill 20 = .ok (.iload_n 3, 1) := by decide +kernel
theorem dX1_fill_21 : decode cX1_fill 21 = .ok (.iload_n 2, 1) := by decide +kernel
theorem dX1_fill_22 : decode cX1_fill 22 = .ok (.if_icmp .ne 14, 3) := by decide +kernel
theorem dX1_fill_25 : decode cX1_fill 25 = .ok (.aload_n 0, 1) := by decide +kernel
theorem dX1_fill_26 : decode cX1_fill 26 = .ok (.iload_n 3, 1) := by decide +kernel
theorem dX1_fill_27 : decode cX1_fill 27 = .ok (.lconst 0, 1) := by decide +kernel
theorem dX1_fill_28 : decode cX1_fill 28 = .ok (.iconst (-1), 1) := by decide +kernel
theorem dX1_fill_29 : decode cX1_fill 29 = .ok (.iconst (-1), 1) := by decide +kernel
theorem dX1_fill_30 : decode cX1_fill 30 = .ok (.invokevirtual 110, 3) := by decide +kernel
theorem dX1_fill_33 : decode cX1_fill 33 = .ok (.goto 118, 3) := by decide +kernel
theorem dX1_fill_36 : decode cX1_fill 36 = .ok (.aload_n 0, 1) := by decide +kernel
theorem dX1_fill_37 : decode cX1_fill 37 = .ok (.getfield 45, 3) := by decide +kernel
theorem dX1_fill_40 : decode cX1_fill 40 = .ok (.iload_n 3, 1) := by decide +kernel
theorem dX1_fill_41 : decode cX1_fill 41 = .ok (.baload, 1) := by decide +kernel
theorem dX1_fill_42 : decode cX1_fill 42 = .ok (.ifCond .eq 109, 3) := by decide +kernel
theorem dX1_fill_45 : decode cX1_fill 45 = .ok (.iload_n 3, 1) := by decide +kernel
theorem dX1_fill_46 : decode cX1_fill 46 = .ok (.iconst 1, 1) := by decide +kernel
theorem dX1_fill_47 : decode cX1_fill 47 = .ok (.iadd, 1) := by decide +kernel
theorem dX1_fill_48 : decode cX1_fill 48 = .ok (.istore 4, 2) := by decide +kernel
theorem dX1_fill_50 : decode cX1_fill 50 = .ok (.iload 4, 2) := by decide +kernel
theorem dX1_fill_52 : decode cX1_fill 52 = .ok (.iload_n 2, 1) := by decide +kernel
theorem dX1_fill_53 : decode cX1_fill 53 = .ok (.if_icmp .gt 98, 3) := by decide +kernel
theorem dX1_fill_56 : decode cX1_fill 56 = .ok (.aload_n 0, 1) := by decide +kernel
theorem dX1_fill_57 : decode cX1_fill 57 = .ok (.getfield 42, 3) := by decide +kernel
theorem dX1_fill_60 : decode cX1_fill 60 = .ok (.bipush 61, 2) := by decide +kernel
theorem dX1_fill_62 : decode cX1_fill 62 = .ok (.iload_n 3, 1) := by decide +kernel
theorem dX1_fill_63 : decode cX1_fill 63 = .ok (.imul, 1) := by decide +kernel
theorem dX1_fill_64 : decode cX1_fill 64 = .ok (.iload 4, 2) := by decide +kernel
theorem dX1_fill_66 : decode cX1_fill 66 = .ok (.iadd, 1) := by decide +kernel
theorem dX1_fill_67 : decode cX1_fill 67 = .ok (.laload, 1) := by decide +kernel
theorem dX1_fill_68 : decode cX1_fill 68 = .ok (.lstore 5, 2) := by decide +kernel
theorem dX1_fill_70 : decode cX1_fill 70 = .ok (.iconst 0, 1) := by decide +kernel
theorem dX1_fill_71 : decode cX1_fill 71 = .ok (.istore 7, 2) := by decide +kernel
theorem dX1_fill_73 : decode cX1_fill 73 = .ok (.iload 7, 2) := by decide +kernel
theorem dX1_fill_75 : decode cX1_fill 75 = .ok (.aload_n 0, 1) := by decide +kernel
theorem dX1_fill_76 : decode cX1_fill 76 = .ok (.getfield 13, 3) := by decide +kernel
theorem dX1_fill_79 : decode cX1_fill 79 = .ok (.iload 4, 2) := by decide +kernel
theorem dX1_fill_81 : decode cX1_fill 81 = .ok (.iaload, 1) := by decide +kernel
theorem dX1_fill_82 : decode cX1_fill 82 = .ok (.if_icmp .ge 63, 3) := by decide +kernel
theorem dX1_fill_85 : decode cX1_fill 85 = .ok (.lload 5, 2) := by decide +kernel
theorem dX1_fill_87 : decode cX1_fill 87 = .ok (.lconst 0, 1) := by decide +kernel
theorem dX1_fill_88 : decode cX1_fill 88 = .ok (.lcmp, 1) := by decide +kernel
theorem dX1_fill_89 : decode cX1_fill 89 = .ok (.ifCond .lt 56, 3) := by decide +kernel
theorem dX1_fill_92 : decode cX1_fill 92 = .ok (.aload_n 0, 1) := by decide +kernel
theorem dX1_fill_93 : decode cX1_fill 93 = .ok (.iload_n 3, 1) := by decide +kernel
theorem dX1_fill_94 : decode cX1_fill 94 = .ok (.lload 5, 2) := by decide +kernel
theorem dX1_fill_96 : decode cX1_fill 96 = .ok (.iload 4, 2) := by decide +kernel
theorem dX1_fill_98 : decode cX1_fill 98 = .ok (.iload_n 2, 1) := by decide +kernel
theorem dX1_fill_99 : decode cX1_fill 99 = .ok (.if_icmp .ge 17, 3) := by decide +kernel
theorem dX1_fill_102 : decode cX1_fill 102 = .ok (.ldc2_w 114, 3) := by decide +kernel
theorem dX1_fill_105 : decode cX1_fill 105 = .ok (.aload_n 0, 1) := by decide +kernel
theorem dX1_fill_106 : decode cX1_fill 106 = .ok (.iload 4, 2) := by decide +kernel
theorem dX1_fill_108 : decode cX1_fill 108 = .ok (.invokevirtual 80, 3) := by decide +kernel
theorem dX1_fill_111 : decode cX1_fill 111 = .ok (.i2l, 1) := by decide +kernel
theorem dX1_fill_112 : decode cX1_fill 112 = .ok (.lmul, 1) := by decide +kernel
theorem dX1_fill_113 : decode cX1_fill 113 = .ok (.goto 4, 3) := by decide +kernel
theorem dX1_fill_116 : decode cX1_fill 116 = .ok (.lconst 0, 1) := by decide +kernel
theorem dX1_fill_117 : decode cX1_fill 117 = .ok (.ladd, 1) := by decide +kernel
theorem dX1_fill_118 : decode cX1_fill 118 = .ok (.aload_n 0, 1) := by decide +kernel
theorem dX1_fill_119 : decode cX1_fill 119 = .ok (.getfield 17, 3) := by decide +kernel
theorem dX1_fill_122 : decode cX1_fill 122 = .ok (.bipush 40, 2) := by decide +kernel
theorem dX1_fill_124 : decode cX1_fill 124 = .ok (.iload 4, 2) := by decide +kernel
theorem dX1_fill_126 : decode cX1_fill 126 = .ok (.imul, 1) := by decide +kernel
theorem dX1_fill_127 : decode cX1_fill 127 = .ok (.iload 7, 2) := by decide +kernel
theorem dX1_fill_129 : decode cX1_fill 129 = .ok (.iadd, 1) := by decide +kernel
theorem dX1_fill_130 : decode cX1_fill 130 = .ok (.laload, 1) := by decide +kernel
theorem dX1_fill_131 : decode cX1_fill 131 = .ok (.ladd, 1) := by decide +kernel
theorem dX1_fill_132 : decode cX1_fill 132 = .ok (.iload 4, 2) := by decide +kernel
theorem dX1_fill_134 : decode cX1_fill 134 = .ok (.iload 7, 2) := by decide +kernel
theorem dX1_fill_136 : decode cX1_fill 136 = .ok (.invokevirtual 110, 3) := by decide +kernel
theorem dX1_fill_139 : decode cX1_fill 139 = .ok (.iinc 7 1, 3) := by decide +kernel
theorem dX1_fill_142 : decode cX1_fill 142 = .ok (.goto (-69), 3) := by decide +kernel
theorem dX1_fill_145 : decode cX1_fill 145 = .ok (.iinc 4 1, 3) := by decide +kernel
theorem dX1_fill_148 : decode cX1_fill 148 = .ok (.goto (-98), 3) := by decide +kernel
theorem dX1_fill_151 : decode cX1_fill 151 = .ok (.iinc 3 (-1), 3) := by decide +kernel
theorem dX1_fill_154 : decode cX1_fill 154 = .ok (.goto (-146), 3) := by decide +kernel
theorem dX1_fill_157 : decode cX1_fill 157 = .ok (.return_, 1) := by decide +kernel
set_option maxRecDepth 20000 in
theorem ggX1_cut_X1_mostInRow : GoodIn wsX1_cut wsX1_mostInRow := goodIn_r _ [14, 15, 16, 17, 18, 13, 19, 20, 21, 22, 23, 24, 25, 85, 86, 87, 88, 89, 90, 91, 92, 93, 94, 95, 96, 97, 98, 99, 100, 101] (by decide +kernel) (by decide +kernel)
set_option maxRecDepth 20000 in
theorem gX1_cut_X1_mostInRow : GoodIn wsX1_cut (wsV RX1 66 RX1 yX1_mostInRow wsX1_mostInRow) := goodIn_app (goodIn_of _ (by decide +kernel)) ggX1_cut_X1_mostInRow
set_option maxRecDepth 20000 in
theorem ggX1_cut_X1_from : GoodIn wsX1_cut wsX1_from := goodIn_r _ [29, 30, 31, 32, 13, 33, 15, 20, 21, 22, 23, 24, 25, 85, 86, 87, 88, 89, 90, 91, 92, 93, 94, 95, 96, 97, 98, 99, 100, 101] (by decide +kernel) (by decide +kernel)
set_option maxRecDepth 20000 in
theorem gX1_cut_X1_from : GoodIn wsX1_cut (wsV RX1 119 RX1 yX1_from wsX1_from) := goodIn_app (goodIn_of _ (by decide +kernel)) ggX1_cut_X1_from
set_option maxRecDepth 20000 in
theorem ggX1_cut_X1_until : GoodIn wsX1_cut wsX1_until := goodIn_r _ [37, 20, 30, 31, 32, 13, 33, 15, 21, 22, 23, 24, 25, 85, 86, 87, 88, 89, 90, 91, 92, 93, 94, 95, 96, 97, 98, 99, 100, 101] (by decide +kernel) (by decide +kernel)
set_option maxRecDepth 20000 in
theorem gX1_cut_X1_until : GoodIn wsX1_cut (wsV RX1 122 RX1 yX1_until wsX1_until) := goodIn_app (goodIn_of _ (by decide +kernel)) ggX1_cut_X1_until
set_option maxRecDepth 20000 in
theorem ggX1_cut_X1_fill : GoodIn wsX1_cut wsX1_fill := goodIn_r _ [41, 3, 42, 43, 44, 5, 45, 46, 47, 13, 48, 49, 50, 51, 52, 53, 54, 55, 56, 57, 58, 15, 10, 11, 12, 14, 16, 17, 18, 19, 20, 21, 22, 23, 24, 25, 59, 60, 61, 62, 63, 64, 65, 66, 67, 68, 69, 70, 30, 31, 32, 33, 71, 72, 73, 74, 75, 76, 77, 78, 79, 80, 81, 82, 83, 84, 8, 9, 85, 86, 87, 88, 89, 90, 91, 92, 93, 94, 95, 96, 97, 98, 99, 100, 101] (by decide +kernel) (by decide +kernel)
set_option maxRecDepth 20000 in
theorem gX1_cut_X1_fill : GoodIn wsX1_cut (wsV RX1 125 RX1 yX1_fill wsX1_fill) := goodIn_app (goodIn_of _ (by decide +kernel)) ggX1_cut_X1_fill
theorem dX1_cut_0 : decode cX1_cut 0 = .ok (.aload_n 0, 1) := by decide +kernel
theorem dX1_cut_1 : decode cX1_cut 1 = .ok (.iconst 0, 1) := by decide +kernel
theorem dX1_cut_2 : decode cX1_cut 2 = .ok (.putfield 55, 3) := by decide +kernel
theorem dX1_cut_5 : decode cX1_cut 5 = .ok (.iload_n 1, 1) := by decide +kernel
theorem dX1_cut_6 : decode cX1_cut 6 = .ok (.iconst 1, 1) := by decide +kernel
theorem dX1_cut_7 : decode cX1_cut 7 = .ok (.if_icmp .lt 9, 3) := by decide +kernel
theorem dX1_cut_10 : decode cX1_cut 10 = .ok (.iload_n 1, 1) := by decide +kernel
theorem dX1_cut_11 : decode cX1_cut 11 = .ok (.bipush 40, 2) := by decide +kernel
theorem dX1_cut_13 : decode cX1_cut 13 = .ok (.if_icmp .le 5, 3) := by decide +kernel
theorem dX1_cut_16 : decode cX1_cut 16 = .ok (.iconst (-1), 1) := by decide +kernel
theorem dX1_cut_17 : decode cX1_cut 17 = .ok (.ireturn, 1) := by decide +kernel
theorem dX1_cut_18 : decode cX1_cut 18 = .ok (.aload_n 0, 1) := by decide +kernel
theorem dX1_cut_19 : decode cX1_cut 19 = .ok (.iconst 0, 1) := by decide +kernel
theorem dX1_cut_20 : decode cX1_cut 20 = .ok (.putfield 116, 3) := by decide +kernel
theorem dX1_cut_23 : decode cX1_cut 23 = .ok (.aload_n 0, 1) := by decide +kernel
theorem dX1_cut_24 : decode cX1_cut 24 = .ok (.invokevirtual 66, 3) := by decide +kernel
theorem dX1_cut_27 : decode cX1_cut 27 = .ok (.ifCond .ne 5, 3) := by decide +kernel
theorem dX1_cut_30 : decode cX1_cut 30 = .ok (.iconst 0, 1) := by decide +kernel
theorem dX1_cut_31 : decode cX1_cut 31 = .ok (.ireturn, 1) := by decide +kernel
theorem dX1_cut_32 : decode cX1_cut 32 = .ok (.aload_n 0, 1) := by decide +kernel
theorem dX1_cut_33 : decode cX1_cut 33 = .ok (.invokevirtual 119, 3) := by decide +kernel
theorem dX1_cut_36 : decode cX1_cut 36 = .ok (.istore_n 2, 1) := by decide +kernel
theorem dX1_cut_37 : decode cX1_cut 37 = .ok (.aload_n 0, 1) := by decide +kernel
theorem dX1_cut_38 : decode cX1_cut 38 = .ok (.iload_n 2, 1) := by decide +kernel
theorem dX1_cut_39 : decode cX1_cut 39 = .ok (.aload_n 0, 1) := by decide +kernel
theorem dX1_cut_40 : decode cX1_cut 40 = .ok (.invokevirtual 122, 3) := by decide +kernel
theorem dX1_cut_43 : decode cX1_cut 43 = .ok (.invokevirtual 125, 3) := by decide +kernel
theorem dX1_cut_46 : decode cX1_cut 46 = .ok (.aload_n 0, 1) := by decide +kernel
theorem dX1_cut_47 : decode cX1_cut 47 = .ok (.aload_n 0, 1) := by decide +kernel
theorem dX1_cut_48 : decode cX1_cut 48 = .ok (.getfield 13, 3) := by decide +kernel
theorem dX1_cut_51 : decode cX1_cut 51 = .ok (.iload_n 2, 1) := by decide +kernel
theorem dX1_cut_52 : decode cX1_cut 52 = .ok (.iaload, 1) := by decide +kernel
theorem dX1_cut_53 : decode cX1_cut 53 = .ok (.iload_n 1, 1) := by decide +kernel
theorem dX1_cut_54 : decode cX1_cut 54 = .ok (.if_icmp .ge 12, 3) := by decide +kernel
theorem dX1_cut_57 : decode cX1_cut 57 = .ok (.aload_n 0, 1) := by decide +kernel
theorem dX1_cut_58 : decode cX1_cut 58 = .ok (.getfield 13, 3) := by decide +kernel
theorem dX1_cut_61 : decode cX1_cut 61 = .ok (.iload_n 2, 1) := by decide +kernel
theorem dX1_cut_62 : decode cX1_cut 62 = .ok (.iaload, 1) := by decide +kernel
theorem dX1_cut_63 : decode cX1_cut 63 = .ok (.goto 4, 3) := by decide +kernel
theorem dX1_cut_66 : decode cX1_cut 66 = .ok (.iload_n 1, 1) := by decide +kernel
theorem dX1_cut_67 : decode cX1_cut 67 = .ok (.putfield 116, 3) := by decide +kernel
theorem dX1_cut_70 : decode cX1_cut 70 = .ok (.iconst 0, 1) := by decide +kernel
theorem dX1_cut_71 : decode cX1_cut 71 = .ok (.istore_n 3, 1) := by decide +kernel
theorem dX1_cut_72 : decode cX1_cut 72 = .ok (.iload_n 3, 1) := by decide +kernel
theorem dX1_cut_73 : decode cX1_cut 73 = .ok (.aload_n 0, 1) := by decide +kernel
theorem dX1_cut_74 : decode cX1_cut 74 = .ok (.getfield 116, 3) := by decide +kernel
theorem dX1_cut_77 : decode cX1_cut 77 = .ok (.if_icmp .ge 110, 3) := by decide +kernel
theorem dX1_cut_80 : decode cX1_cut 80 = .ok (.aload_n 0, 1) := by decide +kernel
theorem dX1_cut_81 : decode cX1_cut 81 = .ok (.getfield 27, 3) := by decide +kernel
theorem dX1_cut_84 : decode cX1_cut 84 = .ok (.iload_n 3, 1) := by decide +kernel
theorem dX1_cut_85 : decode cX1_cut 85 = .ok (.aload_n 0, 1) := by decide +kernel
theorem dX1_cut_86 : decode cX1_cut 86 = .ok (.getfield 17, 3) := by decide +kernel
theorem dX1_cut_89 : decode cX1_cut 89 = .ok (.bipush 40, 2) := by decide +kernel
theorem dX1_cut_91 : decode cX1_cut 91 = .ok (.iload_n 2, 1) := by decide +kernel
theorem dX1_cut_92 : decode cX1_cut 92 = .ok (.imul, 1) := by decide +kernel
theorem dX1_cut_93 : decode cX1_cut 93 = .ok (.iload_n 3, 1) := by decide +kernel
theorem dX1_cut_94 : decode cX1_cut 94 = .ok (.iadd, 1) := by decide +kernel
theorem dX1_cut_95 : decode cX1_cut 95 = .ok (.laload, 1) := by decide +kernel
theorem dX1_cut_96 : decode cX1_cut 96 = .ok (.lastore, 1) := by decide +kernel
theorem dX1_cut_97 : decode cX1_cut 97 = .ok (.aload_n 0, 1) := by decide +kernel
theorem dX1_cut_98 : decode cX1_cut 98 = .ok (.getfield 30, 3) := by decide +kernel
theorem dX1_cut_101 : decode cX1_cut 101 = .ok (.iload_n 3, 1) := by decide +kernel
theorem dX1_cut_102 : decode cX1_cut 102 = .ok (.iconst 0, 1) := by decide +kernel
theorem dX1_cut_103 : decode cX1_cut 103 = .ok (.iastore, 1) := by decide +kernel
theorem dX1_cut_104 : decode cX1_cut 104 = .ok (.iload_n 2, 1) := by decide +kernel
theorem dX1_cut_105 : decode cX1_cut 105 = .ok (.istore 4, 2) := by decide +kernel
theorem dX1_cut_107 : decode cX1_cut 107 = .ok (.iload_n 3, 1) := by decide +kernel
theorem dX1_cut_108 : decode cX1_cut 108 = .ok (.istore 5, 2) := by decide +kernel
theorem dX1_cut_110 : decode cX1_cut 110 = .ok (.iload 4, 2) := by decide +kernel
theorem dX1_cut_112 : decode cX1_cut 112 = .ok (.iconst (-1), 1) := by decide +kernel
theorem dX1_cut_113 : decode cX1_cut 113 = .ok (.if_icmp .eq 68, 3) := by decide +kernel
theorem dX1_cut_116 : decode cX1_cut 116 = .ok (.aload_n 0, 1) := by decide +kernel
theorem dX1_cut_117 : decode cX1_cut 117 = .ok (.getfield 33, 3) := by decide +kernel
theorem dX1_cut_120 : decode cX1_cut 120 = .ok (.bipush 62, 2) := by decide +kernel
theorem dX1_cut_122 : decode cX1_cut 122 = .ok (.iload_n 3, 1) := by decide +kernel
theorem dX1_cut_123 : decode cX1_cut 123 = .ok (.imul, 1) := by decide +kernel
theorem dX1_cut_124 : decode cX1_cut 124 = .ok (.aload_n 0, 1) := by decide +kernel
theorem dX1_cut_125 : decode cX1_cut 125 = .ok (.getfield 30, 3) := by decide +kernel
theorem dX1_cut_128 : decode cX1_cut 128 = .ok (.iload_n 3, 1) := by decide +kernel
theorem dX1_cut_129 : decode cX1_cut 129 = .ok (.iaload, 1) := by decide +kernel
theorem dX1_cut_130 : decode cX1_cut 130 = .ok (.iadd, 1) := by decide +kernel
theorem dX1_cut_131 : decode cX1_cut 131 = .ok (.iload 4, 2) := by decide +kernel
theorem dX1_cut_133 : decode cX1_cut 133 = .ok (.iastore, 1) := by decide +kernel
theorem dX1_cut_134 : decode cX1_cut 134 = .ok (.aload_n 0, 1) := by decide +kernel
theorem dX1_cut_135 : decode cX1_cut 135 = .ok (.getfield 30, 3) := by decide +kernel
theorem dX1_cut_138 : decode cX1_cut 138 = .ok (.iload_n 3, 1) := by decide +kernel
theorem dX1_cut_139 : decode cX1_cut 139 = .ok (.dup2, 1) := by decide +kernel
theorem dX1_cut_140 : decode cX1_cut 140 = .ok (.iaload, 1) := by decide +kernel
theorem dX1_cut_141 : decode cX1_cut 141 = .ok (.iconst 1, 1) := by decide +kernel
theorem dX1_cut_142 : decode cX1_cut 142 = .ok (.iadd, 1) := by decide +kernel
theorem dX1_cut_143 : decode cX1_cut 143 = .ok (.iastore, 1) := by decide +kernel
theorem dX1_cut_144 : decode cX1_cut 144 = .ok (.aload_n 0, 1) := by decide +kernel
theorem dX1_cut_145 : decode cX1_cut 145 = .ok (.getfield 21, 3) := by decide +kernel
theorem dX1_cut_148 : decode cX1_cut 148 = .ok (.bipush 40, 2) := by decide +kernel
theorem dX1_cut_150 : decode cX1_cut 150 = .ok (.iload 4, 2) := by decide +kernel
theorem dX1_cut_152 : decode cX1_cut 152 = .ok (.imul, 1) := by decide +kernel
theorem dX1_cut_153 : decode cX1_cut 153 = .ok (.iload 5, 2) := by decide +kernel
theorem dX1_cut_155 : decode cX1_cut 155 = .ok (.iadd, 1) := by decide +kernel
theorem dX1_cut_156 : decode cX1_cut 156 = .ok (.iaload, 1) := by decide +kernel
theorem dX1_cut_157 : decode cX1_cut 157 = .ok (.istore 6, 2) := by decide +kernel
theorem dX1_cut_159 : decode cX1_cut 159 = .ok (.aload_n 0, 1) := by decide +kernel
theorem dX1_cut_160 : decode cX1_cut 160 = .ok (.getfield 24, 3) := by decide +kernel
theorem dX1_cut_163 : decode cX1_cut 163 = .ok (.bipush 40, 2) := by decide +kernel
theorem dX1_cut_165 : decode cX1_cut 165 = .ok (.iload 4, 2) := by decide +kernel
theorem dX1_cut_167 : decode cX1_cut 167 = .ok (.imul, 1) := by decide +kernel
theorem dX1_cut_168 : decode cX1_cut 168 = .ok (.iload 5, 2) := by decide +kernel
theorem dX1_cut_170 : decode cX1_cut 170 = .ok (.iadd, 1) := by decide +kernel
theorem dX1_cut_171 : decode cX1_cut 171 = .ok (.iaload, 1) := by decide +kernel
theorem dX1_cut_172 : decode cX1_cut 172 = .ok (.istore 5, 2) := by decide +kernel
theorem dX1_cut_174 : decode cX1_cut 174 = .ok (.iload 6, 2) := by decide +kernel
theorem dX1_cut_176 : decode cX1_cut 176 = .ok (.istore 4, 2) := by decide +kernel
theorem dX1_cut_178 : decode cX1_cut 178 = .ok (.goto (-68), 3) := by decide +kernel
theorem dX1_cut_181 : decode cX1_cut 181 = .ok (.iinc 3 1, 3) := by decide +kernel
theorem dX1_cut_184 : decode cX1_cut 184 = .ok (.goto (-112), 3) := by decide +kernel
theorem dX1_cut_187 : decode cX1_cut 187 = .ok (.aload_n 0, 1) := by decide +kernel
theorem dX1_cut_188 : decode cX1_cut 188 = .ok (.getfield 116, 3) := by decide +kernel
theorem dX1_cut_191 : decode cX1_cut 191 = .ok (.ireturn, 1) := by decide +kernel
theorem dX1_way_0 : decode cX1_way 0 = .ok (.aload_n 0, 1) := by decide +kernel
theorem dX1_way_1 : decode cX1_way 1 = .ok (.iconst 0, 1) := by decide +kernel
theorem dX1_way_2 : decode cX1_way 2 = .ok (.putfield 55, 3) := by decide +kernel
theorem dX1_way_5 : decode cX1_way 5 = .ok (.iload_n 1, 1) := by decide +kernel
theorem dX1_way_6 : decode cX1_way 6 = .ok (.ifCond .lt 25, 3) := by decide +kernel
theorem dX1_way_9 : decode cX1_way 9 = .ok (.iload_n 1, 1) := by decide +kernel
theorem dX1_way_10 : decode cX1_way 10 = .ok (.aload_n 0, 1) := by decide +kernel
theorem dX1_way_11 : decode cX1_way 11 = .ok (.getfield 116, 3) := by decide +kernel
theorem dX1_way_14 : decode cX1_way 14 = .ok (.if_icmp .ge 17, 3) := by decide +kernel
theorem dX1_way_17 : decode cX1_way 17 = .ok (.iload_n 2, 1) := by decide +kernel
theorem dX1_way_18 : decode cX1_way 18 = .ok (.ifCond .lt 13, 3) := by decide +kernel
theorem dX1_way_21 : decode cX1_way 21 = .ok (.iload_n 2, 1) := by decide +kernel
theorem dX1_way_22 : decode cX1_way 22 = .ok (.aload_n 0, 1) := by decide +kernel
theorem dX1_way_23 : decode cX1_way 23 = .ok (.getfield 30, 3) := by decide +kernel
theorem dX1_way_26 : decode cX1_way 26 = .ok (.iload_n 1, 1) := by decide +kernel
theorem dX1_way_27 : decode cX1_way 27 = .ok (.iaload, 1) := by decide +kernel
theorem dX1_way_28 : decode cX1_way 28 = .ok (.if_icmp .lt 7, 3) := by decide +kernel
theorem dX1_way_31 : decode cX1_way 31 = .ok (.iconst (-1), 1) := by decide +kernel
theorem dX1_way_32 : decode cX1_way 32 = .ok (.goto 14, 3) := by decide +kernel
theorem dX1_way_35 : decode cX1_way 35 = .ok (.aload_n 0, 1) := by decide +kernel
theorem dX1_way_36 : decode cX1_way 36 = .ok (.getfield 33, 3) := by decide +kernel
theorem dX1_way_39 : decode cX1_way 39 = .ok (.bipush 62, 2) := by decide +kernel
theorem dX1_way_41 : decode cX1_way 41 = .ok (.iload_n 1, 1) := by decide +kernel
theorem dX1_way_42 : decode cX1_way 42 = .ok (.imul, 1) := by decide +kernel
theorem dX1_way_43 : decode cX1_way 43 = .ok (.iload_n 2, 1) := by decide +kernel
theorem dX1_way_44 : decode cX1_way 44 = .ok (.iadd, 1) := by decide +kernel
theorem dX1_way_45 : decode cX1_way 45 = .ok (.iaload, 1) := by decide +kernel
theorem dX1_way_46 : decode cX1_way 46 = .ok (.ireturn, 1) := by decide +kernel
theorem dX1_cost_0 : decode cX1_cost 0 = .ok (.aload_n 0, 1) := by decide +kernel
theorem dX1_cost_1 : decode cX1_cost 1 = .ok (.iconst 0, 1) := by decide +kernel
theorem dX1_cost_2 : decode cX1_cost 2 = .ok (.putfield 55, 3) := by decide +kernel
theorem dX1_cost_5 : decode cX1_cost 5 = .ok (.iload_n 1, 1) := by decide +kernel
theorem dX1_cost_6 : decode cX1_cost 6 = .ok (.ifCond .lt 11, 3) := by decide +kernel
theorem dX1_cost_9 : decode cX1_cost 9 = .ok (.iload_n 1, 1) := by decide +kernel
theorem dX1_cost_10 : decode cX1_cost 10 = .ok (.aload_n 0, 1) := by decide +kernel
theorem dX1_cost_11 : decode cX1_cost 11 = .ok (.getfield 116, 3) := by decide +kernel
theorem dX1_cost_14 : decode cX1_cost 14 = .ok (.if_icmp .lt 9, 3) := by decide +kernel
theorem dX1_cost_17 : decode cX1_cost 17 = .ok (.ldc2_w 83, 3) := by decide +kernel
theorem dX1_cost_20 : decode cX1_cost 20 = .ok (.goto 9, 3) := by decide +kernel
theorem dX1_cost_23 : decode cX1_cost 23 = .ok (.aload_n 0, 1) := by decide +kernel
theorem dX1_cost_24 : decode cX1_cost 24 = .ok (.getfield 27, 3) := by decide +kernel
theorem dX1_cost_27 : decode cX1_cost 27 = .ok (.iload_n 1, 1) := by decide +kernel
theorem dX1_cost_28 : decode cX1_cost 28 = .ok (.laload, 1) := by decide +kernel
theorem dX1_cost_29 : decode cX1_cost 29 = .ok (.lreturn, 1) := by decide +kernel
theorem dX1_signs_0 : decode cX1_signs 0 = .ok (.aload_n 0, 1) := by decide +kernel
theorem dX1_signs_1 : decode cX1_signs 1 = .ok (.iconst 0, 1) := by decide +kernel
theorem dX1_signs_2 : decode cX1_signs 2 = .ok (.putfield 55, 3) := by decide +kernel
theorem dX1_signs_5 : decode cX1_signs 5 = .ok (.iload_n 1, 1) := by decide +kernel
theorem dX1_signs_6 : decode cX1_signs 6 = .ok (.ifCond .lt 11, 3) := by decide +kernel
theorem dX1_signs_9 : decode cX1_signs 9 = .ok (.iload_n 1, 1) := by decide +kernel
theorem dX1_signs_10 : decode cX1_signs 10 = .ok (.aload_n 0, 1) := by decide +kernel
theorem dX1_signs_11 : decode cX1_signs 11 = .ok (.getfield 116, 3) := by decide +kernel
theorem dX1_signs_14 : decode cX1_signs 14 = .ok (.if_icmp .lt 7, 3) := by decide +kernel
theorem dX1_signs_17 : decode cX1_signs 17 = .ok (.iconst (-1), 1) := by decide +kernel
theorem dX1_signs_18 : decode cX1_signs 18 = .ok (.goto 11, 3) := by decide +kernel
theorem dX1_signs_21 : decode cX1_signs 21 = .ok (.aload_n 0, 1) := by decide +kernel
theorem dX1_signs_22 : decode cX1_signs 22 = .ok (.getfield 30, 3) := by decide +kernel
theorem dX1_signs_25 : decode cX1_signs 25 = .ok (.iload_n 1, 1) := by decide +kernel
theorem dX1_signs_26 : decode cX1_signs 26 = .ok (.iaload, 1) := by decide +kernel
theorem dX1_signs_27 : decode cX1_signs 27 = .ok (.iconst 1, 1) := by decide +kernel
theorem dX1_signs_28 : decode cX1_signs 28 = .ok (.isub, 1) := by decide +kernel
theorem dX1_signs_29 : decode cX1_signs 29 = .ok (.ireturn, 1) := by decide +kernel
set_option maxRecDepth 20000 in
theorem ggX1_base_X1_mostInRow : GoodIn wsX1_base wsX1_mostInRow := goodIn_r _ [6, 7, 8, 9, 10, 5, 11, 12, 13, 14, 15, 16, 17, 50, 51, 52, 53, 54, 55, 56, 57, 58, 59, 60, 61, 62, 63, 64, 65, 66] (by decide +kernel) (by decide +kernel)
set_option maxRecDepth 20000 in
theorem gX1_base_X1_mostInRow : GoodIn wsX1_base (wsV RX1 66 RX1 yX1_mostInRow wsX1_mostInRow) := goodIn_app (goodIn_of _ (by decide +kernel)) ggX1_base_X1_mostInRow
set_option maxRecDepth 20000 in
theorem ggX1_base_X1_middle : GoodIn wsX1_base wsX1_middle := goodIn_r _ [21, 2, 3, 4, 5, 6, 7, 8, 9, 10, 11, 12, 13, 14, 15, 16, 17, 50, 51, 52, 53, 54, 55, 56, 57, 58, 59, 60, 61, 62, 63, 64, 65, 66] (by decide +kernel) (by decide +kernel)
set_option maxRecDepth 20000 in
theorem gX1_base_X1_middle : GoodIn wsX1_base (wsV RX1 77 RX1 yX1_middle wsX1_middle) := goodIn_app (goodIn_of _ (by decide +kernel)) ggX1_base_X1_middle
set_option maxRecDepth 20000 in
theorem ggX1_base_X1_baseline : GoodIn wsX1_base wsX1_baseline := goodIn_r _ [25, 7, 2, 3, 4, 5, 6, 8, 9, 10, 11, 12, 13, 14, 15, 16, 17, 50, 51, 52, 53, 54, 55, 56, 57, 58, 59, 60, 61, 62, 63, 64, 65, 66] (by decide +kernel) (by decide +kernel)
set_option maxRecDepth 20000 in
theorem gX1_base_X1_baseline : GoodIn wsX1_base (wsV RX1 74 RX1 yX1_baseline wsX1_baseline) := goodIn_app (goodIn_of _ (by decide +kernel)) ggX1_base_X1_baseline
set_option maxRecDepth 20000 in
theorem ggX1_base_X1_due : GoodIn wsX1_base wsX1_due := goodIn_r _ [29, 22, 23, 24, 5, 25, 7, 2, 3, 4, 6, 8, 9, 10, 11, 12, 13, 14, 15, 16, 17, 18, 19, 20, 21, 50, 51, 52, 53, 54, 55, 56, 57, 58, 59, 60, 61, 62, 63, 64, 65, 66] (by decide +kernel) (by decide +kernel)
set_option maxRecDepth 20000 in
theorem gX1_base_X1_due : GoodIn wsX1_base (wsV RX1 96 RX1 yX1_due wsX1_due) := goodIn_app (goodIn_of _ (by decide +kernel)) ggX1_base_X1_due
set_option maxRecDepth 20000 in
theorem ggX1_base_X1_from : GoodIn wsX1_base wsX1_from := goodIn_r _ [33, 34, 35, 36, 5, 37, 7, 12, 13, 14, 15, 16, 17, 50, 51, 52, 53, 54, 55, 56, 57, 58, 59, 60, 61, 62, 63, 64, 65, 66] (by decide +kernel) (by decide +kernel)
set_option maxRecDepth 20000 in
theorem gX1_base_X1_from : GoodIn wsX1_base (wsV RX1 119 RX1 yX1_from wsX1_from) := goodIn_app (goodIn_of _ (by decide +kernel)) ggX1_base_X1_from
set_option maxRecDepth 20000 in
theorem ggX1_base_X1_until : GoodIn wsX1_base wsX1_until := goodIn_r _ [41, 12, 34, 35, 36, 5, 37, 7, 13, 14, 15, 16, 17, 50, 51, 52, 53, 54, 55, 56, 57, 58, 59, 60, 61, 62, 63, 64, 65, 66] (by decide +kernel) (by decide +kernel)
set_option maxRecDepth 20000 in
theorem gX1_base_X1_until : GoodIn wsX1_base (wsV RX1 122 RX1 yX1_until wsX1_until) := goodIn_app (goodIn_of _ (by decide +kernel)) ggX1_base_X1_until
set_option maxRecDepth 20000 in
theorem ggX1_base_X1_mayCut : GoodIn wsX1_base wsX1_mayCut := goodIn_r _ [45, 46, 47, 48, 5, 49, 7, 13, 14, 15, 16, 17, 34, 35, 36, 37, 12, 50, 51, 52, 53, 54, 55, 56, 57, 58, 59, 60, 61, 62, 63, 64, 65, 66] (by decide +kernel) (by decide +kernel)
set_option maxRecDepth 20000 in
theorem gX1_base_X1_mayCut : GoodIn wsX1_base (wsV RX1 99 RX1 yX1_mayCut wsX1_mayCut) := goodIn_app (goodIn_of _ (by decide +kernel)) ggX1_base_X1_mayCut
theorem dX1_base_0 : decode cX1_base 0 = .ok (.aload_n 0, 1) := by decide +kernel
theorem dX1_base_1 : decode cX1_base 1 = .ok (.iconst 0, 1) := by decide +kernel
theorem dX1_base_2 : decode cX1_base 2 = .ok (.putfield 55, 3) := by decide +kernel
theorem dX1_base_5 : decode cX1_base 5 = .ok (.aload_n 0, 1) := by decide +kernel
theorem dX1_base_6 : decode cX1_base 6 = .ok (.invokevirtual 66, 3) := by decide +kernel
theorem dX1_base_9 : decode cX1_base 9 = .ok (.ifCond .eq 12, 3) := by decide +kernel
theorem dX1_base_12 : decode cX1_base 12 = .ok (.iload_n 1, 1) := by decide +kernel
theorem dX1_base_13 : decode cX1_base 13 = .ok (.ifCond .lt 8, 3) := by decide +kernel
theorem dX1_base_16 : decode cX1_base 16 = .ok (.iload_n 1, 1) := by decide +kernel
theorem dX1_base_17 : decode cX1_base 17 = .ok (.iconst 5, 1) := by decide +kernel
theorem dX1_base_18 : decode cX1_base 18 = .ok (.if_icmp .le 5, 3) := by decide +kernel
theorem dX1_base_21 : decode cX1_base 21 = .ok (.iconst (-1), 1) := by decide +kernel
theorem dX1_base_22 : decode cX1_base 22 = .ok (.ireturn, 1) := by decide +kernel
theorem dX1_base_23 : decode cX1_base 23 = .ok (.iload_n 1, 1) := by decide +kernel
theorem dX1_base_24 : decode cX1_base 24 = .ok (.iconst 5, 1) := by decide +kernel
theorem dX1_base_25 : decode cX1_base 25 = .ok (.if_icmp .ge 55, 3) := by decide +kernel
theorem dX1_base_28 : decode cX1_base 28 = .ok (.iload_n 1, 1) := by decide +kernel
theorem dX1_base_29 : decode cX1_base 29 = .ok (.ifCond .ne 10, 3) := by decide +kernel
theorem dX1_base_32 : decode cX1_base 32 = .ok (.aload_n 0, 1) := by decide +kernel
theorem dX1_base_33 : decode cX1_base 33 = .ok (.invokevirtual 77, 3) := by decide +kernel
theorem dX1_base_36 : decode cX1_base 36 = .ok (.goto 43, 3) := by decide +kernel
theorem dX1_base_39 : decode cX1_base 39 = .ok (.iload_n 1, 1) := by decide +kernel
theorem dX1_base_40 : decode cX1_base 40 = .ok (.iconst 1, 1) := by decide +kernel
theorem dX1_base_41 : decode cX1_base 41 = .ok (.if_icmp .ne 10, 3) := by decide +kernel
theorem dX1_base_44 : decode cX1_base 44 = .ok (.aload_n 0, 1) := by decide +kernel
theorem dX1_base_45 : decode cX1_base 45 = .ok (.invokevirtual 74, 3) := by decide +kernel
theorem dX1_base_48 : decode cX1_base 48 = .ok (.goto 31, 3) := by decide +kernel
theorem dX1_base_51 : decode cX1_base 51 = .ok (.iload_n 1, 1) := by decide +kernel
theorem dX1_base_52 : decode cX1_base 52 = .ok (.iconst 2, 1) := by decide +kernel
theorem dX1_base_53 : decode cX1_base 53 = .ok (.if_icmp .ne 10, 3) := by decide +kernel
theorem dX1_base_56 : decode cX1_base 56 = .ok (.aload_n 0, 1) := by decide +kernel
theorem dX1_base_57 : decode cX1_base 57 = .ok (.invokevirtual 96, 3) := by decide +kernel
theorem dX1_base_60 : decode cX1_base 60 = .ok (.goto 19, 3) := by decide +kernel
theorem dX1_base_63 : decode cX1_base 63 = .ok (.iload_n 1, 1) := by decide +kernel
theorem dX1_base_64 : decode cX1_base 64 = .ok (.iconst 3, 1) := by decide +kernel
theorem dX1_base_65 : decode cX1_base 65 = .ok (.if_icmp .ne 10, 3) := by decide +kernel
theorem dX1_base_68 : decode cX1_base 68 = .ok (.aload_n 0, 1) := by decide +kernel
theorem dX1_base_69 : decode cX1_base 69 = .ok (.invokevirtual 119, 3) := by decide +kernel
theorem dX1_base_72 : decode cX1_base 72 = .ok (.goto 7, 3) := by decide +kernel
theorem dX1_base_75 : decode cX1_base 75 = .ok (.aload_n 0, 1) := by decide +kernel
theorem dX1_base_76 : decode cX1_base 76 = .ok (.invokevirtual 122, 3) := by decide +kernel
theorem dX1_base_79 : decode cX1_base 79 = .ok (.ireturn, 1) := by decide +kernel
theorem dX1_base_80 : decode cX1_base 80 = .ok (.iconst 0, 1) := by decide +kernel
theorem dX1_base_81 : decode cX1_base 81 = .ok (.istore_n 2, 1) := by decide +kernel
theorem dX1_base_82 : decode cX1_base 82 = .ok (.aload_n 0, 1) := by decide +kernel
theorem dX1_base_83 : decode cX1_base 83 = .ok (.invokevirtual 119, 3) := by decide +kernel
theorem dX1_base_86 : decode cX1_base 86 = .ok (.iconst 1, 1) := by decide +kernel
theorem dX1_base_87 : decode cX1_base 87 = .ok (.iadd, 1) := by decide +kernel
theorem dX1_base_88 : decode cX1_base 88 = .ok (.istore_n 3, 1) := by decide +kernel
theorem dX1_base_89 : decode cX1_base 89 = .ok (.iload_n 3, 1) := by decide +kernel
theorem dX1_base_90 : decode cX1_base 90 = .ok (.aload_n 0, 1) := by decide +kernel
theorem dX1_base_91 : decode cX1_base 91 = .ok (.invokevirtual 122, 3) := by decide +kernel
theorem dX1_base_94 : decode cX1_base 94 = .ok (.if_icmp .ge 25, 3) := by decide +kernel
theorem dX1_base_97 : decode cX1_base 97 = .ok (.aload_n 0, 1) := by decide +kernel
theorem dX1_base_98 : decode cX1_base 98 = .ok (.iload_n 3, 1) := by decide +kernel
theorem dX1_base_99 : decode cX1_base 99 = .ok (.invokevirtual 99, 3) := by decide +kernel
theorem dX1_base_102 : decode cX1_base 102 = .ok (.ifCond .eq 9, 3) := by decide +kernel
theorem dX1_base_105 : decode cX1_base 105 = .ok (.iload_n 2, 1) := by decide +kernel
theorem dX1_base_106 : decode cX1_base 106 = .ok (.iconst 1, 1) := by decide +kernel
theorem dX1_base_107 : decode cX1_base 107 = .ok (.iadd, 1) := by decide +kernel
theorem dX1_base_108 : decode cX1_base 108 = .ok (.goto 4, 3) := by decide +kernel
theorem dX1_base_111 : decode cX1_base 111 = .ok (.iload_n 2, 1) := by decide +kernel
theorem dX1_base_112 : decode cX1_base 112 = .ok (.istore_n 2, 1) := by decide +kernel
theorem dX1_base_113 : decode cX1_base 113 = .ok (.iinc 3 1, 3) := by decide +kernel
theorem dX1_base_116 : decode cX1_base 116 = .ok (.goto (-27), 3) := by decide +kernel
theorem dX1_base_119 : decode cX1_base 119 = .ok (.iload_n 2, 1) := by decide +kernel
theorem dX1_base_120 : decode cX1_base 120 = .ok (.ireturn, 1) := by decide +kernel
set_option maxRecDepth 20000 in
theorem ggX1_columns_X1_isDark : GoodIn wsX1_columns wsX1_isDark := goodIn_r _ [7, 8, 9, 10, 11, 12, 13, 14, 15, 16, 17, 18, 19, 20, 21, 22, 23, 24, 25] (by decide +kernel) (by decide +kernel)
set_option maxRecDepth 20000 in
theorem gX1_columns_X1_isDark : GoodIn wsX1_columns (wsV RX1 58 RX1 yX1_isDark wsX1_isDark) := goodIn_app (goodIn_of _ (by decide +kernel)) ggX1_columns_X1_isDark
theorem dX1_columns_0 : decode cX1_columns 0 = .ok (.iconst 0, 1) := by decide +kernel
theorem dX1_columns_1 : decode cX1_columns 1 = .ok (.istore_n 2, 1) := by decide +kernel
theorem dX1_columns_2 : decode cX1_columns 2 = .ok (.bipush (-60), 2) := by decide +kernel
theorem dX1_columns_4 : decode cX1_columns 4 = .ok (.istore_n 3, 1) := by decide +kernel
theorem dX1_columns_5 : decode cX1_columns 5 = .ok (.iload_n 3, 1) := by decide +kernel
theorem dX1_columns_6 : decode cX1_columns 6 = .ok (.bipush 120, 2) := by decide +kernel
theorem dX1_columns_8 : decode cX1_columns 8 = .ok (.if_icmp .ge 123, 3) := by decide +kernel
theorem dX1_columns_11 : decode cX1_columns 11 = .ok (.iconst 0, 1) := by decide +kernel
theorem dX1_columns_12 : decode cX1_columns 12 = .ok (.istore 4, 2) := by decide +kernel
theorem dX1_columns_14 : decode cX1_columns 14 = .ok (.iconst 0, 1) := by decide +kernel
theorem dX1_columns_15 : decode cX1_columns 15 = .ok (.istore 5, 2) := by decide +kernel
theorem dX1_columns_17 : decode cX1_columns 17 = .ok (.iload 5, 2) := by decide +kernel
theorem dX1_columns_19 : decode cX1_columns 19 = .ok (.aload_n 0, 1) := by decide +kernel
theorem dX1_columns_20 : decode cX1_columns 20 = .ok (.getfield 52, 3) := by decide +kernel
theorem dX1_columns_23 : decode cX1_columns 23 = .ok (.if_icmp .ge 89, 3) := by decide +kernel
theorem dX1_columns_26 : decode cX1_columns 26 = .ok (.iload 4, 2) := by decide +kernel
theorem dX1_columns_28 : decode cX1_columns 28 = .ok (.ifCond .ne 84, 3) := by decide +kernel
theorem dX1_columns_31 : decode cX1_columns 31 = .ok (.iload_n 1, 1) := by decide +kernel
theorem dX1_columns_32 : decode cX1_columns 32 = .ok (.aload_n 0, 1) := by decide +kernel
theorem dX1_columns_33 : decode cX1_columns 33 = .ok (.getfield 52, 3) := by decide +kernel
theorem dX1_columns_36 : decode cX1_columns 36 = .ok (.iconst 1, 1) := by decide +kernel
theorem dX1_columns_37 : decode cX1_columns 37 = .ok (.isub, 1) := by decide +kernel
theorem dX1_columns_38 : decode cX1_columns 38 = .ok (.iload 5, 2) := by decide +kernel
theorem dX1_columns_40 : decode cX1_columns 40 = .ok (.isub, 1) := by decide +kernel
theorem dX1_columns_41 : decode cX1_columns 41 = .ok (.imul, 1) := by decide +kernel
theorem dX1_columns_42 : decode cX1_columns 42 = .ok (.istore 6, 2) := by decide +kernel
theorem dX1_columns_44 : decode cX1_columns 44 = .ok (.iload 6, 2) := by decide +kernel
theorem dX1_columns_46 : decode cX1_columns 46 = .ok (.ifCond .lt 11, 3) := by decide +kernel
theorem dX1_columns_49 : decode cX1_columns 49 = .ok (.iload 6, 2) := by decide +kernel
theorem dX1_columns_51 : decode cX1_columns 51 = .ok (.bipush 8, 2) := by decide +kernel
theorem dX1_columns_53 : decode cX1_columns 53 = .ok (.idiv, 1) := by decide +kernel
theorem dX1_columns_54 : decode cX1_columns 54 = .ok (.goto 12, 3) := by decide +kernel
theorem dX1_columns_57 : decode cX1_columns 57 = .ok (.bipush 7, 2) := by decide +kernel
theorem dX1_columns_59 : decode cX1_columns 59 = .ok (.iload 6, 2) := by decide +kernel
theorem dX1_columns_61 : decode cX1_columns 61 = .ok (.isub, 1) := by decide +kernel
theorem dX1_columns_62 : decode cX1_columns 62 = .ok (.bipush 8, 2) := by decide +kernel
theorem dX1_columns_64 : decode cX1_columns 64 = .ok (.idiv, 1) := by decide +kernel
theorem dX1_columns_65 : decode cX1_columns 65 = .ok (.ineg, 1) := by decide +kernel
theorem dX1_columns_66 : decode cX1_columns 66 = .ok (.istore 7, 2) := by decide +kernel
theorem dX1_columns_68 : decode cX1_columns 68 = .ok (.iload_n 3, 1) := by decide +kernel
theorem dX1_columns_69 : decode cX1_columns 69 = .ok (.iload 7, 2) := by decide +kernel
theorem dX1_columns_71 : decode cX1_columns 71 = .ok (.isub, 1) := by decide +kernel
theorem dX1_columns_72 : decode cX1_columns 72 = .ok (.ifCond .lt 31, 3) := by decide +kernel
theorem dX1_columns_75 : decode cX1_columns 75 = .ok (.iload_n 3, 1) := by decide +kernel
theorem dX1_columns_76 : decode cX1_columns 76 = .ok (.iload 7, 2) := by decide +kernel
theorem dX1_columns_78 : decode cX1_columns 78 = .ok (.isub, 1) := by decide +kernel
theorem dX1_columns_79 : decode cX1_columns 79 = .ok (.aload_n 0, 1) := by decide +kernel
theorem dX1_columns_80 : decode cX1_columns 80 = .ok (.getfield 48, 3) := by decide +kernel
theorem dX1_columns_83 : decode cX1_columns 83 = .ok (.if_icmp .ge 20, 3) := by decide +kernel
theorem dX1_columns_86 : decode cX1_columns 86 = .ok (.aload_n 0, 1) := by decide +kernel
theorem dX1_columns_87 : decode cX1_columns 87 = .ok (.iload_n 3, 1) := by decide +kernel
theorem dX1_columns_88 : decode cX1_columns 88 = .ok (.iload 7, 2) := by decide +kernel
theorem dX1_columns_90 : decode cX1_columns 90 = .ok (.isub, 1) := by decide +kernel
theorem dX1_columns_91 : decode cX1_columns 91 = .ok (.iload 5, 2) := by decide +kernel
theorem dX1_columns_93 : decode cX1_columns 93 = .ok (.invokevirtual 58, 3) := by decide +kernel
theorem dX1_columns_96 : decode cX1_columns 96 = .ok (.ifCond .eq 7, 3) := by decide +kernel
