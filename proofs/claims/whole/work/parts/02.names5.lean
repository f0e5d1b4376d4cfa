theorem dX1_columns_99 : decode cX1_columns 99 = .ok (.iconst 1, 1) := by decide +kernel
theorem dX1_columns_100 : decode cX1_columns 100 = .ok (.goto 4, 3) := by decide +kernel
theorem dX1_columns_103 : decode cX1_columns 103 = .ok (.iconst 0, 1) := by decide +kernel
theorem dX1_columns_104 : decode cX1_columns 104 = .ok (.istore 4, 2) := by decide +kernel
theorem dX1_columns_106 : decode cX1_columns 106 = .ok (.iinc 5 1, 3) := by decide +kernel
theorem dX1_columns_109 : decode cX1_columns 109 = .ok (.goto (-92), 3) := by decide +kernel
theorem dX1_columns_112 : decode cX1_columns 112 = .ok (.iload 4, 2) := by decide +kernel
theorem dX1_columns_114 : decode cX1_columns 114 = .ok (.ifCond .eq 9, 3) := by decide +kernel
theorem dX1_columns_117 : decode cX1_columns 117 = .ok (.iload_n 2, 1) := by decide +kernel
theorem dX1_columns_118 : decode cX1_columns 118 = .ok (.iconst 1, 1) := by decide +kernel
theorem dX1_columns_119 : decode cX1_columns 119 = .ok (.iadd, 1) := by decide +kernel
theorem dX1_columns_120 : decode cX1_columns 120 = .ok (.goto 4, 3) := by decide +kernel
theorem dX1_columns_123 : decode cX1_columns 123 = .ok (.iload_n 2, 1) := by decide +kernel
theorem dX1_columns_124 : decode cX1_columns 124 = .ok (.istore_n 2, 1) := by decide +kernel
theorem dX1_columns_125 : decode cX1_columns 125 = .ok (.iinc 3 1, 3) := by decide +kernel
theorem dX1_columns_128 : decode cX1_columns 128 = .ok (.goto (-123), 3) := by decide +kernel
theorem dX1_columns_131 : decode cX1_columns 131 = .ok (.iload_n 2, 1) := by decide +kernel
theorem dX1_columns_132 : decode cX1_columns 132 = .ok (.ireturn, 1) := by decide +kernel
set_option maxRecDepth 20000 in
theorem ggX1_slant_X1_columns : GoodIn wsX1_slant wsX1_columns := goodIn_r _ [6, 7, 8, 9, 10, 11, 5, 12, 13, 14, 15, 16, 17, 18, 19, 20, 21, 22, 23, 24, 25, 26, 27, 28, 29, 30] (by decide +kernel) (by decide +kernel)
set_option maxRecDepth 20000 in
theorem gX1_slant_X1_columns : GoodIn wsX1_slant (wsV RX1 128 RX1 yX1_columns wsX1_columns) := goodIn_app (goodIn_of _ (by decide +kernel)) ggX1_slant_X1_columns
theorem dX1_slant_0 : decode cX1_slant 0 = .ok (.aload_n 0, 1) := by decide +kernel
theorem dX1_slant_1 : decode cX1_slant 1 = .ok (.iconst 0, 1) := by decide +kernel
theorem dX1_slant_2 : decode cX1_slant 2 = .ok (.putfield 55, 3) := by decide +kernel
theorem dX1_slant_5 : decode cX1_slant 5 = .ok (.iconst 0, 1) := by decide +kernel
theorem dX1_slant_6 : decode cX1_slant 6 = .ok (.istore_n 1, 1) := by decide +kernel
theorem dX1_slant_7 : decode cX1_slant 7 = .ok (.aload_n 0, 1) := by decide +kernel
theorem dX1_slant_8 : decode cX1_slant 8 = .ok (.iconst 0, 1) := by decide +kernel
theorem dX1_slant_9 : decode cX1_slant 9 = .ok (.invokevirtual 128, 3) := by decide +kernel
theorem dX1_slant_12 : decode cX1_slant 12 = .ok (.istore_n 2, 1) := by decide +kernel
theorem dX1_slant_13 : decode cX1_slant 13 = .ok (.iconst 1, 1) := by decide +kernel
theorem dX1_slant_14 : decode cX1_slant 14 = .ok (.istore_n 3, 1) := by decide +kernel
theorem dX1_slant_15 : decode cX1_slant 15 = .ok (.iload_n 3, 1) := by decide +kernel
theorem dX1_slant_16 : decode cX1_slant 16 = .ok (.bipush 7, 2) := by decide +kernel
theorem dX1_slant_18 : decode cX1_slant 18 = .ok (.if_icmp .ge 75, 3) := by decide +kernel
theorem dX1_slant_21 : decode cX1_slant 21 = .ok (.aload_n 0, 1) := by decide +kernel
theorem dX1_slant_22 : decode cX1_slant 22 = .ok (.iload_n 3, 1) := by decide +kernel
theorem dX1_slant_23 : decode cX1_slant 23 = .ok (.ineg, 1) := by decide +kernel
theorem dX1_slant_24 : decode cX1_slant 24 = .ok (.invokevirtual 128, 3) := by decide +kernel
theorem dX1_slant_27 : decode cX1_slant 27 = .ok (.istore 4, 2) := by decide +kernel
theorem dX1_slant_29 : decode cX1_slant 29 = .ok (.iload 4, 2) := by decide +kernel
theorem dX1_slant_31 : decode cX1_slant 31 = .ok (.iload_n 2, 1) := by decide +kernel
theorem dX1_slant_32 : decode cX1_slant 32 = .ok (.if_icmp .ge 8, 3) := by decide +kernel
theorem dX1_slant_35 : decode cX1_slant 35 = .ok (.iload_n 3, 1) := by decide +kernel
theorem dX1_slant_36 : decode cX1_slant 36 = .ok (.ineg, 1) := by decide +kernel
theorem dX1_slant_37 : decode cX1_slant 37 = .ok (.goto 4, 3) := by decide +kernel
theorem dX1_slant_40 : decode cX1_slant 40 = .ok (.iload_n 1, 1) := by decide +kernel
theorem dX1_slant_41 : decode cX1_slant 41 = .ok (.istore_n 1, 1) := by decide +kernel
theorem dX1_slant_42 : decode cX1_slant 42 = .ok (.iload 4, 2) := by decide +kernel
theorem dX1_slant_44 : decode cX1_slant 44 = .ok (.iload_n 2, 1) := by decide +kernel
theorem dX1_slant_45 : decode cX1_slant 45 = .ok (.if_icmp .ge 8, 3) := by decide +kernel
theorem dX1_slant_48 : decode cX1_slant 48 = .ok (.iload 4, 2) := by decide +kernel
theorem dX1_slant_50 : decode cX1_slant 50 = .ok (.goto 4, 3) := by decide +kernel
theorem dX1_slant_53 : decode cX1_slant 53 = .ok (.iload_n 2, 1) := by decide +kernel
theorem dX1_slant_54 : decode cX1_slant 54 = .ok (.istore_n 2, 1) := by decide +kernel
theorem dX1_slant_55 : decode cX1_slant 55 = .ok (.aload_n 0, 1) := by decide +kernel
theorem dX1_slant_56 : decode cX1_slant 56 = .ok (.iload_n 3, 1) := by decide +kernel
theorem dX1_slant_57 : decode cX1_slant 57 = .ok (.invokevirtual 128, 3) := by decide +kernel
theorem dX1_slant_60 : decode cX1_slant 60 = .ok (.istore 5, 2) := by decide +kernel
theorem dX1_slant_62 : decode cX1_slant 62 = .ok (.iload 5, 2) := by decide +kernel
theorem dX1_slant_64 : decode cX1_slant 64 = .ok (.iload_n 2, 1) := by decide +kernel
theorem dX1_slant_65 : decode cX1_slant 65 = .ok (.if_icmp .ge 7, 3) := by decide +kernel
theorem dX1_slant_68 : decode cX1_slant 68 = .ok (.iload_n 3, 1) := by decide +kernel
theorem dX1_slant_69 : decode cX1_slant 69 = .ok (.goto 4, 3) := by decide +kernel
theorem dX1_slant_72 : decode cX1_slant 72 = .ok (.iload_n 1, 1) := by decide +kernel
theorem dX1_slant_73 : decode cX1_slant 73 = .ok (.istore_n 1, 1) := by decide +kernel
theorem dX1_slant_74 : decode cX1_slant 74 = .ok (.iload 5, 2) := by decide +kernel
theorem dX1_slant_76 : decode cX1_slant 76 = .ok (.iload_n 2, 1) := by decide +kernel
theorem dX1_slant_77 : decode cX1_slant 77 = .ok (.if_icmp .ge 8, 3) := by decide +kernel
theorem dX1_slant_80 : decode cX1_slant 80 = .ok (.iload 5, 2) := by decide +kernel
theorem dX1_slant_82 : decode cX1_slant 82 = .ok (.goto 4, 3) := by decide +kernel
theorem dX1_slant_85 : decode cX1_slant 85 = .ok (.iload_n 2, 1) := by decide +kernel
theorem dX1_slant_86 : decode cX1_slant 86 = .ok (.istore_n 2, 1) := by decide +kernel
theorem dX1_slant_87 : decode cX1_slant 87 = .ok (.iinc 3 1, 3) := by decide +kernel
theorem dX1_slant_90 : decode cX1_slant 90 = .ok (.goto (-75), 3) := by decide +kernel
theorem dX1_slant_93 : decode cX1_slant 93 = .ok (.iload_n 1, 1) := by decide +kernel
theorem dX1_slant_94 : decode cX1_slant 94 = .ok (.ireturn, 1) := by decide +kernel
set_option maxRecDepth 20000 in
theorem ggX1_plain_X1_mostInRow : GoodIn wsX1_plain wsX1_mostInRow := goodIn_r _ [10, 11, 12, 13, 14, 9, 15, 16, 17, 18, 19, 20, 21, 71, 72, 73, 74, 75, 76, 77, 78, 79, 80, 81, 82, 83, 84, 85, 86, 87] (by decide +kernel) (by decide +kernel)
set_option maxRecDepth 20000 in
theorem gX1_plain_X1_mostInRow : GoodIn wsX1_plain (wsV RX1 66 RX1 yX1_mostInRow wsX1_mostInRow) := goodIn_app (goodIn_of _ (by decide +kernel)) ggX1_plain_X1_mostInRow
set_option maxRecDepth 20000 in
theorem ggX1_plain_X1_from : GoodIn wsX1_plain wsX1_from := goodIn_r _ [25, 26, 27, 28, 9, 29, 11, 16, 17, 18, 19, 20, 21, 71, 72, 73, 74, 75, 76, 77, 78, 79, 80, 81, 82, 83, 84, 85, 86, 87] (by decide +kernel) (by decide +kernel)
set_option maxRecDepth 20000 in
theorem gX1_plain_X1_from : GoodIn wsX1_plain (wsV RX1 119 RX1 yX1_from wsX1_from) := goodIn_app (goodIn_of _ (by decide +kernel)) ggX1_plain_X1_from
set_option maxRecDepth 20000 in
theorem ggX1_plain_X1_until : GoodIn wsX1_plain wsX1_until := goodIn_r _ [33, 16, 26, 27, 28, 9, 29, 11, 17, 18, 19, 20, 21, 71, 72, 73, 74, 75, 76, 77, 78, 79, 80, 81, 82, 83, 84, 85, 86, 87] (by decide +kernel) (by decide +kernel)
set_option maxRecDepth 20000 in
theorem gX1_plain_X1_until : GoodIn wsX1_plain (wsV RX1 122 RX1 yX1_until wsX1_until) := goodIn_app (goodIn_of _ (by decide +kernel)) ggX1_plain_X1_until
set_option maxRecDepth 20000 in
theorem ggX1_plain_X1_look : GoodIn wsX1_plain wsX1_look := goodIn_r _ [37, 38, 39, 4, 40, 41, 42, 43, 9, 44, 45, 46, 47, 48, 11, 6, 7, 8, 10, 12, 13, 14, 15, 16, 17, 18, 19, 20, 21, 49, 50, 51, 52, 53, 54, 55, 56, 57, 58, 59, 60, 26, 27, 28, 29, 61, 62, 63, 64, 65, 66, 67, 68, 69, 70, 71, 72, 73, 74, 75, 76, 77, 78, 79, 80, 81, 82, 83, 84, 85, 86, 87] (by decide +kernel) (by decide +kernel)
set_option maxRecDepth 20000 in
theorem gX1_plain_X1_look : GoodIn wsX1_plain (wsV RX1 106 RX1 yX1_look wsX1_look) := goodIn_app (goodIn_of _ (by decide +kernel)) ggX1_plain_X1_look
theorem dX1_plain_0 : decode cX1_plain 0 = .ok (.aload_n 0, 1) := by decide +kernel
theorem dX1_plain_1 : decode cX1_plain 1 = .ok (.iconst 0, 1) := by decide +kernel
theorem dX1_plain_2 : decode cX1_plain 2 = .ok (.putfield 55, 3) := by decide +kernel
theorem dX1_plain_5 : decode cX1_plain 5 = .ok (.aload_n 0, 1) := by decide +kernel
theorem dX1_plain_6 : decode cX1_plain 6 = .ok (.invokevirtual 66, 3) := by decide +kernel
theorem dX1_plain_9 : decode cX1_plain 9 = .ok (.ifCond .eq 14, 3) := by decide +kernel
theorem dX1_plain_12 : decode cX1_plain 12 = .ok (.iload_n 1, 1) := by decide +kernel
theorem dX1_plain_13 : decode cX1_plain 13 = .ok (.iconst 1, 1) := by decide +kernel
theorem dX1_plain_14 : decode cX1_plain 14 = .ok (.if_icmp .lt 9, 3) := by decide +kernel
theorem dX1_plain_17 : decode cX1_plain 17 = .ok (.iload_n 1, 1) := by decide +kernel
theorem dX1_plain_18 : decode cX1_plain 18 = .ok (.bipush 60, 2) := by decide +kernel
theorem dX1_plain_20 : decode cX1_plain 20 = .ok (.if_icmp .le 5, 3) := by decide +kernel
theorem dX1_plain_23 : decode cX1_plain 23 = .ok (.iconst 0, 1) := by decide +kernel
theorem dX1_plain_24 : decode cX1_plain 24 = .ok (.ireturn, 1) := by decide +kernel
theorem dX1_plain_25 : decode cX1_plain 25 = .ok (.aload_n 0, 1) := by decide +kernel
theorem dX1_plain_26 : decode cX1_plain 26 = .ok (.invokevirtual 119, 3) := by decide +kernel
theorem dX1_plain_29 : decode cX1_plain 29 = .ok (.istore_n 2, 1) := by decide +kernel
theorem dX1_plain_30 : decode cX1_plain 30 = .ok (.aload_n 0, 1) := by decide +kernel
theorem dX1_plain_31 : decode cX1_plain 31 = .ok (.invokevirtual 122, 3) := by decide +kernel
theorem dX1_plain_34 : decode cX1_plain 34 = .ok (.istore_n 3, 1) := by decide +kernel
theorem dX1_plain_35 : decode cX1_plain 35 = .ok (.aload_n 0, 1) := by decide +kernel
theorem dX1_plain_36 : decode cX1_plain 36 = .ok (.iload_n 2, 1) := by decide +kernel
theorem dX1_plain_37 : decode cX1_plain 37 = .ok (.iload_n 3, 1) := by decide +kernel
theorem dX1_plain_38 : decode cX1_plain 38 = .ok (.invokevirtual 106, 3) := by decide +kernel
theorem dX1_plain_41 : decode cX1_plain 41 = .ok (.iconst 0, 1) := by decide +kernel
theorem dX1_plain_42 : decode cX1_plain 42 = .ok (.istore 4, 2) := by decide +kernel
theorem dX1_plain_44 : decode cX1_plain 44 = .ok (.iload 4, 2) := by decide +kernel
theorem dX1_plain_46 : decode cX1_plain 46 = .ok (.bipush 61, 2) := by decide +kernel
theorem dX1_plain_48 : decode cX1_plain 48 = .ok (.if_icmp .ge 27, 3) := by decide +kernel
theorem dX1_plain_51 : decode cX1_plain 51 = .ok (.aload_n 0, 1) := by decide +kernel
theorem dX1_plain_52 : decode cX1_plain 52 = .ok (.getfield 39, 3) := by decide +kernel
theorem dX1_plain_55 : decode cX1_plain 55 = .ok (.iload 4, 2) := by decide +kernel
theorem dX1_plain_57 : decode cX1_plain 57 = .ok (.iload 4, 2) := by decide +kernel
theorem dX1_plain_59 : decode cX1_plain 59 = .ok (.iload_n 2, 1) := by decide +kernel
theorem dX1_plain_60 : decode cX1_plain 60 = .ok (.if_icmp .ne 7, 3) := by decide +kernel
theorem dX1_plain_63 : decode cX1_plain 63 = .ok (.lconst 1, 1) := by decide +kernel
theorem dX1_plain_64 : decode cX1_plain 64 = .ok (.goto 4, 3) := by decide +kernel
theorem dX1_plain_67 : decode cX1_plain 67 = .ok (.lconst 0, 1) := by decide +kernel
theorem dX1_plain_68 : decode cX1_plain 68 = .ok (.lastore, 1) := by decide +kernel
theorem dX1_plain_69 : decode cX1_plain 69 = .ok (.iinc 4 1, 3) := by decide +kernel
theorem dX1_plain_72 : decode cX1_plain 72 = .ok (.goto (-28), 3) := by decide +kernel
theorem dX1_plain_75 : decode cX1_plain 75 = .ok (.iconst 0, 1) := by decide +kernel
theorem dX1_plain_76 : decode cX1_plain 76 = .ok (.istore 4, 2) := by decide +kernel
theorem dX1_plain_78 : decode cX1_plain 78 = .ok (.iload 4, 2) := by decide +kernel
theorem dX1_plain_80 : decode cX1_plain 80 = .ok (.iload_n 1, 1) := by decide +kernel
theorem dX1_plain_81 : decode cX1_plain 81 = .ok (.if_icmp .ge 191, 3) := by decide +kernel
theorem dX1_plain_84 : decode cX1_plain 84 = .ok (.iload_n 2, 1) := by decide +kernel
theorem dX1_plain_85 : decode cX1_plain 85 = .ok (.istore 5, 2) := by decide +kernel
theorem dX1_plain_87 : decode cX1_plain 87 = .ok (.iload 5, 2) := by decide +kernel
theorem dX1_plain_89 : decode cX1_plain 89 = .ok (.iload_n 3, 1) := by decide +kernel
theorem dX1_plain_90 : decode cX1_plain 90 = .ok (.if_icmp .gt 129, 3) := by decide +kernel
theorem dX1_plain_93 : decode cX1_plain 93 = .ok (.aload_n 0, 1) := by decide +kernel
theorem dX1_plain_94 : decode cX1_plain 94 = .ok (.getfield 36, 3) := by decide +kernel
theorem dX1_plain_97 : decode cX1_plain 97 = .ok (.iload 5, 2) := by decide +kernel
theorem dX1_plain_99 : decode cX1_plain 99 = .ok (.lconst 0, 1) := by decide +kernel
theorem dX1_plain_100 : decode cX1_plain 100 = .ok (.lastore, 1) := by decide +kernel
theorem dX1_plain_101 : decode cX1_plain 101 = .ok (.iload_n 2, 1) := by decide +kernel
theorem dX1_plain_102 : decode cX1_plain 102 = .ok (.istore 6, 2) := by decide +kernel
theorem dX1_plain_104 : decode cX1_plain 104 = .ok (.iload 6, 2) := by decide +kernel
theorem dX1_plain_106 : decode cX1_plain 106 = .ok (.iload 5, 2) := by decide +kernel
theorem dX1_plain_108 : decode cX1_plain 108 = .ok (.if_icmp .ge 71, 3) := by decide +kernel
theorem dX1_plain_111 : decode cX1_plain 111 = .ok (.aload_n 0, 1) := by decide +kernel
theorem dX1_plain_112 : decode cX1_plain 112 = .ok (.getfield 36, 3) := by decide +kernel
theorem dX1_plain_115 : decode cX1_plain 115 = .ok (.iload 5, 2) := by decide +kernel
theorem dX1_plain_117 : decode cX1_plain 117 = .ok (.aload_n 0, 1) := by decide +kernel
theorem dX1_plain_118 : decode cX1_plain 118 = .ok (.getfield 39, 3) := by decide +kernel
theorem dX1_plain_121 : decode cX1_plain 121 = .ok (.iload 6, 2) := by decide +kernel
theorem dX1_plain_123 : decode cX1_plain 123 = .ok (.laload, 1) := by decide +kernel
theorem dX1_plain_124 : decode cX1_plain 124 = .ok (.lconst 0, 1) := by decide +kernel
theorem dX1_plain_125 : decode cX1_plain 125 = .ok (.lcmp, 1) := by decide +kernel
theorem dX1_plain_126 : decode cX1_plain 126 = .ok (.ifCond .le 39, 3) := by decide +kernel
theorem dX1_plain_129 : decode cX1_plain 129 = .ok (.aload_n 0, 1) := by decide +kernel
theorem dX1_plain_130 : decode cX1_plain 130 = .ok (.getfield 42, 3) := by decide +kernel
theorem dX1_plain_133 : decode cX1_plain 133 = .ok (.bipush 61, 2) := by decide +kernel
theorem dX1_plain_135 : decode cX1_plain 135 = .ok (.iload 6, 2) := by decide +kernel
theorem dX1_plain_137 : decode cX1_plain 137 = .ok (.imul, 1) := by decide +kernel
theorem dX1_plain_138 : decode cX1_plain 138 = .ok (.iload 5, 2) := by decide +kernel
theorem dX1_plain_140 : decode cX1_plain 140 = .ok (.iadd, 1) := by decide +kernel
theorem dX1_plain_141 : decode cX1_plain 141 = .ok (.laload, 1) := by decide +kernel
theorem dX1_plain_142 : decode cX1_plain 142 = .ok (.lconst 0, 1) := by decide +kernel
theorem dX1_plain_143 : decode cX1_plain 143 = .ok (.lcmp, 1) := by decide +kernel
theorem dX1_plain_144 : decode cX1_plain 144 = .ok (.ifCond .lt 21, 3) := by decide +kernel
theorem dX1_plain_147 : decode cX1_plain 147 = .ok (.aload_n 0, 1) := by decide +kernel
theorem dX1_plain_148 : decode cX1_plain 148 = .ok (.getfield 36, 3) := by decide +kernel
theorem dX1_plain_151 : decode cX1_plain 151 = .ok (.iload 5, 2) := by decide +kernel
theorem dX1_plain_153 : decode cX1_plain 153 = .ok (.laload, 1) := by decide +kernel
theorem dX1_plain_154 : decode cX1_plain 154 = .ok (.aload_n 0, 1) := by decide +kernel
theorem dX1_plain_155 : decode cX1_plain 155 = .ok (.getfield 39, 3) := by decide +kernel
theorem dX1_plain_158 : decode cX1_plain 158 = .ok (.iload 6, 2) := by decide +kernel
theorem dX1_plain_160 : decode cX1_plain 160 = .ok (.laload, 1) := by decide +kernel
theorem dX1_plain_161 : decode cX1_plain 161 = .ok (.ladd, 1) := by decide +kernel
theorem dX1_plain_162 : decode cX1_plain 162 = .ok (.goto 10, 3) := by decide +kernel
theorem dX1_plain_165 : decode cX1_plain 165 = .ok (.aload_n 0, 1) := by decide +kernel
theorem dX1_plain_166 : decode cX1_plain 166 = .ok (.getfield 36, 3) := by decide +kernel
theorem dX1_plain_169 : decode cX1_plain 169 = .ok (.iload 5, 2) := by decide +kernel
theorem dX1_plain_171 : decode cX1_plain 171 = .ok (.laload, 1) := by decide +kernel
theorem dX1_plain_172 : decode cX1_plain 172 = .ok (.lastore, 1) := by decide +kernel
theorem dX1_plain_173 : decode cX1_plain 173 = .ok (.iinc 6 1, 3) := by decide +kernel
theorem dX1_plain_176 : decode cX1_plain 176 = .ok (.goto (-72), 3) := by decide +kernel
theorem dX1_plain_179 : decode cX1_plain 179 = .ok (.aload_n 0, 1) := by decide +kernel
theorem dX1_plain_180 : decode cX1_plain 180 = .ok (.getfield 36, 3) := by decide +kernel
theorem dX1_plain_183 : decode cX1_plain 183 = .ok (.iload 5, 2) := by decide +kernel
theorem dX1_plain_185 : decode cX1_plain 185 = .ok (.aload_n 0, 1) := by decide +kernel
theorem dX1_plain_186 : decode cX1_plain 186 = .ok (.getfield 36, 3) := by decide +kernel
theorem dX1_plain_189 : decode cX1_plain 189 = .ok (.iload 5, 2) := by decide +kernel
theorem dX1_plain_191 : decode cX1_plain 191 = .ok (.laload, 1) := by decide +kernel
theorem dX1_plain_192 : decode cX1_plain 192 = .ok (.ldc2_w 131, 3) := by decide +kernel
theorem dX1_plain_195 : decode cX1_plain 195 = .ok (.lcmp, 1) := by decide +kernel
theorem dX1_plain_196 : decode cX1_plain 196 = .ok (.ifCond .le 9, 3) := by decide +kernel
theorem dX1_plain_199 : decode cX1_plain 199 = .ok (.ldc2_w 131, 3) := by decide +kernel
theorem dX1_plain_202 : decode cX1_plain 202 = .ok (.goto 10, 3) := by decide +kernel
theorem dX1_plain_205 : decode cX1_plain 205 = .ok (.aload_n 0, 1) := by decide +kernel
theorem dX1_plain_206 : decode cX1_plain 206 = .ok (.getfield 36, 3) := by decide +kernel
theorem dX1_plain_209 : decode cX1_plain 209 = .ok (.iload 5, 2) := by decide +kernel
theorem dX1_plain_211 : decode cX1_plain 211 = .ok (.laload, 1) := by decide +kernel
theorem dX1_plain_212 : decode cX1_plain 212 = .ok (.lastore, 1) := by decide +kernel
theorem dX1_plain_213 : decode cX1_plain 213 = .ok (.iinc 5 1, 3) := by decide +kernel
theorem dX1_plain_216 : decode cX1_plain 216 = .ok (.goto (-129), 3) := by decide +kernel
theorem dX1_plain_219 : decode cX1_plain 219 = .ok (.iload_n 2, 1) := by decide +kernel
theorem dX1_plain_220 : decode cX1_plain 220 = .ok (.istore 5, 2) := by decide +kernel
theorem dX1_plain_222 : decode cX1_plain 222 = .ok (.iload 5, 2) := by decide +kernel
theorem dX1_plain_224 : decode cX1_plain 224 = .ok (.iload_n 3, 1) := by decide +kernel
theorem dX1_plain_225 : decode cX1_plain 225 = .ok (.if_icmp .gt 41, 3) := by decide +kernel
theorem dX1_plain_228 : decode cX1_plain 228 = .ok (.aload_n 0, 1) := by decide +kernel
theorem dX1_plain_229 : decode cX1_plain 229 = .ok (.getfield 39, 3) := by decide +kernel
theorem dX1_plain_232 : decode cX1_plain 232 = .ok (.iload 5, 2) := by decide +kernel
theorem dX1_plain_234 : decode cX1_plain 234 = .ok (.iload 5, 2) := by decide +kernel
theorem dX1_plain_236 : decode cX1_plain 236 = .ok (.iload_n 3, 1) := by decide +kernel
theorem dX1_plain_237 : decode cX1_plain 237 = .ok (.if_icmp .ne 15, 3) := by decide +kernel
theorem dX1_plain_240 : decode cX1_plain 240 = .ok (.iload 4, 2) := by decide +kernel
theorem dX1_plain_242 : decode cX1_plain 242 = .ok (.iload_n 1, 1) := by decide +kernel
theorem dX1_plain_243 : decode cX1_plain 243 = .ok (.iconst 1, 1) := by decide +kernel
theorem dX1_plain_244 : decode cX1_plain 244 = .ok (.isub, 1) := by decide +kernel
theorem dX1_plain_245 : decode cX1_plain 245 = .ok (.if_icmp .ge 7, 3) := by decide +kernel
theorem dX1_plain_248 : decode cX1_plain 248 = .ok (.lconst 0, 1) := by decide +kernel
theorem dX1_plain_249 : decode cX1_plain 249 = .ok (.goto 10, 3) := by decide +kernel
theorem dX1_plain_252 : decode cX1_plain 252 = .ok (.aload_n 0, 1) := by decide +kernel
theorem dX1_plain_253 : decode cX1_plain 253 = .ok (.getfield 36, 3) := by decide +kernel
theorem dX1_plain_256 : decode cX1_plain 256 = .ok (.iload 5, 2) := by decide +kernel
theorem dX1_plain_258 : decode cX1_plain 258 = .ok (.laload, 1) := by decide +kernel
theorem dX1_plain_259 : decode cX1_plain 259 = .ok (.lastore, 1) := by decide +kernel
theorem dX1_plain_260 : decode cX1_plain 260 = .ok (.iinc 5 1, 3) := by decide +kernel
theorem dX1_plain_263 : decode cX1_plain 263 = .ok (.goto (-41), 3) := by decide +kernel
theorem dX1_plain_266 : decode cX1_plain 266 = .ok (.iinc 4 1, 3) := by decide +kernel
theorem dX1_plain_269 : decode cX1_plain 269 = .ok (.goto (-191), 3) := by decide +kernel
theorem dX1_plain_272 : decode cX1_plain 272 = .ok (.aload_n 0, 1) := by decide +kernel
theorem dX1_plain_273 : decode cX1_plain 273 = .ok (.getfield 39, 3) := by decide +kernel
theorem dX1_plain_276 : decode cX1_plain 276 = .ok (.iload_n 3, 1) := by decide +kernel
theorem dX1_plain_277 : decode cX1_plain 277 = .ok (.laload, 1) := by decide +kernel
theorem dX1_plain_278 : decode cX1_plain 278 = .ok (.l2i, 1) := by decide +kernel
theorem dX1_plain_279 : decode cX1_plain 279 = .ok (.ireturn, 1) := by decide +kernel
theorem dJx00060_init_a7421_0 : decode cJx00060_init_a7421 0 = .ok (.aload_n 0, 1) := by decide +kernel
theorem dJx00060_init_a7421_1 : decode cJx00060_init_a7421 1 = .ok (.aload_n 1, 1) := by decide +kernel
theorem dJx00060_init_a7421_2 : decode cJx00060_init_a7421 2 = .ok (.invokespecial 7, 3) := by decide +kernel
theorem dJx00060_init_a7421_5 : decode cJx00060_init_a7421 5 = .ok (.return_, 1) := by decide +kernel
theorem dJ13_bitCount_95d88_0 : decode cJ13_bitCount_95d88 0 = .ok (.lload_n 0, 1) := by decide +kernel
theorem dJ13_bitCount_95d88_1 : decode cJ13_bitCount_95d88 1 = .ok (.lload_n 0, 1) := by decide +kernel
theorem dJ13_bitCount_95d88_2 : decode cJ13_bitCount_95d88 2 = .ok (.iconst 1, 1) := by decide +kernel
theorem dJ13_bitCount_95d88_3 : decode cJ13_bitCount_95d88 3 = .ok (.lushr, 1) := by decide +kernel
theorem dJ13_bitCount_95d88_4 : decode cJ13_bitCount_95d88 4 = .ok (.ldc2_w 314, 3) := by decide +kernel
theorem dJ13_bitCount_95d88_7 : decode cJ13_bitCount_95d88 7 = .ok (.land, 1) := by decide +kernel
theorem dJ13_bitCount_95d88_8 : decode cJ13_bitCount_95d88 8 = .ok (.lsub, 1) := by decide +kernel
theorem dJ13_bitCount_95d88_9 : decode cJ13_bitCount_95d88 9 = .ok (.lstore_n 0, 1) := by decide +kernel
theorem dJ13_bitCount_95d88_10 : decode cJ13_bitCount_95d88 10 = .ok (.lload_n 0, 1) := by decide +kernel
theorem dJ13_bitCount_95d88_11 : decode cJ13_bitCount_95d88 11 = .ok (.ldc2_w 316, 3) := by decide +kernel
theorem dJ13_bitCount_95d88_14 : decode cJ13_bitCount_95d88 14 = .ok (.land, 1) := by decide +kernel
theorem dJ13_bitCount_95d88_15 : decode cJ13_bitCount_95d88 15 = .ok (.lload_n 0, 1) := by decide +kernel
theorem dJ13_bitCount_95d88_16 : decode cJ13_bitCount_95d88 16 = .ok (.iconst 2, 1) := by decide +kernel
theorem dJ13_bitCount_95d88_17 : decode cJ13_bitCount_95d88 17 = .ok (.lushr, 1) := by decide +kernel
theorem dJ13_bitCount_95d88_18 : decode cJ13_bitCount_95d88 18 = .ok (.ldc2_w 316, 3) := by decide +kernel
theorem dJ13_bitCount_95d88_21 : decode cJ13_bitCount_95d88 21 = .ok (.land, 1) := by decide +kernel
theorem dJ13_bitCount_95d88_22 : decode cJ13_bitCount_95d88 22 = .ok (.ladd, 1) := by decide +kernel
theorem dJ13_bitCount_95d88_23 : decode cJ13_bitCount_95d88 23 = .ok (.lstore_n 0, 1) := by decide +kernel
theorem dJ13_bitCount_95d88_24 : decode cJ13_bitCount_95d88 24 = .ok (.lload_n 0, 1) := by decide +kernel
theorem dJ13_bitCount_95d88_25 : decode cJ13_bitCount_95d88 25 = .ok (.lload_n 0, 1) := by decide +kernel
theorem dJ13_bitCount_95d88_26 : decode cJ13_bitCount_95d88 26 = .ok (.iconst 4, 1) := by decide +kernel
theorem dJ13_bitCount_95d88_27 : decode cJ13_bitCount_95d88 27 = .ok (.lushr, 1) := by decide +kernel
theorem dJ13_bitCount_95d88_28 : decode cJ13_bitCount_95d88 28 = .ok (.ladd, 1) := by decide +kernel
theorem dJ13_bitCount_95d88_29 : decode cJ13_bitCount_95d88 29 = .ok (.ldc2_w 318, 3) := by decide +kernel
theorem dJ13_bitCount_95d88_32 : decode cJ13_bitCount_95d88 32 = .ok (.land, 1) := by decide +kernel
theorem dJ13_bitCount_95d88_33 : decode cJ13_bitCount_95d88 33 = .ok (.lstore_n 0, 1) := by decide +kernel
theorem dJ13_bitCount_95d88_34 : decode cJ13_bitCount_95d88 34 = .ok (.lload_n 0, 1) := by decide +kernel
theorem dJ13_bitCount_95d88_35 : decode cJ13_bitCount_95d88 35 = .ok (.lload_n 0, 1) := by decide +kernel
theorem dJ13_bitCount_95d88_36 : decode cJ13_bitCount_95d88 36 = .ok (.bipush 8, 2) := by decide +kernel
theorem dJ13_bitCount_95d88_38 : decode cJ13_bitCount_95d88 38 = .ok (.lushr, 1) := by decide +kernel
theorem dJ13_bitCount_95d88_39 : decode cJ13_bitCount_95d88 39 = .ok (.ladd, 1) := by decide +kernel
theorem dJ13_bitCount_95d88_40 : decode cJ13_bitCount_95d88 40 = .ok (.lstore_n 0, 1) := by decide +kernel
theorem dJ13_bitCount_95d88_41 : decode cJ13_bitCount_95d88 41 = .ok (.lload_n 0, 1) := by decide +kernel
theorem dJ13_bitCount_95d88_42 : decode cJ13_bitCount_95d88 42 = .ok (.lload_n 0, 1) := by decide +kernel
theorem dJ13_bitCount_95d88_43 : decode cJ13_bitCount_95d88 43 = .ok (.bipush 16, 2) := by decide +kernel
theorem dJ13_bitCount_95d88_45 : decode cJ13_bitCount_95d88 45 = .ok (.lushr, 1) := by decide +kernel
theorem dJ13_bitCount_95d88_46 : decode cJ13_bitCount_95d88 46 = .ok (.ladd, 1) := by decide +kernel
theorem dJ13_bitCount_95d88_47 : decode cJ13_bitCount_95d88 47 = .ok (.lstore_n 0, 1) := by decide +kernel
theorem dJ13_bitCount_95d88_48 : decode cJ13_bitCount_95d88 48 = .ok (.lload_n 0, 1) := by decide +kernel
theorem dJ13_bitCount_95d88_49 : decode cJ13_bitCount_95d88 49 = .ok (.lload_n 0, 1) := by decide +kernel
theorem dJ13_bitCount_95d88_50 : decode cJ13_bitCount_95d88 50 = .ok (.bipush 32, 2) := by decide +kernel
theorem dJ13_bitCount_95d88_52 : decode cJ13_bitCount_95d88 52 = .ok (.lushr, 1) := by decide +kernel
theorem dJ13_bitCount_95d88_53 : decode cJ13_bitCount_95d88 53 = .ok (.ladd, 1) := by decide +kernel
theorem dJ13_bitCount_95d88_54 : decode cJ13_bitCount_95d88 54 = .ok (.lstore_n 0, 1) := by decide +kernel
theorem dJ13_bitCount_95d88_55 : decode cJ13_bitCount_95d88 55 = .ok (.lload_n 0, 1) := by decide +kernel
theorem dJ13_bitCount_95d88_56 : decode cJ13_bitCount_95d88 56 = .ok (.l2i, 1) := by decide +kernel
theorem dJ13_bitCount_95d88_57 : decode cJ13_bitCount_95d88 57 = .ok (.bipush 127, 2) := by decide +kernel
theorem dJ13_bitCount_95d88_59 : decode cJ13_bitCount_95d88 59 = .ok (.iand, 1) := by decide +kernel
theorem dJ13_bitCount_95d88_60 : decode cJ13_bitCount_95d88 60 = .ok (.ireturn, 1) := by decide +kernel
theorem dJ9_floorDiv_7cf53_0 : decode cJ9_floorDiv_7cf53 0 = .ok (.iload_n 0, 1) := by decide +kernel
theorem dJ9_floorDiv_7cf53_1 : decode cJ9_floorDiv_7cf53 1 = .ok (.iload_n 1, 1) := by decide +kernel
theorem dJ9_floorDiv_7cf53_2 : decode cJ9_floorDiv_7cf53 2 = .ok (.idiv, 1) := by decide +kernel
theorem dJ9_floorDiv_7cf53_3 : decode cJ9_floorDiv_7cf53 3 = .ok (.istore_n 2, 1) := by decide +kernel
theorem dJ9_floorDiv_7cf53_4 : decode cJ9_floorDiv_7cf53 4 = .ok (.iload_n 0, 1) := by decide +kernel
theorem dJ9_floorDiv_7cf53_5 : decode cJ9_floorDiv_7cf53 5 = .ok (.iload_n 1, 1) := by decide +kernel
theorem dJ9_floorDiv_7cf53_6 : decode cJ9_floorDiv_7cf53 6 = .ok (.ixor, 1) := by decide +kernel
theorem dJ9_floorDiv_7cf53_7 : decode cJ9_floorDiv_7cf53 7 = .ok (.ifCond .ge 14, 3) := by decide +kernel
theorem dJ9_floorDiv_7cf53_10 : decode cJ9_floorDiv_7cf53 10 = .ok (.iload_n 2, 1) := by decide +kernel
theorem dJ9_floorDiv_7cf53_11 : decode cJ9_floorDiv_7cf53 11 = .ok (.iload_n 1, 1) := by decide +kernel
theorem dJ9_floorDiv_7cf53_12 : decode cJ9_floorDiv_7cf53 12 = .ok (.imul, 1) := by decide +kernel
theorem dJ9_floorDiv_7cf53_13 : decode cJ9_floorDiv_7cf53 13 = .ok (.iload_n 0, 1) := by decide +kernel
theorem dJ9_floorDiv_7cf53_14 : decode cJ9_floorDiv_7cf53 14 = .ok (.if_icmp .eq 7, 3) := by decide +kernel
theorem dJ9_floorDiv_7cf53_17 : decode cJ9_floorDiv_7cf53 17 = .ok (.iload_n 2, 1) := by decide +kernel
theorem dJ9_floorDiv_7cf53_18 : decode cJ9_floorDiv_7cf53 18 = .ok (.iconst 1, 1) := by decide +kernel
theorem dJ9_floorDiv_7cf53_19 : decode cJ9_floorDiv_7cf53 19 = .ok (.isub, 1) := by decide +kernel
theorem dJ9_floorDiv_7cf53_20 : decode cJ9_floorDiv_7cf53 20 = .ok (.ireturn, 1) := by decide +kernel
theorem dJ9_floorDiv_7cf53_21 : decode cJ9_floorDiv_7cf53 21 = .ok (.iload_n 2, 1) := by decide +kernel
theorem dJ9_floorDiv_7cf53_22 : decode cJ9_floorDiv_7cf53 22 = .ok (.ireturn, 1) := by decide +kernel
theorem dJ9_max_7cf53_0 : decode cJ9_max_7cf53 0 = .ok (.iload_n 0, 1) := by decide +kernel
theorem dJ9_max_7cf53_1 : decode cJ9_max_7cf53 1 = .ok (.iload_n 1, 1) := by decide +kernel
theorem dJ9_max_7cf53_2 : decode cJ9_max_7cf53 2 = .ok (.if_icmp .lt 7, 3) := by decide +kernel
theorem dJ9_max_7cf53_5 : decode cJ9_max_7cf53 5 = .ok (.iload_n 0, 1) := by decide +kernel
theorem dJ9_max_7cf53_6 : decode cJ9_max_7cf53 6 = .ok (.goto 4, 3) := by decide +kernel
theorem dJ9_max_7cf53_9 : decode cJ9_max_7cf53 9 = .ok (.iload_n 1, 1) := by decide +kernel
theorem dJ9_max_7cf53_10 : decode cJ9_max_7cf53 10 = .ok (.ireturn, 1) := by decide +kernel
theorem dJ9_min_7cf53_0 : decode cJ9_min_7cf53 0 = .ok (.iload_n 0, 1) := by decide +kernel
theorem dJ9_min_7cf53_1 : decode cJ9_min_7cf53 1 = .ok (.iload_n 1, 1) := by decide +kernel
theorem dJ9_min_7cf53_2 : decode cJ9_min_7cf53 2 = .ok (.if_icmp .gt 7, 3) := by decide +kernel
theorem dJ9_min_7cf53_5 : decode cJ9_min_7cf53 5 = .ok (.iload_n 0, 1) := by decide +kernel
theorem dJ9_min_7cf53_6 : decode cJ9_min_7cf53 6 = .ok (.goto 4, 3) := by decide +kernel
theorem dJ9_min_7cf53_9 : decode cJ9_min_7cf53 9 = .ok (.iload_n 1, 1) := by decide +kernel
theorem dJ9_min_7cf53_10 : decode cJ9_min_7cf53 10 = .ok (.ireturn, 1) := by decide +kernel
theorem dL_cell_0 : decode cL_cell 0 = .ok (.iload_n 1, 1) := by decide +kernel
theorem dL_cell_1 : decode cL_cell 1 = .ok (.aload_n 0, 1) := by decide +kernel
theorem dL_cell_2 : decode cL_cell 2 = .ok (.arraylength, 1) := by decide +kernel
theorem dL_cell_3 : decode cL_cell 3 = .ok (.if_icmp .ge 9, 3) := by decide +kernel
theorem dL_cell_6 : decode cL_cell 6 = .ok (.aload_n 0, 1) := by decide +kernel
theorem dL_cell_7 : decode cL_cell 7 = .ok (.iload_n 1, 1) := by decide +kernel
theorem dL_cell_8 : decode cL_cell 8 = .ok (.iaload, 1) := by decide +kernel
theorem dL_cell_9 : decode cL_cell 9 = .ok (.goto 4, 3) := by decide +kernel
theorem dL_cell_12 : decode cL_cell 12 = .ok (.iconst 0, 1) := by decide +kernel
theorem dL_cell_13 : decode cL_cell 13 = .ok (.ireturn, 1) := by decide +kernel
set_option maxRecDepth 20000 in
theorem ggL_column_X0_column : GoodIn wsL_column wsX0_column := goodIn_r _ [5, 6, 7, 8, 9, 10, 11, 12, 13, 14, 15, 16, 17, 18, 19, 20, 21, 22, 23, 24, 25, 26, 27, 28, 29, 30] (by decide +kernel) (by decide +kernel)
set_option maxRecDepth 20000 in
theorem gL_column_X0_column : GoodIn wsL_column (wsV RL 7 RX0 yX0_column wsX0_column) := goodIn_app (goodIn_of _ (by decide +kernel)) ggL_column_X0_column
theorem dL_column_0 : decode cL_column 0 = .ok (.aload_n 0, 1) := by decide +kernel
theorem dL_column_1 : decode cL_column 1 = .ok (.iload_n 1, 1) := by decide +kernel
theorem dL_column_2 : decode cL_column 2 = .ok (.iload_n 2, 1) := by decide +kernel
theorem dL_column_3 : decode cL_column 3 = .ok (.iload_n 3, 1) := by decide +kernel
theorem dL_column_4 : decode cL_column 4 = .ok (.invokevirtual 7, 3) := by decide +kernel
theorem dL_column_7 : decode cL_column 7 = .ok (.goto 7, 3) := by decide +kernel
theorem dL_column_10 : decode cL_column 10 = .ok (.astore 4, 2) := by decide +kernel
theorem dL_column_12 : decode cL_column 12 = .ok (.iconst 1, 1) := by decide +kernel
theorem dL_column_13 : decode cL_column 13 = .ok (.ireturn, 1) := by decide +kernel
theorem dL_column_14 : decode cL_column 14 = .ok (.iconst 0, 1) := by decide +kernel
theorem dL_column_15 : decode cL_column 15 = .ok (.ireturn, 1) := by decide +kernel
set_option maxRecDepth 20000 in
theorem ggL_law_L_cell : GoodIn wsL_law wsL_cell := goodIn_r _ [9] (by decide +kernel) (by decide +kernel)
set_option maxRecDepth 20000 in
theorem gL_law_L_cell : GoodIn wsL_law (va_wsS RL 15 yL_cell wsL_cell) := goodIn_app (goodIn_of _ (by decide +kernel)) ggL_law_L_cell
set_option maxRecDepth 20000 in
theorem ggL_law_X0_init : GoodIn wsL_law wsX0_init := goodIn_r _ [12, 13, 14, 15, 16, 17, 18, 19, 20, 21, 22, 23, 24, 25, 26, 27, 28, 29, 30, 31, 32, 33, 299, 300, 301, 302, 303, 304, 305, 306, 307, 308, 309] (by decide +kernel) (by decide +kernel)
set_option maxRecDepth 20000 in
theorem gL_law_X0_init : GoodIn wsL_law (wsX0_init) := ggL_law_X0_init
set_option maxRecDepth 20000 in
theorem ggL_law_X1_init : GoodIn wsL_law wsX1_init := goodIn_r _ [36, 37, 14, 15, 38, 39, 29, 40, 25, 41, 42, 43, 44, 45, 46, 47, 48, 49, 50, 51, 52, 310, 311, 312, 313, 314, 315, 316, 317, 318, 319, 320, 321, 322, 323, 324, 325, 326] (by decide +kernel) (by decide +kernel)
set_option maxRecDepth 20000 in
theorem gL_law_X1_init : GoodIn wsL_law (wsX1_init) := ggL_law_X1_init
set_option maxRecDepth 20000 in
theorem ggL_law_L_column : GoodIn wsL_law wsL_column := goodIn_r _ [55, 56, 57, 58, 2, 59, 23, 24, 60, 61, 62, 26, 27, 63, 299, 300, 301, 302, 303, 304, 305, 306, 307, 308, 309, 327, 328, 329, 330, 331, 332] (by decide +kernel) (by decide +kernel)
set_option maxRecDepth 20000 in
theorem gL_law_L_column : GoodIn wsL_law (va_wsS RL 27 yL_column wsL_column) := goodIn_app (goodIn_of _ (by decide +kernel)) ggL_law_L_column
set_option maxRecDepth 20000 in
theorem ggL_law_X1_column : GoodIn wsL_law wsX1_column := goodIn_r _ [67, 51, 52, 68, 39, 310, 311, 312, 313, 314, 315, 316, 317, 318, 319, 320, 321, 322, 323, 324, 325, 326] (by decide +kernel) (by decide +kernel)
set_option maxRecDepth 20000 in
theorem gL_law_X1_column : GoodIn wsL_law (wsV RL 30 RX1 yX1_column wsX1_column) := goodIn_app (goodIn_of _ (by decide +kernel)) ggL_law_X1_column
set_option maxRecDepth 20000 in
theorem ggL_law_X1_thrown : GoodIn wsL_law wsX1_thrown := goodIn_r _ [72, 68, 310, 311, 312, 313, 314, 315, 316, 317, 318, 319, 320, 321, 322, 323, 324, 325, 326] (by decide +kernel) (by decide +kernel)
set_option maxRecDepth 20000 in
theorem gL_law_X1_thrown : GoodIn wsL_law (wsV RL 31 RX1 yX1_thrown wsX1_thrown) := goodIn_app (goodIn_of _ (by decide +kernel)) ggL_law_X1_thrown
set_option maxRecDepth 20000 in
theorem ggL_law_X0_cut : GoodIn wsL_law wsX0_cut := goodIn_r _ [76, 77, 78, 31, 79, 80, 81, 2, 82, 23, 26, 83, 84, 85, 86, 87, 88, 89, 90, 28, 30, 91, 92, 93, 94, 95, 96, 97, 98, 99, 100, 101, 102, 103, 104, 105, 24, 106, 107, 108, 109, 20, 21, 18, 22, 110, 111, 112, 113, 27, 114, 115, 116, 117, 118, 119, 120, 121, 122, 123, 124, 125, 126, 127, 128, 129, 130, 131, 132, 133, 134, 135, 136, 137, 138, 139, 63, 140, 141, 142, 143, 144, 145, 146, 147, 148, 149, 150, 16, 17, 19, 299, 300, 301, 302, 303, 304, 305, 306, 307, 308, 309] (by decide +kernel) (by decide +kernel)
set_option maxRecDepth 20000 in
theorem gL_law_X0_cut : GoodIn wsL_law (wsV RL 35 RX0 yX0_cut wsX0_cut) := goodIn_app (goodIn_of _ (by decide +kernel)) ggL_law_X0_cut
set_option maxRecDepth 20000 in
theorem ggL_law_X1_cut : GoodIn wsL_law wsX1_cut := goodIn_r _ [154, 68, 155, 40, 44, 41, 45, 46, 42, 43, 156, 157, 158, 5, 159, 52, 160, 161, 162, 163, 51, 164, 165, 166, 167, 39, 168, 169, 170, 171, 172, 173, 174, 175, 176, 177, 178, 179, 180, 181, 182, 183, 50, 49, 184, 185, 186, 187, 188, 189, 190, 191, 192, 193, 194, 195, 196, 197, 198, 199, 200, 201, 202, 203, 204, 205, 206, 207, 208, 209, 210, 211, 212, 213, 214, 215, 216, 217, 218, 219, 220, 221, 222, 223, 224, 310, 311, 312, 313, 314, 315, 316, 317, 318, 319, 320, 321, 322, 323, 324, 325, 326] (by decide +kernel) (by decide +kernel)
set_option maxRecDepth 20000 in
theorem gL_law_X1_cut : GoodIn wsL_law (wsV RL 39 RX1 yX1_cut wsX1_cut) := goodIn_app (goodIn_of _ (by decide +kernel)) ggL_law_X1_cut
set_option maxRecDepth 20000 in
theorem ggL_law_X0_way : GoodIn wsL_law wsX0_way := goodIn_r _ [228, 28, 78, 23, 229, 230, 231, 2, 232, 77, 91, 92, 93, 133, 134, 135, 299, 300, 301, 302, 303, 304, 305, 306, 307, 308, 309] (by decide +kernel) (by decide +kernel)
set_option maxRecDepth 20000 in
theorem gL_law_X0_way : GoodIn wsL_law (wsV RL 40 RX0 yX0_way wsX0_way) := goodIn_app (goodIn_of _ (by decide +kernel)) ggL_law_X0_way
set_option maxRecDepth 20000 in
theorem ggL_law_X1_way : GoodIn wsL_law wsX1_way := goodIn_r _ [236, 68, 155, 45, 46, 310, 311, 312, 313, 314, 315, 316, 317, 318, 319, 320, 321, 322, 323, 324, 325, 326] (by decide +kernel) (by decide +kernel)
set_option maxRecDepth 20000 in
theorem gL_law_X1_way : GoodIn wsL_law (wsV RL 44 RX1 yX1_way wsX1_way) := goodIn_app (goodIn_of _ (by decide +kernel)) ggL_law_X1_way
set_option maxRecDepth 20000 in
theorem ggL_law_X0_cost : GoodIn wsL_law wsX0_cost := goodIn_r _ [240, 30, 78, 63, 229, 230, 231, 2, 232, 77, 91, 92, 93, 299, 300, 301, 302, 303, 304, 305, 306, 307, 308, 309] (by decide +kernel) (by decide +kernel)
set_option maxRecDepth 20000 in
theorem gL_law_X0_cost : GoodIn wsL_law (wsV RL 45 RX0 yX0_cost wsX0_cost) := goodIn_app (goodIn_of _ (by decide +kernel)) ggL_law_X0_cost
set_option maxRecDepth 20000 in
theorem ggL_law_X1_cost : GoodIn wsL_law wsX1_cost := goodIn_r _ [244, 68, 155, 190, 44, 310, 311, 312, 313, 314, 315, 316, 317, 318, 319, 320, 321, 322, 323, 324, 325, 326] (by decide +kernel) (by decide +kernel)
set_option maxRecDepth 20000 in
theorem gL_law_X1_cost : GoodIn wsL_law (wsV RL 49 RX1 yX1_cost wsX1_cost) := goodIn_app (goodIn_of _ (by decide +kernel)) ggL_law_X1_cost
set_option maxRecDepth 20000 in
theorem ggL_law_X0_signs : GoodIn wsL_law wsX0_signs := goodIn_r _ [248, 28, 78, 229, 230, 231, 2, 232, 77, 91, 92, 93, 114, 115, 116, 117, 118, 119, 120, 299, 300, 301, 302, 303, 304, 305, 306, 307, 308, 309] (by decide +kernel) (by decide +kernel)
set_option maxRecDepth 20000 in
theorem gL_law_X0_signs : GoodIn wsL_law (wsV RL 50 RX0 yX0_signs wsX0_signs) := goodIn_app (goodIn_of _ (by decide +kernel)) ggL_law_X0_signs
set_option maxRecDepth 20000 in
theorem ggL_law_X1_signs : GoodIn wsL_law wsX1_signs := goodIn_r _ [252, 68, 155, 45, 310, 311, 312, 313, 314, 315, 316, 317, 318, 319, 320, 321, 322, 323, 324, 325, 326] (by decide +kernel) (by decide +kernel)
set_option maxRecDepth 20000 in
theorem gL_law_X1_signs : GoodIn wsL_law (wsV RL 53 RX1 yX1_signs wsX1_signs) := goodIn_app (goodIn_of _ (by decide +kernel)) ggL_law_X1_signs
set_option maxRecDepth 20000 in
theorem ggL_law_X0_base : GoodIn wsL_law wsX0_base := goodIn_r _ [256, 79, 80, 81, 2, 82, 23, 26, 121, 122, 123, 124, 24, 106, 107, 108, 109, 20, 21, 18, 22, 110, 111, 112, 113, 27, 114, 115, 116, 117, 118, 119, 120, 102, 103, 104, 105, 98, 99, 100, 101, 83, 84, 85, 86, 125, 126, 127, 128, 129, 130, 131, 132, 299, 300, 301, 302, 303, 304, 305, 306, 307, 308, 309] (by decide +kernel) (by decide +kernel)
set_option maxRecDepth 20000 in
theorem gL_law_X0_base : GoodIn wsL_law (wsV RL 54 RX0 yX0_base wsX0_base) := goodIn_app (goodIn_of _ (by decide +kernel)) ggL_law_X0_base
set_option maxRecDepth 20000 in
theorem ggL_law_X1_base : GoodIn wsL_law wsX1_base := goodIn_r _ [260, 68, 156, 157, 158, 5, 159, 52, 160, 161, 162, 163, 51, 164, 165, 166, 167, 39, 199, 200, 201, 202, 195, 196, 197, 198, 191, 192, 193, 194, 168, 169, 170, 171, 172, 173, 174, 175, 176, 177, 178, 179, 203, 204, 205, 206, 207, 208, 209, 210, 310, 311, 312, 313, 314, 315, 316, 317, 318, 319, 320, 321, 322, 323, 324, 325, 326] (by decide +kernel) (by decide +kernel)
set_option maxRecDepth 20000 in
theorem gL_law_X1_base : GoodIn wsL_law (wsV RL 57 RX1 yX1_base wsX1_base) := goodIn_app (goodIn_of _ (by decide +kernel)) ggL_law_X1_base
set_option maxRecDepth 20000 in
theorem ggL_law_X0_slant : GoodIn wsL_law wsX0_slant := goodIn_r _ [264, 265, 266, 267, 2, 268, 24, 27, 269, 270, 271, 272, 114, 115, 116, 117, 118, 119, 120, 299, 300, 301, 302, 303, 304, 305, 306, 307, 308, 309] (by decide +kernel) (by decide +kernel)
set_option maxRecDepth 20000 in
theorem gL_law_X0_slant : GoodIn wsL_law (wsV RL 58 RX0 yX0_slant wsX0_slant) := goodIn_app (goodIn_of _ (by decide +kernel)) ggL_law_X0_slant
set_option maxRecDepth 20000 in
theorem ggL_law_X1_slant : GoodIn wsL_law wsX1_slant := goodIn_r _ [276, 68, 277, 278, 279, 5, 280, 52, 51, 164, 165, 166, 167, 39, 310, 311, 312, 313, 314, 315, 316, 317, 318, 319, 320, 321, 322, 323, 324, 325, 326] (by decide +kernel) (by decide +kernel)
set_option maxRecDepth 20000 in
theorem gL_law_X1_slant : GoodIn wsL_law (wsV RL 61 RX1 yX1_slant wsX1_slant) := goodIn_app (goodIn_of _ (by decide +kernel)) ggL_law_X1_slant
set_option maxRecDepth 20000 in
theorem ggL_law_X0_plain : GoodIn wsL_law wsX0_plain := goodIn_r _ [284, 23, 32, 79, 80, 81, 2, 82, 26, 83, 84, 85, 86, 125, 126, 127, 128, 129, 130, 131, 132, 114, 115, 116, 117, 118, 119, 120, 285, 286, 287, 288, 33, 289, 16, 17, 18, 19, 290, 291, 292, 293, 133, 134, 135, 299, 300, 301, 302, 303, 304, 305, 306, 307, 308, 309] (by decide +kernel) (by decide +kernel)
set_option maxRecDepth 20000 in
theorem gL_law_X0_plain : GoodIn wsL_law (wsV RL 62 RX0 yX0_plain wsX0_plain) := goodIn_app (goodIn_of _ (by decide +kernel)) ggL_law_X0_plain
set_option maxRecDepth 20000 in
theorem ggL_law_X1_plain : GoodIn wsL_law wsX1_plain := goodIn_r _ [297, 68, 48, 47, 49, 298, 156, 157, 158, 5, 159, 52, 160, 161, 162, 163, 51, 164, 165, 166, 167, 39, 168, 169, 170, 171, 172, 173, 174, 175, 176, 177, 178, 179, 185, 186, 187, 188, 189, 50, 190, 191, 192, 193, 194, 195, 196, 197, 198, 199, 200, 201, 202, 203, 204, 205, 206, 207, 208, 209, 210, 211, 212, 213, 214, 215, 216, 217, 218, 219, 220, 310, 311, 312, 313, 314, 315, 316, 317, 318, 319, 320, 321, 322, 323, 324, 325, 326] (by decide +kernel) (by decide +kernel)
set_option maxRecDepth 20000 in
theorem gL_law_X1_plain : GoodIn wsL_law (wsV RL 65 RX1 yX1_plain wsX1_plain) := goodIn_app (goodIn_of _ (by decide +kernel)) ggL_law_X1_plain
theorem dL_law_0 : decode cL_law 0 = .ok (.new 8, 3) := by decide +kernel
theorem dL_law_3 : decode cL_law 3 = .ok (.dup, 1) := by decide +kernel
theorem dL_law_4 : decode cL_law 4 = .ok (.aload_n 0, 1) := by decide +kernel
theorem dL_law_5 : decode cL_law 5 = .ok (.iconst 0, 1) := by decide +kernel
theorem dL_law_6 : decode cL_law 6 = .ok (.invokestatic 15, 3) := by decide +kernel
theorem dL_law_9 : decode cL_law 9 = .ok (.aload_n 0, 1) := by decide +kernel
theorem dL_law_10 : decode cL_law 10 = .ok (.iconst 1, 1) := by decide +kernel
theorem dL_law_11 : decode cL_law 11 = .ok (.invokestatic 15, 3) := by decide +kernel
theorem dL_law_14 : decode cL_law 14 = .ok (.invokespecial 21, 3) := by decide +kernel
theorem dL_law_17 : decode cL_law 17 = .ok (.astore_n 1, 1) := by decide +kernel
theorem dL_law_18 : decode cL_law 18 = .ok (.new 24, 3) := by decide +kernel
theorem dL_law_21 : decode cL_law 21 = .ok (.dup, 1) := by decide +kernel
theorem dL_law_22 : decode cL_law 22 = .ok (.aload_n 0, 1) := by decide +kernel
theorem dL_law_23 : decode cL_law 23 = .ok (.iconst 0, 1) := by decide +kernel
theorem dL_law_24 : decode cL_law 24 = .ok (.invokestatic 15, 3) := by decide +kernel
theorem dL_law_27 : decode cL_law 27 = .ok (.aload_n 0, 1) := by decide +kernel
theorem dL_law_28 : decode cL_law 28 = .ok (.iconst 1, 1) := by decide +kernel
theorem dL_law_29 : decode cL_law 29 = .ok (.invokestatic 15, 3) := by decide +kernel
theorem dL_law_32 : decode cL_law 32 = .ok (.invokespecial 26, 3) := by decide +kernel
theorem dL_law_35 : decode cL_law 35 = .ok (.astore_n 2, 1) := by decide +kernel
theorem dL_law_36 : decode cL_law 36 = .ok (.iconst 2, 1) := by decide +kernel
theorem dL_law_37 : decode cL_law 37 = .ok (.istore_n 3, 1) := by decide +kernel
theorem dL_law_38 : decode cL_law 38 = .ok (.iload_n 3, 1) := by decide +kernel
theorem dL_law_39 : decode cL_law 39 = .ok (.aload_n 0, 1) := by decide +kernel
theorem dL_law_40 : decode cL_law 40 = .ok (.arraylength, 1) := by decide +kernel
theorem dL_law_41 : decode cL_law 41 = .ok (.iconst 4, 1) := by decide +kernel
theorem dL_law_42 : decode cL_law 42 = .ok (.isub, 1) := by decide +kernel
theorem dL_law_43 : decode cL_law 43 = .ok (.if_icmp .gt 295, 3) := by decide +kernel
theorem dL_law_46 : decode cL_law 46 = .ok (.aload_n 0, 1) := by decide +kernel
theorem dL_law_47 : decode cL_law 47 = .ok (.iload_n 3, 1) := by decide +kernel
theorem dL_law_48 : decode cL_law 48 = .ok (.iaload, 1) := by decide +kernel
theorem dL_law_49 : decode cL_law 49 = .ok (.bipush 7, 2) := by decide +kernel
theorem dL_law_51 : decode cL_law 51 = .ok (.iand, 1) := by decide +kernel
theorem dL_law_52 : decode cL_law 52 = .ok (.tableswitch 280 0 7 #[48, 118, 141, 174, 198, 221, 244, 257], 48) := by decide +kernel
theorem dL_law_100 : decode cL_law 100 = .ok (.aload_n 1, 1) := by decide +kernel
theorem dL_law_101 : decode cL_law 101 = .ok (.aload_n 0, 1) := by decide +kernel
theorem dL_law_102 : decode cL_law 102 = .ok (.iload_n 3, 1) := by decide +kernel
theorem dL_law_103 : decode cL_law 103 = .ok (.iconst 1, 1) := by decide +kernel
theorem dL_law_104 : decode cL_law 104 = .ok (.iadd, 1) := by decide +kernel
theorem dL_law_105 : decode cL_law 105 = .ok (.iaload, 1) := by decide +kernel
theorem dL_law_106 : decode cL_law 106 = .ok (.aload_n 0, 1) := by decide +kernel
theorem dL_law_107 : decode cL_law 107 = .ok (.iload_n 3, 1) := by decide +kernel
theorem dL_law_108 : decode cL_law 108 = .ok (.iconst 2, 1) := by decide +kernel
theorem dL_law_109 : decode cL_law 109 = .ok (.iadd, 1) := by decide +kernel
theorem dL_law_110 : decode cL_law 110 = .ok (.iaload, 1) := by decide +kernel
theorem dL_law_111 : decode cL_law 111 = .ok (.aload_n 0, 1) := by decide +kernel
theorem dL_law_112 : decode cL_law 112 = .ok (.iload_n 3, 1) := by decide +kernel
theorem dL_law_113 : decode cL_law 113 = .ok (.iconst 3, 1) := by decide +kernel
theorem dL_law_114 : decode cL_law 114 = .ok (.iadd, 1) := by decide +kernel
theorem dL_law_115 : decode cL_law 115 = .ok (.iaload, 1) := by decide +kernel
theorem dL_law_116 : decode cL_law 116 = .ok (.ifCond .eq 7, 3) := by decide +kernel
theorem dL_law_119 : decode cL_law 119 = .ok (.iconst 1, 1) := by decide +kernel
theorem dL_law_120 : decode cL_law 120 = .ok (.goto 4, 3) := by decide +kernel
theorem dL_law_123 : decode cL_law 123 = .ok (.iconst 0, 1) := by decide +kernel
theorem dL_law_124 : decode cL_law 124 = .ok (.invokestatic 27, 3) := by decide +kernel
theorem dL_law_127 : decode cL_law 127 = .ok (.istore 4, 2) := by decide +kernel
theorem dL_law_129 : decode cL_law 129 = .ok (.aload_n 2, 1) := by decide +kernel
theorem dL_law_130 : decode cL_law 130 = .ok (.aload_n 0, 1) := by decide +kernel
theorem dL_law_131 : decode cL_law 131 = .ok (.iload_n 3, 1) := by decide +kernel
theorem dL_law_132 : decode cL_law 132 = .ok (.iconst 1, 1) := by decide +kernel
theorem dL_law_133 : decode cL_law 133 = .ok (.iadd, 1) := by decide +kernel
theorem dL_law_134 : decode cL_law 134 = .ok (.iaload, 1) := by decide +kernel
theorem dL_law_135 : decode cL_law 135 = .ok (.aload_n 0, 1) := by decide +kernel
theorem dL_law_136 : decode cL_law 136 = .ok (.iload_n 3, 1) := by decide +kernel
theorem dL_law_137 : decode cL_law 137 = .ok (.iconst 2, 1) := by decide +kernel
theorem dL_law_138 : decode cL_law 138 = .ok (.iadd, 1) := by decide +kernel
theorem dL_law_139 : decode cL_law 139 = .ok (.iaload, 1) := by decide +kernel
theorem dL_law_140 : decode cL_law 140 = .ok (.aload_n 0, 1) := by decide +kernel
theorem dL_law_141 : decode cL_law 141 = .ok (.iload_n 3, 1) := by decide +kernel
theorem dL_law_142 : decode cL_law 142 = .ok (.iconst 3, 1) := by decide +kernel
theorem dL_law_143 : decode cL_law 143 = .ok (.iadd, 1) := by decide +kernel
theorem dL_law_144 : decode cL_law 144 = .ok (.iaload, 1) := by decide +kernel
theorem dL_law_145 : decode cL_law 145 = .ok (.ifCond .eq 7, 3) := by decide +kernel
theorem dL_law_148 : decode cL_law 148 = .ok (.iconst 1, 1) := by decide +kernel
theorem dL_law_149 : decode cL_law 149 = .ok (.goto 4, 3) := by decide +kernel
theorem dL_law_152 : decode cL_law 152 = .ok (.iconst 0, 1) := by decide +kernel
theorem dL_law_153 : decode cL_law 153 = .ok (.invokevirtual 30, 3) := by decide +kernel
theorem dL_law_156 : decode cL_law 156 = .ok (.aload_n 2, 1) := by decide +kernel
theorem dL_law_157 : decode cL_law 157 = .ok (.invokevirtual 31, 3) := by decide +kernel
theorem dL_law_160 : decode cL_law 160 = .ok (.iload 4, 2) := by decide +kernel
theorem dL_law_162 : decode cL_law 162 = .ok (.if_icmp .eq 5, 3) := by decide +kernel
theorem dL_law_165 : decode cL_law 165 = .ok (.iconst 0, 1) := by decide +kernel
theorem dL_law_166 : decode cL_law 166 = .ok (.ireturn, 1) := by decide +kernel
theorem dL_law_167 : decode cL_law 167 = .ok (.goto 165, 3) := by decide +kernel
theorem dL_law_170 : decode cL_law 170 = .ok (.aload_n 1, 1) := by decide +kernel
theorem dL_law_171 : decode cL_law 171 = .ok (.aload_n 0, 1) := by decide +kernel
theorem dL_law_172 : decode cL_law 172 = .ok (.iload_n 3, 1) := by decide +kernel
theorem dL_law_173 : decode cL_law 173 = .ok (.iconst 1, 1) := by decide +kernel
theorem dL_law_174 : decode cL_law 174 = .ok (.iadd, 1) := by decide +kernel
theorem dL_law_175 : decode cL_law 175 = .ok (.iaload, 1) := by decide +kernel
theorem dL_law_176 : decode cL_law 176 = .ok (.invokevirtual 35, 3) := by decide +kernel
theorem dL_law_179 : decode cL_law 179 = .ok (.aload_n 2, 1) := by decide +kernel
theorem dL_law_180 : decode cL_law 180 = .ok (.aload_n 0, 1) := by decide +kernel
theorem dL_law_181 : decode cL_law 181 = .ok (.iload_n 3, 1) := by decide +kernel
theorem dL_law_182 : decode cL_law 182 = .ok (.iconst 1, 1) := by decide +kernel
theorem dL_law_183 : decode cL_law 183 = .ok (.iadd, 1) := by decide +kernel
theorem dL_law_184 : decode cL_law 184 = .ok (.iaload, 1) := by decide +kernel
theorem dL_law_185 : decode cL_law 185 = .ok (.invokevirtual 39, 3) := by decide +kernel
theorem dL_law_188 : decode cL_law 188 = .ok (.if_icmp .eq 144, 3) := by decide +kernel
theorem dL_law_191 : decode cL_law 191 = .ok (.iconst 0, 1) := by decide +kernel
theorem dL_law_192 : decode cL_law 192 = .ok (.ireturn, 1) := by decide +kernel
theorem dL_law_193 : decode cL_law 193 = .ok (.aload_n 1, 1) := by decide +kernel
theorem dL_law_194 : decode cL_law 194 = .ok (.aload_n 0, 1) := by decide +kernel
theorem dL_law_195 : decode cL_law 195 = .ok (.iload_n 3, 1) := by decide +kernel
theorem dL_law_196 : decode cL_law 196 = .ok (.iconst 1, 1) := by decide +kernel
theorem dL_law_197 : decode cL_law 197 = .ok (.iadd, 1) := by decide +kernel
theorem dL_law_198 : decode cL_law 198 = .ok (.iaload, 1) := by decide +kernel
theorem dL_law_199 : decode cL_law 199 = .ok (.aload_n 0, 1) := by decide +kernel
theorem dL_law_200 : decode cL_law 200 = .ok (.iload_n 3, 1) := by decide +kernel
theorem dL_law_201 : decode cL_law 201 = .ok (.iconst 2, 1) := by decide +kernel
theorem dL_law_202 : decode cL_law 202 = .ok (.iadd, 1) := by decide +kernel
theorem dL_law_203 : decode cL_law 203 = .ok (.iaload, 1) := by decide +kernel
theorem dL_law_204 : decode cL_law 204 = .ok (.invokevirtual 40, 3) := by decide +kernel
theorem dL_law_207 : decode cL_law 207 = .ok (.aload_n 2, 1) := by decide +kernel
theorem dL_law_208 : decode cL_law 208 = .ok (.aload_n 0, 1) := by decide +kernel
theorem dL_law_209 : decode cL_law 209 = .ok (.iload_n 3, 1) := by decide +kernel
theorem dL_law_210 : decode cL_law 210 = .ok (.iconst 1, 1) := by decide +kernel
theorem dL_law_211 : decode cL_law 211 = .ok (.iadd, 1) := by decide +kernel
theorem dL_law_212 : decode cL_law 212 = .ok (.iaload, 1) := by decide +kernel
theorem dL_law_213 : decode cL_law 213 = .ok (.aload_n 0, 1) := by decide +kernel
theorem dL_law_214 : decode cL_law 214 = .ok (.iload_n 3, 1) := by decide +kernel
theorem dL_law_215 : decode cL_law 215 = .ok (.iconst 2, 1) := by decide +kernel
theorem dL_law_216 : decode cL_law 216 = .ok (.iadd, 1) := by decide +kernel
theorem dL_law_217 : decode cL_law 217 = .ok (.iaload, 1) := by decide +kernel
theorem dL_law_218 : decode cL_law 218 = .ok (.invokevirtual 44, 3) := by decide +kernel
theorem dL_law_221 : decode cL_law 221 = .ok (.if_icmp .eq 111, 3) := by decide +kernel
theorem dL_law_224 : decode cL_law 224 = .ok (.iconst 0, 1) := by decide +kernel
theorem dL_law_225 : decode cL_law 225 = .ok (.ireturn, 1) := by decide +kernel
theorem dL_law_226 : decode cL_law 226 = .ok (.aload_n 1, 1) := by decide +kernel
theorem dL_law_227 : decode cL_law 227 = .ok (.aload_n 0, 1) := by decide +kernel
theorem dL_law_228 : decode cL_law 228 = .ok (.iload_n 3, 1) := by decide +kernel
theorem dL_law_229 : decode cL_law 229 = .ok (.iconst 1, 1) := by decide +kernel
theorem dL_law_230 : decode cL_law 230 = .ok (.iadd, 1) := by decide +kernel
theorem dL_law_231 : decode cL_law 231 = .ok (.iaload, 1) := by decide +kernel
theorem dL_law_232 : decode cL_law 232 = .ok (.invokevirtual 45, 3) := by decide +kernel
theorem dL_law_235 : decode cL_law 235 = .ok (.aload_n 2, 1) := by decide +kernel
theorem dL_law_236 : decode cL_law 236 = .ok (.aload_n 0, 1) := by decide +kernel
theorem dL_law_237 : decode cL_law 237 = .ok (.iload_n 3, 1) := by decide +kernel
theorem dL_law_238 : decode cL_law 238 = .ok (.iconst 1, 1) := by decide +kernel
theorem dL_law_239 : decode cL_law 239 = .ok (.iadd, 1) := by decide +kernel
theorem dL_law_240 : decode cL_law 240 = .ok (.iaload, 1) := by decide +kernel
theorem dL_law_241 : decode cL_law 241 = .ok (.invokevirtual 49, 3) := by decide +kernel
theorem dL_law_244 : decode cL_law 244 = .ok (.lcmp, 1) := by decide +kernel
theorem dL_law_245 : decode cL_law 245 = .ok (.ifCond .eq 87, 3) := by decide +kernel
theorem dL_law_248 : decode cL_law 248 = .ok (.iconst 0, 1) := by decide +kernel
theorem dL_law_249 : decode cL_law 249 = .ok (.ireturn, 1) := by decide +kernel
theorem dL_law_250 : decode cL_law 250 = .ok (.aload_n 1, 1) := by decide +kernel
theorem dL_law_251 : decode cL_law 251 = .ok (.aload_n 0, 1) := by decide +kernel
theorem dL_law_252 : decode cL_law 252 = .ok (.iload_n 3, 1) := by decide +kernel
theorem dL_law_253 : decode cL_law 253 = .ok (.iconst 1, 1) := by decide +kernel
theorem dL_law_254 : decode cL_law 254 = .ok (.iadd, 1) := by decide +kernel
theorem dL_law_255 : decode cL_law 255 = .ok (.iaload, 1) := by decide +kernel
theorem dL_law_256 : decode cL_law 256 = .ok (.invokevirtual 50, 3) := by decide +kernel
theorem dL_law_259 : decode cL_law 259 = .ok (.aload_n 2, 1) := by decide +kernel
theorem dL_law_260 : decode cL_law 260 = .ok (.aload_n 0, 1) := by decide +kernel
theorem dL_law_261 : decode cL_law 261 = .ok (.iload_n 3, 1) := by decide +kernel
theorem dL_law_262 : decode cL_law 262 = .ok (.iconst 1, 1) := by decide +kernel
theorem dL_law_263 : decode cL_law 263 = .ok (.iadd, 1) := by decide +kernel
theorem dL_law_264 : decode cL_law 264 = .ok (.iaload, 1) := by decide +kernel
theorem dL_law_265 : decode cL_law 265 = .ok (.invokevirtual 53, 3) := by decide +kernel
theorem dL_law_268 : decode cL_law 268 = .ok (.if_icmp .eq 64, 3) := by decide +kernel
theorem dL_law_271 : decode cL_law 271 = .ok (.iconst 0, 1) := by decide +kernel
theorem dL_law_272 : decode cL_law 272 = .ok (.ireturn, 1) := by decide +kernel
theorem dL_law_273 : decode cL_law 273 = .ok (.aload_n 1, 1) := by decide +kernel
theorem dL_law_274 : decode cL_law 274 = .ok (.aload_n 0, 1) := by decide +kernel
theorem dL_law_275 : decode cL_law 275 = .ok (.iload_n 3, 1) := by decide +kernel
theorem dL_law_276 : decode cL_law 276 = .ok (.iconst 1, 1) := by decide +kernel
theorem dL_law_277 : decode cL_law 277 = .ok (.iadd, 1) := by decide +kernel
theorem dL_law_278 : decode cL_law 278 = .ok (.iaload, 1) := by decide +kernel
theorem dL_law_279 : decode cL_law 279 = .ok (.invokevirtual 54, 3) := by decide +kernel
theorem dL_law_282 : decode cL_law 282 = .ok (.aload_n 2, 1) := by decide +kernel
theorem dL_law_283 : decode cL_law 283 = .ok (.aload_n 0, 1) := by decide +kernel
theorem dL_law_284 : decode cL_law 284 = .ok (.iload_n 3, 1) := by decide +kernel
theorem dL_law_285 : decode cL_law 285 = .ok (.iconst 1, 1) := by decide +kernel
theorem dL_law_286 : decode cL_law 286 = .ok (.iadd, 1) := by decide +kernel
theorem dL_law_287 : decode cL_law 287 = .ok (.iaload, 1) := by decide +kernel
theorem dL_law_288 : decode cL_law 288 = .ok (.invokevirtual 57, 3) := by decide +kernel
theorem dL_law_291 : decode cL_law 291 = .ok (.if_icmp .eq 41, 3) := by decide +kernel
theorem dL_law_294 : decode cL_law 294 = .ok (.iconst 0, 1) := by decide +kernel
theorem dL_law_295 : decode cL_law 295 = .ok (.ireturn, 1) := by decide +kernel
theorem dL_law_296 : decode cL_law 296 = .ok (.aload_n 1, 1) := by decide +kernel
theorem dL_law_297 : decode cL_law 297 = .ok (.invokevirtual 58, 3) := by decide +kernel
theorem dL_law_300 : decode cL_law 300 = .ok (.aload_n 2, 1) := by decide +kernel
theorem dL_law_301 : decode cL_law 301 = .ok (.invokevirtual 61, 3) := by decide +kernel
theorem dL_law_304 : decode cL_law 304 = .ok (.if_icmp .eq 28, 3) := by decide +kernel
theorem dL_law_307 : decode cL_law 307 = .ok (.iconst 0, 1) := by decide +kernel
theorem dL_law_308 : decode cL_law 308 = .ok (.ireturn, 1) := by decide +kernel
theorem dL_law_309 : decode cL_law 309 = .ok (.aload_n 1, 1) := by decide +kernel
theorem dL_law_310 : decode cL_law 310 = .ok (.aload_n 0, 1) := by decide +kernel
theorem dL_law_311 : decode cL_law 311 = .ok (.iload_n 3, 1) := by decide +kernel
theorem dL_law_312 : decode cL_law 312 = .ok (.iconst 1, 1) := by decide +kernel
theorem dL_law_313 : decode cL_law 313 = .ok (.iadd, 1) := by decide +kernel
theorem dL_law_314 : decode cL_law 314 = .ok (.iaload, 1) := by decide +kernel
theorem dL_law_315 : decode cL_law 315 = .ok (.invokevirtual 62, 3) := by decide +kernel
theorem dL_law_318 : decode cL_law 318 = .ok (.aload_n 2, 1) := by decide +kernel
theorem dL_law_319 : decode cL_law 319 = .ok (.aload_n 0, 1) := by decide +kernel
theorem dL_law_320 : decode cL_law 320 = .ok (.iload_n 3, 1) := by decide +kernel
theorem dL_law_321 : decode cL_law 321 = .ok (.iconst 1, 1) := by decide +kernel
theorem dL_law_322 : decode cL_law 322 = .ok (.iadd, 1) := by decide +kernel
theorem dL_law_323 : decode cL_law 323 = .ok (.iaload, 1) := by decide +kernel
theorem dL_law_324 : decode cL_law 324 = .ok (.invokevirtual 65, 3) := by decide +kernel
theorem dL_law_327 : decode cL_law 327 = .ok (.if_icmp .eq 5, 3) := by decide +kernel
theorem dL_law_330 : decode cL_law 330 = .ok (.iconst 0, 1) := by decide +kernel
theorem dL_law_331 : decode cL_law 331 = .ok (.ireturn, 1) := by decide +kernel
theorem dL_law_332 : decode cL_law 332 = .ok (.iinc 3 4, 3) := by decide +kernel
theorem dL_law_335 : decode cL_law 335 = .ok (.goto (-297), 3) := by decide +kernel
theorem dL_law_338 : decode cL_law 338 = .ok (.iconst 1, 1) := by decide +kernel
theorem dL_law_339 : decode cL_law 339 = .ok (.ireturn, 1) := by decide +kernel
abbrev vwCl : List vw_C := [(RJx00060, TJx00060, 6), (RX0, TX0, 11), (RX1, TX1, 17)]

