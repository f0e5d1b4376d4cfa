theorem dX0_base_8 : decode cX0_base 8 = .ok (.iconst (-1), 1) := by decide +kernel
theorem dX0_base_9 : decode cX0_base 9 = .ok (.ireturn, 1) := by decide +kernel
theorem dX0_base_10 : decode cX0_base 10 = .ok (.iload_n 1, 1) := by decide +kernel
theorem dX0_base_11 : decode cX0_base 11 = .ok (.tableswitch 82 0 5 #[37, 42, 47, 52, 57, 64], 37) := by decide +kernel
theorem dX0_base_48 : decode cX0_base 48 = .ok (.aload_n 0, 1) := by decide +kernel
theorem dX0_base_49 : decode cX0_base 49 = .ok (.invokevirtual 96, 3) := by decide +kernel
theorem dX0_base_52 : decode cX0_base 52 = .ok (.ireturn, 1) := by decide +kernel
theorem dX0_base_53 : decode cX0_base 53 = .ok (.aload_n 0, 1) := by decide +kernel
theorem dX0_base_54 : decode cX0_base 54 = .ok (.invokevirtual 99, 3) := by decide +kernel
theorem dX0_base_57 : decode cX0_base 57 = .ok (.ireturn, 1) := by decide +kernel
theorem dX0_base_58 : decode cX0_base 58 = .ok (.aload_n 0, 1) := by decide +kernel
theorem dX0_base_59 : decode cX0_base 59 = .ok (.invokevirtual 102, 3) := by decide +kernel
theorem dX0_base_62 : decode cX0_base 62 = .ok (.ireturn, 1) := by decide +kernel
theorem dX0_base_63 : decode cX0_base 63 = .ok (.aload_n 0, 1) := by decide +kernel
theorem dX0_base_64 : decode cX0_base 64 = .ok (.invokevirtual 57, 3) := by decide +kernel
theorem dX0_base_67 : decode cX0_base 67 = .ok (.ireturn, 1) := by decide +kernel
theorem dX0_base_68 : decode cX0_base 68 = .ok (.aload_n 0, 1) := by decide +kernel
theorem dX0_base_69 : decode cX0_base 69 = .ok (.invokevirtual 64, 3) := by decide +kernel
theorem dX0_base_72 : decode cX0_base 72 = .ok (.iconst 1, 1) := by decide +kernel
theorem dX0_base_73 : decode cX0_base 73 = .ok (.iadd, 1) := by decide +kernel
theorem dX0_base_74 : decode cX0_base 74 = .ok (.ireturn, 1) := by decide +kernel
theorem dX0_base_75 : decode cX0_base 75 = .ok (.aload_n 0, 1) := by decide +kernel
theorem dX0_base_76 : decode cX0_base 76 = .ok (.aload_n 0, 1) := by decide +kernel
theorem dX0_base_77 : decode cX0_base 77 = .ok (.invokevirtual 57, 3) := by decide +kernel
theorem dX0_base_80 : decode cX0_base 80 = .ok (.aload_n 0, 1) := by decide +kernel
theorem dX0_base_81 : decode cX0_base 81 = .ok (.invokevirtual 64, 3) := by decide +kernel
theorem dX0_base_84 : decode cX0_base 84 = .ok (.iconst 1, 1) := by decide +kernel
theorem dX0_base_85 : decode cX0_base 85 = .ok (.iadd, 1) := by decide +kernel
theorem dX0_base_86 : decode cX0_base 86 = .ok (.invokevirtual 105, 3) := by decide +kernel
theorem dX0_base_89 : decode cX0_base 89 = .ok (.invokestatic 90, 3) := by decide +kernel
theorem dX0_base_92 : decode cX0_base 92 = .ok (.ireturn, 1) := by decide +kernel
theorem dX0_base_93 : decode cX0_base 93 = .ok (.iconst (-1), 1) := by decide +kernel
theorem dX0_base_94 : decode cX0_base 94 = .ok (.ireturn, 1) := by decide +kernel
set_option maxRecDepth 20000 in
theorem ggX0_slant_X0_shearedColumns : GoodIn wsX0_slant wsX0_shearedColumns := goodIn_r _ [5, 6, 7, 8, 9, 10, 11, 12, 13, 14, 15, 16, 17, 18, 19, 20, 21, 22, 23, 24, 25, 26, 27, 28, 29] (by decide +kernel) (by decide +kernel)
set_option maxRecDepth 20000 in
theorem gX0_slant_X0_shearedColumns : GoodIn wsX0_slant (wsV RX0 109 RX0 yX0_shearedColumns wsX0_shearedColumns) := goodIn_app (goodIn_of _ (by decide +kernel)) ggX0_slant_X0_shearedColumns
theorem dX0_slant_0 : decode cX0_slant 0 = .ok (.iconst 0, 1) := by decide +kernel
theorem dX0_slant_1 : decode cX0_slant 1 = .ok (.istore_n 1, 1) := by decide +kernel
theorem dX0_slant_2 : decode cX0_slant 2 = .ok (.aload_n 0, 1) := by decide +kernel
theorem dX0_slant_3 : decode cX0_slant 3 = .ok (.iconst 0, 1) := by decide +kernel
theorem dX0_slant_4 : decode cX0_slant 4 = .ok (.invokevirtual 109, 3) := by decide +kernel
theorem dX0_slant_7 : decode cX0_slant 7 = .ok (.istore_n 2, 1) := by decide +kernel
theorem dX0_slant_8 : decode cX0_slant 8 = .ok (.iconst 1, 1) := by decide +kernel
theorem dX0_slant_9 : decode cX0_slant 9 = .ok (.istore_n 3, 1) := by decide +kernel
theorem dX0_slant_10 : decode cX0_slant 10 = .ok (.iload_n 3, 1) := by decide +kernel
theorem dX0_slant_11 : decode cX0_slant 11 = .ok (.bipush 6, 2) := by decide +kernel
theorem dX0_slant_13 : decode cX0_slant 13 = .ok (.if_icmp .gt 47, 3) := by decide +kernel
theorem dX0_slant_16 : decode cX0_slant 16 = .ok (.aload_n 0, 1) := by decide +kernel
theorem dX0_slant_17 : decode cX0_slant 17 = .ok (.iload_n 3, 1) := by decide +kernel
theorem dX0_slant_18 : decode cX0_slant 18 = .ok (.ineg, 1) := by decide +kernel
theorem dX0_slant_19 : decode cX0_slant 19 = .ok (.invokevirtual 109, 3) := by decide +kernel
theorem dX0_slant_22 : decode cX0_slant 22 = .ok (.istore 4, 2) := by decide +kernel
theorem dX0_slant_24 : decode cX0_slant 24 = .ok (.iload 4, 2) := by decide +kernel
theorem dX0_slant_26 : decode cX0_slant 26 = .ok (.iload_n 2, 1) := by decide +kernel
theorem dX0_slant_27 : decode cX0_slant 27 = .ok (.if_icmp .ge 9, 3) := by decide +kernel
theorem dX0_slant_30 : decode cX0_slant 30 = .ok (.iload 4, 2) := by decide +kernel
theorem dX0_slant_32 : decode cX0_slant 32 = .ok (.istore_n 2, 1) := by decide +kernel
theorem dX0_slant_33 : decode cX0_slant 33 = .ok (.iload_n 3, 1) := by decide +kernel
theorem dX0_slant_34 : decode cX0_slant 34 = .ok (.ineg, 1) := by decide +kernel
theorem dX0_slant_35 : decode cX0_slant 35 = .ok (.istore_n 1, 1) := by decide +kernel
theorem dX0_slant_36 : decode cX0_slant 36 = .ok (.aload_n 0, 1) := by decide +kernel
theorem dX0_slant_37 : decode cX0_slant 37 = .ok (.iload_n 3, 1) := by decide +kernel
theorem dX0_slant_38 : decode cX0_slant 38 = .ok (.invokevirtual 109, 3) := by decide +kernel
theorem dX0_slant_41 : decode cX0_slant 41 = .ok (.istore 5, 2) := by decide +kernel
theorem dX0_slant_43 : decode cX0_slant 43 = .ok (.iload 5, 2) := by decide +kernel
theorem dX0_slant_45 : decode cX0_slant 45 = .ok (.iload_n 2, 1) := by decide +kernel
theorem dX0_slant_46 : decode cX0_slant 46 = .ok (.if_icmp .ge 8, 3) := by decide +kernel
theorem dX0_slant_49 : decode cX0_slant 49 = .ok (.iload 5, 2) := by decide +kernel
theorem dX0_slant_51 : decode cX0_slant 51 = .ok (.istore_n 2, 1) := by decide +kernel
theorem dX0_slant_52 : decode cX0_slant 52 = .ok (.iload_n 3, 1) := by decide +kernel
theorem dX0_slant_53 : decode cX0_slant 53 = .ok (.istore_n 1, 1) := by decide +kernel
theorem dX0_slant_54 : decode cX0_slant 54 = .ok (.iinc 3 1, 3) := by decide +kernel
theorem dX0_slant_57 : decode cX0_slant 57 = .ok (.goto (-47), 3) := by decide +kernel
theorem dX0_slant_60 : decode cX0_slant 60 = .ok (.iload_n 1, 1) := by decide +kernel
theorem dX0_slant_61 : decode cX0_slant 61 = .ok (.ireturn, 1) := by decide +kernel
set_option maxRecDepth 20000 in
theorem ggX0_plain_X0_firstDarkColumn : GoodIn wsX0_plain wsX0_firstDarkColumn := goodIn_r _ [7, 1, 8, 45, 46, 47, 48, 49, 50, 51, 52, 53, 54, 55] (by decide +kernel) (by decide +kernel)
set_option maxRecDepth 20000 in
theorem gX0_plain_X0_firstDarkColumn : GoodIn wsX0_plain (wsV RX0 57 RX0 yX0_firstDarkColumn wsX0_firstDarkColumn) := goodIn_app (goodIn_of _ (by decide +kernel)) ggX0_plain_X0_firstDarkColumn
set_option maxRecDepth 20000 in
theorem ggX0_plain_X0_lastDarkColumn : GoodIn wsX0_plain wsX0_lastDarkColumn := goodIn_r _ [12, 1, 8, 45, 46, 47, 48, 49, 50, 51, 52, 53, 54, 55] (by decide +kernel) (by decide +kernel)
set_option maxRecDepth 20000 in
theorem gX0_plain_X0_lastDarkColumn : GoodIn wsX0_plain (wsV RX0 64 RX0 yX0_lastDarkColumn wsX0_lastDarkColumn) := goodIn_app (goodIn_of _ (by decide +kernel)) ggX0_plain_X0_lastDarkColumn
set_option maxRecDepth 20000 in
theorem ggX0_plain_X0_placesToCut : GoodIn wsX0_plain wsX0_placesToCut := goodIn_r _ [16, 8, 17, 18, 19, 6, 20, 21, 22, 23, 24, 25, 26, 27, 45, 46, 47, 48, 49, 50, 51, 52, 53, 54, 55] (by decide +kernel) (by decide +kernel)
set_option maxRecDepth 20000 in
theorem gX0_plain_X0_placesToCut : GoodIn wsX0_plain (wsV RX0 105 RX0 yX0_placesToCut wsX0_placesToCut) := goodIn_app (goodIn_of _ (by decide +kernel)) ggX0_plain_X0_placesToCut
set_option maxRecDepth 20000 in
theorem ggX0_plain_X0_lengthenTails : GoodIn wsX0_plain wsX0_lengthenTails := goodIn_r _ [31, 32, 8, 2, 33, 34, 35, 36, 37, 38, 39, 40, 41, 42, 43, 6, 44, 45, 46, 47, 48, 49, 50, 51, 52, 53, 54, 55] (by decide +kernel) (by decide +kernel)
set_option maxRecDepth 20000 in
theorem gX0_plain_X0_lengthenTails : GoodIn wsX0_plain (wsV RX0 112 RX0 yX0_lengthenTails wsX0_lengthenTails) := goodIn_app (goodIn_of _ (by decide +kernel)) ggX0_plain_X0_lengthenTails
theorem dX0_plain_0 : decode cX0_plain 0 = .ok (.aload_n 0, 1) := by decide +kernel
theorem dX0_plain_1 : decode cX0_plain 1 = .ok (.invokevirtual 57, 3) := by decide +kernel
theorem dX0_plain_4 : decode cX0_plain 4 = .ok (.istore_n 2, 1) := by decide +kernel
theorem dX0_plain_5 : decode cX0_plain 5 = .ok (.iload_n 2, 1) := by decide +kernel
theorem dX0_plain_6 : decode cX0_plain 6 = .ok (.iconst (-1), 1) := by decide +kernel
theorem dX0_plain_7 : decode cX0_plain 7 = .ok (.if_icmp .eq 16, 3) := by decide +kernel
theorem dX0_plain_10 : decode cX0_plain 10 = .ok (.iload_n 1, 1) := by decide +kernel
theorem dX0_plain_11 : decode cX0_plain 11 = .ok (.iconst 1, 1) := by decide +kernel
theorem dX0_plain_12 : decode cX0_plain 12 = .ok (.if_icmp .lt 11, 3) := by decide +kernel
theorem dX0_plain_15 : decode cX0_plain 15 = .ok (.iload_n 1, 1) := by decide +kernel
theorem dX0_plain_16 : decode cX0_plain 16 = .ok (.aload_n 0, 1) := by decide +kernel
theorem dX0_plain_17 : decode cX0_plain 17 = .ok (.getfield 18, 3) := by decide +kernel
theorem dX0_plain_20 : decode cX0_plain 20 = .ok (.if_icmp .le 5, 3) := by decide +kernel
theorem dX0_plain_23 : decode cX0_plain 23 = .ok (.iconst 0, 1) := by decide +kernel
theorem dX0_plain_24 : decode cX0_plain 24 = .ok (.ireturn, 1) := by decide +kernel
theorem dX0_plain_25 : decode cX0_plain 25 = .ok (.aload_n 0, 1) := by decide +kernel
theorem dX0_plain_26 : decode cX0_plain 26 = .ok (.invokevirtual 64, 3) := by decide +kernel
theorem dX0_plain_29 : decode cX0_plain 29 = .ok (.iconst 1, 1) := by decide +kernel
theorem dX0_plain_30 : decode cX0_plain 30 = .ok (.iadd, 1) := by decide +kernel
theorem dX0_plain_31 : decode cX0_plain 31 = .ok (.istore_n 3, 1) := by decide +kernel
theorem dX0_plain_32 : decode cX0_plain 32 = .ok (.aload_n 0, 1) := by decide +kernel
theorem dX0_plain_33 : decode cX0_plain 33 = .ok (.iload_n 2, 1) := by decide +kernel
theorem dX0_plain_34 : decode cX0_plain 34 = .ok (.iload_n 3, 1) := by decide +kernel
theorem dX0_plain_35 : decode cX0_plain 35 = .ok (.invokevirtual 105, 3) := by decide +kernel
theorem dX0_plain_38 : decode cX0_plain 38 = .ok (.lstore 4, 2) := by decide +kernel
theorem dX0_plain_40 : decode cX0_plain 40 = .ok (.iconst 0, 1) := by decide +kernel
theorem dX0_plain_41 : decode cX0_plain 41 = .ok (.istore 6, 2) := by decide +kernel
theorem dX0_plain_43 : decode cX0_plain 43 = .ok (.iload 6, 2) := by decide +kernel
theorem dX0_plain_45 : decode cX0_plain 45 = .ok (.iload_n 3, 1) := by decide +kernel
theorem dX0_plain_46 : decode cX0_plain 46 = .ok (.if_icmp .gt 17, 3) := by decide +kernel
theorem dX0_plain_49 : decode cX0_plain 49 = .ok (.aload_n 0, 1) := by decide +kernel
theorem dX0_plain_50 : decode cX0_plain 50 = .ok (.getfield 42, 3) := by decide +kernel
theorem dX0_plain_53 : decode cX0_plain 53 = .ok (.iload 6, 2) := by decide +kernel
theorem dX0_plain_55 : decode cX0_plain 55 = .ok (.iconst 1, 1) := by decide +kernel
theorem dX0_plain_56 : decode cX0_plain 56 = .ok (.iastore, 1) := by decide +kernel
theorem dX0_plain_57 : decode cX0_plain 57 = .ok (.iinc 6 1, 3) := by decide +kernel
theorem dX0_plain_60 : decode cX0_plain 60 = .ok (.goto (-17), 3) := by decide +kernel
theorem dX0_plain_63 : decode cX0_plain 63 = .ok (.iconst 1, 1) := by decide +kernel
theorem dX0_plain_64 : decode cX0_plain 64 = .ok (.istore 6, 2) := by decide +kernel
theorem dX0_plain_66 : decode cX0_plain 66 = .ok (.iload 6, 2) := by decide +kernel
theorem dX0_plain_68 : decode cX0_plain 68 = .ok (.iload_n 1, 1) := by decide +kernel
theorem dX0_plain_69 : decode cX0_plain 69 = .ok (.if_icmp .ge 17, 3) := by decide +kernel
theorem dX0_plain_72 : decode cX0_plain 72 = .ok (.aload_n 0, 1) := by decide +kernel
theorem dX0_plain_73 : decode cX0_plain 73 = .ok (.iload_n 2, 1) := by decide +kernel
theorem dX0_plain_74 : decode cX0_plain 74 = .ok (.iload_n 3, 1) := by decide +kernel
theorem dX0_plain_75 : decode cX0_plain 75 = .ok (.lload 4, 2) := by decide +kernel
theorem dX0_plain_77 : decode cX0_plain 77 = .ok (.invokevirtual 112, 3) := by decide +kernel
theorem dX0_plain_80 : decode cX0_plain 80 = .ok (.iinc 6 1, 3) := by decide +kernel
theorem dX0_plain_83 : decode cX0_plain 83 = .ok (.goto (-17), 3) := by decide +kernel
theorem dX0_plain_86 : decode cX0_plain 86 = .ok (.aload_n 0, 1) := by decide +kernel
theorem dX0_plain_87 : decode cX0_plain 87 = .ok (.getfield 42, 3) := by decide +kernel
theorem dX0_plain_90 : decode cX0_plain 90 = .ok (.iload_n 2, 1) := by decide +kernel
theorem dX0_plain_91 : decode cX0_plain 91 = .ok (.iconst 1, 1) := by decide +kernel
theorem dX0_plain_92 : decode cX0_plain 92 = .ok (.iadd, 1) := by decide +kernel
theorem dX0_plain_93 : decode cX0_plain 93 = .ok (.iaload, 1) := by decide +kernel
theorem dX0_plain_94 : decode cX0_plain 94 = .ok (.ireturn, 1) := by decide +kernel
theorem dX0_has_0 : decode cX0_has 0 = .ok (.lload_n 0, 1) := by decide +kernel
theorem dX0_has_1 : decode cX0_has 1 = .ok (.iload_n 2, 1) := by decide +kernel
theorem dX0_has_2 : decode cX0_has 2 = .ok (.lushr, 1) := by decide +kernel
theorem dX0_has_3 : decode cX0_has 3 = .ok (.lconst 1, 1) := by decide +kernel
theorem dX0_has_4 : decode cX0_has 4 = .ok (.land, 1) := by decide +kernel
theorem dX0_has_5 : decode cX0_has 5 = .ok (.lconst 0, 1) := by decide +kernel
theorem dX0_has_6 : decode cX0_has 6 = .ok (.lcmp, 1) := by decide +kernel
theorem dX0_has_7 : decode cX0_has 7 = .ok (.ifCond .eq 7, 3) := by decide +kernel
theorem dX0_has_10 : decode cX0_has 10 = .ok (.iconst 1, 1) := by decide +kernel
theorem dX0_has_11 : decode cX0_has 11 = .ok (.goto 4, 3) := by decide +kernel
theorem dX0_has_14 : decode cX0_has 14 = .ok (.iconst 0, 1) := by decide +kernel
theorem dX0_has_15 : decode cX0_has 15 = .ok (.ireturn, 1) := by decide +kernel
theorem dX0_firstDarkColumn_0 : decode cX0_firstDarkColumn 0 = .ok (.iconst 0, 1) := by decide +kernel
theorem dX0_firstDarkColumn_1 : decode cX0_firstDarkColumn 1 = .ok (.istore_n 1, 1) := by decide +kernel
theorem dX0_firstDarkColumn_2 : decode cX0_firstDarkColumn 2 = .ok (.iload_n 1, 1) := by decide +kernel
theorem dX0_firstDarkColumn_3 : decode cX0_firstDarkColumn 3 = .ok (.aload_n 0, 1) := by decide +kernel
theorem dX0_firstDarkColumn_4 : decode cX0_firstDarkColumn 4 = .ok (.getfield 18, 3) := by decide +kernel
theorem dX0_firstDarkColumn_7 : decode cX0_firstDarkColumn 7 = .ok (.if_icmp .ge 22, 3) := by decide +kernel
theorem dX0_firstDarkColumn_10 : decode cX0_firstDarkColumn 10 = .ok (.aload_n 0, 1) := by decide +kernel
theorem dX0_firstDarkColumn_11 : decode cX0_firstDarkColumn 11 = .ok (.getfield 25, 3) := by decide +kernel
theorem dX0_firstDarkColumn_14 : decode cX0_firstDarkColumn 14 = .ok (.iload_n 1, 1) := by decide +kernel
theorem dX0_firstDarkColumn_15 : decode cX0_firstDarkColumn 15 = .ok (.laload, 1) := by decide +kernel
theorem dX0_firstDarkColumn_16 : decode cX0_firstDarkColumn 16 = .ok (.lconst 0, 1) := by decide +kernel
theorem dX0_firstDarkColumn_17 : decode cX0_firstDarkColumn 17 = .ok (.lcmp, 1) := by decide +kernel
theorem dX0_firstDarkColumn_18 : decode cX0_firstDarkColumn 18 = .ok (.ifCond .eq 5, 3) := by decide +kernel
theorem dX0_firstDarkColumn_21 : decode cX0_firstDarkColumn 21 = .ok (.iload_n 1, 1) := by decide +kernel
theorem dX0_firstDarkColumn_22 : decode cX0_firstDarkColumn 22 = .ok (.ireturn, 1) := by decide +kernel
theorem dX0_firstDarkColumn_23 : decode cX0_firstDarkColumn 23 = .ok (.iinc 1 1, 3) := by decide +kernel
theorem dX0_firstDarkColumn_26 : decode cX0_firstDarkColumn 26 = .ok (.goto (-24), 3) := by decide +kernel
theorem dX0_firstDarkColumn_29 : decode cX0_firstDarkColumn 29 = .ok (.iconst (-1), 1) := by decide +kernel
theorem dX0_firstDarkColumn_30 : decode cX0_firstDarkColumn 30 = .ok (.ireturn, 1) := by decide +kernel
theorem dX0_lastDarkColumn_0 : decode cX0_lastDarkColumn 0 = .ok (.aload_n 0, 1) := by decide +kernel
theorem dX0_lastDarkColumn_1 : decode cX0_lastDarkColumn 1 = .ok (.getfield 18, 3) := by decide +kernel
theorem dX0_lastDarkColumn_4 : decode cX0_lastDarkColumn 4 = .ok (.iconst 1, 1) := by decide +kernel
theorem dX0_lastDarkColumn_5 : decode cX0_lastDarkColumn 5 = .ok (.isub, 1) := by decide +kernel
theorem dX0_lastDarkColumn_6 : decode cX0_lastDarkColumn 6 = .ok (.istore_n 1, 1) := by decide +kernel
theorem dX0_lastDarkColumn_7 : decode cX0_lastDarkColumn 7 = .ok (.iload_n 1, 1) := by decide +kernel
theorem dX0_lastDarkColumn_8 : decode cX0_lastDarkColumn 8 = .ok (.ifCond .lt 22, 3) := by decide +kernel
theorem dX0_lastDarkColumn_11 : decode cX0_lastDarkColumn 11 = .ok (.aload_n 0, 1) := by decide +kernel
theorem dX0_lastDarkColumn_12 : decode cX0_lastDarkColumn 12 = .ok (.getfield 25, 3) := by decide +kernel
theorem dX0_lastDarkColumn_15 : decode cX0_lastDarkColumn 15 = .ok (.iload_n 1, 1) := by decide +kernel
theorem dX0_lastDarkColumn_16 : decode cX0_lastDarkColumn 16 = .ok (.laload, 1) := by decide +kernel
theorem dX0_lastDarkColumn_17 : decode cX0_lastDarkColumn 17 = .ok (.lconst 0, 1) := by decide +kernel
theorem dX0_lastDarkColumn_18 : decode cX0_lastDarkColumn 18 = .ok (.lcmp, 1) := by decide +kernel
theorem dX0_lastDarkColumn_19 : decode cX0_lastDarkColumn 19 = .ok (.ifCond .eq 5, 3) := by decide +kernel
theorem dX0_lastDarkColumn_22 : decode cX0_lastDarkColumn 22 = .ok (.iload_n 1, 1) := by decide +kernel
theorem dX0_lastDarkColumn_23 : decode cX0_lastDarkColumn 23 = .ok (.ireturn, 1) := by decide +kernel
theorem dX0_lastDarkColumn_24 : decode cX0_lastDarkColumn 24 = .ok (.iinc 1 (-1), 3) := by decide +kernel
theorem dX0_lastDarkColumn_27 : decode cX0_lastDarkColumn 27 = .ok (.goto (-20), 3) := by decide +kernel
theorem dX0_lastDarkColumn_30 : decode cX0_lastDarkColumn 30 = .ok (.iconst (-1), 1) := by decide +kernel
theorem dX0_lastDarkColumn_31 : decode cX0_lastDarkColumn 31 = .ok (.ireturn, 1) := by decide +kernel
set_option maxRecDepth 20000 in
theorem ggX0_darkInRow_J13_bitCount_95d88 : GoodIn wsX0_darkInRow wsJ13_bitCount_95d88 := goodIn_r _ [5, 6, 7, 8] (by decide +kernel) (by decide +kernel)
set_option maxRecDepth 20000 in
theorem gX0_darkInRow_J13_bitCount_95d88 : GoodIn wsX0_darkInRow (va_wsS RX0 90 yJ13_bitCount_95d88 wsJ13_bitCount_95d88) := goodIn_app (goodIn_of _ (by decide +kernel)) ggX0_darkInRow_J13_bitCount_95d88
theorem dX0_darkInRow_0 : decode cX0_darkInRow 0 = .ok (.aload_n 0, 1) := by decide +kernel
theorem dX0_darkInRow_1 : decode cX0_darkInRow 1 = .ok (.getfield 29, 3) := by decide +kernel
theorem dX0_darkInRow_4 : decode cX0_darkInRow 4 = .ok (.iload_n 1, 1) := by decide +kernel
theorem dX0_darkInRow_5 : decode cX0_darkInRow 5 = .ok (.laload, 1) := by decide +kernel
theorem dX0_darkInRow_6 : decode cX0_darkInRow 6 = .ok (.invokestatic 90, 3) := by decide +kernel
theorem dX0_darkInRow_9 : decode cX0_darkInRow 9 = .ok (.ireturn, 1) := by decide +kernel
set_option maxRecDepth 20000 in
theorem ggX0_mostDarkInARow_X0_darkInRow : GoodIn wsX0_mostDarkInARow wsX0_darkInRow := goodIn_r _ [10, 11, 12, 13, 14, 15, 16, 17, 18, 19, 20, 21, 22, 23, 24, 25, 26, 27, 28, 29] (by decide +kernel) (by decide +kernel)
set_option maxRecDepth 20000 in
theorem gX0_mostDarkInARow_X0_darkInRow : GoodIn wsX0_mostDarkInARow (wsV RX0 116 RX0 yX0_darkInRow wsX0_darkInRow) := goodIn_app (goodIn_of _ (by decide +kernel)) ggX0_mostDarkInARow_X0_darkInRow
theorem dX0_mostDarkInARow_0 : decode cX0_mostDarkInARow 0 = .ok (.iconst 0, 1) := by decide +kernel
theorem dX0_mostDarkInARow_1 : decode cX0_mostDarkInARow 1 = .ok (.istore_n 1, 1) := by decide +kernel
theorem dX0_mostDarkInARow_2 : decode cX0_mostDarkInARow 2 = .ok (.iconst 0, 1) := by decide +kernel
theorem dX0_mostDarkInARow_3 : decode cX0_mostDarkInARow 3 = .ok (.istore_n 2, 1) := by decide +kernel
theorem dX0_mostDarkInARow_4 : decode cX0_mostDarkInARow 4 = .ok (.iload_n 2, 1) := by decide +kernel
theorem dX0_mostDarkInARow_5 : decode cX0_mostDarkInARow 5 = .ok (.aload_n 0, 1) := by decide +kernel
theorem dX0_mostDarkInARow_6 : decode cX0_mostDarkInARow 6 = .ok (.getfield 22, 3) := by decide +kernel
theorem dX0_mostDarkInARow_9 : decode cX0_mostDarkInARow 9 = .ok (.if_icmp .ge 19, 3) := by decide +kernel
theorem dX0_mostDarkInARow_12 : decode cX0_mostDarkInARow 12 = .ok (.iload_n 1, 1) := by decide +kernel
theorem dX0_mostDarkInARow_13 : decode cX0_mostDarkInARow 13 = .ok (.aload_n 0, 1) := by decide +kernel
theorem dX0_mostDarkInARow_14 : decode cX0_mostDarkInARow 14 = .ok (.iload_n 2, 1) := by decide +kernel
theorem dX0_mostDarkInARow_15 : decode cX0_mostDarkInARow 15 = .ok (.invokevirtual 116, 3) := by decide +kernel
theorem dX0_mostDarkInARow_18 : decode cX0_mostDarkInARow 18 = .ok (.invokestatic 15, 3) := by decide +kernel
theorem dX0_mostDarkInARow_21 : decode cX0_mostDarkInARow 21 = .ok (.istore_n 1, 1) := by decide +kernel
theorem dX0_mostDarkInARow_22 : decode cX0_mostDarkInARow 22 = .ok (.iinc 2 1, 3) := by decide +kernel
theorem dX0_mostDarkInARow_25 : decode cX0_mostDarkInARow 25 = .ok (.goto (-21), 3) := by decide +kernel
theorem dX0_mostDarkInARow_28 : decode cX0_mostDarkInARow 28 = .ok (.iload_n 1, 1) := by decide +kernel
theorem dX0_mostDarkInARow_29 : decode cX0_mostDarkInARow 29 = .ok (.ireturn, 1) := by decide +kernel
set_option maxRecDepth 20000 in
theorem ggX0_firstStrongRow_X0_mostDarkInARow : GoodIn wsX0_firstStrongRow wsX0_mostDarkInARow := goodIn_r _ [6, 1, 7, 8, 9, 10, 11, 12, 13, 5, 14, 15, 16, 17, 18, 19, 20, 21, 22, 23, 24, 25, 26, 27, 28, 29, 30, 31, 32, 33] (by decide +kernel) (by decide +kernel)
set_option maxRecDepth 20000 in
theorem gX0_firstStrongRow_X0_mostDarkInARow : GoodIn wsX0_firstStrongRow (wsV RX0 119 RX0 yX0_mostDarkInARow wsX0_mostDarkInARow) := goodIn_app (goodIn_of _ (by decide +kernel)) ggX0_firstStrongRow_X0_mostDarkInARow
set_option maxRecDepth 20000 in
theorem ggX0_firstStrongRow_X0_darkInRow : GoodIn wsX0_firstStrongRow wsX0_darkInRow := goodIn_r _ [14, 15, 16, 17, 18, 19, 20, 21, 22, 23, 24, 25, 26, 27, 28, 29, 30, 31, 32, 33] (by decide +kernel) (by decide +kernel)
set_option maxRecDepth 20000 in
theorem gX0_firstStrongRow_X0_darkInRow : GoodIn wsX0_firstStrongRow (wsV RX0 116 RX0 yX0_darkInRow wsX0_darkInRow) := goodIn_app (goodIn_of _ (by decide +kernel)) ggX0_firstStrongRow_X0_darkInRow
theorem dX0_firstStrongRow_0 : decode cX0_firstStrongRow 0 = .ok (.aload_n 0, 1) := by decide +kernel
theorem dX0_firstStrongRow_1 : decode cX0_firstStrongRow 1 = .ok (.invokevirtual 119, 3) := by decide +kernel
theorem dX0_firstStrongRow_4 : decode cX0_firstStrongRow 4 = .ok (.istore_n 1, 1) := by decide +kernel
theorem dX0_firstStrongRow_5 : decode cX0_firstStrongRow 5 = .ok (.iconst 0, 1) := by decide +kernel
theorem dX0_firstStrongRow_6 : decode cX0_firstStrongRow 6 = .ok (.istore_n 2, 1) := by decide +kernel
theorem dX0_firstStrongRow_7 : decode cX0_firstStrongRow 7 = .ok (.iload_n 2, 1) := by decide +kernel
theorem dX0_firstStrongRow_8 : decode cX0_firstStrongRow 8 = .ok (.aload_n 0, 1) := by decide +kernel
theorem dX0_firstStrongRow_9 : decode cX0_firstStrongRow 9 = .ok (.getfield 22, 3) := by decide +kernel
theorem dX0_firstStrongRow_12 : decode cX0_firstStrongRow 12 = .ok (.if_icmp .ge 22, 3) := by decide +kernel
theorem dX0_firstStrongRow_15 : decode cX0_firstStrongRow 15 = .ok (.iconst 2, 1) := by decide +kernel
theorem dX0_firstStrongRow_16 : decode cX0_firstStrongRow 16 = .ok (.aload_n 0, 1) := by decide +kernel
theorem dX0_firstStrongRow_17 : decode cX0_firstStrongRow 17 = .ok (.iload_n 2, 1) := by decide +kernel
theorem dX0_firstStrongRow_18 : decode cX0_firstStrongRow 18 = .ok (.invokevirtual 116, 3) := by decide +kernel
theorem dX0_firstStrongRow_21 : decode cX0_firstStrongRow 21 = .ok (.imul, 1) := by decide +kernel
theorem dX0_firstStrongRow_22 : decode cX0_firstStrongRow 22 = .ok (.iload_n 1, 1) := by decide +kernel
theorem dX0_firstStrongRow_23 : decode cX0_firstStrongRow 23 = .ok (.if_icmp .lt 5, 3) := by decide +kernel
theorem dX0_firstStrongRow_26 : decode cX0_firstStrongRow 26 = .ok (.iload_n 2, 1) := by decide +kernel
theorem dX0_firstStrongRow_27 : decode cX0_firstStrongRow 27 = .ok (.ireturn, 1) := by decide +kernel
theorem dX0_firstStrongRow_28 : decode cX0_firstStrongRow 28 = .ok (.iinc 2 1, 3) := by decide +kernel
theorem dX0_firstStrongRow_31 : decode cX0_firstStrongRow 31 = .ok (.goto (-24), 3) := by decide +kernel
theorem dX0_firstStrongRow_34 : decode cX0_firstStrongRow 34 = .ok (.iconst (-1), 1) := by decide +kernel
theorem dX0_firstStrongRow_35 : decode cX0_firstStrongRow 35 = .ok (.ireturn, 1) := by decide +kernel
set_option maxRecDepth 20000 in
theorem ggX0_lastStrongRow_X0_mostDarkInARow : GoodIn wsX0_lastStrongRow wsX0_mostDarkInARow := goodIn_r _ [6, 1, 7, 8, 9, 10, 11, 12, 13, 5, 14, 15, 16, 17, 18, 19, 20, 21, 22, 23, 24, 25, 26, 27, 28, 29, 30, 31, 32, 33] (by decide +kernel) (by decide +kernel)
set_option maxRecDepth 20000 in
theorem gX0_lastStrongRow_X0_mostDarkInARow : GoodIn wsX0_lastStrongRow (wsV RX0 119 RX0 yX0_mostDarkInARow wsX0_mostDarkInARow) := goodIn_app (goodIn_of _ (by decide +kernel)) ggX0_lastStrongRow_X0_mostDarkInARow
set_option maxRecDepth 20000 in
theorem ggX0_lastStrongRow_X0_darkInRow : GoodIn wsX0_lastStrongRow wsX0_darkInRow := goodIn_r _ [14, 15, 16, 17, 18, 19, 20, 21, 22, 23, 24, 25, 26, 27, 28, 29, 30, 31, 32, 33] (by decide +kernel) (by decide +kernel)
set_option maxRecDepth 20000 in
theorem gX0_lastStrongRow_X0_darkInRow : GoodIn wsX0_lastStrongRow (wsV RX0 116 RX0 yX0_darkInRow wsX0_darkInRow) := goodIn_app (goodIn_of _ (by decide +kernel)) ggX0_lastStrongRow_X0_darkInRow
theorem dX0_lastStrongRow_0 : decode cX0_lastStrongRow 0 = .ok (.aload_n 0, 1) := by decide +kernel
theorem dX0_lastStrongRow_1 : decode cX0_lastStrongRow 1 = .ok (.invokevirtual 119, 3) := by decide +kernel
theorem dX0_lastStrongRow_4 : decode cX0_lastStrongRow 4 = .ok (.istore_n 1, 1) := by decide +kernel
theorem dX0_lastStrongRow_5 : decode cX0_lastStrongRow 5 = .ok (.aload_n 0, 1) := by decide +kernel
theorem dX0_lastStrongRow_6 : decode cX0_lastStrongRow 6 = .ok (.getfield 22, 3) := by decide +kernel
theorem dX0_lastStrongRow_9 : decode cX0_lastStrongRow 9 = .ok (.iconst 1, 1) := by decide +kernel
theorem dX0_lastStrongRow_10 : decode cX0_lastStrongRow 10 = .ok (.isub, 1) := by decide +kernel
theorem dX0_lastStrongRow_11 : decode cX0_lastStrongRow 11 = .ok (.istore_n 2, 1) := by decide +kernel
theorem dX0_lastStrongRow_12 : decode cX0_lastStrongRow 12 = .ok (.iload_n 2, 1) := by decide +kernel
theorem dX0_lastStrongRow_13 : decode cX0_lastStrongRow 13 = .ok (.ifCond .lt 22, 3) := by decide +kernel
theorem dX0_lastStrongRow_16 : decode cX0_lastStrongRow 16 = .ok (.iconst 2, 1) := by decide +kernel
theorem dX0_lastStrongRow_17 : decode cX0_lastStrongRow 17 = .ok (.aload_n 0, 1) := by decide +kernel
theorem dX0_lastStrongRow_18 : decode cX0_lastStrongRow 18 = .ok (.iload_n 2, 1) := by decide +kernel
theorem dX0_lastStrongRow_19 : decode cX0_lastStrongRow 19 = .ok (.invokevirtual 116, 3) := by decide +kernel
theorem dX0_lastStrongRow_22 : decode cX0_lastStrongRow 22 = .ok (.imul, 1) := by decide +kernel
theorem dX0_lastStrongRow_23 : decode cX0_lastStrongRow 23 = .ok (.iload_n 1, 1) := by decide +kernel
theorem dX0_lastStrongRow_24 : decode cX0_lastStrongRow 24 = .ok (.if_icmp .lt 5, 3) := by decide +kernel
theorem dX0_lastStrongRow_27 : decode cX0_lastStrongRow 27 = .ok (.iload_n 2, 1) := by decide +kernel
theorem dX0_lastStrongRow_28 : decode cX0_lastStrongRow 28 = .ok (.ireturn, 1) := by decide +kernel
theorem dX0_lastStrongRow_29 : decode cX0_lastStrongRow 29 = .ok (.iinc 2 (-1), 3) := by decide +kernel
theorem dX0_lastStrongRow_32 : decode cX0_lastStrongRow 32 = .ok (.goto (-20), 3) := by decide +kernel
theorem dX0_lastStrongRow_35 : decode cX0_lastStrongRow 35 = .ok (.iconst (-1), 1) := by decide +kernel
theorem dX0_lastStrongRow_36 : decode cX0_lastStrongRow 36 = .ok (.ireturn, 1) := by decide +kernel
set_option maxRecDepth 20000 in
theorem ggX0_dueWidth_X0_lastStrongRow : GoodIn wsX0_dueWidth wsX0_lastStrongRow := goodIn_r _ [5, 6, 7, 8, 9, 4, 10, 11, 12, 13, 14, 15, 16, 17, 18, 19, 20, 21, 22, 23, 24, 25, 26, 31, 32, 33, 34, 35, 36, 37, 38, 39, 40, 41] (by decide +kernel) (by decide +kernel)
set_option maxRecDepth 20000 in
theorem gX0_dueWidth_X0_lastStrongRow : GoodIn wsX0_dueWidth (wsV RX0 99 RX0 yX0_lastStrongRow wsX0_lastStrongRow) := goodIn_app (goodIn_of _ (by decide +kernel)) ggX0_dueWidth_X0_lastStrongRow
set_option maxRecDepth 20000 in
theorem ggX0_dueWidth_X0_firstStrongRow : GoodIn wsX0_dueWidth wsX0_firstStrongRow := goodIn_r _ [30, 6, 7, 8, 9, 4, 10, 11, 12, 13, 14, 15, 16, 17, 18, 19, 20, 21, 22, 23, 24, 25, 26, 31, 32, 33, 34, 35, 36, 37, 38, 39, 40, 41] (by decide +kernel) (by decide +kernel)
set_option maxRecDepth 20000 in
theorem gX0_dueWidth_X0_firstStrongRow : GoodIn wsX0_dueWidth (wsV RX0 96 RX0 yX0_firstStrongRow wsX0_firstStrongRow) := goodIn_app (goodIn_of _ (by decide +kernel)) ggX0_dueWidth_X0_firstStrongRow
theorem dX0_dueWidth_0 : decode cX0_dueWidth 0 = .ok (.aload_n 0, 1) := by decide +kernel
theorem dX0_dueWidth_1 : decode cX0_dueWidth 1 = .ok (.invokevirtual 99, 3) := by decide +kernel
theorem dX0_dueWidth_4 : decode cX0_dueWidth 4 = .ok (.aload_n 0, 1) := by decide +kernel
theorem dX0_dueWidth_5 : decode cX0_dueWidth 5 = .ok (.invokevirtual 96, 3) := by decide +kernel
theorem dX0_dueWidth_8 : decode cX0_dueWidth 8 = .ok (.isub, 1) := by decide +kernel
theorem dX0_dueWidth_9 : decode cX0_dueWidth 9 = .ok (.iconst 3, 1) := by decide +kernel
theorem dX0_dueWidth_10 : decode cX0_dueWidth 10 = .ok (.imul, 1) := by decide +kernel
theorem dX0_dueWidth_11 : decode cX0_dueWidth 11 = .ok (.iconst 4, 1) := by decide +kernel
theorem dX0_dueWidth_12 : decode cX0_dueWidth 12 = .ok (.idiv, 1) := by decide +kernel
theorem dX0_dueWidth_13 : decode cX0_dueWidth 13 = .ok (.iconst 2, 1) := by decide +kernel
theorem dX0_dueWidth_14 : decode cX0_dueWidth 14 = .ok (.iadd, 1) := by decide +kernel
theorem dX0_dueWidth_15 : decode cX0_dueWidth 15 = .ok (.ireturn, 1) := by decide +kernel
set_option maxRecDepth 20000 in
theorem ggX0_shearedColumns_J9_floorDiv_7cf53 : GoodIn wsX0_shearedColumns wsJ9_floorDiv_7cf53 := goodIn_r _ [6] (by decide +kernel) (by decide +kernel)
set_option maxRecDepth 20000 in
theorem gX0_shearedColumns_J9_floorDiv_7cf53 : GoodIn wsX0_shearedColumns (va_wsS RX0 122 yJ9_floorDiv_7cf53 wsJ9_floorDiv_7cf53) := goodIn_app (goodIn_of _ (by decide +kernel)) ggX0_shearedColumns_J9_floorDiv_7cf53
set_option maxRecDepth 20000 in
theorem ggX0_shearedColumns_J13_bitCount_95d88 : GoodIn wsX0_shearedColumns wsJ13_bitCount_95d88 := goodIn_r _ [10, 11, 12, 13] (by decide +kernel) (by decide +kernel)
set_option maxRecDepth 20000 in
theorem gX0_shearedColumns_J13_bitCount_95d88 : GoodIn wsX0_shearedColumns (va_wsS RX0 90 yJ13_bitCount_95d88 wsJ13_bitCount_95d88) := goodIn_app (goodIn_of _ (by decide +kernel)) ggX0_shearedColumns_J13_bitCount_95d88
theorem dX0_shearedColumns_0 : decode cX0_shearedColumns 0 = .ok (.lconst 0, 1) := by decide +kernel
theorem dX0_shearedColumns_1 : decode cX0_shearedColumns 1 = .ok (.lstore_n 2, 1) := by decide +kernel
theorem dX0_shearedColumns_2 : decode cX0_shearedColumns 2 = .ok (.lconst 0, 1) := by decide +kernel
theorem dX0_shearedColumns_3 : decode cX0_shearedColumns 3 = .ok (.lstore 4, 2) := by decide +kernel
theorem dX0_shearedColumns_5 : decode cX0_shearedColumns 5 = .ok (.iconst 0, 1) := by decide +kernel
theorem dX0_shearedColumns_6 : decode cX0_shearedColumns 6 = .ok (.istore 6, 2) := by decide +kernel
theorem dX0_shearedColumns_8 : decode cX0_shearedColumns 8 = .ok (.iload 6, 2) := by decide +kernel
theorem dX0_shearedColumns_10 : decode cX0_shearedColumns 10 = .ok (.aload_n 0, 1) := by decide +kernel
theorem dX0_shearedColumns_11 : decode cX0_shearedColumns 11 = .ok (.getfield 22, 3) := by decide +kernel
theorem dX0_shearedColumns_14 : decode cX0_shearedColumns 14 = .ok (.if_icmp .ge 63, 3) := by decide +kernel
theorem dX0_shearedColumns_17 : decode cX0_shearedColumns 17 = .ok (.bipush 30, 2) := by decide +kernel
theorem dX0_shearedColumns_19 : decode cX0_shearedColumns 19 = .ok (.iload_n 1, 1) := by decide +kernel
theorem dX0_shearedColumns_20 : decode cX0_shearedColumns 20 = .ok (.aload_n 0, 1) := by decide +kernel
theorem dX0_shearedColumns_21 : decode cX0_shearedColumns 21 = .ok (.getfield 22, 3) := by decide +kernel
theorem dX0_shearedColumns_24 : decode cX0_shearedColumns 24 = .ok (.iconst 1, 1) := by decide +kernel
theorem dX0_shearedColumns_25 : decode cX0_shearedColumns 25 = .ok (.isub, 1) := by decide +kernel
theorem dX0_shearedColumns_26 : decode cX0_shearedColumns 26 = .ok (.iload 6, 2) := by decide +kernel
theorem dX0_shearedColumns_28 : decode cX0_shearedColumns 28 = .ok (.isub, 1) := by decide +kernel
theorem dX0_shearedColumns_29 : decode cX0_shearedColumns 29 = .ok (.imul, 1) := by decide +kernel
theorem dX0_shearedColumns_30 : decode cX0_shearedColumns 30 = .ok (.bipush 8, 2) := by decide +kernel
theorem dX0_shearedColumns_32 : decode cX0_shearedColumns 32 = .ok (.invokestatic 122, 3) := by decide +kernel
theorem dX0_shearedColumns_35 : decode cX0_shearedColumns 35 = .ok (.iadd, 1) := by decide +kernel
theorem dX0_shearedColumns_36 : decode cX0_shearedColumns 36 = .ok (.istore 7, 2) := by decide +kernel
theorem dX0_shearedColumns_38 : decode cX0_shearedColumns 38 = .ok (.lload_n 2, 1) := by decide +kernel
theorem dX0_shearedColumns_39 : decode cX0_shearedColumns 39 = .ok (.aload_n 0, 1) := by decide +kernel
theorem dX0_shearedColumns_40 : decode cX0_shearedColumns 40 = .ok (.getfield 29, 3) := by decide +kernel
theorem dX0_shearedColumns_43 : decode cX0_shearedColumns 43 = .ok (.iload 6, 2) := by decide +kernel
theorem dX0_shearedColumns_45 : decode cX0_shearedColumns 45 = .ok (.laload, 1) := by decide +kernel
theorem dX0_shearedColumns_46 : decode cX0_shearedColumns 46 = .ok (.iload 7, 2) := by decide +kernel
theorem dX0_shearedColumns_48 : decode cX0_shearedColumns 48 = .ok (.lshl, 1) := by decide +kernel
theorem dX0_shearedColumns_49 : decode cX0_shearedColumns 49 = .ok (.lor, 1) := by decide +kernel
theorem dX0_shearedColumns_50 : decode cX0_shearedColumns 50 = .ok (.lstore_n 2, 1) := by decide +kernel
theorem dX0_shearedColumns_51 : decode cX0_shearedColumns 51 = .ok (.lload 4, 2) := by decide +kernel
theorem dX0_shearedColumns_53 : decode cX0_shearedColumns 53 = .ok (.aload_n 0, 1) := by decide +kernel
theorem dX0_shearedColumns_54 : decode cX0_shearedColumns 54 = .ok (.getfield 29, 3) := by decide +kernel
theorem dX0_shearedColumns_57 : decode cX0_shearedColumns 57 = .ok (.iload 6, 2) := by decide +kernel
theorem dX0_shearedColumns_59 : decode cX0_shearedColumns 59 = .ok (.laload, 1) := by decide +kernel
theorem dX0_shearedColumns_60 : decode cX0_shearedColumns 60 = .ok (.iconst 1, 1) := by decide +kernel
theorem dX0_shearedColumns_61 : decode cX0_shearedColumns 61 = .ok (.lushr, 1) := by decide +kernel
theorem dX0_shearedColumns_62 : decode cX0_shearedColumns 62 = .ok (.bipush 63, 2) := by decide +kernel
theorem dX0_shearedColumns_64 : decode cX0_shearedColumns 64 = .ok (.iload 7, 2) := by decide +kernel
theorem dX0_shearedColumns_66 : decode cX0_shearedColumns 66 = .ok (.isub, 1) := by decide +kernel
theorem dX0_shearedColumns_67 : decode cX0_shearedColumns 67 = .ok (.lushr, 1) := by decide +kernel
theorem dX0_shearedColumns_68 : decode cX0_shearedColumns 68 = .ok (.lor, 1) := by decide +kernel
theorem dX0_shearedColumns_69 : decode cX0_shearedColumns 69 = .ok (.lstore 4, 2) := by decide +kernel
theorem dX0_shearedColumns_71 : decode cX0_shearedColumns 71 = .ok (.iinc 6 1, 3) := by decide +kernel
theorem dX0_shearedColumns_74 : decode cX0_shearedColumns 74 = .ok (.goto (-66), 3) := by decide +kernel
theorem dX0_shearedColumns_77 : decode cX0_shearedColumns 77 = .ok (.lload_n 2, 1) := by decide +kernel
theorem dX0_shearedColumns_78 : decode cX0_shearedColumns 78 = .ok (.invokestatic 90, 3) := by decide +kernel
theorem dX0_shearedColumns_81 : decode cX0_shearedColumns 81 = .ok (.lload 4, 2) := by decide +kernel
theorem dX0_shearedColumns_83 : decode cX0_shearedColumns 83 = .ok (.invokestatic 90, 3) := by decide +kernel
theorem dX0_shearedColumns_86 : decode cX0_shearedColumns 86 = .ok (.iadd, 1) := by decide +kernel
theorem dX0_shearedColumns_87 : decode cX0_shearedColumns 87 = .ok (.ireturn, 1) := by decide +kernel
set_option maxRecDepth 20000 in
theorem ggX0_touch_J13_bitCount_95d88 : GoodIn wsX0_touch wsJ13_bitCount_95d88 := goodIn_r _ [5, 6, 7, 8] (by decide +kernel) (by decide +kernel)
set_option maxRecDepth 20000 in
theorem gX0_touch_J13_bitCount_95d88 : GoodIn wsX0_touch (va_wsS RX0 90 yJ13_bitCount_95d88 wsJ13_bitCount_95d88) := goodIn_app (goodIn_of _ (by decide +kernel)) ggX0_touch_J13_bitCount_95d88
theorem dX0_touch_0 : decode cX0_touch 0 = .ok (.aload_n 0, 1) := by decide +kernel
theorem dX0_touch_1 : decode cX0_touch 1 = .ok (.getfield 25, 3) := by decide +kernel
theorem dX0_touch_4 : decode cX0_touch 4 = .ok (.iload_n 1, 1) := by decide +kernel
theorem dX0_touch_5 : decode cX0_touch 5 = .ok (.iconst 1, 1) := by decide +kernel
theorem dX0_touch_6 : decode cX0_touch 6 = .ok (.isub, 1) := by decide +kernel
theorem dX0_touch_7 : decode cX0_touch 7 = .ok (.laload, 1) := by decide +kernel
theorem dX0_touch_8 : decode cX0_touch 8 = .ok (.aload_n 0, 1) := by decide +kernel
theorem dX0_touch_9 : decode cX0_touch 9 = .ok (.getfield 25, 3) := by decide +kernel
theorem dX0_touch_12 : decode cX0_touch 12 = .ok (.iload_n 1, 1) := by decide +kernel
theorem dX0_touch_13 : decode cX0_touch 13 = .ok (.laload, 1) := by decide +kernel
theorem dX0_touch_14 : decode cX0_touch 14 = .ok (.land, 1) := by decide +kernel
theorem dX0_touch_15 : decode cX0_touch 15 = .ok (.invokestatic 90, 3) := by decide +kernel
theorem dX0_touch_18 : decode cX0_touch 18 = .ok (.ireturn, 1) := by decide +kernel
set_option maxRecDepth 20000 in
theorem ggX0_placesToCut_X0_touch : GoodIn wsX0_placesToCut wsX0_touch := goodIn_r _ [6, 1, 7, 8, 9, 10, 11, 12, 13, 14, 15, 16, 17, 18, 19, 20, 21, 22, 23, 24] (by decide +kernel) (by decide +kernel)
set_option maxRecDepth 20000 in
theorem gX0_placesToCut_X0_touch : GoodIn wsX0_placesToCut (wsV RX0 125 RX0 yX0_touch wsX0_touch) := goodIn_app (goodIn_of _ (by decide +kernel)) ggX0_placesToCut_X0_touch
theorem dX0_placesToCut_0 : decode cX0_placesToCut 0 = .ok (.lconst 0, 1) := by decide +kernel
theorem dX0_placesToCut_1 : decode cX0_placesToCut 1 = .ok (.lstore_n 3, 1) := by decide +kernel
theorem dX0_placesToCut_2 : decode cX0_placesToCut 2 = .ok (.iload_n 1, 1) := by decide +kernel
theorem dX0_placesToCut_3 : decode cX0_placesToCut 3 = .ok (.iconst 1, 1) := by decide +kernel
theorem dX0_placesToCut_4 : decode cX0_placesToCut 4 = .ok (.iadd, 1) := by decide +kernel
theorem dX0_placesToCut_5 : decode cX0_placesToCut 5 = .ok (.istore 5, 2) := by decide +kernel
theorem dX0_placesToCut_7 : decode cX0_placesToCut 7 = .ok (.iload 5, 2) := by decide +kernel
theorem dX0_placesToCut_9 : decode cX0_placesToCut 9 = .ok (.iload_n 2, 1) := by decide +kernel
theorem dX0_placesToCut_10 : decode cX0_placesToCut 10 = .ok (.if_icmp .ge 60, 3) := by decide +kernel
theorem dX0_placesToCut_13 : decode cX0_placesToCut 13 = .ok (.aload_n 0, 1) := by decide +kernel
theorem dX0_placesToCut_14 : decode cX0_placesToCut 14 = .ok (.getfield 25, 3) := by decide +kernel
theorem dX0_placesToCut_17 : decode cX0_placesToCut 17 = .ok (.iload 5, 2) := by decide +kernel
theorem dX0_placesToCut_19 : decode cX0_placesToCut 19 = .ok (.iconst 1, 1) := by decide +kernel
theorem dX0_placesToCut_20 : decode cX0_placesToCut 20 = .ok (.isub, 1) := by decide +kernel
theorem dX0_placesToCut_21 : decode cX0_placesToCut 21 = .ok (.laload, 1) := by decide +kernel
theorem dX0_placesToCut_22 : decode cX0_placesToCut 22 = .ok (.aload_n 0, 1) := by decide +kernel
theorem dX0_placesToCut_23 : decode cX0_placesToCut 23 = .ok (.getfield 25, 3) := by decide +kernel
theorem dX0_placesToCut_26 : decode cX0_placesToCut 26 = .ok (.iload 5, 2) := by decide +kernel
theorem dX0_placesToCut_28 : decode cX0_placesToCut 28 = .ok (.laload, 1) := by decide +kernel
theorem dX0_placesToCut_29 : decode cX0_placesToCut 29 = .ok (.lor, 1) := by decide +kernel
theorem dX0_placesToCut_30 : decode cX0_placesToCut 30 = .ok (.lconst 0, 1) := by decide +kernel
theorem dX0_placesToCut_31 : decode cX0_placesToCut 31 = .ok (.lcmp, 1) := by decide +kernel
theorem dX0_placesToCut_32 : decode cX0_placesToCut 32 = .ok (.ifCond .eq 7, 3) := by decide +kernel
theorem dX0_placesToCut_35 : decode cX0_placesToCut 35 = .ok (.iconst 1, 1) := by decide +kernel
theorem dX0_placesToCut_36 : decode cX0_placesToCut 36 = .ok (.goto 4, 3) := by decide +kernel
theorem dX0_placesToCut_39 : decode cX0_placesToCut 39 = .ok (.iconst 0, 1) := by decide +kernel
theorem dX0_placesToCut_40 : decode cX0_placesToCut 40 = .ok (.istore 6, 2) := by decide +kernel
theorem dX0_placesToCut_42 : decode cX0_placesToCut 42 = .ok (.iload 6, 2) := by decide +kernel
theorem dX0_placesToCut_44 : decode cX0_placesToCut 44 = .ok (.ifCond .eq 20, 3) := by decide +kernel
theorem dX0_placesToCut_47 : decode cX0_placesToCut 47 = .ok (.aload_n 0, 1) := by decide +kernel
theorem dX0_placesToCut_48 : decode cX0_placesToCut 48 = .ok (.iload 5, 2) := by decide +kernel
theorem dX0_placesToCut_50 : decode cX0_placesToCut 50 = .ok (.invokevirtual 125, 3) := by decide +kernel
theorem dX0_placesToCut_53 : decode cX0_placesToCut 53 = .ok (.iconst 2, 1) := by decide +kernel
theorem dX0_placesToCut_54 : decode cX0_placesToCut 54 = .ok (.if_icmp .gt 10, 3) := by decide +kernel
theorem dX0_placesToCut_57 : decode cX0_placesToCut 57 = .ok (.lload_n 3, 1) := by decide +kernel
theorem dX0_placesToCut_58 : decode cX0_placesToCut 58 = .ok (.lconst 1, 1) := by decide +kernel
theorem dX0_placesToCut_59 : decode cX0_placesToCut 59 = .ok (.iload 5, 2) := by decide +kernel
theorem dX0_placesToCut_61 : decode cX0_placesToCut 61 = .ok (.lshl, 1) := by decide +kernel
theorem dX0_placesToCut_62 : decode cX0_placesToCut 62 = .ok (.lor, 1) := by decide +kernel
theorem dX0_placesToCut_63 : decode cX0_placesToCut 63 = .ok (.lstore_n 3, 1) := by decide +kernel
theorem dX0_placesToCut_64 : decode cX0_placesToCut 64 = .ok (.iinc 5 1, 3) := by decide +kernel
theorem dX0_placesToCut_67 : decode cX0_placesToCut 67 = .ok (.goto (-60), 3) := by decide +kernel
theorem dX0_placesToCut_70 : decode cX0_placesToCut 70 = .ok (.lload_n 3, 1) := by decide +kernel
theorem dX0_placesToCut_71 : decode cX0_placesToCut 71 = .ok (.lreturn, 1) := by decide +kernel
set_option maxRecDepth 20000 in
theorem ggX0_lengthenTails_X0_has : GoodIn wsX0_lengthenTails wsX0_has := goodIn_r _ [16] (by decide +kernel) (by decide +kernel)
set_option maxRecDepth 20000 in
theorem gX0_lengthenTails_X0_has : GoodIn wsX0_lengthenTails (va_wsS RX0 86 yX0_has wsX0_has) := goodIn_app (goodIn_of _ (by decide +kernel)) ggX0_lengthenTails_X0_has
theorem dX0_lengthenTails_0 : decode cX0_lengthenTails 0 = .ok (.iload_n 2, 1) := by decide +kernel
theorem dX0_lengthenTails_1 : decode cX0_lengthenTails 1 = .ok (.iconst 1, 1) := by decide +kernel
theorem dX0_lengthenTails_2 : decode cX0_lengthenTails 2 = .ok (.isub, 1) := by decide +kernel
theorem dX0_lengthenTails_3 : decode cX0_lengthenTails 3 = .ok (.istore 5, 2) := by decide +kernel
theorem dX0_lengthenTails_5 : decode cX0_lengthenTails 5 = .ok (.aload_n 0, 1) := by decide +kernel
theorem dX0_lengthenTails_6 : decode cX0_lengthenTails 6 = .ok (.getfield 45, 3) := by decide +kernel
theorem dX0_lengthenTails_9 : decode cX0_lengthenTails 9 = .ok (.iload_n 2, 1) := by decide +kernel
theorem dX0_lengthenTails_10 : decode cX0_lengthenTails 10 = .ok (.iconst 0, 1) := by decide +kernel
theorem dX0_lengthenTails_11 : decode cX0_lengthenTails 11 = .ok (.iastore, 1) := by decide +kernel
theorem dX0_lengthenTails_12 : decode cX0_lengthenTails 12 = .ok (.iload_n 2, 1) := by decide +kernel
theorem dX0_lengthenTails_13 : decode cX0_lengthenTails 13 = .ok (.iconst 1, 1) := by decide +kernel
theorem dX0_lengthenTails_14 : decode cX0_lengthenTails 14 = .ok (.isub, 1) := by decide +kernel
theorem dX0_lengthenTails_15 : decode cX0_lengthenTails 15 = .ok (.istore 6, 2) := by decide +kernel
theorem dX0_lengthenTails_17 : decode cX0_lengthenTails 17 = .ok (.iload 6, 2) := by decide +kernel
theorem dX0_lengthenTails_19 : decode cX0_lengthenTails 19 = .ok (.iload_n 1, 1) := by decide +kernel
theorem dX0_lengthenTails_20 : decode cX0_lengthenTails 20 = .ok (.if_icmp .le 73, 3) := by decide +kernel
theorem dX0_lengthenTails_23 : decode cX0_lengthenTails 23 = .ok (.aload_n 0, 1) := by decide +kernel
theorem dX0_lengthenTails_24 : decode cX0_lengthenTails 24 = .ok (.getfield 25, 3) := by decide +kernel
theorem dX0_lengthenTails_27 : decode cX0_lengthenTails 27 = .ok (.iload 6, 2) := by decide +kernel
theorem dX0_lengthenTails_29 : decode cX0_lengthenTails 29 = .ok (.laload, 1) := by decide +kernel
theorem dX0_lengthenTails_30 : decode cX0_lengthenTails 30 = .ok (.lconst 0, 1) := by decide +kernel
theorem dX0_lengthenTails_31 : decode cX0_lengthenTails 31 = .ok (.lcmp, 1) := by decide +kernel
theorem dX0_lengthenTails_32 : decode cX0_lengthenTails 32 = .ok (.ifCond .eq 7, 3) := by decide +kernel
theorem dX0_lengthenTails_35 : decode cX0_lengthenTails 35 = .ok (.iload 6, 2) := by decide +kernel
theorem dX0_lengthenTails_37 : decode cX0_lengthenTails 37 = .ok (.istore 5, 2) := by decide +kernel
theorem dX0_lengthenTails_39 : decode cX0_lengthenTails 39 = .ok (.lload_n 3, 1) := by decide +kernel
theorem dX0_lengthenTails_40 : decode cX0_lengthenTails 40 = .ok (.iload 6, 2) := by decide +kernel
theorem dX0_lengthenTails_42 : decode cX0_lengthenTails 42 = .ok (.invokestatic 86, 3) := by decide +kernel
theorem dX0_lengthenTails_45 : decode cX0_lengthenTails 45 = .ok (.ifCond .eq 15, 3) := by decide +kernel
theorem dX0_lengthenTails_48 : decode cX0_lengthenTails 48 = .ok (.aload_n 0, 1) := by decide +kernel
theorem dX0_lengthenTails_49 : decode cX0_lengthenTails 49 = .ok (.getfield 42, 3) := by decide +kernel
theorem dX0_lengthenTails_52 : decode cX0_lengthenTails 52 = .ok (.iload 5, 2) := by decide +kernel
theorem dX0_lengthenTails_54 : decode cX0_lengthenTails 54 = .ok (.iconst 1, 1) := by decide +kernel
theorem dX0_lengthenTails_55 : decode cX0_lengthenTails 55 = .ok (.iadd, 1) := by decide +kernel
theorem dX0_lengthenTails_56 : decode cX0_lengthenTails 56 = .ok (.iaload, 1) := by decide +kernel
theorem dX0_lengthenTails_57 : decode cX0_lengthenTails 57 = .ok (.goto 4, 3) := by decide +kernel
theorem dX0_lengthenTails_60 : decode cX0_lengthenTails 60 = .ok (.iconst 0, 1) := by decide +kernel
theorem dX0_lengthenTails_61 : decode cX0_lengthenTails 61 = .ok (.istore 7, 2) := by decide +kernel
theorem dX0_lengthenTails_63 : decode cX0_lengthenTails 63 = .ok (.aload_n 0, 1) := by decide +kernel
theorem dX0_lengthenTails_64 : decode cX0_lengthenTails 64 = .ok (.getfield 45, 3) := by decide +kernel
theorem dX0_lengthenTails_67 : decode cX0_lengthenTails 67 = .ok (.iload 6, 2) := by decide +kernel
theorem dX0_lengthenTails_69 : decode cX0_lengthenTails 69 = .ok (.ldc 128, 2) := by decide +kernel
theorem dX0_lengthenTails_71 : decode cX0_lengthenTails 71 = .ok (.aload_n 0, 1) := by decide +kernel
theorem dX0_lengthenTails_72 : decode cX0_lengthenTails 72 = .ok (.getfield 45, 3) := by decide +kernel
theorem dX0_lengthenTails_75 : decode cX0_lengthenTails 75 = .ok (.iload 6, 2) := by decide +kernel
theorem dX0_lengthenTails_77 : decode cX0_lengthenTails 77 = .ok (.iconst 1, 1) := by decide +kernel
theorem dX0_lengthenTails_78 : decode cX0_lengthenTails 78 = .ok (.iadd, 1) := by decide +kernel
theorem dX0_lengthenTails_79 : decode cX0_lengthenTails 79 = .ok (.iaload, 1) := by decide +kernel
theorem dX0_lengthenTails_80 : decode cX0_lengthenTails 80 = .ok (.iload 7, 2) := by decide +kernel
theorem dX0_lengthenTails_82 : decode cX0_lengthenTails 82 = .ok (.iadd, 1) := by decide +kernel
theorem dX0_lengthenTails_83 : decode cX0_lengthenTails 83 = .ok (.invokestatic 9, 3) := by decide +kernel
theorem dX0_lengthenTails_86 : decode cX0_lengthenTails 86 = .ok (.iastore, 1) := by decide +kernel
theorem dX0_lengthenTails_87 : decode cX0_lengthenTails 87 = .ok (.iinc 6 (-1), 3) := by decide +kernel
theorem dX0_lengthenTails_90 : decode cX0_lengthenTails 90 = .ok (.goto (-73), 3) := by decide +kernel
theorem dX0_lengthenTails_93 : decode cX0_lengthenTails 93 = .ok (.aload_n 0, 1) := by decide +kernel
theorem dX0_lengthenTails_94 : decode cX0_lengthenTails 94 = .ok (.getfield 45, 3) := by decide +kernel
theorem dX0_lengthenTails_97 : decode cX0_lengthenTails 97 = .ok (.iload_n 1, 1) := by decide +kernel
theorem dX0_lengthenTails_98 : decode cX0_lengthenTails 98 = .ok (.iconst 1, 1) := by decide +kernel
theorem dX0_lengthenTails_99 : decode cX0_lengthenTails 99 = .ok (.iadd, 1) := by decide +kernel
theorem dX0_lengthenTails_100 : decode cX0_lengthenTails 100 = .ok (.aload_n 0, 1) := by decide +kernel
theorem dX0_lengthenTails_101 : decode cX0_lengthenTails 101 = .ok (.getfield 42, 3) := by decide +kernel
theorem dX0_lengthenTails_104 : decode cX0_lengthenTails 104 = .ok (.iload_n 1, 1) := by decide +kernel
theorem dX0_lengthenTails_105 : decode cX0_lengthenTails 105 = .ok (.iconst 1, 1) := by decide +kernel
theorem dX0_lengthenTails_106 : decode cX0_lengthenTails 106 = .ok (.iadd, 1) := by decide +kernel
theorem dX0_lengthenTails_107 : decode cX0_lengthenTails 107 = .ok (.iload_n 2, 1) := by decide +kernel
theorem dX0_lengthenTails_108 : decode cX0_lengthenTails 108 = .ok (.iload_n 1, 1) := by decide +kernel
theorem dX0_lengthenTails_109 : decode cX0_lengthenTails 109 = .ok (.isub, 1) := by decide +kernel
theorem dX0_lengthenTails_110 : decode cX0_lengthenTails 110 = .ok (.invokestatic 129, 3) := by decide +kernel
theorem dX0_lengthenTails_113 : decode cX0_lengthenTails 113 = .ok (.return_, 1) := by decide +kernel
theorem dX0_isFound_0 : decode cX0_isFound 0 = .ok (.iload_n 1, 1) := by decide +kernel
theorem dX0_isFound_1 : decode cX0_isFound 1 = .ok (.ifCond .lt 15, 3) := by decide +kernel
theorem dX0_isFound_4 : decode cX0_isFound 4 = .ok (.iload_n 1, 1) := by decide +kernel
theorem dX0_isFound_5 : decode cX0_isFound 5 = .ok (.aload_n 0, 1) := by decide +kernel
theorem dX0_isFound_6 : decode cX0_isFound 6 = .ok (.getfield 61, 3) := by decide +kernel
theorem dX0_isFound_9 : decode cX0_isFound 9 = .ok (.if_icmp .ge 7, 3) := by decide +kernel
theorem dX0_isFound_12 : decode cX0_isFound 12 = .ok (.iconst 1, 1) := by decide +kernel
theorem dX0_isFound_13 : decode cX0_isFound 13 = .ok (.goto 4, 3) := by decide +kernel
theorem dX0_isFound_16 : decode cX0_isFound 16 = .ok (.iconst 0, 1) := by decide +kernel
theorem dX0_isFound_17 : decode cX0_isFound 17 = .ok (.ireturn, 1) := by decide +kernel
theorem dX0_shelf_0 : decode cX0_shelf 0 = .ok (.iload_n 0, 1) := by decide +kernel
theorem dX0_shelf_1 : decode cX0_shelf 1 = .ok (.bipush 40, 2) := by decide +kernel
theorem dX0_shelf_3 : decode cX0_shelf 3 = .ok (.imul, 1) := by decide +kernel
theorem dX0_shelf_4 : decode cX0_shelf 4 = .ok (.ireturn, 1) := by decide +kernel
set_option maxRecDepth 20000 in
theorem ggX0_shelveUntil_X0_shelf : GoodIn wsX0_shelveUntil wsX0_shelf := goodIn_r _ [7] (by decide +kernel) (by decide +kernel)
set_option maxRecDepth 20000 in
theorem gX0_shelveUntil_X0_shelf : GoodIn wsX0_shelveUntil (va_wsS RX0 82 yX0_shelf wsX0_shelf) := goodIn_app (goodIn_of _ (by decide +kernel)) ggX0_shelveUntil_X0_shelf
theorem dX0_shelveUntil_0 : decode cX0_shelveUntil 0 = .ok (.aload_n 0, 1) := by decide +kernel
theorem dX0_shelveUntil_1 : decode cX0_shelveUntil 1 = .ok (.getfield 32, 3) := by decide +kernel
theorem dX0_shelveUntil_4 : decode cX0_shelveUntil 4 = .ok (.iload_n 1, 1) := by decide +kernel
theorem dX0_shelveUntil_5 : decode cX0_shelveUntil 5 = .ok (.invokestatic 82, 3) := by decide +kernel
theorem dX0_shelveUntil_8 : decode cX0_shelveUntil 8 = .ok (.lconst 1, 1) := by decide +kernel
theorem dX0_shelveUntil_9 : decode cX0_shelveUntil 9 = .ok (.iload_n 1, 1) := by decide +kernel
theorem dX0_shelveUntil_10 : decode cX0_shelveUntil 10 = .ok (.lshl, 1) := by decide +kernel
theorem dX0_shelveUntil_11 : decode cX0_shelveUntil 11 = .ok (.lastore, 1) := by decide +kernel
theorem dX0_shelveUntil_12 : decode cX0_shelveUntil 12 = .ok (.aload_n 0, 1) := by decide +kernel
theorem dX0_shelveUntil_13 : decode cX0_shelveUntil 13 = .ok (.getfield 35, 3) := by decide +kernel
theorem dX0_shelveUntil_16 : decode cX0_shelveUntil 16 = .ok (.iload_n 1, 1) := by decide +kernel
theorem dX0_shelveUntil_17 : decode cX0_shelveUntil 17 = .ok (.invokestatic 82, 3) := by decide +kernel
theorem dX0_shelveUntil_20 : decode cX0_shelveUntil 20 = .ok (.iconst 0, 1) := by decide +kernel
theorem dX0_shelveUntil_21 : decode cX0_shelveUntil 21 = .ok (.iastore, 1) := by decide +kernel
theorem dX0_shelveUntil_22 : decode cX0_shelveUntil 22 = .ok (.aload_n 0, 1) := by decide +kernel
theorem dX0_shelveUntil_23 : decode cX0_shelveUntil 23 = .ok (.getfield 39, 3) := by decide +kernel
theorem dX0_shelveUntil_26 : decode cX0_shelveUntil 26 = .ok (.iload_n 1, 1) := by decide +kernel
theorem dX0_shelveUntil_27 : decode cX0_shelveUntil 27 = .ok (.iconst 1, 1) := by decide +kernel
theorem dX0_shelveUntil_28 : decode cX0_shelveUntil 28 = .ok (.iastore, 1) := by decide +kernel
theorem dX0_shelveUntil_29 : decode cX0_shelveUntil 29 = .ok (.return_, 1) := by decide +kernel
set_option maxRecDepth 20000 in
theorem ggX0_shelveEnds_X0_dueWidth : GoodIn wsX0_shelveEnds wsX0_dueWidth := goodIn_r _ [5, 6, 7, 8, 4, 9, 10, 11, 12, 13, 14, 15, 16, 17, 18, 19, 20, 21, 22, 23, 24, 25, 26, 27, 28, 29, 30, 31, 32, 33, 34, 72, 73, 74, 75, 76, 77, 78, 79, 80, 81, 82] (by decide +kernel) (by decide +kernel)
set_option maxRecDepth 20000 in
theorem gX0_shelveEnds_X0_dueWidth : GoodIn wsX0_shelveEnds (wsV RX0 102 RX0 yX0_dueWidth wsX0_dueWidth) := goodIn_app (goodIn_of _ (by decide +kernel)) ggX0_shelveEnds_X0_dueWidth
set_option maxRecDepth 20000 in
theorem ggX0_shelveEnds_X0_placesToCut : GoodIn wsX0_shelveEnds wsX0_placesToCut := goodIn_r _ [38, 39, 40, 41, 42, 4, 43, 24, 25, 26, 27, 28, 29, 30, 72, 73, 74, 75, 76, 77, 78, 79, 80, 81, 82] (by decide +kernel) (by decide +kernel)
set_option maxRecDepth 20000 in
theorem gX0_shelveEnds_X0_placesToCut : GoodIn wsX0_shelveEnds (wsV RX0 105 RX0 yX0_placesToCut wsX0_placesToCut) := goodIn_app (goodIn_of _ (by decide +kernel)) ggX0_shelveEnds_X0_placesToCut
set_option maxRecDepth 20000 in
theorem ggX0_shelveEnds_X0_has : GoodIn wsX0_shelveEnds wsX0_has := goodIn_r _ [46] (by decide +kernel) (by decide +kernel)
set_option maxRecDepth 20000 in
theorem gX0_shelveEnds_X0_has : GoodIn wsX0_shelveEnds (va_wsS RX0 86 yX0_has wsX0_has) := goodIn_app (goodIn_of _ (by decide +kernel)) ggX0_shelveEnds_X0_has
set_option maxRecDepth 20000 in
theorem ggX0_shelveEnds_X0_shelveEndsAt : GoodIn wsX0_shelveEnds wsX0_shelveEndsAt := goodIn_r _ [50, 51, 39, 52, 44, 45, 4, 46, 24, 25, 26, 27, 28, 29, 30, 53, 54, 55, 40, 41, 42, 43, 56, 57, 58, 59, 60, 61, 62, 63, 64, 65, 66, 67, 68, 69, 70, 17, 71, 72, 73, 74, 75, 76, 77, 78, 79, 80, 81, 82] (by decide +kernel) (by decide +kernel)
set_option maxRecDepth 20000 in
theorem gX0_shelveEnds_X0_shelveEndsAt : GoodIn wsX0_shelveEnds (wsV RX0 135 RX0 yX0_shelveEndsAt wsX0_shelveEndsAt) := goodIn_app (goodIn_of _ (by decide +kernel)) ggX0_shelveEnds_X0_shelveEndsAt
theorem dX0_shelveEnds_0 : decode cX0_shelveEnds 0 = .ok (.aload_n 0, 1) := by decide +kernel
theorem dX0_shelveEnds_1 : decode cX0_shelveEnds 1 = .ok (.invokevirtual 102, 3) := by decide +kernel
theorem dX0_shelveEnds_4 : decode cX0_shelveEnds 4 = .ok (.istore 4, 2) := by decide +kernel
theorem dX0_shelveEnds_6 : decode cX0_shelveEnds 6 = .ok (.aload_n 0, 1) := by decide +kernel
theorem dX0_shelveEnds_7 : decode cX0_shelveEnds 7 = .ok (.iload_n 1, 1) := by decide +kernel
theorem dX0_shelveEnds_8 : decode cX0_shelveEnds 8 = .ok (.iload_n 2, 1) := by decide +kernel
theorem dX0_shelveEnds_9 : decode cX0_shelveEnds 9 = .ok (.invokevirtual 105, 3) := by decide +kernel
theorem dX0_shelveEnds_12 : decode cX0_shelveEnds 12 = .ok (.lstore 5, 2) := by decide +kernel
theorem dX0_shelveEnds_14 : decode cX0_shelveEnds 14 = .ok (.lload 5, 2) := by decide +kernel
theorem dX0_shelveEnds_16 : decode cX0_shelveEnds 16 = .ok (.lconst 1, 1) := by decide +kernel
theorem dX0_shelveEnds_17 : decode cX0_shelveEnds 17 = .ok (.iload_n 2, 1) := by decide +kernel
theorem dX0_shelveEnds_18 : decode cX0_shelveEnds 18 = .ok (.lshl, 1) := by decide +kernel
theorem dX0_shelveEnds_19 : decode cX0_shelveEnds 19 = .ok (.lor, 1) := by decide +kernel
theorem dX0_shelveEnds_20 : decode cX0_shelveEnds 20 = .ok (.lstore 7, 2) := by decide +kernel
theorem dX0_shelveEnds_22 : decode cX0_shelveEnds 22 = .ok (.iload_n 2, 1) := by decide +kernel
theorem dX0_shelveEnds_23 : decode cX0_shelveEnds 23 = .ok (.iconst 1, 1) := by decide +kernel
theorem dX0_shelveEnds_24 : decode cX0_shelveEnds 24 = .ok (.isub, 1) := by decide +kernel
theorem dX0_shelveEnds_25 : decode cX0_shelveEnds 25 = .ok (.istore 9, 2) := by decide +kernel
theorem dX0_shelveEnds_27 : decode cX0_shelveEnds 27 = .ok (.iload 9, 2) := by decide +kernel
theorem dX0_shelveEnds_29 : decode cX0_shelveEnds 29 = .ok (.iload_n 1, 1) := by decide +kernel
theorem dX0_shelveEnds_30 : decode cX0_shelveEnds 30 = .ok (.if_icmp .le 31, 3) := by decide +kernel
theorem dX0_shelveEnds_33 : decode cX0_shelveEnds 33 = .ok (.lload 5, 2) := by decide +kernel
theorem dX0_shelveEnds_35 : decode cX0_shelveEnds 35 = .ok (.iload 9, 2) := by decide +kernel
theorem dX0_shelveEnds_37 : decode cX0_shelveEnds 37 = .ok (.invokestatic 86, 3) := by decide +kernel
theorem dX0_shelveEnds_40 : decode cX0_shelveEnds 40 = .ok (.ifCond .eq 15, 3) := by decide +kernel
theorem dX0_shelveEnds_43 : decode cX0_shelveEnds 43 = .ok (.aload_n 0, 1) := by decide +kernel
theorem dX0_shelveEnds_44 : decode cX0_shelveEnds 44 = .ok (.iload 9, 2) := by decide +kernel
theorem dX0_shelveEnds_46 : decode cX0_shelveEnds 46 = .ok (.iload_n 2, 1) := by decide +kernel
theorem dX0_shelveEnds_47 : decode cX0_shelveEnds 47 = .ok (.lload 7, 2) := by decide +kernel
theorem dX0_shelveEnds_49 : decode cX0_shelveEnds 49 = .ok (.iload 4, 2) := by decide +kernel
theorem dX0_shelveEnds_51 : decode cX0_shelveEnds 51 = .ok (.iload_n 3, 1) := by decide +kernel
theorem dX0_shelveEnds_52 : decode cX0_shelveEnds 52 = .ok (.invokevirtual 135, 3) := by decide +kernel
theorem dX0_shelveEnds_55 : decode cX0_shelveEnds 55 = .ok (.iinc 9 (-1), 3) := by decide +kernel
theorem dX0_shelveEnds_58 : decode cX0_shelveEnds 58 = .ok (.goto (-31), 3) := by decide +kernel
theorem dX0_shelveEnds_61 : decode cX0_shelveEnds 61 = .ok (.aload_n 0, 1) := by decide +kernel
theorem dX0_shelveEnds_62 : decode cX0_shelveEnds 62 = .ok (.iload_n 1, 1) := by decide +kernel
theorem dX0_shelveEnds_63 : decode cX0_shelveEnds 63 = .ok (.iload_n 2, 1) := by decide +kernel
theorem dX0_shelveEnds_64 : decode cX0_shelveEnds 64 = .ok (.lload 7, 2) := by decide +kernel
theorem dX0_shelveEnds_66 : decode cX0_shelveEnds 66 = .ok (.iload 4, 2) := by decide +kernel
theorem dX0_shelveEnds_68 : decode cX0_shelveEnds 68 = .ok (.iload_n 3, 1) := by decide +kernel
theorem dX0_shelveEnds_69 : decode cX0_shelveEnds 69 = .ok (.invokevirtual 135, 3) := by decide +kernel
theorem dX0_shelveEnds_72 : decode cX0_shelveEnds 72 = .ok (.return_, 1) := by decide +kernel
set_option maxRecDepth 20000 in
theorem ggX0_shelveEndsAt_X0_has : GoodIn wsX0_shelveEndsAt wsX0_has := goodIn_r _ [7] (by decide +kernel) (by decide +kernel)
set_option maxRecDepth 20000 in
theorem gX0_shelveEndsAt_X0_has : GoodIn wsX0_shelveEndsAt (va_wsS RX0 86 yX0_has wsX0_has) := goodIn_app (goodIn_of _ (by decide +kernel)) ggX0_shelveEndsAt_X0_has
set_option maxRecDepth 20000 in
theorem ggX0_shelveEndsAt_J13_bitCount_95d88 : GoodIn wsX0_shelveEndsAt wsJ13_bitCount_95d88 := goodIn_r _ [11, 12, 13, 14] (by decide +kernel) (by decide +kernel)
set_option maxRecDepth 20000 in
theorem gX0_shelveEndsAt_J13_bitCount_95d88 : GoodIn wsX0_shelveEndsAt (va_wsS RX0 90 yJ13_bitCount_95d88 wsJ13_bitCount_95d88) := goodIn_app (goodIn_of _ (by decide +kernel)) ggX0_shelveEndsAt_J13_bitCount_95d88
set_option maxRecDepth 20000 in
theorem ggX0_shelveEndsAt_X0_signCost : GoodIn wsX0_shelveEndsAt wsX0_signCost := goodIn_r _ [17] (by decide +kernel) (by decide +kernel)
set_option maxRecDepth 20000 in
theorem gX0_shelveEndsAt_X0_signCost : GoodIn wsX0_shelveEndsAt (va_wsS RX0 139 yX0_signCost wsX0_signCost) := goodIn_app (goodIn_of _ (by decide +kernel)) ggX0_shelveEndsAt_X0_signCost
set_option maxRecDepth 20000 in
theorem ggX0_shelveEndsAt_X0_touch : GoodIn wsX0_shelveEndsAt wsX0_touch := goodIn_r _ [21, 2, 8, 9, 10, 11, 12, 13, 14, 39, 40, 41, 42, 43, 44, 45, 46, 47, 48, 49] (by decide +kernel) (by decide +kernel)
set_option maxRecDepth 20000 in
theorem gX0_shelveEndsAt_X0_touch : GoodIn wsX0_shelveEndsAt (wsV RX0 125 RX0 yX0_touch wsX0_touch) := goodIn_app (goodIn_of _ (by decide +kernel)) ggX0_shelveEndsAt_X0_touch
set_option maxRecDepth 20000 in
theorem ggX0_shelveEndsAt_X0_goOnFrom : GoodIn wsX0_shelveEndsAt wsX0_goOnFrom := goodIn_r _ [25, 1, 26, 27, 28, 29, 6, 30, 31, 32, 33, 34, 35, 36, 37, 38, 39, 40, 41, 42, 43, 44, 45, 46, 47, 48, 49] (by decide +kernel) (by decide +kernel)
set_option maxRecDepth 20000 in
theorem gX0_shelveEndsAt_X0_goOnFrom : GoodIn wsX0_shelveEndsAt (wsV RX0 143 RX0 yX0_goOnFrom wsX0_goOnFrom) := goodIn_app (goodIn_of _ (by decide +kernel)) ggX0_shelveEndsAt_X0_goOnFrom
theorem dX0_shelveEndsAt_0 : decode cX0_shelveEndsAt 0 = .ok (.aload_n 0, 1) := by decide +kernel
theorem dX0_shelveEndsAt_1 : decode cX0_shelveEndsAt 1 = .ok (.getfield 39, 3) := by decide +kernel
theorem dX0_shelveEndsAt_4 : decode cX0_shelveEndsAt 4 = .ok (.iload_n 1, 1) := by decide +kernel
theorem dX0_shelveEndsAt_5 : decode cX0_shelveEndsAt 5 = .ok (.iconst 0, 1) := by decide +kernel
theorem dX0_shelveEndsAt_6 : decode cX0_shelveEndsAt 6 = .ok (.iastore, 1) := by decide +kernel
theorem dX0_shelveEndsAt_7 : decode cX0_shelveEndsAt 7 = .ok (.iconst (-1), 1) := by decide +kernel
theorem dX0_shelveEndsAt_8 : decode cX0_shelveEndsAt 8 = .ok (.istore 7, 2) := by decide +kernel
theorem dX0_shelveEndsAt_10 : decode cX0_shelveEndsAt 10 = .ok (.iconst (-1), 1) := by decide +kernel
theorem dX0_shelveEndsAt_11 : decode cX0_shelveEndsAt 11 = .ok (.istore 8, 2) := by decide +kernel
theorem dX0_shelveEndsAt_13 : decode cX0_shelveEndsAt 13 = .ok (.iconst 0, 1) := by decide +kernel
theorem dX0_shelveEndsAt_14 : decode cX0_shelveEndsAt 14 = .ok (.istore 9, 2) := by decide +kernel
theorem dX0_shelveEndsAt_16 : decode cX0_shelveEndsAt 16 = .ok (.lconst 0, 1) := by decide +kernel
theorem dX0_shelveEndsAt_17 : decode cX0_shelveEndsAt 17 = .ok (.lstore 10, 2) := by decide +kernel
theorem dX0_shelveEndsAt_19 : decode cX0_shelveEndsAt 19 = .ok (.lconst 0, 1) := by decide +kernel
theorem dX0_shelveEndsAt_20 : decode cX0_shelveEndsAt 20 = .ok (.lstore 12, 2) := by decide +kernel
theorem dX0_shelveEndsAt_22 : decode cX0_shelveEndsAt 22 = .ok (.lconst 0, 1) := by decide +kernel
theorem dX0_shelveEndsAt_23 : decode cX0_shelveEndsAt 23 = .ok (.lstore 14, 2) := by decide +kernel
theorem dX0_shelveEndsAt_25 : decode cX0_shelveEndsAt 25 = .ok (.iload_n 1, 1) := by decide +kernel
theorem dX0_shelveEndsAt_26 : decode cX0_shelveEndsAt 26 = .ok (.istore 16, 2) := by decide +kernel
theorem dX0_shelveEndsAt_28 : decode cX0_shelveEndsAt 28 = .ok (.iload 16, 2) := by decide +kernel
theorem dX0_shelveEndsAt_30 : decode cX0_shelveEndsAt 30 = .ok (.iload_n 2, 1) := by decide +kernel
theorem dX0_shelveEndsAt_31 : decode cX0_shelveEndsAt 31 = .ok (.if_icmp .ge 159, 3) := by decide +kernel
theorem dX0_shelveEndsAt_34 : decode cX0_shelveEndsAt 34 = .ok (.aload_n 0, 1) := by decide +kernel
theorem dX0_shelveEndsAt_35 : decode cX0_shelveEndsAt 35 = .ok (.getfield 25, 3) := by decide +kernel
theorem dX0_shelveEndsAt_38 : decode cX0_shelveEndsAt 38 = .ok (.iload 16, 2) := by decide +kernel
theorem dX0_shelveEndsAt_40 : decode cX0_shelveEndsAt 40 = .ok (.laload, 1) := by decide +kernel
theorem dX0_shelveEndsAt_41 : decode cX0_shelveEndsAt 41 = .ok (.lstore 17, 2) := by decide +kernel
theorem dX0_shelveEndsAt_43 : decode cX0_shelveEndsAt 43 = .ok (.lload 14, 2) := by decide +kernel
theorem dX0_shelveEndsAt_45 : decode cX0_shelveEndsAt 45 = .ok (.lload 12, 2) := by decide +kernel
theorem dX0_shelveEndsAt_47 : decode cX0_shelveEndsAt 47 = .ok (.lload 17, 2) := by decide +kernel
theorem dX0_shelveEndsAt_49 : decode cX0_shelveEndsAt 49 = .ok (.land, 1) := by decide +kernel
theorem dX0_shelveEndsAt_50 : decode cX0_shelveEndsAt 50 = .ok (.lor, 1) := by decide +kernel
theorem dX0_shelveEndsAt_51 : decode cX0_shelveEndsAt 51 = .ok (.lstore 14, 2) := by decide +kernel
theorem dX0_shelveEndsAt_53 : decode cX0_shelveEndsAt 53 = .ok (.lload 12, 2) := by decide +kernel
theorem dX0_shelveEndsAt_55 : decode cX0_shelveEndsAt 55 = .ok (.lload 10, 2) := by decide +kernel
theorem dX0_shelveEndsAt_57 : decode cX0_shelveEndsAt 57 = .ok (.lload 17, 2) := by decide +kernel
theorem dX0_shelveEndsAt_59 : decode cX0_shelveEndsAt 59 = .ok (.ldc2_w 55, 3) := by decide +kernel
theorem dX0_shelveEndsAt_62 : decode cX0_shelveEndsAt 62 = .ok (.lxor, 1) := by decide +kernel
theorem dX0_shelveEndsAt_63 : decode cX0_shelveEndsAt 63 = .ok (.land, 1) := by decide +kernel
theorem dX0_shelveEndsAt_64 : decode cX0_shelveEndsAt 64 = .ok (.lor, 1) := by decide +kernel
theorem dX0_shelveEndsAt_65 : decode cX0_shelveEndsAt 65 = .ok (.lstore 12, 2) := by decide +kernel
theorem dX0_shelveEndsAt_67 : decode cX0_shelveEndsAt 67 = .ok (.lload 10, 2) := by decide +kernel
theorem dX0_shelveEndsAt_69 : decode cX0_shelveEndsAt 69 = .ok (.lload 17, 2) := by decide +kernel
theorem dX0_shelveEndsAt_71 : decode cX0_shelveEndsAt 71 = .ok (.lor, 1) := by decide +kernel
theorem dX0_shelveEndsAt_72 : decode cX0_shelveEndsAt 72 = .ok (.lstore 10, 2) := by decide +kernel
theorem dX0_shelveEndsAt_74 : decode cX0_shelveEndsAt 74 = .ok (.lload 17, 2) := by decide +kernel
theorem dX0_shelveEndsAt_76 : decode cX0_shelveEndsAt 76 = .ok (.lconst 0, 1) := by decide +kernel
theorem dX0_shelveEndsAt_77 : decode cX0_shelveEndsAt 77 = .ok (.lcmp, 1) := by decide +kernel
theorem dX0_shelveEndsAt_78 : decode cX0_shelveEndsAt 78 = .ok (.ifCond .eq 25, 3) := by decide +kernel
theorem dX0_shelveEndsAt_81 : decode cX0_shelveEndsAt 81 = .ok (.iload 7, 2) := by decide +kernel
theorem dX0_shelveEndsAt_83 : decode cX0_shelveEndsAt 83 = .ok (.iconst (-1), 1) := by decide +kernel
theorem dX0_shelveEndsAt_84 : decode cX0_shelveEndsAt 84 = .ok (.if_icmp .ne 8, 3) := by decide +kernel
theorem dX0_shelveEndsAt_87 : decode cX0_shelveEndsAt 87 = .ok (.iload 16, 2) := by decide +kernel
theorem dX0_shelveEndsAt_89 : decode cX0_shelveEndsAt 89 = .ok (.goto 5, 3) := by decide +kernel
theorem dX0_shelveEndsAt_92 : decode cX0_shelveEndsAt 92 = .ok (.iload 7, 2) := by decide +kernel
theorem dX0_shelveEndsAt_94 : decode cX0_shelveEndsAt 94 = .ok (.istore 7, 2) := by decide +kernel
theorem dX0_shelveEndsAt_96 : decode cX0_shelveEndsAt 96 = .ok (.iload 16, 2) := by decide +kernel
theorem dX0_shelveEndsAt_98 : decode cX0_shelveEndsAt 98 = .ok (.istore 8, 2) := by decide +kernel
theorem dX0_shelveEndsAt_100 : decode cX0_shelveEndsAt 100 = .ok (.iinc 9 1, 3) := by decide +kernel
theorem dX0_shelveEndsAt_103 : decode cX0_shelveEndsAt 103 = .ok (.iload 16, 2) := by decide +kernel
theorem dX0_shelveEndsAt_105 : decode cX0_shelveEndsAt 105 = .ok (.iconst 1, 1) := by decide +kernel
theorem dX0_shelveEndsAt_106 : decode cX0_shelveEndsAt 106 = .ok (.iadd, 1) := by decide +kernel
theorem dX0_shelveEndsAt_107 : decode cX0_shelveEndsAt 107 = .ok (.istore 19, 2) := by decide +kernel
theorem dX0_shelveEndsAt_109 : decode cX0_shelveEndsAt 109 = .ok (.lload 10, 2) := by decide +kernel
theorem dX0_shelveEndsAt_111 : decode cX0_shelveEndsAt 111 = .ok (.lconst 0, 1) := by decide +kernel
theorem dX0_shelveEndsAt_112 : decode cX0_shelveEndsAt 112 = .ok (.lcmp, 1) := by decide +kernel
theorem dX0_shelveEndsAt_113 : decode cX0_shelveEndsAt 113 = .ok (.ifCond .eq 71, 3) := by decide +kernel
theorem dX0_shelveEndsAt_116 : decode cX0_shelveEndsAt 116 = .ok (.lload_n 3, 1) := by decide +kernel
theorem dX0_shelveEndsAt_117 : decode cX0_shelveEndsAt 117 = .ok (.iload 19, 2) := by decide +kernel
theorem dX0_shelveEndsAt_119 : decode cX0_shelveEndsAt 119 = .ok (.invokestatic 86, 3) := by decide +kernel
theorem dX0_shelveEndsAt_122 : decode cX0_shelveEndsAt 122 = .ok (.ifCond .eq 62, 3) := by decide +kernel
theorem dX0_shelveEndsAt_125 : decode cX0_shelveEndsAt 125 = .ok (.iload 8, 2) := by decide +kernel
theorem dX0_shelveEndsAt_127 : decode cX0_shelveEndsAt 127 = .ok (.iload 7, 2) := by decide +kernel
