set_option maxRecDepth 20000 in
theorem in_wsL_law_r1 : ∀ w ∈ wsL_law_r1, w ∈ lw_tbl := fun w h => (goodIn_p wsL_law_r1 [217, 50, 53, 56, 59] (by decide +kernel) (by decide +kernel) w h).1
set_option maxRecDepth 20000 in
theorem in_wsL_law_r2 : ∀ w ∈ wsL_law_r2, w ∈ lw_tbl := fun w h => (goodIn_p wsL_law_r2 [301] (by decide +kernel) (by decide +kernel) w h).1
set_option maxRecDepth 20000 in
theorem in_wsL_law_r3 : ∀ w ∈ wsL_law_r3, w ∈ lw_tbl := fun w h => (goodIn_p wsL_law_r3 [225, 363] (by decide +kernel) (by decide +kernel) w h).1
set_option maxRecDepth 20000 in
theorem in_wsL_law_r4 : ∀ w ∈ wsL_law_r4, w ∈ lw_tbl := fun w h => (goodIn_p wsL_law_r4 [359, 99, 103, 107, 111, 114] (by decide +kernel) (by decide +kernel) w h).1
set_option maxRecDepth 20000 in
theorem in_wsL_law_r5 : ∀ w ∈ wsL_law_r5, w ∈ lw_tbl := fun w h => (goodIn_p wsL_law_r5 [118, 122, 126, 130, 134, 137] (by decide +kernel) (by decide +kernel) w h).1
set_option maxRecDepth 20000 in
theorem in_wsL_law_r6 : ∀ w ∈ wsL_law_r6, w ∈ lw_tbl := fun w h => (goodIn_p wsL_law_r6 [144, 148, 152, 155, 159, 163] (by decide +kernel) (by decide +kernel) w h).1
set_option maxRecDepth 20000 in
theorem in_wsL_law_r7 : ∀ w ∈ wsL_law_r7, w ∈ lw_tbl := fun w h => (goodIn_p wsL_law_r7 [167, 171, 367, 371, 375, 379] (by decide +kernel) (by decide +kernel) w h).1
set_option maxRecDepth 20000 in
theorem in_wsL_law_r8 : ∀ w ∈ wsL_law_r8, w ∈ lw_tbl := fun w h => (goodIn_p wsL_law_r8 [383, 387, 391, 395, 399] (by decide +kernel) (by decide +kernel) w h).1
set_option maxRecDepth 20000 in
theorem in_wsL_law_r9 : ∀ w ∈ wsL_law_r9, w ∈ lw_tbl := fun w h => (goodIn_p wsL_law_r9 [403, 407, 411, 415, 419, 423] (by decide +kernel) (by decide +kernel) w h).1
set_option maxRecDepth 20000 in
theorem in_wsL_law_r10 : ∀ w ∈ wsL_law_r10, w ∈ lw_tbl := fun w h => (goodIn_p wsL_law_r10 [429, 434, 175, 179, 439] (by decide +kernel) (by decide +kernel) w h).1
set_option maxRecDepth 20000 in
theorem in_wsL_law_r11 : ∀ w ∈ wsL_law_r11, w ∈ lw_tbl := fun w h => (goodIn_p wsL_law_r11 [183, 443, 187, 447, 191, 451] (by decide +kernel) (by decide +kernel) w h).1
set_option maxRecDepth 20000 in
theorem in_wsL_law_r12 : ∀ w ∈ wsL_law_r12, w ∈ lw_tbl := fun w h => (goodIn_p wsL_law_r12 [195, 199, 202, 455, 459, 206] (by decide +kernel) (by decide +kernel) w h).1
set_option maxRecDepth 20000 in
theorem in_wsL_law_r13 : ∀ w ∈ wsL_law_r13, w ∈ lw_tbl := fun w h => (goodIn_p wsL_law_r13 [210, 463] (by decide +kernel) (by decide +kernel) w h).1
set_option maxRecDepth 20000 in
theorem in_wsX00 : ∀ w ∈ wsX00, w ∈ lw_tbl := fun w h => (goodIn_p wsX00 [] (by decide +kernel) (by decide +kernel) w h).1
set_option maxRecDepth 20000 in
theorem in_wsX10 : ∀ w ∈ wsX10, w ∈ lw_tbl := fun w h => (goodIn_p wsX10 [] (by decide +kernel) (by decide +kernel) w h).1
set_option maxRecDepth 20000 in
theorem in_wsJx000600 : ∀ w ∈ wsJx000600, w ∈ lw_tbl := fun w h => (goodIn_p wsJx000600 [] (by decide +kernel) (by decide +kernel) w h).1
theorem wsL_law_in : ∀ w ∈ wsL_law, w ∈ lw_tbl := List.forall_mem_append.mpr ⟨List.forall_mem_append.mpr ⟨List.forall_mem_append.mpr ⟨List.forall_mem_append.mpr ⟨(List.forall_mem_append.mpr ⟨in_wsL_law_r1, (List.forall_mem_append.mpr ⟨in_wsL_law_r2, (List.forall_mem_append.mpr ⟨in_wsL_law_r3, (List.forall_mem_append.mpr ⟨in_wsL_law_r4, (List.forall_mem_append.mpr ⟨in_wsL_law_r5, (List.forall_mem_append.mpr ⟨in_wsL_law_r6, (List.forall_mem_append.mpr ⟨in_wsL_law_r7, (List.forall_mem_append.mpr ⟨in_wsL_law_r8, (List.forall_mem_append.mpr ⟨in_wsL_law_r9, (List.forall_mem_append.mpr ⟨in_wsL_law_r10, (List.forall_mem_append.mpr ⟨in_wsL_law_r11, (List.forall_mem_append.mpr ⟨in_wsL_law_r12, in_wsL_law_r13⟩)⟩)⟩)⟩)⟩)⟩)⟩)⟩)⟩)⟩)⟩)⟩), in_wsX00⟩, in_wsX10⟩, in_wsJx000600⟩, fun _ h => absurd h List.not_mem_nil⟩
theorem inlX0 : ∀ w ∈ wsX00, w ∈ wsL_law := fun _ h => List.mem_append_left _ (List.mem_append_left _ (List.mem_append_left _ (List.mem_append_right _ h)))
theorem inX0 : ∀ w ∈ wsX00, w ∈ lw_tbl := fun w h => wsL_law_in w (inlX0 w h)
theorem inlX1 : ∀ w ∈ wsX10, w ∈ wsL_law := fun _ h => List.mem_append_left _ (List.mem_append_left _ (List.mem_append_right _ h))
theorem inX1 : ∀ w ∈ wsX10, w ∈ lw_tbl := fun w h => wsL_law_in w (inlX1 w h)
theorem inlJx00060 : ∀ w ∈ wsJx000600, w ∈ wsL_law := fun _ h => List.mem_append_left _ (List.mem_append_right _ h)
theorem inJx00060 : ∀ w ∈ wsJx000600, w ∈ lw_tbl := fun w h => wsL_law_in w (inlJx00060 w h)
theorem inJ13 : ∀ w ∈ wsJ130, w ∈ lw_tbl := by decide +kernel
theorem inJ9 : ∀ w ∈ wsJ90, w ∈ lw_tbl := by decide +kernel
theorem inJ0 : ∀ w ∈ wsJ00, w ∈ lw_tbl := by decide +kernel
theorem inJ10 : ∀ w ∈ wsJ100, w ∈ lw_tbl := by decide +kernel
theorem dX0_init_0 : decode cX0_init 0 = .ok (.aload_n 0, 1) := by decide +kernel
theorem dX0_init_1 : decode cX0_init 1 = .ok (.invokespecial 1, 3) := by decide +kernel
theorem dX0_init_4 : decode cX0_init 4 = .ok (.aload_n 0, 1) := by decide +kernel
theorem dX0_init_5 : decode cX0_init 5 = .ok (.iconst 1, 1) := by decide +kernel
theorem dX0_init_6 : decode cX0_init 6 = .ok (.bipush 60, 2) := by decide +kernel
theorem dX0_init_8 : decode cX0_init 8 = .ok (.iload_n 1, 1) := by decide +kernel
theorem dX0_init_9 : decode cX0_init 9 = .ok (.invokestatic 9, 3) := by decide +kernel
theorem dX0_init_12 : decode cX0_init 12 = .ok (.invokestatic 15, 3) := by decide +kernel
theorem dX0_init_15 : decode cX0_init 15 = .ok (.putfield 18, 3) := by decide +kernel
theorem dX0_init_18 : decode cX0_init 18 = .ok (.aload_n 0, 1) := by decide +kernel
theorem dX0_init_19 : decode cX0_init 19 = .ok (.iconst 1, 1) := by decide +kernel
theorem dX0_init_20 : decode cX0_init 20 = .ok (.bipush 40, 2) := by decide +kernel
theorem dX0_init_22 : decode cX0_init 22 = .ok (.iload_n 2, 1) := by decide +kernel
theorem dX0_init_23 : decode cX0_init 23 = .ok (.invokestatic 9, 3) := by decide +kernel
theorem dX0_init_26 : decode cX0_init 26 = .ok (.invokestatic 15, 3) := by decide +kernel
theorem dX0_init_29 : decode cX0_init 29 = .ok (.putfield 22, 3) := by decide +kernel
theorem dX0_init_32 : decode cX0_init 32 = .ok (.aload_n 0, 1) := by decide +kernel
theorem dX0_init_33 : decode cX0_init 33 = .ok (.getfield 18, 3) := by decide +kernel
theorem dX0_init_36 : decode cX0_init 36 = .ok (.iconst 1, 1) := by decide +kernel
theorem dX0_init_37 : decode cX0_init 37 = .ok (.iadd, 1) := by decide +kernel
theorem dX0_init_38 : decode cX0_init 38 = .ok (.istore_n 3, 1) := by decide +kernel
theorem dX0_init_39 : decode cX0_init 39 = .ok (.aload_n 0, 1) := by decide +kernel
theorem dX0_init_40 : decode cX0_init 40 = .ok (.aload_n 0, 1) := by decide +kernel
theorem dX0_init_41 : decode cX0_init 41 = .ok (.getfield 18, 3) := by decide +kernel
theorem dX0_init_44 : decode cX0_init 44 = .ok (.newarray .long, 2) := by decide +kernel
theorem dX0_init_46 : decode cX0_init 46 = .ok (.putfield 25, 3) := by decide +kernel
theorem dX0_init_49 : decode cX0_init 49 = .ok (.aload_n 0, 1) := by decide +kernel
theorem dX0_init_50 : decode cX0_init 50 = .ok (.aload_n 0, 1) := by decide +kernel
theorem dX0_init_51 : decode cX0_init 51 = .ok (.getfield 22, 3) := by decide +kernel
theorem dX0_init_54 : decode cX0_init 54 = .ok (.newarray .long, 2) := by decide +kernel
theorem dX0_init_56 : decode cX0_init 56 = .ok (.putfield 29, 3) := by decide +kernel
theorem dX0_init_59 : decode cX0_init 59 = .ok (.aload_n 0, 1) := by decide +kernel
theorem dX0_init_60 : decode cX0_init 60 = .ok (.iload_n 3, 1) := by decide +kernel
theorem dX0_init_61 : decode cX0_init 61 = .ok (.bipush 40, 2) := by decide +kernel
theorem dX0_init_63 : decode cX0_init 63 = .ok (.imul, 1) := by decide +kernel
theorem dX0_init_64 : decode cX0_init 64 = .ok (.newarray .long, 2) := by decide +kernel
theorem dX0_init_66 : decode cX0_init 66 = .ok (.putfield 32, 3) := by decide +kernel
theorem dX0_init_69 : decode cX0_init 69 = .ok (.aload_n 0, 1) := by decide +kernel
theorem dX0_init_70 : decode cX0_init 70 = .ok (.iload_n 3, 1) := by decide +kernel
theorem dX0_init_71 : decode cX0_init 71 = .ok (.bipush 40, 2) := by decide +kernel
theorem dX0_init_73 : decode cX0_init 73 = .ok (.imul, 1) := by decide +kernel
theorem dX0_init_74 : decode cX0_init 74 = .ok (.newarray .int, 2) := by decide +kernel
theorem dX0_init_76 : decode cX0_init 76 = .ok (.putfield 35, 3) := by decide +kernel
theorem dX0_init_79 : decode cX0_init 79 = .ok (.aload_n 0, 1) := by decide +kernel
theorem dX0_init_80 : decode cX0_init 80 = .ok (.iload_n 3, 1) := by decide +kernel
theorem dX0_init_81 : decode cX0_init 81 = .ok (.newarray .int, 2) := by decide +kernel
theorem dX0_init_83 : decode cX0_init 83 = .ok (.putfield 39, 3) := by decide +kernel
theorem dX0_init_86 : decode cX0_init 86 = .ok (.aload_n 0, 1) := by decide +kernel
theorem dX0_init_87 : decode cX0_init 87 = .ok (.iload_n 3, 1) := by decide +kernel
theorem dX0_init_88 : decode cX0_init 88 = .ok (.newarray .int, 2) := by decide +kernel
theorem dX0_init_90 : decode cX0_init 90 = .ok (.putfield 42, 3) := by decide +kernel
theorem dX0_init_93 : decode cX0_init 93 = .ok (.aload_n 0, 1) := by decide +kernel
theorem dX0_init_94 : decode cX0_init 94 = .ok (.iload_n 3, 1) := by decide +kernel
theorem dX0_init_95 : decode cX0_init 95 = .ok (.newarray .int, 2) := by decide +kernel
theorem dX0_init_97 : decode cX0_init 97 = .ok (.putfield 45, 3) := by decide +kernel
theorem dX0_init_100 : decode cX0_init 100 = .ok (.return_, 1) := by decide +kernel
theorem dX0_column_0 : decode cX0_column 0 = .ok (.iload_n 1, 1) := by decide +kernel
theorem dX0_column_1 : decode cX0_column 1 = .ok (.ifCond .lt 23, 3) := by decide +kernel
theorem dX0_column_4 : decode cX0_column 4 = .ok (.iload_n 1, 1) := by decide +kernel
theorem dX0_column_5 : decode cX0_column 5 = .ok (.aload_n 0, 1) := by decide +kernel
theorem dX0_column_6 : decode cX0_column 6 = .ok (.getfield 18, 3) := by decide +kernel
theorem dX0_column_9 : decode cX0_column 9 = .ok (.if_icmp .ge 15, 3) := by decide +kernel
theorem dX0_column_12 : decode cX0_column 12 = .ok (.iload_n 2, 1) := by decide +kernel
theorem dX0_column_13 : decode cX0_column 13 = .ok (.ifCond .lt 11, 3) := by decide +kernel
theorem dX0_column_16 : decode cX0_column 16 = .ok (.iload_n 2, 1) := by decide +kernel
theorem dX0_column_17 : decode cX0_column 17 = .ok (.aload_n 0, 1) := by decide +kernel
theorem dX0_column_18 : decode cX0_column 18 = .ok (.getfield 22, 3) := by decide +kernel
theorem dX0_column_21 : decode cX0_column 21 = .ok (.if_icmp .lt 13, 3) := by decide +kernel
theorem dX0_column_24 : decode cX0_column 24 = .ok (.new 48, 3) := by decide +kernel
theorem dX0_column_27 : decode cX0_column 27 = .ok (.dup, 1) := by decide +kernel
theorem dX0_column_28 : decode cX0_column 28 = .ok (.ldc 50, 2) := by decide +kernel
theorem dX0_column_30 : decode cX0_column 30 = .ok (.invokespecial 52, 3) := by decide +kernel
theorem dX0_column_33 : decode cX0_column 33 = .ok (.athrow, 1) := by decide +kernel
theorem dX0_column_34 : decode cX0_column 34 = .ok (.iload_n 3, 1) := by decide +kernel
theorem dX0_column_35 : decode cX0_column 35 = .ok (.ifCond .eq 30, 3) := by decide +kernel
theorem dX0_column_38 : decode cX0_column 38 = .ok (.aload_n 0, 1) := by decide +kernel
theorem dX0_column_39 : decode cX0_column 39 = .ok (.getfield 25, 3) := by decide +kernel
theorem dX0_column_42 : decode cX0_column 42 = .ok (.iload_n 1, 1) := by decide +kernel
theorem dX0_column_43 : decode cX0_column 43 = .ok (.dup2, 1) := by decide +kernel
theorem dX0_column_44 : decode cX0_column 44 = .ok (.laload, 1) := by decide +kernel
theorem dX0_column_45 : decode cX0_column 45 = .ok (.lconst 1, 1) := by decide +kernel
theorem dX0_column_46 : decode cX0_column 46 = .ok (.iload_n 2, 1) := by decide +kernel
theorem dX0_column_47 : decode cX0_column 47 = .ok (.lshl, 1) := by decide +kernel
theorem dX0_column_48 : decode cX0_column 48 = .ok (.lor, 1) := by decide +kernel
theorem dX0_column_49 : decode cX0_column 49 = .ok (.lastore, 1) := by decide +kernel
theorem dX0_column_50 : decode cX0_column 50 = .ok (.aload_n 0, 1) := by decide +kernel
theorem dX0_column_51 : decode cX0_column 51 = .ok (.getfield 29, 3) := by decide +kernel
theorem dX0_column_54 : decode cX0_column 54 = .ok (.iload_n 2, 1) := by decide +kernel
theorem dX0_column_55 : decode cX0_column 55 = .ok (.dup2, 1) := by decide +kernel
theorem dX0_column_56 : decode cX0_column 56 = .ok (.laload, 1) := by decide +kernel
theorem dX0_column_57 : decode cX0_column 57 = .ok (.lconst 1, 1) := by decide +kernel
theorem dX0_column_58 : decode cX0_column 58 = .ok (.iload_n 1, 1) := by decide +kernel
theorem dX0_column_59 : decode cX0_column 59 = .ok (.lshl, 1) := by decide +kernel
theorem dX0_column_60 : decode cX0_column 60 = .ok (.lor, 1) := by decide +kernel
theorem dX0_column_61 : decode cX0_column 61 = .ok (.lastore, 1) := by decide +kernel
theorem dX0_column_62 : decode cX0_column 62 = .ok (.goto 35, 3) := by decide +kernel
theorem dX0_column_65 : decode cX0_column 65 = .ok (.aload_n 0, 1) := by decide +kernel
theorem dX0_column_66 : decode cX0_column 66 = .ok (.getfield 25, 3) := by decide +kernel
theorem dX0_column_69 : decode cX0_column 69 = .ok (.iload_n 1, 1) := by decide +kernel
theorem dX0_column_70 : decode cX0_column 70 = .ok (.dup2, 1) := by decide +kernel
theorem dX0_column_71 : decode cX0_column 71 = .ok (.laload, 1) := by decide +kernel
theorem dX0_column_72 : decode cX0_column 72 = .ok (.lconst 1, 1) := by decide +kernel
theorem dX0_column_73 : decode cX0_column 73 = .ok (.iload_n 2, 1) := by decide +kernel
theorem dX0_column_74 : decode cX0_column 74 = .ok (.lshl, 1) := by decide +kernel
theorem dX0_column_75 : decode cX0_column 75 = .ok (.ldc2_w 55, 3) := by decide +kernel
theorem dX0_column_78 : decode cX0_column 78 = .ok (.lxor, 1) := by decide +kernel
theorem dX0_column_79 : decode cX0_column 79 = .ok (.land, 1) := by decide +kernel
theorem dX0_column_80 : decode cX0_column 80 = .ok (.lastore, 1) := by decide +kernel
theorem dX0_column_81 : decode cX0_column 81 = .ok (.aload_n 0, 1) := by decide +kernel
theorem dX0_column_82 : decode cX0_column 82 = .ok (.getfield 29, 3) := by decide +kernel
theorem dX0_column_85 : decode cX0_column 85 = .ok (.iload_n 2, 1) := by decide +kernel
theorem dX0_column_86 : decode cX0_column 86 = .ok (.dup2, 1) := by decide +kernel
theorem dX0_column_87 : decode cX0_column 87 = .ok (.laload, 1) := by decide +kernel
theorem dX0_column_88 : decode cX0_column 88 = .ok (.lconst 1, 1) := by decide +kernel
theorem dX0_column_89 : decode cX0_column 89 = .ok (.iload_n 1, 1) := by decide +kernel
theorem dX0_column_90 : decode cX0_column 90 = .ok (.lshl, 1) := by decide +kernel
theorem dX0_column_91 : decode cX0_column 91 = .ok (.ldc2_w 55, 3) := by decide +kernel
theorem dX0_column_94 : decode cX0_column 94 = .ok (.lxor, 1) := by decide +kernel
theorem dX0_column_95 : decode cX0_column 95 = .ok (.land, 1) := by decide +kernel
theorem dX0_column_96 : decode cX0_column 96 = .ok (.lastore, 1) := by decide +kernel
theorem dX0_column_97 : decode cX0_column 97 = .ok (.return_, 1) := by decide +kernel
set_option maxRecDepth 20000 in
theorem ggX0_cut_X0_firstDarkColumn : GoodIn wsX0_cut wsX0_firstDarkColumn := goodIn_r _ [8, 9, 10, 91, 92, 93, 94, 95, 96, 97, 98, 99, 100, 101] (by decide +kernel) (by decide +kernel)
set_option maxRecDepth 20000 in
theorem gX0_cut_X0_firstDarkColumn : GoodIn wsX0_cut (wsV RX0 57 RX0 yX0_firstDarkColumn wsX0_firstDarkColumn) := goodIn_app (goodIn_of _ (by decide +kernel)) ggX0_cut_X0_firstDarkColumn
set_option maxRecDepth 20000 in
theorem ggX0_cut_X0_lastDarkColumn : GoodIn wsX0_cut wsX0_lastDarkColumn := goodIn_r _ [14, 9, 10, 91, 92, 93, 94, 95, 96, 97, 98, 99, 100, 101] (by decide +kernel) (by decide +kernel)
set_option maxRecDepth 20000 in
theorem gX0_cut_X0_lastDarkColumn : GoodIn wsX0_cut (wsV RX0 64 RX0 yX0_lastDarkColumn wsX0_lastDarkColumn) := goodIn_app (goodIn_of _ (by decide +kernel)) ggX0_cut_X0_lastDarkColumn
set_option maxRecDepth 20000 in
theorem ggX0_cut_X0_shelveUntil : GoodIn wsX0_cut wsX0_shelveUntil := goodIn_r _ [18, 19, 20, 3, 21, 22, 7, 23, 91, 92, 93, 94, 95, 96, 97, 98, 99, 100, 101] (by decide +kernel) (by decide +kernel)
set_option maxRecDepth 20000 in
theorem gX0_cut_X0_shelveUntil : GoodIn wsX0_cut (wsV RX0 67 RX0 yX0_shelveUntil wsX0_shelveUntil) := goodIn_app (goodIn_of _ (by decide +kernel)) ggX0_cut_X0_shelveUntil
set_option maxRecDepth 20000 in
theorem ggX0_cut_X0_shelveEnds : GoodIn wsX0_cut wsX0_shelveEnds := goodIn_r _ [27, 28, 29, 30, 7, 31, 32, 33, 34, 35, 36, 37, 38, 39, 40, 41, 42, 43, 44, 45, 46, 47, 48, 49, 50, 51, 52, 53, 54, 55, 56, 57, 58, 59, 60, 61, 62, 63, 64, 10, 65, 66, 67, 68, 69, 70, 71, 72, 73, 74, 75, 3, 76, 77, 78, 79, 80, 81, 82, 83, 20, 19, 21, 22, 23, 84, 85, 86, 87, 88, 89, 90, 91, 92, 93, 94, 95, 96, 97, 98, 99, 100, 101] (by decide +kernel) (by decide +kernel)
set_option maxRecDepth 20000 in
theorem gX0_cut_X0_shelveEnds : GoodIn wsX0_cut (wsV RX0 71 RX0 yX0_shelveEnds wsX0_shelveEnds) := goodIn_app (goodIn_of _ (by decide +kernel)) ggX0_cut_X0_shelveEnds
theorem dX0_cut_0 : decode cX0_cut 0 = .ok (.iload_n 1, 1) := by decide +kernel
theorem dX0_cut_1 : decode cX0_cut 1 = .ok (.iconst 1, 1) := by decide +kernel
theorem dX0_cut_2 : decode cX0_cut 2 = .ok (.if_icmp .lt 9, 3) := by decide +kernel
theorem dX0_cut_5 : decode cX0_cut 5 = .ok (.iload_n 1, 1) := by decide +kernel
theorem dX0_cut_6 : decode cX0_cut 6 = .ok (.bipush 40, 2) := by decide +kernel
theorem dX0_cut_8 : decode cX0_cut 8 = .ok (.if_icmp .le 5, 3) := by decide +kernel
theorem dX0_cut_11 : decode cX0_cut 11 = .ok (.iconst (-1), 1) := by decide +kernel
theorem dX0_cut_12 : decode cX0_cut 12 = .ok (.ireturn, 1) := by decide +kernel
theorem dX0_cut_13 : decode cX0_cut 13 = .ok (.aload_n 0, 1) := by decide +kernel
theorem dX0_cut_14 : decode cX0_cut 14 = .ok (.invokevirtual 57, 3) := by decide +kernel
theorem dX0_cut_17 : decode cX0_cut 17 = .ok (.istore_n 2, 1) := by decide +kernel
theorem dX0_cut_18 : decode cX0_cut 18 = .ok (.iload_n 2, 1) := by decide +kernel
theorem dX0_cut_19 : decode cX0_cut 19 = .ok (.iconst (-1), 1) := by decide +kernel
theorem dX0_cut_20 : decode cX0_cut 20 = .ok (.if_icmp .ne 10, 3) := by decide +kernel
theorem dX0_cut_23 : decode cX0_cut 23 = .ok (.aload_n 0, 1) := by decide +kernel
theorem dX0_cut_24 : decode cX0_cut 24 = .ok (.iconst 0, 1) := by decide +kernel
theorem dX0_cut_25 : decode cX0_cut 25 = .ok (.putfield 61, 3) := by decide +kernel
theorem dX0_cut_28 : decode cX0_cut 28 = .ok (.iconst 0, 1) := by decide +kernel
theorem dX0_cut_29 : decode cX0_cut 29 = .ok (.ireturn, 1) := by decide +kernel
theorem dX0_cut_30 : decode cX0_cut 30 = .ok (.aload_n 0, 1) := by decide +kernel
theorem dX0_cut_31 : decode cX0_cut 31 = .ok (.invokevirtual 64, 3) := by decide +kernel
theorem dX0_cut_34 : decode cX0_cut 34 = .ok (.iconst 1, 1) := by decide +kernel
theorem dX0_cut_35 : decode cX0_cut 35 = .ok (.iadd, 1) := by decide +kernel
theorem dX0_cut_36 : decode cX0_cut 36 = .ok (.istore_n 3, 1) := by decide +kernel
theorem dX0_cut_37 : decode cX0_cut 37 = .ok (.aload_n 0, 1) := by decide +kernel
theorem dX0_cut_38 : decode cX0_cut 38 = .ok (.iload_n 3, 1) := by decide +kernel
theorem dX0_cut_39 : decode cX0_cut 39 = .ok (.invokevirtual 67, 3) := by decide +kernel
theorem dX0_cut_42 : decode cX0_cut 42 = .ok (.aload_n 0, 1) := by decide +kernel
theorem dX0_cut_43 : decode cX0_cut 43 = .ok (.iload_n 2, 1) := by decide +kernel
theorem dX0_cut_44 : decode cX0_cut 44 = .ok (.iload_n 3, 1) := by decide +kernel
theorem dX0_cut_45 : decode cX0_cut 45 = .ok (.iload_n 1, 1) := by decide +kernel
theorem dX0_cut_46 : decode cX0_cut 46 = .ok (.invokevirtual 71, 3) := by decide +kernel
theorem dX0_cut_49 : decode cX0_cut 49 = .ok (.aload_n 0, 1) := by decide +kernel
theorem dX0_cut_50 : decode cX0_cut 50 = .ok (.iload_n 2, 1) := by decide +kernel
theorem dX0_cut_51 : decode cX0_cut 51 = .ok (.putfield 75, 3) := by decide +kernel
theorem dX0_cut_54 : decode cX0_cut 54 = .ok (.aload_n 0, 1) := by decide +kernel
theorem dX0_cut_55 : decode cX0_cut 55 = .ok (.aload_n 0, 1) := by decide +kernel
theorem dX0_cut_56 : decode cX0_cut 56 = .ok (.getfield 39, 3) := by decide +kernel
theorem dX0_cut_59 : decode cX0_cut 59 = .ok (.iload_n 2, 1) := by decide +kernel
theorem dX0_cut_60 : decode cX0_cut 60 = .ok (.iaload, 1) := by decide +kernel
theorem dX0_cut_61 : decode cX0_cut 61 = .ok (.putfield 61, 3) := by decide +kernel
theorem dX0_cut_64 : decode cX0_cut 64 = .ok (.aload_n 0, 1) := by decide +kernel
theorem dX0_cut_65 : decode cX0_cut 65 = .ok (.getfield 61, 3) := by decide +kernel
theorem dX0_cut_68 : decode cX0_cut 68 = .ok (.ireturn, 1) := by decide +kernel
set_option maxRecDepth 20000 in
theorem ggX0_way_X0_isFound : GoodIn wsX0_way wsX0_isFound := goodIn_r _ [8, 9, 16, 17, 18, 19, 20, 21, 22, 23, 24, 25, 26] (by decide +kernel) (by decide +kernel)
set_option maxRecDepth 20000 in
theorem gX0_way_X0_isFound : GoodIn wsX0_way (wsV RX0 78 RX0 yX0_isFound wsX0_isFound) := goodIn_app (goodIn_of _ (by decide +kernel)) ggX0_way_X0_isFound
set_option maxRecDepth 20000 in
theorem ggX0_way_X0_shelf : GoodIn wsX0_way wsX0_shelf := goodIn_r _ [12] (by decide +kernel) (by decide +kernel)
set_option maxRecDepth 20000 in
theorem gX0_way_X0_shelf : GoodIn wsX0_way (va_wsS RX0 82 yX0_shelf wsX0_shelf) := goodIn_app (goodIn_of _ (by decide +kernel)) ggX0_way_X0_shelf
set_option maxRecDepth 20000 in
theorem ggX0_way_X0_has : GoodIn wsX0_way wsX0_has := goodIn_r _ [15] (by decide +kernel) (by decide +kernel)
set_option maxRecDepth 20000 in
theorem gX0_way_X0_has : GoodIn wsX0_way (va_wsS RX0 86 yX0_has wsX0_has) := goodIn_app (goodIn_of _ (by decide +kernel)) ggX0_way_X0_has
theorem dX0_way_0 : decode cX0_way 0 = .ok (.aload_n 0, 1) := by decide +kernel
theorem dX0_way_1 : decode cX0_way 1 = .ok (.iload_n 1, 1) := by decide +kernel
theorem dX0_way_2 : decode cX0_way 2 = .ok (.invokevirtual 78, 3) := by decide +kernel
theorem dX0_way_5 : decode cX0_way 5 = .ok (.ifCond .eq 7, 3) := by decide +kernel
theorem dX0_way_8 : decode cX0_way 8 = .ok (.iload_n 2, 1) := by decide +kernel
theorem dX0_way_9 : decode cX0_way 9 = .ok (.ifCond .ge 5, 3) := by decide +kernel
theorem dX0_way_12 : decode cX0_way 12 = .ok (.iconst (-1), 1) := by decide +kernel
theorem dX0_way_13 : decode cX0_way 13 = .ok (.ireturn, 1) := by decide +kernel
theorem dX0_way_14 : decode cX0_way 14 = .ok (.aload_n 0, 1) := by decide +kernel
theorem dX0_way_15 : decode cX0_way 15 = .ok (.getfield 32, 3) := by decide +kernel
theorem dX0_way_18 : decode cX0_way 18 = .ok (.aload_n 0, 1) := by decide +kernel
theorem dX0_way_19 : decode cX0_way 19 = .ok (.getfield 75, 3) := by decide +kernel
theorem dX0_way_22 : decode cX0_way 22 = .ok (.invokestatic 82, 3) := by decide +kernel
theorem dX0_way_25 : decode cX0_way 25 = .ok (.iload_n 1, 1) := by decide +kernel
theorem dX0_way_26 : decode cX0_way 26 = .ok (.iadd, 1) := by decide +kernel
theorem dX0_way_27 : decode cX0_way 27 = .ok (.laload, 1) := by decide +kernel
theorem dX0_way_28 : decode cX0_way 28 = .ok (.lstore_n 3, 1) := by decide +kernel
theorem dX0_way_29 : decode cX0_way 29 = .ok (.iconst 0, 1) := by decide +kernel
theorem dX0_way_30 : decode cX0_way 30 = .ok (.istore 5, 2) := by decide +kernel
theorem dX0_way_32 : decode cX0_way 32 = .ok (.iconst 0, 1) := by decide +kernel
theorem dX0_way_33 : decode cX0_way 33 = .ok (.istore 6, 2) := by decide +kernel
theorem dX0_way_35 : decode cX0_way 35 = .ok (.iload 6, 2) := by decide +kernel
theorem dX0_way_37 : decode cX0_way 37 = .ok (.aload_n 0, 1) := by decide +kernel
theorem dX0_way_38 : decode cX0_way 38 = .ok (.getfield 18, 3) := by decide +kernel
theorem dX0_way_41 : decode cX0_way 41 = .ok (.if_icmp .gt 30, 3) := by decide +kernel
theorem dX0_way_44 : decode cX0_way 44 = .ok (.lload_n 3, 1) := by decide +kernel
theorem dX0_way_45 : decode cX0_way 45 = .ok (.iload 6, 2) := by decide +kernel
theorem dX0_way_47 : decode cX0_way 47 = .ok (.invokestatic 86, 3) := by decide +kernel
theorem dX0_way_50 : decode cX0_way 50 = .ok (.ifCond .eq 15, 3) := by decide +kernel
theorem dX0_way_53 : decode cX0_way 53 = .ok (.iload 5, 2) := by decide +kernel
theorem dX0_way_55 : decode cX0_way 55 = .ok (.iload_n 2, 1) := by decide +kernel
theorem dX0_way_56 : decode cX0_way 56 = .ok (.if_icmp .ne 6, 3) := by decide +kernel
theorem dX0_way_59 : decode cX0_way 59 = .ok (.iload 6, 2) := by decide +kernel
theorem dX0_way_61 : decode cX0_way 61 = .ok (.ireturn, 1) := by decide +kernel
theorem dX0_way_62 : decode cX0_way 62 = .ok (.iinc 5 1, 3) := by decide +kernel
theorem dX0_way_65 : decode cX0_way 65 = .ok (.iinc 6 1, 3) := by decide +kernel
theorem dX0_way_68 : decode cX0_way 68 = .ok (.goto (-33), 3) := by decide +kernel
theorem dX0_way_71 : decode cX0_way 71 = .ok (.iconst (-1), 1) := by decide +kernel
theorem dX0_way_72 : decode cX0_way 72 = .ok (.ireturn, 1) := by decide +kernel
set_option maxRecDepth 20000 in
theorem ggX0_cost_X0_isFound : GoodIn wsX0_cost wsX0_isFound := goodIn_r _ [8, 9, 13, 14, 15, 16, 17, 18, 19, 20, 21, 22, 23] (by decide +kernel) (by decide +kernel)
set_option maxRecDepth 20000 in
theorem gX0_cost_X0_isFound : GoodIn wsX0_cost (wsV RX0 78 RX0 yX0_isFound wsX0_isFound) := goodIn_app (goodIn_of _ (by decide +kernel)) ggX0_cost_X0_isFound
set_option maxRecDepth 20000 in
theorem ggX0_cost_X0_shelf : GoodIn wsX0_cost wsX0_shelf := goodIn_r _ [12] (by decide +kernel) (by decide +kernel)
set_option maxRecDepth 20000 in
theorem gX0_cost_X0_shelf : GoodIn wsX0_cost (va_wsS RX0 82 yX0_shelf wsX0_shelf) := goodIn_app (goodIn_of _ (by decide +kernel)) ggX0_cost_X0_shelf
theorem dX0_cost_0 : decode cX0_cost 0 = .ok (.aload_n 0, 1) := by decide +kernel
theorem dX0_cost_1 : decode cX0_cost 1 = .ok (.iload_n 1, 1) := by decide +kernel
theorem dX0_cost_2 : decode cX0_cost 2 = .ok (.invokevirtual 78, 3) := by decide +kernel
theorem dX0_cost_5 : decode cX0_cost 5 = .ok (.ifCond .eq 21, 3) := by decide +kernel
theorem dX0_cost_8 : decode cX0_cost 8 = .ok (.aload_n 0, 1) := by decide +kernel
theorem dX0_cost_9 : decode cX0_cost 9 = .ok (.getfield 35, 3) := by decide +kernel
theorem dX0_cost_12 : decode cX0_cost 12 = .ok (.aload_n 0, 1) := by decide +kernel
theorem dX0_cost_13 : decode cX0_cost 13 = .ok (.getfield 75, 3) := by decide +kernel
theorem dX0_cost_16 : decode cX0_cost 16 = .ok (.invokestatic 82, 3) := by decide +kernel
theorem dX0_cost_19 : decode cX0_cost 19 = .ok (.iload_n 1, 1) := by decide +kernel
theorem dX0_cost_20 : decode cX0_cost 20 = .ok (.iadd, 1) := by decide +kernel
theorem dX0_cost_21 : decode cX0_cost 21 = .ok (.iaload, 1) := by decide +kernel
theorem dX0_cost_22 : decode cX0_cost 22 = .ok (.i2l, 1) := by decide +kernel
theorem dX0_cost_23 : decode cX0_cost 23 = .ok (.goto 6, 3) := by decide +kernel
theorem dX0_cost_26 : decode cX0_cost 26 = .ok (.ldc2_w 55, 3) := by decide +kernel
theorem dX0_cost_29 : decode cX0_cost 29 = .ok (.lreturn, 1) := by decide +kernel
set_option maxRecDepth 20000 in
theorem ggX0_signs_X0_isFound : GoodIn wsX0_signs wsX0_isFound := goodIn_r _ [7, 8, 19, 20, 21, 22, 23, 24, 25, 26, 27, 28, 29] (by decide +kernel) (by decide +kernel)
set_option maxRecDepth 20000 in
theorem gX0_signs_X0_isFound : GoodIn wsX0_signs (wsV RX0 78 RX0 yX0_isFound wsX0_isFound) := goodIn_app (goodIn_of _ (by decide +kernel)) ggX0_signs_X0_isFound
set_option maxRecDepth 20000 in
theorem ggX0_signs_X0_shelf : GoodIn wsX0_signs wsX0_shelf := goodIn_r _ [11] (by decide +kernel) (by decide +kernel)
set_option maxRecDepth 20000 in
theorem gX0_signs_X0_shelf : GoodIn wsX0_signs (va_wsS RX0 82 yX0_shelf wsX0_shelf) := goodIn_app (goodIn_of _ (by decide +kernel)) ggX0_signs_X0_shelf
set_option maxRecDepth 20000 in
theorem ggX0_signs_J13_bitCount_95d88 : GoodIn wsX0_signs wsJ13_bitCount_95d88 := goodIn_r _ [15, 16, 17, 18] (by decide +kernel) (by decide +kernel)
set_option maxRecDepth 20000 in
theorem gX0_signs_J13_bitCount_95d88 : GoodIn wsX0_signs (va_wsS RX0 90 yJ13_bitCount_95d88 wsJ13_bitCount_95d88) := goodIn_app (goodIn_of _ (by decide +kernel)) ggX0_signs_J13_bitCount_95d88
theorem dX0_signs_0 : decode cX0_signs 0 = .ok (.aload_n 0, 1) := by decide +kernel
theorem dX0_signs_1 : decode cX0_signs 1 = .ok (.iload_n 1, 1) := by decide +kernel
theorem dX0_signs_2 : decode cX0_signs 2 = .ok (.invokevirtual 78, 3) := by decide +kernel
theorem dX0_signs_5 : decode cX0_signs 5 = .ok (.ifCond .eq 25, 3) := by decide +kernel
theorem dX0_signs_8 : decode cX0_signs 8 = .ok (.aload_n 0, 1) := by decide +kernel
theorem dX0_signs_9 : decode cX0_signs 9 = .ok (.getfield 32, 3) := by decide +kernel
theorem dX0_signs_12 : decode cX0_signs 12 = .ok (.aload_n 0, 1) := by decide +kernel
theorem dX0_signs_13 : decode cX0_signs 13 = .ok (.getfield 75, 3) := by decide +kernel
theorem dX0_signs_16 : decode cX0_signs 16 = .ok (.invokestatic 82, 3) := by decide +kernel
theorem dX0_signs_19 : decode cX0_signs 19 = .ok (.iload_n 1, 1) := by decide +kernel
theorem dX0_signs_20 : decode cX0_signs 20 = .ok (.iadd, 1) := by decide +kernel
theorem dX0_signs_21 : decode cX0_signs 21 = .ok (.laload, 1) := by decide +kernel
theorem dX0_signs_22 : decode cX0_signs 22 = .ok (.invokestatic 90, 3) := by decide +kernel
theorem dX0_signs_25 : decode cX0_signs 25 = .ok (.iconst 1, 1) := by decide +kernel
theorem dX0_signs_26 : decode cX0_signs 26 = .ok (.isub, 1) := by decide +kernel
theorem dX0_signs_27 : decode cX0_signs 27 = .ok (.goto 4, 3) := by decide +kernel
theorem dX0_signs_30 : decode cX0_signs 30 = .ok (.iconst (-1), 1) := by decide +kernel
theorem dX0_signs_31 : decode cX0_signs 31 = .ok (.ireturn, 1) := by decide +kernel
set_option maxRecDepth 20000 in
theorem ggX0_base_X0_firstDarkColumn : GoodIn wsX0_base wsX0_firstDarkColumn := goodIn_r _ [5, 6, 7, 53, 54, 55, 56, 57, 58, 59, 60, 61, 62, 63] (by decide +kernel) (by decide +kernel)
set_option maxRecDepth 20000 in
theorem gX0_base_X0_firstDarkColumn : GoodIn wsX0_base (wsV RX0 57 RX0 yX0_firstDarkColumn wsX0_firstDarkColumn) := goodIn_app (goodIn_of _ (by decide +kernel)) ggX0_base_X0_firstDarkColumn
set_option maxRecDepth 20000 in
theorem ggX0_base_X0_firstStrongRow : GoodIn wsX0_base wsX0_firstStrongRow := goodIn_r _ [11, 12, 13, 14, 15, 4, 16, 17, 18, 19, 20, 21, 22, 23, 24, 25, 26, 27, 28, 29, 30, 31, 32, 53, 54, 55, 56, 57, 58, 59, 60, 61, 62, 63] (by decide +kernel) (by decide +kernel)
set_option maxRecDepth 20000 in
theorem gX0_base_X0_firstStrongRow : GoodIn wsX0_base (wsV RX0 96 RX0 yX0_firstStrongRow wsX0_firstStrongRow) := goodIn_app (goodIn_of _ (by decide +kernel)) ggX0_base_X0_firstStrongRow
set_option maxRecDepth 20000 in
theorem ggX0_base_X0_lastStrongRow : GoodIn wsX0_base wsX0_lastStrongRow := goodIn_r _ [36, 12, 13, 14, 15, 4, 16, 17, 18, 19, 20, 21, 22, 23, 24, 25, 26, 27, 28, 29, 30, 31, 32, 53, 54, 55, 56, 57, 58, 59, 60, 61, 62, 63] (by decide +kernel) (by decide +kernel)
set_option maxRecDepth 20000 in
theorem gX0_base_X0_lastStrongRow : GoodIn wsX0_base (wsV RX0 99 RX0 yX0_lastStrongRow wsX0_lastStrongRow) := goodIn_app (goodIn_of _ (by decide +kernel)) ggX0_base_X0_lastStrongRow
set_option maxRecDepth 20000 in
theorem ggX0_base_X0_dueWidth : GoodIn wsX0_base wsX0_dueWidth := goodIn_r _ [40, 33, 34, 35, 4, 36, 12, 13, 14, 15, 16, 17, 18, 19, 20, 21, 22, 23, 24, 25, 26, 27, 28, 29, 30, 31, 32, 8, 9, 10, 11, 53, 54, 55, 56, 57, 58, 59, 60, 61, 62, 63] (by decide +kernel) (by decide +kernel)
set_option maxRecDepth 20000 in
theorem gX0_base_X0_dueWidth : GoodIn wsX0_base (wsV RX0 102 RX0 yX0_dueWidth wsX0_dueWidth) := goodIn_app (goodIn_of _ (by decide +kernel)) ggX0_base_X0_dueWidth
set_option maxRecDepth 20000 in
theorem ggX0_base_X0_lastDarkColumn : GoodIn wsX0_base wsX0_lastDarkColumn := goodIn_r _ [44, 6, 7, 53, 54, 55, 56, 57, 58, 59, 60, 61, 62, 63] (by decide +kernel) (by decide +kernel)
set_option maxRecDepth 20000 in
theorem gX0_base_X0_lastDarkColumn : GoodIn wsX0_base (wsV RX0 64 RX0 yX0_lastDarkColumn wsX0_lastDarkColumn) := goodIn_app (goodIn_of _ (by decide +kernel)) ggX0_base_X0_lastDarkColumn
set_option maxRecDepth 20000 in
theorem ggX0_base_X0_placesToCut : GoodIn wsX0_base wsX0_placesToCut := goodIn_r _ [48, 7, 49, 50, 51, 4, 52, 26, 27, 28, 29, 30, 31, 32, 53, 54, 55, 56, 57, 58, 59, 60, 61, 62, 63] (by decide +kernel) (by decide +kernel)
set_option maxRecDepth 20000 in
theorem gX0_base_X0_placesToCut : GoodIn wsX0_base (wsV RX0 105 RX0 yX0_placesToCut wsX0_placesToCut) := goodIn_app (goodIn_of _ (by decide +kernel)) ggX0_base_X0_placesToCut
set_option maxRecDepth 20000 in
theorem ggX0_base_J13_bitCount_95d88 : GoodIn wsX0_base wsJ13_bitCount_95d88 := goodIn_r _ [29, 30, 31, 32] (by decide +kernel) (by decide +kernel)
set_option maxRecDepth 20000 in
theorem gX0_base_J13_bitCount_95d88 : GoodIn wsX0_base (va_wsS RX0 90 yJ13_bitCount_95d88 wsJ13_bitCount_95d88) := goodIn_app (goodIn_of _ (by decide +kernel)) ggX0_base_J13_bitCount_95d88
theorem dX0_base_0 : decode cX0_base 0 = .ok (.aload_n 0, 1) := by decide +kernel
theorem dX0_base_1 : decode cX0_base 1 = .ok (.invokevirtual 57, 3) := by decide +kernel
theorem dX0_base_4 : decode cX0_base 4 = .ok (.iconst (-1), 1) := by decide +kernel
theorem dX0_base_5 : decode cX0_base 5 = .ok (.if_icmp .ne 5, 3) := by decide +kernel
