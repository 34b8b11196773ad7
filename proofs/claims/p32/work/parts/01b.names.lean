theorem inlX0 : ∀ w ∈ wsX00, w ∈ wsL_law := fun _ h => List.mem_append_left _ (List.mem_append_right _ h)
theorem inX0 : ∀ w ∈ wsX00, w ∈ lw_tbl := fun w h => wsL_law_in w (inlX0 w h)
theorem inlX1 : ∀ w ∈ wsX10, w ∈ wsL_law := fun _ h => List.mem_append_left _ (List.mem_append_left _ (List.mem_append_right _ h))
theorem inX1 : ∀ w ∈ wsX10, w ∈ lw_tbl := fun w h => wsL_law_in w (inlX1 w h)
theorem inlX2 : ∀ w ∈ wsX20, w ∈ wsL_law := fun _ h => List.mem_append_left _ (List.mem_append_left _ (List.mem_append_left _ (List.mem_append_right _ h)))
theorem inX2 : ∀ w ∈ wsX20, w ∈ lw_tbl := fun w h => wsL_law_in w (inlX2 w h)
theorem inlX3 : ∀ w ∈ wsX30, w ∈ wsL_law := fun _ h => List.mem_append_left _ (List.mem_append_left _ (List.mem_append_left _ (List.mem_append_left _ (List.mem_append_right _ h))))
theorem inX3 : ∀ w ∈ wsX30, w ∈ lw_tbl := fun w h => wsL_law_in w (inlX3 w h)
theorem inX4 : ∀ w ∈ wsX40, w ∈ lw_tbl := by decide +kernel
theorem inlX5 : ∀ w ∈ wsX50, w ∈ wsL_law := fun _ h => List.mem_append_left _ (List.mem_append_left _ (List.mem_append_left _ (List.mem_append_left _ (List.mem_append_left _ (List.mem_append_right _ h)))))
theorem inX5 : ∀ w ∈ wsX50, w ∈ lw_tbl := fun w h => wsL_law_in w (inlX5 w h)
theorem inX6 : ∀ w ∈ wsX60, w ∈ lw_tbl := by decide +kernel
theorem inJ6 : ∀ w ∈ wsJ60, w ∈ lw_tbl := by decide +kernel
theorem inJ9 : ∀ w ∈ wsJ90, w ∈ lw_tbl := by decide +kernel
theorem inJ10 : ∀ w ∈ wsJ100, w ∈ lw_tbl := by decide +kernel
theorem dX0_init_0 : decode cX0_init 0 = .ok (.aload_n 0, 1) := by decide +kernel
theorem dX0_init_1 : decode cX0_init 1 = .ok (.invokespecial 3, 3) := by decide +kernel
theorem dX0_init_4 : decode cX0_init 4 = .ok (.aload_n 0, 1) := by decide +kernel
theorem dX0_init_5 : decode cX0_init 5 = .ok (.bipush 30, 2) := by decide +kernel
theorem dX0_init_7 : decode cX0_init 7 = .ok (.newarray .int, 2) := by decide +kernel
theorem dX0_init_9 : decode cX0_init 9 = .ok (.putfield 9, 3) := by decide +kernel
theorem dX0_init_12 : decode cX0_init 12 = .ok (.aload_n 0, 1) := by decide +kernel
theorem dX0_init_13 : decode cX0_init 13 = .ok (.bipush 30, 2) := by decide +kernel
theorem dX0_init_15 : decode cX0_init 15 = .ok (.newarray .int, 2) := by decide +kernel
theorem dX0_init_17 : decode cX0_init 17 = .ok (.putfield 15, 3) := by decide +kernel
theorem dX0_init_20 : decode cX0_init 20 = .ok (.aload_n 0, 1) := by decide +kernel
theorem dX0_init_21 : decode cX0_init 21 = .ok (.bipush 30, 2) := by decide +kernel
theorem dX0_init_23 : decode cX0_init 23 = .ok (.newarray .int, 2) := by decide +kernel
theorem dX0_init_25 : decode cX0_init 25 = .ok (.putfield 18, 3) := by decide +kernel
theorem dX0_init_28 : decode cX0_init 28 = .ok (.return_, 1) := by decide +kernel
set_option maxRecDepth 20000 in
theorem ggX0_make_X5_bitOf : GoodIn wsX0_make wsX5_bitOf := goodIn_r _ [5, 6, 7, 4, 8] (by decide +kernel) (by decide +kernel)
set_option maxRecDepth 20000 in
theorem gX0_make_X5_bitOf_n34 : GoodIn wsX0_make (wsX5_bitOf) := ggX0_make_X5_bitOf
set_option maxRecDepth 20000 in
theorem ggX0_make_X2_isCandidate : GoodIn wsX0_make wsX2_isCandidate := goodIn_r _ [13, 14, 15, 16, 17, 12, 18, 19, 59, 60, 61, 62, 63, 64, 65, 66, 67, 68, 69, 70] (by decide +kernel) (by decide +kernel)
set_option maxRecDepth 20000 in
theorem gX0_make_X2_isCandidate : GoodIn wsX0_make (wsV RX0 41 RX2 yX2_isCandidate wsX2_isCandidate) := goodIn_app (goodIn_of _ (by decide +kernel)) ggX0_make_X2_isCandidate
set_option maxRecDepth 20000 in
theorem ggX0_make_X2_wordAt : GoodIn wsX0_make wsX2_wordAt := goodIn_r _ [23, 24, 15, 16, 17, 12, 18, 19, 59, 60, 61, 62, 63, 64, 65, 66, 67, 68, 69, 70] (by decide +kernel) (by decide +kernel)
set_option maxRecDepth 20000 in
theorem gX0_make_X2_wordAt : GoodIn wsX0_make (wsV RX0 45 RX2 yX2_wordAt wsX2_wordAt) := goodIn_app (goodIn_of _ (by decide +kernel)) ggX0_make_X2_wordAt
set_option maxRecDepth 20000 in
theorem ggX0_make_X4_maskOf : GoodIn wsX0_make wsX4_maskOf := goodIn_r _ [28, 29, 30, 27, 31, 32, 33, 34] (by decide +kernel) (by decide +kernel)
set_option maxRecDepth 20000 in
theorem gX0_make_X4_maskOf : GoodIn wsX0_make (va_wsS RX0 49 yX4_maskOf wsX4_maskOf) := goodIn_app (goodIn_of _ (by decide +kernel)) ggX0_make_X4_maskOf
set_option maxRecDepth 20000 in
theorem ggX0_make_X4_lettersOf : GoodIn wsX0_make wsX4_lettersOf := goodIn_r _ [37, 29, 30, 27, 31, 32, 33, 34, 3, 4, 5, 6, 7, 8] (by decide +kernel) (by decide +kernel)
set_option maxRecDepth 20000 in
theorem gX0_make_X4_lettersOf : GoodIn wsX0_make (va_wsS RX0 55 yX4_lettersOf wsX4_lettersOf) := goodIn_app (goodIn_of _ (by decide +kernel)) ggX0_make_X4_lettersOf
set_option maxRecDepth 20000 in
theorem ggX0_make_X0_put : GoodIn wsX0_make wsX0_put := goodIn_r _ [42, 1, 43, 44, 45, 46, 47, 48, 41, 49, 50, 51, 52, 53, 54, 55, 56, 57, 58] (by decide +kernel) (by decide +kernel)
set_option maxRecDepth 20000 in
theorem gX0_make_X0_put : GoodIn wsX0_make (wsV RX0 59 RX0 yX0_put wsX0_put) := goodIn_app (goodIn_of _ (by decide +kernel)) ggX0_make_X0_put
theorem dX0_make_0 : decode cX0_make 0 = .ok (.aload_n 0, 1) := by decide +kernel
theorem dX0_make_1 : decode cX0_make 1 = .ok (.iconst 0, 1) := by decide +kernel
theorem dX0_make_2 : decode cX0_make 2 = .ok (.putfield 21, 3) := by decide +kernel
theorem dX0_make_5 : decode cX0_make 5 = .ok (.aload_n 0, 1) := by decide +kernel
theorem dX0_make_6 : decode cX0_make 6 = .ok (.aload_n 1, 1) := by decide +kernel
theorem dX0_make_7 : decode cX0_make 7 = .ok (.getfield 25, 3) := by decide +kernel
theorem dX0_make_10 : decode cX0_make 10 = .ok (.putfield 30, 3) := by decide +kernel
theorem dX0_make_13 : decode cX0_make 13 = .ok (.aload_n 1, 1) := by decide +kernel
theorem dX0_make_14 : decode cX0_make 14 = .ok (.getfield 31, 3) := by decide +kernel
theorem dX0_make_17 : decode cX0_make 17 = .ok (.iload_n 2, 1) := by decide +kernel
theorem dX0_make_18 : decode cX0_make 18 = .ok (.invokestatic 34, 3) := by decide +kernel
theorem dX0_make_21 : decode cX0_make 21 = .ok (.ior, 1) := by decide +kernel
theorem dX0_make_22 : decode cX0_make 22 = .ok (.istore_n 3, 1) := by decide +kernel
theorem dX0_make_23 : decode cX0_make 23 = .ok (.iconst 0, 1) := by decide +kernel
theorem dX0_make_24 : decode cX0_make 24 = .ok (.istore 4, 2) := by decide +kernel
theorem dX0_make_26 : decode cX0_make 26 = .ok (.iload 4, 2) := by decide +kernel
theorem dX0_make_28 : decode cX0_make 28 = .ok (.aload_n 1, 1) := by decide +kernel
theorem dX0_make_29 : decode cX0_make 29 = .ok (.getfield 38, 3) := by decide +kernel
theorem dX0_make_32 : decode cX0_make 32 = .ok (.if_icmp .ge 47, 3) := by decide +kernel
theorem dX0_make_35 : decode cX0_make 35 = .ok (.aload_n 1, 1) := by decide +kernel
theorem dX0_make_36 : decode cX0_make 36 = .ok (.iload 4, 2) := by decide +kernel
theorem dX0_make_38 : decode cX0_make 38 = .ok (.invokevirtual 41, 3) := by decide +kernel
theorem dX0_make_41 : decode cX0_make 41 = .ok (.ifCond .eq 32, 3) := by decide +kernel
theorem dX0_make_44 : decode cX0_make 44 = .ok (.aload_n 1, 1) := by decide +kernel
theorem dX0_make_45 : decode cX0_make 45 = .ok (.iload 4, 2) := by decide +kernel
theorem dX0_make_47 : decode cX0_make 47 = .ok (.invokevirtual 45, 3) := by decide +kernel
theorem dX0_make_50 : decode cX0_make 50 = .ok (.lstore 5, 2) := by decide +kernel
theorem dX0_make_52 : decode cX0_make 52 = .ok (.aload_n 0, 1) := by decide +kernel
theorem dX0_make_53 : decode cX0_make 53 = .ok (.iload 4, 2) := by decide +kernel
theorem dX0_make_55 : decode cX0_make 55 = .ok (.lload 5, 2) := by decide +kernel
theorem dX0_make_57 : decode cX0_make 57 = .ok (.iload_n 2, 1) := by decide +kernel
theorem dX0_make_58 : decode cX0_make 58 = .ok (.invokestatic 49, 3) := by decide +kernel
theorem dX0_make_61 : decode cX0_make 61 = .ok (.lload 5, 2) := by decide +kernel
theorem dX0_make_63 : decode cX0_make 63 = .ok (.invokestatic 55, 3) := by decide +kernel
theorem dX0_make_66 : decode cX0_make 66 = .ok (.iload_n 3, 1) := by decide +kernel
theorem dX0_make_67 : decode cX0_make 67 = .ok (.iconst (-1), 1) := by decide +kernel
theorem dX0_make_68 : decode cX0_make 68 = .ok (.ixor, 1) := by decide +kernel
theorem dX0_make_69 : decode cX0_make 69 = .ok (.iand, 1) := by decide +kernel
theorem dX0_make_70 : decode cX0_make 70 = .ok (.invokevirtual 59, 3) := by decide +kernel
theorem dX0_make_73 : decode cX0_make 73 = .ok (.iinc 4 1, 3) := by decide +kernel
theorem dX0_make_76 : decode cX0_make 76 = .ok (.goto (-50), 3) := by decide +kernel
theorem dX0_make_79 : decode cX0_make 79 = .ok (.return_, 1) := by decide +kernel
set_option maxRecDepth 20000 in
theorem ggX0_put_X0_maskOf : GoodIn wsX0_put wsX0_maskOf := goodIn_r _ [9, 2, 10, 11, 12, 8, 13, 1, 14, 15, 16, 17, 18] (by decide +kernel) (by decide +kernel)
set_option maxRecDepth 20000 in
theorem gX0_put_X0_maskOf : GoodIn wsX0_put (wsV RX0 63 RX0 yX0_maskOf wsX0_maskOf) := goodIn_app (goodIn_of _ (by decide +kernel)) ggX0_put_X0_maskOf
theorem dX0_put_0 : decode cX0_put 0 = .ok (.iconst 0, 1) := by decide +kernel
theorem dX0_put_1 : decode cX0_put 1 = .ok (.istore 4, 2) := by decide +kernel
theorem dX0_put_3 : decode cX0_put 3 = .ok (.iload 4, 2) := by decide +kernel
theorem dX0_put_5 : decode cX0_put 5 = .ok (.aload_n 0, 1) := by decide +kernel
theorem dX0_put_6 : decode cX0_put 6 = .ok (.getfield 21, 3) := by decide +kernel
theorem dX0_put_9 : decode cX0_put 9 = .ok (.if_icmp .ge 19, 3) := by decide +kernel
theorem dX0_put_12 : decode cX0_put 12 = .ok (.aload_n 0, 1) := by decide +kernel
theorem dX0_put_13 : decode cX0_put 13 = .ok (.iload 4, 2) := by decide +kernel
theorem dX0_put_15 : decode cX0_put 15 = .ok (.invokevirtual 63, 3) := by decide +kernel
theorem dX0_put_18 : decode cX0_put 18 = .ok (.iload_n 2, 1) := by decide +kernel
theorem dX0_put_19 : decode cX0_put 19 = .ok (.if_icmp .eq 9, 3) := by decide +kernel
theorem dX0_put_22 : decode cX0_put 22 = .ok (.iinc 4 1, 3) := by decide +kernel
theorem dX0_put_25 : decode cX0_put 25 = .ok (.goto (-22), 3) := by decide +kernel
theorem dX0_put_28 : decode cX0_put 28 = .ok (.iload 4, 2) := by decide +kernel
theorem dX0_put_30 : decode cX0_put 30 = .ok (.ifCond .lt 10, 3) := by decide +kernel
theorem dX0_put_33 : decode cX0_put 33 = .ok (.iload 4, 2) := by decide +kernel
theorem dX0_put_35 : decode cX0_put 35 = .ok (.bipush 30, 2) := by decide +kernel
theorem dX0_put_37 : decode cX0_put 37 = .ok (.if_icmp .lt 4, 3) := by decide +kernel
theorem dX0_put_40 : decode cX0_put 40 = .ok (.return_, 1) := by decide +kernel
theorem dX0_put_41 : decode cX0_put 41 = .ok (.iload 4, 2) := by decide +kernel
theorem dX0_put_43 : decode cX0_put 43 = .ok (.aload_n 0, 1) := by decide +kernel
theorem dX0_put_44 : decode cX0_put 44 = .ok (.getfield 21, 3) := by decide +kernel
theorem dX0_put_47 : decode cX0_put 47 = .ok (.if_icmp .ne 37, 3) := by decide +kernel
theorem dX0_put_50 : decode cX0_put 50 = .ok (.aload_n 0, 1) := by decide +kernel
theorem dX0_put_51 : decode cX0_put 51 = .ok (.getfield 9, 3) := by decide +kernel
theorem dX0_put_54 : decode cX0_put 54 = .ok (.iload 4, 2) := by decide +kernel
theorem dX0_put_56 : decode cX0_put 56 = .ok (.iload_n 2, 1) := by decide +kernel
theorem dX0_put_57 : decode cX0_put 57 = .ok (.iastore, 1) := by decide +kernel
theorem dX0_put_58 : decode cX0_put 58 = .ok (.aload_n 0, 1) := by decide +kernel
theorem dX0_put_59 : decode cX0_put 59 = .ok (.getfield 15, 3) := by decide +kernel
theorem dX0_put_62 : decode cX0_put 62 = .ok (.iload 4, 2) := by decide +kernel
theorem dX0_put_64 : decode cX0_put 64 = .ok (.iconst 0, 1) := by decide +kernel
theorem dX0_put_65 : decode cX0_put 65 = .ok (.iastore, 1) := by decide +kernel
theorem dX0_put_66 : decode cX0_put 66 = .ok (.aload_n 0, 1) := by decide +kernel
theorem dX0_put_67 : decode cX0_put 67 = .ok (.getfield 18, 3) := by decide +kernel
theorem dX0_put_70 : decode cX0_put 70 = .ok (.iload 4, 2) := by decide +kernel
theorem dX0_put_72 : decode cX0_put 72 = .ok (.iconst 0, 1) := by decide +kernel
theorem dX0_put_73 : decode cX0_put 73 = .ok (.iastore, 1) := by decide +kernel
theorem dX0_put_74 : decode cX0_put 74 = .ok (.aload_n 0, 1) := by decide +kernel
theorem dX0_put_75 : decode cX0_put 75 = .ok (.dup, 1) := by decide +kernel
theorem dX0_put_76 : decode cX0_put 76 = .ok (.getfield 21, 3) := by decide +kernel
theorem dX0_put_79 : decode cX0_put 79 = .ok (.iconst 1, 1) := by decide +kernel
theorem dX0_put_80 : decode cX0_put 80 = .ok (.iadd, 1) := by decide +kernel
theorem dX0_put_81 : decode cX0_put 81 = .ok (.putfield 21, 3) := by decide +kernel
theorem dX0_put_84 : decode cX0_put 84 = .ok (.aload_n 0, 1) := by decide +kernel
theorem dX0_put_85 : decode cX0_put 85 = .ok (.getfield 15, 3) := by decide +kernel
theorem dX0_put_88 : decode cX0_put 88 = .ok (.iload 4, 2) := by decide +kernel
theorem dX0_put_90 : decode cX0_put 90 = .ok (.dup2, 1) := by decide +kernel
theorem dX0_put_91 : decode cX0_put 91 = .ok (.iaload, 1) := by decide +kernel
theorem dX0_put_92 : decode cX0_put 92 = .ok (.iconst 1, 1) := by decide +kernel
theorem dX0_put_93 : decode cX0_put 93 = .ok (.iload_n 1, 1) := by decide +kernel
theorem dX0_put_94 : decode cX0_put 94 = .ok (.ishl, 1) := by decide +kernel
theorem dX0_put_95 : decode cX0_put 95 = .ok (.ior, 1) := by decide +kernel
theorem dX0_put_96 : decode cX0_put 96 = .ok (.iastore, 1) := by decide +kernel
theorem dX0_put_97 : decode cX0_put 97 = .ok (.aload_n 0, 1) := by decide +kernel
theorem dX0_put_98 : decode cX0_put 98 = .ok (.getfield 18, 3) := by decide +kernel
theorem dX0_put_101 : decode cX0_put 101 = .ok (.iload 4, 2) := by decide +kernel
theorem dX0_put_103 : decode cX0_put 103 = .ok (.dup2, 1) := by decide +kernel
theorem dX0_put_104 : decode cX0_put 104 = .ok (.iaload, 1) := by decide +kernel
theorem dX0_put_105 : decode cX0_put 105 = .ok (.iload_n 3, 1) := by decide +kernel
theorem dX0_put_106 : decode cX0_put 106 = .ok (.ior, 1) := by decide +kernel
theorem dX0_put_107 : decode cX0_put 107 = .ok (.iastore, 1) := by decide +kernel
theorem dX0_put_108 : decode cX0_put 108 = .ok (.return_, 1) := by decide +kernel
theorem dX0_has_0 : decode cX0_has 0 = .ok (.iload_n 1, 1) := by decide +kernel
theorem dX0_has_1 : decode cX0_has 1 = .ok (.ifCond .lt 21, 3) := by decide +kernel
theorem dX0_has_4 : decode cX0_has 4 = .ok (.iload_n 1, 1) := by decide +kernel
theorem dX0_has_5 : decode cX0_has 5 = .ok (.aload_n 0, 1) := by decide +kernel
theorem dX0_has_6 : decode cX0_has 6 = .ok (.getfield 21, 3) := by decide +kernel
theorem dX0_has_9 : decode cX0_has 9 = .ok (.if_icmp .ge 13, 3) := by decide +kernel
theorem dX0_has_12 : decode cX0_has 12 = .ok (.iload_n 1, 1) := by decide +kernel
theorem dX0_has_13 : decode cX0_has 13 = .ok (.bipush 30, 2) := by decide +kernel
theorem dX0_has_15 : decode cX0_has 15 = .ok (.if_icmp .ge 7, 3) := by decide +kernel
theorem dX0_has_18 : decode cX0_has 18 = .ok (.iconst 1, 1) := by decide +kernel
theorem dX0_has_19 : decode cX0_has 19 = .ok (.goto 4, 3) := by decide +kernel
theorem dX0_has_22 : decode cX0_has 22 = .ok (.iconst 0, 1) := by decide +kernel
theorem dX0_has_23 : decode cX0_has 23 = .ok (.ireturn, 1) := by decide +kernel
set_option maxRecDepth 20000 in
theorem ggX0_maskOf_X0_has : GoodIn wsX0_maskOf wsX0_has := goodIn_r _ [6, 7, 8, 9, 10, 11, 12] (by decide +kernel) (by decide +kernel)
set_option maxRecDepth 20000 in
theorem gX0_maskOf_X0_has : GoodIn wsX0_maskOf (wsV RX0 65 RX0 yX0_has wsX0_has) := goodIn_app (goodIn_of _ (by decide +kernel)) ggX0_maskOf_X0_has
theorem dX0_maskOf_0 : decode cX0_maskOf 0 = .ok (.aload_n 0, 1) := by decide +kernel
theorem dX0_maskOf_1 : decode cX0_maskOf 1 = .ok (.iload_n 1, 1) := by decide +kernel
theorem dX0_maskOf_2 : decode cX0_maskOf 2 = .ok (.invokevirtual 65, 3) := by decide +kernel
theorem dX0_maskOf_5 : decode cX0_maskOf 5 = .ok (.ifCond .eq 12, 3) := by decide +kernel
theorem dX0_maskOf_8 : decode cX0_maskOf 8 = .ok (.aload_n 0, 1) := by decide +kernel
theorem dX0_maskOf_9 : decode cX0_maskOf 9 = .ok (.getfield 9, 3) := by decide +kernel
theorem dX0_maskOf_12 : decode cX0_maskOf 12 = .ok (.iload_n 1, 1) := by decide +kernel
theorem dX0_maskOf_13 : decode cX0_maskOf 13 = .ok (.iaload, 1) := by decide +kernel
theorem dX0_maskOf_14 : decode cX0_maskOf 14 = .ok (.goto 4, 3) := by decide +kernel
theorem dX0_maskOf_17 : decode cX0_maskOf 17 = .ok (.iconst 0, 1) := by decide +kernel
theorem dX0_maskOf_18 : decode cX0_maskOf 18 = .ok (.ireturn, 1) := by decide +kernel
set_option maxRecDepth 20000 in
theorem ggX0_membersOf_X0_has : GoodIn wsX0_membersOf wsX0_has := goodIn_r _ [6, 7, 8, 9, 10, 11, 12] (by decide +kernel) (by decide +kernel)
set_option maxRecDepth 20000 in
theorem gX0_membersOf_X0_has : GoodIn wsX0_membersOf (wsV RX0 65 RX0 yX0_has wsX0_has) := goodIn_app (goodIn_of _ (by decide +kernel)) ggX0_membersOf_X0_has
theorem dX0_membersOf_0 : decode cX0_membersOf 0 = .ok (.aload_n 0, 1) := by decide +kernel
theorem dX0_membersOf_1 : decode cX0_membersOf 1 = .ok (.iload_n 1, 1) := by decide +kernel
theorem dX0_membersOf_2 : decode cX0_membersOf 2 = .ok (.invokevirtual 65, 3) := by decide +kernel
theorem dX0_membersOf_5 : decode cX0_membersOf 5 = .ok (.ifCond .eq 12, 3) := by decide +kernel
theorem dX0_membersOf_8 : decode cX0_membersOf 8 = .ok (.aload_n 0, 1) := by decide +kernel
theorem dX0_membersOf_9 : decode cX0_membersOf 9 = .ok (.getfield 15, 3) := by decide +kernel
theorem dX0_membersOf_12 : decode cX0_membersOf 12 = .ok (.iload_n 1, 1) := by decide +kernel
theorem dX0_membersOf_13 : decode cX0_membersOf 13 = .ok (.iaload, 1) := by decide +kernel
theorem dX0_membersOf_14 : decode cX0_membersOf 14 = .ok (.goto 4, 3) := by decide +kernel
theorem dX0_membersOf_17 : decode cX0_membersOf 17 = .ok (.iconst 0, 1) := by decide +kernel
theorem dX0_membersOf_18 : decode cX0_membersOf 18 = .ok (.ireturn, 1) := by decide +kernel
set_option maxRecDepth 20000 in
theorem ggX0_sizeOf_X0_has : GoodIn wsX0_sizeOf wsX0_has := goodIn_r _ [6, 7, 15, 16, 17, 18, 19] (by decide +kernel) (by decide +kernel)
set_option maxRecDepth 20000 in
theorem gX0_sizeOf_X0_has : GoodIn wsX0_sizeOf (wsV RX0 65 RX0 yX0_has wsX0_has) := goodIn_app (goodIn_of _ (by decide +kernel)) ggX0_sizeOf_X0_has
set_option maxRecDepth 20000 in
theorem ggX0_sizeOf_J6_bitCount_0f7a4 : GoodIn wsX0_sizeOf wsJ6_bitCount_0f7a4 := goodIn_r _ [11, 12, 13, 14] (by decide +kernel) (by decide +kernel)
set_option maxRecDepth 20000 in
theorem gX0_sizeOf_J6_bitCount_0f7a4 : GoodIn wsX0_sizeOf (va_wsS RX0 68 yJ6_bitCount_0f7a4 wsJ6_bitCount_0f7a4) := goodIn_app (goodIn_of _ (by decide +kernel)) ggX0_sizeOf_J6_bitCount_0f7a4
theorem dX0_sizeOf_0 : decode cX0_sizeOf 0 = .ok (.aload_n 0, 1) := by decide +kernel
theorem dX0_sizeOf_1 : decode cX0_sizeOf 1 = .ok (.iload_n 1, 1) := by decide +kernel
theorem dX0_sizeOf_2 : decode cX0_sizeOf 2 = .ok (.invokevirtual 65, 3) := by decide +kernel
theorem dX0_sizeOf_5 : decode cX0_sizeOf 5 = .ok (.ifCond .eq 15, 3) := by decide +kernel
theorem dX0_sizeOf_8 : decode cX0_sizeOf 8 = .ok (.aload_n 0, 1) := by decide +kernel
theorem dX0_sizeOf_9 : decode cX0_sizeOf 9 = .ok (.getfield 15, 3) := by decide +kernel
theorem dX0_sizeOf_12 : decode cX0_sizeOf 12 = .ok (.iload_n 1, 1) := by decide +kernel
theorem dX0_sizeOf_13 : decode cX0_sizeOf 13 = .ok (.iaload, 1) := by decide +kernel
theorem dX0_sizeOf_14 : decode cX0_sizeOf 14 = .ok (.invokestatic 68, 3) := by decide +kernel
theorem dX0_sizeOf_17 : decode cX0_sizeOf 17 = .ok (.goto 4, 3) := by decide +kernel
theorem dX0_sizeOf_20 : decode cX0_sizeOf 20 = .ok (.iconst 0, 1) := by decide +kernel
theorem dX0_sizeOf_21 : decode cX0_sizeOf 21 = .ok (.ireturn, 1) := by decide +kernel
set_option maxRecDepth 20000 in
theorem ggX0_freshnessOf_X0_has : GoodIn wsX0_freshnessOf wsX0_has := goodIn_r _ [6, 7, 15, 16, 17, 18, 19] (by decide +kernel) (by decide +kernel)
set_option maxRecDepth 20000 in
theorem gX0_freshnessOf_X0_has : GoodIn wsX0_freshnessOf (wsV RX0 65 RX0 yX0_has wsX0_has) := goodIn_app (goodIn_of _ (by decide +kernel)) ggX0_freshnessOf_X0_has
set_option maxRecDepth 20000 in
theorem ggX0_freshnessOf_J6_bitCount_0f7a4 : GoodIn wsX0_freshnessOf wsJ6_bitCount_0f7a4 := goodIn_r _ [11, 12, 13, 14] (by decide +kernel) (by decide +kernel)
set_option maxRecDepth 20000 in
theorem gX0_freshnessOf_J6_bitCount_0f7a4 : GoodIn wsX0_freshnessOf (va_wsS RX0 68 yJ6_bitCount_0f7a4 wsJ6_bitCount_0f7a4) := goodIn_app (goodIn_of _ (by decide +kernel)) ggX0_freshnessOf_J6_bitCount_0f7a4
theorem dX0_freshnessOf_0 : decode cX0_freshnessOf 0 = .ok (.aload_n 0, 1) := by decide +kernel
theorem dX0_freshnessOf_1 : decode cX0_freshnessOf 1 = .ok (.iload_n 1, 1) := by decide +kernel
theorem dX0_freshnessOf_2 : decode cX0_freshnessOf 2 = .ok (.invokevirtual 65, 3) := by decide +kernel
theorem dX0_freshnessOf_5 : decode cX0_freshnessOf 5 = .ok (.ifCond .eq 15, 3) := by decide +kernel
theorem dX0_freshnessOf_8 : decode cX0_freshnessOf 8 = .ok (.aload_n 0, 1) := by decide +kernel
theorem dX0_freshnessOf_9 : decode cX0_freshnessOf 9 = .ok (.getfield 18, 3) := by decide +kernel
theorem dX0_freshnessOf_12 : decode cX0_freshnessOf 12 = .ok (.iload_n 1, 1) := by decide +kernel
theorem dX0_freshnessOf_13 : decode cX0_freshnessOf 13 = .ok (.iaload, 1) := by decide +kernel
theorem dX0_freshnessOf_14 : decode cX0_freshnessOf 14 = .ok (.invokestatic 68, 3) := by decide +kernel
theorem dX0_freshnessOf_17 : decode cX0_freshnessOf 17 = .ok (.goto 4, 3) := by decide +kernel
theorem dX0_freshnessOf_20 : decode cX0_freshnessOf 20 = .ok (.iconst 0, 1) := by decide +kernel
theorem dX0_freshnessOf_21 : decode cX0_freshnessOf 21 = .ok (.ireturn, 1) := by decide +kernel
set_option maxRecDepth 20000 in
theorem ggX0_squares_X0_sizeOf : GoodIn wsX0_squares wsX0_sizeOf := goodIn_r _ [6, 7, 8, 9, 10, 5, 11, 1, 12, 13, 14, 15, 16, 17, 18, 19, 20, 21, 22, 23] (by decide +kernel) (by decide +kernel)
set_option maxRecDepth 20000 in
theorem gX0_squares_X0_sizeOf : GoodIn wsX0_squares (wsV RX0 73 RX0 yX0_sizeOf wsX0_sizeOf) := goodIn_app (goodIn_of _ (by decide +kernel)) ggX0_squares_X0_sizeOf
theorem dX0_squares_0 : decode cX0_squares 0 = .ok (.iconst 0, 1) := by decide +kernel
theorem dX0_squares_1 : decode cX0_squares 1 = .ok (.istore_n 1, 1) := by decide +kernel
theorem dX0_squares_2 : decode cX0_squares 2 = .ok (.iconst 0, 1) := by decide +kernel
theorem dX0_squares_3 : decode cX0_squares 3 = .ok (.istore_n 2, 1) := by decide +kernel
theorem dX0_squares_4 : decode cX0_squares 4 = .ok (.iload_n 2, 1) := by decide +kernel
theorem dX0_squares_5 : decode cX0_squares 5 = .ok (.aload_n 0, 1) := by decide +kernel
theorem dX0_squares_6 : decode cX0_squares 6 = .ok (.getfield 21, 3) := by decide +kernel
theorem dX0_squares_9 : decode cX0_squares 9 = .ok (.if_icmp .ge 23, 3) := by decide +kernel
theorem dX0_squares_12 : decode cX0_squares 12 = .ok (.iload_n 1, 1) := by decide +kernel
theorem dX0_squares_13 : decode cX0_squares 13 = .ok (.aload_n 0, 1) := by decide +kernel
theorem dX0_squares_14 : decode cX0_squares 14 = .ok (.iload_n 2, 1) := by decide +kernel
theorem dX0_squares_15 : decode cX0_squares 15 = .ok (.invokevirtual 73, 3) := by decide +kernel
theorem dX0_squares_18 : decode cX0_squares 18 = .ok (.aload_n 0, 1) := by decide +kernel
theorem dX0_squares_19 : decode cX0_squares 19 = .ok (.iload_n 2, 1) := by decide +kernel
theorem dX0_squares_20 : decode cX0_squares 20 = .ok (.invokevirtual 73, 3) := by decide +kernel
theorem dX0_squares_23 : decode cX0_squares 23 = .ok (.imul, 1) := by decide +kernel
theorem dX0_squares_24 : decode cX0_squares 24 = .ok (.iadd, 1) := by decide +kernel
theorem dX0_squares_25 : decode cX0_squares 25 = .ok (.istore_n 1, 1) := by decide +kernel
theorem dX0_squares_26 : decode cX0_squares 26 = .ok (.iinc 2 1, 3) := by decide +kernel
theorem dX0_squares_29 : decode cX0_squares 29 = .ok (.goto (-25), 3) := by decide +kernel
theorem dX0_squares_32 : decode cX0_squares 32 = .ok (.iload_n 1, 1) := by decide +kernel
theorem dX0_squares_33 : decode cX0_squares 33 = .ok (.ireturn, 1) := by decide +kernel
set_option maxRecDepth 20000 in
theorem ggX0_best_X0_isBetter : GoodIn wsX0_best wsX0_isBetter := goodIn_r _ [6, 7, 8, 9, 10, 5, 11, 12, 13, 14, 15, 16, 1, 17, 18, 19, 20, 21, 22, 23, 24, 25, 26, 27, 28, 29, 30, 31, 32, 33, 34, 35, 36, 37, 38] (by decide +kernel) (by decide +kernel)
set_option maxRecDepth 20000 in
theorem gX0_best_X0_isBetter : GoodIn wsX0_best (wsV RX0 76 RX0 yX0_isBetter wsX0_isBetter) := goodIn_app (goodIn_of _ (by decide +kernel)) ggX0_best_X0_isBetter
theorem dX0_best_0 : decode cX0_best 0 = .ok (.aload_n 0, 1) := by decide +kernel
theorem dX0_best_1 : decode cX0_best 1 = .ok (.getfield 21, 3) := by decide +kernel
theorem dX0_best_4 : decode cX0_best 4 = .ok (.ifCond .le 7, 3) := by decide +kernel
theorem dX0_best_7 : decode cX0_best 7 = .ok (.iconst 0, 1) := by decide +kernel
theorem dX0_best_8 : decode cX0_best 8 = .ok (.goto 4, 3) := by decide +kernel
theorem dX0_best_11 : decode cX0_best 11 = .ok (.iconst (-1), 1) := by decide +kernel
theorem dX0_best_12 : decode cX0_best 12 = .ok (.istore_n 1, 1) := by decide +kernel
theorem dX0_best_13 : decode cX0_best 13 = .ok (.iconst 1, 1) := by decide +kernel
theorem dX0_best_14 : decode cX0_best 14 = .ok (.istore_n 2, 1) := by decide +kernel
theorem dX0_best_15 : decode cX0_best 15 = .ok (.iload_n 2, 1) := by decide +kernel
theorem dX0_best_16 : decode cX0_best 16 = .ok (.aload_n 0, 1) := by decide +kernel
theorem dX0_best_17 : decode cX0_best 17 = .ok (.getfield 21, 3) := by decide +kernel
theorem dX0_best_20 : decode cX0_best 20 = .ok (.if_icmp .ge 20, 3) := by decide +kernel
theorem dX0_best_23 : decode cX0_best 23 = .ok (.aload_n 0, 1) := by decide +kernel
theorem dX0_best_24 : decode cX0_best 24 = .ok (.iload_n 2, 1) := by decide +kernel
theorem dX0_best_25 : decode cX0_best 25 = .ok (.iload_n 1, 1) := by decide +kernel
theorem dX0_best_26 : decode cX0_best 26 = .ok (.invokevirtual 76, 3) := by decide +kernel
theorem dX0_best_29 : decode cX0_best 29 = .ok (.ifCond .eq 5, 3) := by decide +kernel
theorem dX0_best_32 : decode cX0_best 32 = .ok (.iload_n 2, 1) := by decide +kernel
theorem dX0_best_33 : decode cX0_best 33 = .ok (.istore_n 1, 1) := by decide +kernel
theorem dX0_best_34 : decode cX0_best 34 = .ok (.iinc 2 1, 3) := by decide +kernel
theorem dX0_best_37 : decode cX0_best 37 = .ok (.goto (-22), 3) := by decide +kernel
theorem dX0_best_40 : decode cX0_best 40 = .ok (.iload_n 1, 1) := by decide +kernel
theorem dX0_best_41 : decode cX0_best 41 = .ok (.ireturn, 1) := by decide +kernel
set_option maxRecDepth 20000 in
theorem ggX0_ranked_X0_betterThan : GoodIn wsX0_ranked wsX0_betterThan := goodIn_r _ [6, 1, 7, 8, 9, 5, 10, 11, 12, 13, 14, 15, 16, 17, 18, 19, 20, 21, 22, 23, 24, 25, 26, 27, 28, 29, 30, 31, 32, 33, 34, 35, 36, 37, 38, 39, 40, 41, 42] (by decide +kernel) (by decide +kernel)
set_option maxRecDepth 20000 in
theorem gX0_ranked_X0_betterThan : GoodIn wsX0_ranked (wsV RX0 80 RX0 yX0_betterThan wsX0_betterThan) := goodIn_app (goodIn_of _ (by decide +kernel)) ggX0_ranked_X0_betterThan
theorem dX0_ranked_0 : decode cX0_ranked 0 = .ok (.iconst 0, 1) := by decide +kernel
theorem dX0_ranked_1 : decode cX0_ranked 1 = .ok (.istore_n 2, 1) := by decide +kernel
theorem dX0_ranked_2 : decode cX0_ranked 2 = .ok (.iload_n 2, 1) := by decide +kernel
theorem dX0_ranked_3 : decode cX0_ranked 3 = .ok (.aload_n 0, 1) := by decide +kernel
theorem dX0_ranked_4 : decode cX0_ranked 4 = .ok (.getfield 21, 3) := by decide +kernel
theorem dX0_ranked_7 : decode cX0_ranked 7 = .ok (.if_icmp .ge 20, 3) := by decide +kernel
theorem dX0_ranked_10 : decode cX0_ranked 10 = .ok (.aload_n 0, 1) := by decide +kernel
theorem dX0_ranked_11 : decode cX0_ranked 11 = .ok (.iload_n 2, 1) := by decide +kernel
theorem dX0_ranked_12 : decode cX0_ranked 12 = .ok (.invokevirtual 80, 3) := by decide +kernel
theorem dX0_ranked_15 : decode cX0_ranked 15 = .ok (.iload_n 1, 1) := by decide +kernel
theorem dX0_ranked_16 : decode cX0_ranked 16 = .ok (.if_icmp .ne 5, 3) := by decide +kernel
theorem dX0_ranked_19 : decode cX0_ranked 19 = .ok (.iload_n 2, 1) := by decide +kernel
theorem dX0_ranked_20 : decode cX0_ranked 20 = .ok (.ireturn, 1) := by decide +kernel
theorem dX0_ranked_21 : decode cX0_ranked 21 = .ok (.iinc 2 1, 3) := by decide +kernel
theorem dX0_ranked_24 : decode cX0_ranked 24 = .ok (.goto (-22), 3) := by decide +kernel
theorem dX0_ranked_27 : decode cX0_ranked 27 = .ok (.iconst (-1), 1) := by decide +kernel
theorem dX0_ranked_28 : decode cX0_ranked 28 = .ok (.ireturn, 1) := by decide +kernel
set_option maxRecDepth 20000 in
theorem ggX0_betterThan_X0_isBetter : GoodIn wsX0_betterThan wsX0_isBetter := goodIn_r _ [6, 7, 8, 9, 10, 5, 11, 12, 13, 14, 15, 16, 1, 17, 18, 19, 20, 21, 22, 23, 24, 25, 26, 27, 28, 29, 30, 31, 32, 33, 34, 35, 36, 37, 38] (by decide +kernel) (by decide +kernel)
set_option maxRecDepth 20000 in
theorem gX0_betterThan_X0_isBetter : GoodIn wsX0_betterThan (wsV RX0 76 RX0 yX0_isBetter wsX0_isBetter) := goodIn_app (goodIn_of _ (by decide +kernel)) ggX0_betterThan_X0_isBetter
theorem dX0_betterThan_0 : decode cX0_betterThan 0 = .ok (.iconst 0, 1) := by decide +kernel
theorem dX0_betterThan_1 : decode cX0_betterThan 1 = .ok (.istore_n 2, 1) := by decide +kernel
theorem dX0_betterThan_2 : decode cX0_betterThan 2 = .ok (.iconst 0, 1) := by decide +kernel
theorem dX0_betterThan_3 : decode cX0_betterThan 3 = .ok (.istore_n 3, 1) := by decide +kernel
theorem dX0_betterThan_4 : decode cX0_betterThan 4 = .ok (.iload_n 3, 1) := by decide +kernel
theorem dX0_betterThan_5 : decode cX0_betterThan 5 = .ok (.aload_n 0, 1) := by decide +kernel
theorem dX0_betterThan_6 : decode cX0_betterThan 6 = .ok (.getfield 21, 3) := by decide +kernel
theorem dX0_betterThan_9 : decode cX0_betterThan 9 = .ok (.if_icmp .ge 21, 3) := by decide +kernel
theorem dX0_betterThan_12 : decode cX0_betterThan 12 = .ok (.aload_n 0, 1) := by decide +kernel
theorem dX0_betterThan_13 : decode cX0_betterThan 13 = .ok (.iload_n 3, 1) := by decide +kernel
theorem dX0_betterThan_14 : decode cX0_betterThan 14 = .ok (.iload_n 1, 1) := by decide +kernel
theorem dX0_betterThan_15 : decode cX0_betterThan 15 = .ok (.invokevirtual 76, 3) := by decide +kernel
theorem dX0_betterThan_18 : decode cX0_betterThan 18 = .ok (.ifCond .eq 6, 3) := by decide +kernel
theorem dX0_betterThan_21 : decode cX0_betterThan 21 = .ok (.iinc 2 1, 3) := by decide +kernel
theorem dX0_betterThan_24 : decode cX0_betterThan 24 = .ok (.iinc 3 1, 3) := by decide +kernel
theorem dX0_betterThan_27 : decode cX0_betterThan 27 = .ok (.goto (-23), 3) := by decide +kernel
theorem dX0_betterThan_30 : decode cX0_betterThan 30 = .ok (.iload_n 2, 1) := by decide +kernel
theorem dX0_betterThan_31 : decode cX0_betterThan 31 = .ok (.ireturn, 1) := by decide +kernel
set_option maxRecDepth 20000 in
theorem ggX0_isBetter_X0_maskOf : GoodIn wsX0_isBetter wsX0_maskOf := goodIn_r _ [6, 7, 8, 9, 10, 5, 11, 12, 30, 31, 32, 33, 34] (by decide +kernel) (by decide +kernel)
set_option maxRecDepth 20000 in
theorem gX0_isBetter_X0_maskOf : GoodIn wsX0_isBetter (wsV RX0 63 RX0 yX0_maskOf wsX0_maskOf) := goodIn_app (goodIn_of _ (by decide +kernel)) ggX0_isBetter_X0_maskOf
set_option maxRecDepth 20000 in
theorem ggX0_isBetter_X0_freshnessOf : GoodIn wsX0_isBetter wsX0_freshnessOf := goodIn_r _ [16, 17, 8, 9, 10, 5, 11, 12, 18, 19, 20, 21, 22, 23, 24, 30, 31, 32, 33, 34] (by decide +kernel) (by decide +kernel)
set_option maxRecDepth 20000 in
theorem gX0_isBetter_X0_freshnessOf : GoodIn wsX0_isBetter (wsV RX0 83 RX0 yX0_freshnessOf wsX0_freshnessOf) := goodIn_app (goodIn_of _ (by decide +kernel)) ggX0_isBetter_X0_freshnessOf
set_option maxRecDepth 20000 in
theorem ggX0_isBetter_X0_sizeOf : GoodIn wsX0_isBetter wsX0_sizeOf := goodIn_r _ [28, 29, 8, 9, 10, 5, 11, 12, 18, 19, 20, 21, 22, 23, 24, 30, 31, 32, 33, 34] (by decide +kernel) (by decide +kernel)
set_option maxRecDepth 20000 in
theorem gX0_isBetter_X0_sizeOf : GoodIn wsX0_isBetter (wsV RX0 73 RX0 yX0_sizeOf wsX0_sizeOf) := goodIn_app (goodIn_of _ (by decide +kernel)) ggX0_isBetter_X0_sizeOf
set_option maxRecDepth 20000 in
theorem ggX0_isBetter_J6_bitCount_0f7a4 : GoodIn wsX0_isBetter wsJ6_bitCount_0f7a4 := goodIn_r _ [21, 22, 23, 24] (by decide +kernel) (by decide +kernel)
set_option maxRecDepth 20000 in
theorem gX0_isBetter_J6_bitCount_0f7a4 : GoodIn wsX0_isBetter (va_wsS RX0 68 yJ6_bitCount_0f7a4 wsJ6_bitCount_0f7a4) := goodIn_app (goodIn_of _ (by decide +kernel)) ggX0_isBetter_J6_bitCount_0f7a4
theorem dX0_isBetter_0 : decode cX0_isBetter 0 = .ok (.aload_n 0, 1) := by decide +kernel
theorem dX0_isBetter_1 : decode cX0_isBetter 1 = .ok (.getfield 30, 3) := by decide +kernel
theorem dX0_isBetter_4 : decode cX0_isBetter 4 = .ok (.iconst 1, 1) := by decide +kernel
theorem dX0_isBetter_5 : decode cX0_isBetter 5 = .ok (.if_icmp .ne 46, 3) := by decide +kernel
theorem dX0_isBetter_8 : decode cX0_isBetter 8 = .ok (.aload_n 0, 1) := by decide +kernel
theorem dX0_isBetter_9 : decode cX0_isBetter 9 = .ok (.iload_n 1, 1) := by decide +kernel
theorem dX0_isBetter_10 : decode cX0_isBetter 10 = .ok (.invokevirtual 63, 3) := by decide +kernel
theorem dX0_isBetter_13 : decode cX0_isBetter 13 = .ok (.ifCond .ne 7, 3) := by decide +kernel
theorem dX0_isBetter_16 : decode cX0_isBetter 16 = .ok (.iconst 1, 1) := by decide +kernel
theorem dX0_isBetter_17 : decode cX0_isBetter 17 = .ok (.goto 4, 3) := by decide +kernel
theorem dX0_isBetter_20 : decode cX0_isBetter 20 = .ok (.iconst 0, 1) := by decide +kernel
theorem dX0_isBetter_21 : decode cX0_isBetter 21 = .ok (.aload_n 0, 1) := by decide +kernel
theorem dX0_isBetter_22 : decode cX0_isBetter 22 = .ok (.iload_n 2, 1) := by decide +kernel
theorem dX0_isBetter_23 : decode cX0_isBetter 23 = .ok (.invokevirtual 63, 3) := by decide +kernel
theorem dX0_isBetter_26 : decode cX0_isBetter 26 = .ok (.ifCond .ne 7, 3) := by decide +kernel
theorem dX0_isBetter_29 : decode cX0_isBetter 29 = .ok (.iconst 1, 1) := by decide +kernel
theorem dX0_isBetter_30 : decode cX0_isBetter 30 = .ok (.goto 4, 3) := by decide +kernel
theorem dX0_isBetter_33 : decode cX0_isBetter 33 = .ok (.iconst 0, 1) := by decide +kernel
theorem dX0_isBetter_34 : decode cX0_isBetter 34 = .ok (.if_icmp .eq 17, 3) := by decide +kernel
theorem dX0_isBetter_37 : decode cX0_isBetter 37 = .ok (.aload_n 0, 1) := by decide +kernel
theorem dX0_isBetter_38 : decode cX0_isBetter 38 = .ok (.iload_n 1, 1) := by decide +kernel
theorem dX0_isBetter_39 : decode cX0_isBetter 39 = .ok (.invokevirtual 63, 3) := by decide +kernel
theorem dX0_isBetter_42 : decode cX0_isBetter 42 = .ok (.ifCond .ne 7, 3) := by decide +kernel
theorem dX0_isBetter_45 : decode cX0_isBetter 45 = .ok (.iconst 1, 1) := by decide +kernel
theorem dX0_isBetter_46 : decode cX0_isBetter 46 = .ok (.goto 4, 3) := by decide +kernel
theorem dX0_isBetter_49 : decode cX0_isBetter 49 = .ok (.iconst 0, 1) := by decide +kernel
theorem dX0_isBetter_50 : decode cX0_isBetter 50 = .ok (.ireturn, 1) := by decide +kernel
theorem dX0_isBetter_51 : decode cX0_isBetter 51 = .ok (.aload_n 0, 1) := by decide +kernel
theorem dX0_isBetter_52 : decode cX0_isBetter 52 = .ok (.getfield 30, 3) := by decide +kernel
theorem dX0_isBetter_55 : decode cX0_isBetter 55 = .ok (.iconst 2, 1) := by decide +kernel
theorem dX0_isBetter_56 : decode cX0_isBetter 56 = .ok (.if_icmp .ne 35, 3) := by decide +kernel
theorem dX0_isBetter_59 : decode cX0_isBetter 59 = .ok (.aload_n 0, 1) := by decide +kernel
theorem dX0_isBetter_60 : decode cX0_isBetter 60 = .ok (.iload_n 1, 1) := by decide +kernel
theorem dX0_isBetter_61 : decode cX0_isBetter 61 = .ok (.invokevirtual 83, 3) := by decide +kernel
theorem dX0_isBetter_64 : decode cX0_isBetter 64 = .ok (.aload_n 0, 1) := by decide +kernel
theorem dX0_isBetter_65 : decode cX0_isBetter 65 = .ok (.iload_n 2, 1) := by decide +kernel
theorem dX0_isBetter_66 : decode cX0_isBetter 66 = .ok (.invokevirtual 83, 3) := by decide +kernel
theorem dX0_isBetter_69 : decode cX0_isBetter 69 = .ok (.if_icmp .eq 22, 3) := by decide +kernel
theorem dX0_isBetter_72 : decode cX0_isBetter 72 = .ok (.aload_n 0, 1) := by decide +kernel
theorem dX0_isBetter_73 : decode cX0_isBetter 73 = .ok (.iload_n 1, 1) := by decide +kernel
theorem dX0_isBetter_74 : decode cX0_isBetter 74 = .ok (.invokevirtual 83, 3) := by decide +kernel
theorem dX0_isBetter_77 : decode cX0_isBetter 77 = .ok (.aload_n 0, 1) := by decide +kernel
theorem dX0_isBetter_78 : decode cX0_isBetter 78 = .ok (.iload_n 2, 1) := by decide +kernel
theorem dX0_isBetter_79 : decode cX0_isBetter 79 = .ok (.invokevirtual 83, 3) := by decide +kernel
theorem dX0_isBetter_82 : decode cX0_isBetter 82 = .ok (.if_icmp .le 7, 3) := by decide +kernel
theorem dX0_isBetter_85 : decode cX0_isBetter 85 = .ok (.iconst 1, 1) := by decide +kernel
theorem dX0_isBetter_86 : decode cX0_isBetter 86 = .ok (.goto 4, 3) := by decide +kernel
theorem dX0_isBetter_89 : decode cX0_isBetter 89 = .ok (.iconst 0, 1) := by decide +kernel
theorem dX0_isBetter_90 : decode cX0_isBetter 90 = .ok (.ireturn, 1) := by decide +kernel
theorem dX0_isBetter_91 : decode cX0_isBetter 91 = .ok (.aload_n 0, 1) := by decide +kernel
theorem dX0_isBetter_92 : decode cX0_isBetter 92 = .ok (.iload_n 1, 1) := by decide +kernel
theorem dX0_isBetter_93 : decode cX0_isBetter 93 = .ok (.invokevirtual 73, 3) := by decide +kernel
theorem dX0_isBetter_96 : decode cX0_isBetter 96 = .ok (.aload_n 0, 1) := by decide +kernel
theorem dX0_isBetter_97 : decode cX0_isBetter 97 = .ok (.iload_n 2, 1) := by decide +kernel
theorem dX0_isBetter_98 : decode cX0_isBetter 98 = .ok (.invokevirtual 73, 3) := by decide +kernel
theorem dX0_isBetter_101 : decode cX0_isBetter 101 = .ok (.if_icmp .eq 22, 3) := by decide +kernel
theorem dX0_isBetter_104 : decode cX0_isBetter 104 = .ok (.aload_n 0, 1) := by decide +kernel
theorem dX0_isBetter_105 : decode cX0_isBetter 105 = .ok (.iload_n 1, 1) := by decide +kernel
theorem dX0_isBetter_106 : decode cX0_isBetter 106 = .ok (.invokevirtual 73, 3) := by decide +kernel
theorem dX0_isBetter_109 : decode cX0_isBetter 109 = .ok (.aload_n 0, 1) := by decide +kernel
theorem dX0_isBetter_110 : decode cX0_isBetter 110 = .ok (.iload_n 2, 1) := by decide +kernel
theorem dX0_isBetter_111 : decode cX0_isBetter 111 = .ok (.invokevirtual 73, 3) := by decide +kernel
theorem dX0_isBetter_114 : decode cX0_isBetter 114 = .ok (.if_icmp .le 7, 3) := by decide +kernel
theorem dX0_isBetter_117 : decode cX0_isBetter 117 = .ok (.iconst 1, 1) := by decide +kernel
theorem dX0_isBetter_118 : decode cX0_isBetter 118 = .ok (.goto 4, 3) := by decide +kernel
theorem dX0_isBetter_121 : decode cX0_isBetter 121 = .ok (.iconst 0, 1) := by decide +kernel
theorem dX0_isBetter_122 : decode cX0_isBetter 122 = .ok (.ireturn, 1) := by decide +kernel
theorem dX0_isBetter_123 : decode cX0_isBetter 123 = .ok (.aload_n 0, 1) := by decide +kernel
theorem dX0_isBetter_124 : decode cX0_isBetter 124 = .ok (.iload_n 1, 1) := by decide +kernel
theorem dX0_isBetter_125 : decode cX0_isBetter 125 = .ok (.invokevirtual 63, 3) := by decide +kernel
theorem dX0_isBetter_128 : decode cX0_isBetter 128 = .ok (.invokestatic 68, 3) := by decide +kernel
theorem dX0_isBetter_131 : decode cX0_isBetter 131 = .ok (.istore_n 3, 1) := by decide +kernel
theorem dX0_isBetter_132 : decode cX0_isBetter 132 = .ok (.aload_n 0, 1) := by decide +kernel
theorem dX0_isBetter_133 : decode cX0_isBetter 133 = .ok (.iload_n 2, 1) := by decide +kernel
theorem dX0_isBetter_134 : decode cX0_isBetter 134 = .ok (.invokevirtual 63, 3) := by decide +kernel
theorem dX0_isBetter_137 : decode cX0_isBetter 137 = .ok (.invokestatic 68, 3) := by decide +kernel
theorem dX0_isBetter_140 : decode cX0_isBetter 140 = .ok (.istore 4, 2) := by decide +kernel
theorem dX0_isBetter_142 : decode cX0_isBetter 142 = .ok (.iload_n 3, 1) := by decide +kernel
theorem dX0_isBetter_143 : decode cX0_isBetter 143 = .ok (.iload 4, 2) := by decide +kernel
theorem dX0_isBetter_145 : decode cX0_isBetter 145 = .ok (.if_icmp .eq 17, 3) := by decide +kernel
theorem dX0_isBetter_148 : decode cX0_isBetter 148 = .ok (.iload_n 3, 1) := by decide +kernel
theorem dX0_isBetter_149 : decode cX0_isBetter 149 = .ok (.iload 4, 2) := by decide +kernel
theorem dX0_isBetter_151 : decode cX0_isBetter 151 = .ok (.if_icmp .ge 7, 3) := by decide +kernel
theorem dX0_isBetter_154 : decode cX0_isBetter 154 = .ok (.iconst 1, 1) := by decide +kernel
theorem dX0_isBetter_155 : decode cX0_isBetter 155 = .ok (.goto 25, 3) := by decide +kernel
theorem dX0_isBetter_158 : decode cX0_isBetter 158 = .ok (.iconst 0, 1) := by decide +kernel
theorem dX0_isBetter_159 : decode cX0_isBetter 159 = .ok (.goto 21, 3) := by decide +kernel
theorem dX0_isBetter_162 : decode cX0_isBetter 162 = .ok (.aload_n 0, 1) := by decide +kernel
theorem dX0_isBetter_163 : decode cX0_isBetter 163 = .ok (.iload_n 1, 1) := by decide +kernel
theorem dX0_isBetter_164 : decode cX0_isBetter 164 = .ok (.invokevirtual 63, 3) := by decide +kernel
theorem dX0_isBetter_167 : decode cX0_isBetter 167 = .ok (.aload_n 0, 1) := by decide +kernel
theorem dX0_isBetter_168 : decode cX0_isBetter 168 = .ok (.iload_n 2, 1) := by decide +kernel
theorem dX0_isBetter_169 : decode cX0_isBetter 169 = .ok (.invokevirtual 63, 3) := by decide +kernel
theorem dX0_isBetter_172 : decode cX0_isBetter 172 = .ok (.if_icmp .ge 7, 3) := by decide +kernel
theorem dX0_isBetter_175 : decode cX0_isBetter 175 = .ok (.iconst 1, 1) := by decide +kernel
theorem dX0_isBetter_176 : decode cX0_isBetter 176 = .ok (.goto 4, 3) := by decide +kernel
theorem dX0_isBetter_179 : decode cX0_isBetter 179 = .ok (.iconst 0, 1) := by decide +kernel
theorem dX0_isBetter_180 : decode cX0_isBetter 180 = .ok (.ireturn, 1) := by decide +kernel
theorem dX1_init_0 : decode cX1_init 0 = .ok (.aload_n 0, 1) := by decide +kernel
theorem dX1_init_1 : decode cX1_init 1 = .ok (.invokespecial 3, 3) := by decide +kernel
theorem dX1_init_4 : decode cX1_init 4 = .ok (.aload_n 0, 1) := by decide +kernel
theorem dX1_init_5 : decode cX1_init 5 = .ok (.bipush 6, 2) := by decide +kernel
theorem dX1_init_7 : decode cX1_init 7 = .ok (.anewarray 9, 3) := by decide +kernel
theorem dX1_init_10 : decode cX1_init 10 = .ok (.putfield 11, 3) := by decide +kernel
theorem dX1_init_13 : decode cX1_init 13 = .ok (.return_, 1) := by decide +kernel
set_option maxRecDepth 20000 in
theorem ggX1_push_X2_init : GoodIn wsX1_push wsX2_init := goodIn_r _ [12, 13, 14, 15, 16, 17, 18, 19, 20, 41, 42, 43, 44, 45, 46, 47, 48, 49, 50, 51, 52] (by decide +kernel) (by decide +kernel)
set_option maxRecDepth 20000 in
theorem gX1_push_X2_init_n21 : GoodIn wsX1_push (wsX2_init) := ggX1_push_X2_init
set_option maxRecDepth 20000 in
theorem ggX1_push_X2_copyFrom : GoodIn wsX1_push wsX2_copyFrom := goodIn_r _ [24, 17, 25, 26, 27, 28, 19, 20, 29, 30, 31, 32, 33, 34, 35, 36, 37, 41, 42, 43, 44, 45, 46, 47, 48, 49, 50, 51, 52] (by decide +kernel) (by decide +kernel)
set_option maxRecDepth 20000 in
theorem gX1_push_X2_copyFrom : GoodIn wsX1_push (wsV RX1 22 RX2 yX2_copyFrom wsX2_copyFrom) := goodIn_app (goodIn_of _ (by decide +kernel)) ggX1_push_X2_copyFrom
theorem dX1_push_0 : decode cX1_push 0 = .ok (.aload_n 0, 1) := by decide +kernel
theorem dX1_push_1 : decode cX1_push 1 = .ok (.getfield 17, 3) := by decide +kernel
theorem dX1_push_4 : decode cX1_push 4 = .ok (.ifCond .lt 12, 3) := by decide +kernel
theorem dX1_push_7 : decode cX1_push 7 = .ok (.aload_n 0, 1) := by decide +kernel
theorem dX1_push_8 : decode cX1_push 8 = .ok (.getfield 17, 3) := by decide +kernel
theorem dX1_push_11 : decode cX1_push 11 = .ok (.bipush 6, 2) := by decide +kernel
theorem dX1_push_13 : decode cX1_push 13 = .ok (.if_icmp .lt 4, 3) := by decide +kernel
theorem dX1_push_16 : decode cX1_push 16 = .ok (.return_, 1) := by decide +kernel
theorem dX1_push_17 : decode cX1_push 17 = .ok (.aload_n 0, 1) := by decide +kernel
theorem dX1_push_18 : decode cX1_push 18 = .ok (.getfield 11, 3) := by decide +kernel
theorem dX1_push_21 : decode cX1_push 21 = .ok (.aload_n 0, 1) := by decide +kernel
theorem dX1_push_22 : decode cX1_push 22 = .ok (.getfield 17, 3) := by decide +kernel
theorem dX1_push_25 : decode cX1_push 25 = .ok (.aaload, 1) := by decide +kernel
theorem dX1_push_26 : decode cX1_push 26 = .ok (.astore_n 2, 1) := by decide +kernel
theorem dX1_push_27 : decode cX1_push 27 = .ok (.aload_n 2, 1) := by decide +kernel
theorem dX1_push_28 : decode cX1_push 28 = .ok (.ifnonnull 21, 3) := by decide +kernel
theorem dX1_push_31 : decode cX1_push 31 = .ok (.new 9, 3) := by decide +kernel
theorem dX1_push_34 : decode cX1_push 34 = .ok (.dup, 1) := by decide +kernel
theorem dX1_push_35 : decode cX1_push 35 = .ok (.invokespecial 21, 3) := by decide +kernel
theorem dX1_push_38 : decode cX1_push 38 = .ok (.astore_n 2, 1) := by decide +kernel
theorem dX1_push_39 : decode cX1_push 39 = .ok (.aload_n 0, 1) := by decide +kernel
theorem dX1_push_40 : decode cX1_push 40 = .ok (.getfield 11, 3) := by decide +kernel
theorem dX1_push_43 : decode cX1_push 43 = .ok (.aload_n 0, 1) := by decide +kernel
theorem dX1_push_44 : decode cX1_push 44 = .ok (.getfield 17, 3) := by decide +kernel
theorem dX1_push_47 : decode cX1_push 47 = .ok (.aload_n 2, 1) := by decide +kernel
theorem dX1_push_48 : decode cX1_push 48 = .ok (.aastore, 1) := by decide +kernel
theorem dX1_push_49 : decode cX1_push 49 = .ok (.aload_n 2, 1) := by decide +kernel
theorem dX1_push_50 : decode cX1_push 50 = .ok (.aload_n 1, 1) := by decide +kernel
theorem dX1_push_51 : decode cX1_push 51 = .ok (.invokevirtual 22, 3) := by decide +kernel
theorem dX1_push_54 : decode cX1_push 54 = .ok (.aload_n 0, 1) := by decide +kernel
theorem dX1_push_55 : decode cX1_push 55 = .ok (.aload_n 0, 1) := by decide +kernel
theorem dX1_push_56 : decode cX1_push 56 = .ok (.getfield 17, 3) := by decide +kernel
theorem dX1_push_59 : decode cX1_push 59 = .ok (.iconst 5, 1) := by decide +kernel
theorem dX1_push_60 : decode cX1_push 60 = .ok (.if_icmp .ne 7, 3) := by decide +kernel
theorem dX1_push_63 : decode cX1_push 63 = .ok (.iconst 0, 1) := by decide +kernel
theorem dX1_push_64 : decode cX1_push 64 = .ok (.goto 9, 3) := by decide +kernel
theorem dX1_push_67 : decode cX1_push 67 = .ok (.aload_n 0, 1) := by decide +kernel
theorem dX1_push_68 : decode cX1_push 68 = .ok (.getfield 17, 3) := by decide +kernel
theorem dX1_push_71 : decode cX1_push 71 = .ok (.iconst 1, 1) := by decide +kernel
theorem dX1_push_72 : decode cX1_push 72 = .ok (.iadd, 1) := by decide +kernel
theorem dX1_push_73 : decode cX1_push 73 = .ok (.putfield 17, 3) := by decide +kernel
theorem dX1_push_76 : decode cX1_push 76 = .ok (.aload_n 0, 1) := by decide +kernel
theorem dX1_push_77 : decode cX1_push 77 = .ok (.aload_n 0, 1) := by decide +kernel
theorem dX1_push_78 : decode cX1_push 78 = .ok (.getfield 26, 3) := by decide +kernel
theorem dX1_push_81 : decode cX1_push 81 = .ok (.iconst 1, 1) := by decide +kernel
theorem dX1_push_82 : decode cX1_push 82 = .ok (.iadd, 1) := by decide +kernel
theorem dX1_push_83 : decode cX1_push 83 = .ok (.bipush 6, 2) := by decide +kernel
theorem dX1_push_85 : decode cX1_push 85 = .ok (.invokestatic 29, 3) := by decide +kernel
theorem dX1_push_88 : decode cX1_push 88 = .ok (.putfield 26, 3) := by decide +kernel
theorem dX1_push_91 : decode cX1_push 91 = .ok (.return_, 1) := by decide +kernel
set_option maxRecDepth 20000 in
theorem ggX1_popInto_X2_copyFrom : GoodIn wsX1_popInto wsX2_copyFrom := goodIn_r _ [8, 9, 10, 11, 12, 13, 14, 15, 16, 17, 18, 19, 20, 21, 22, 23, 24, 28, 29, 30, 31, 32, 33, 34, 35, 36, 37, 38, 39] (by decide +kernel) (by decide +kernel)
set_option maxRecDepth 20000 in
theorem gX1_popInto_X2_copyFrom : GoodIn wsX1_popInto (wsV RX1 22 RX2 yX2_copyFrom wsX2_copyFrom) := goodIn_app (goodIn_of _ (by decide +kernel)) ggX1_popInto_X2_copyFrom
theorem dX1_popInto_0 : decode cX1_popInto 0 = .ok (.aload_n 0, 1) := by decide +kernel
theorem dX1_popInto_1 : decode cX1_popInto 1 = .ok (.getfield 17, 3) := by decide +kernel
theorem dX1_popInto_4 : decode cX1_popInto 4 = .ok (.ifCond .ne 7, 3) := by decide +kernel
theorem dX1_popInto_7 : decode cX1_popInto 7 = .ok (.iconst 5, 1) := by decide +kernel
theorem dX1_popInto_8 : decode cX1_popInto 8 = .ok (.goto 9, 3) := by decide +kernel
theorem dX1_popInto_11 : decode cX1_popInto 11 = .ok (.aload_n 0, 1) := by decide +kernel
theorem dX1_popInto_12 : decode cX1_popInto 12 = .ok (.getfield 17, 3) := by decide +kernel
theorem dX1_popInto_15 : decode cX1_popInto 15 = .ok (.iconst 1, 1) := by decide +kernel
theorem dX1_popInto_16 : decode cX1_popInto 16 = .ok (.isub, 1) := by decide +kernel
theorem dX1_popInto_17 : decode cX1_popInto 17 = .ok (.istore_n 2, 1) := by decide +kernel
theorem dX1_popInto_18 : decode cX1_popInto 18 = .ok (.aload_n 0, 1) := by decide +kernel
theorem dX1_popInto_19 : decode cX1_popInto 19 = .ok (.getfield 26, 3) := by decide +kernel
theorem dX1_popInto_22 : decode cX1_popInto 22 = .ok (.ifCond .eq 13, 3) := by decide +kernel
theorem dX1_popInto_25 : decode cX1_popInto 25 = .ok (.iload_n 2, 1) := by decide +kernel
theorem dX1_popInto_26 : decode cX1_popInto 26 = .ok (.ifCond .lt 9, 3) := by decide +kernel
theorem dX1_popInto_29 : decode cX1_popInto 29 = .ok (.iload_n 2, 1) := by decide +kernel
theorem dX1_popInto_30 : decode cX1_popInto 30 = .ok (.bipush 6, 2) := by decide +kernel
theorem dX1_popInto_32 : decode cX1_popInto 32 = .ok (.if_icmp .lt 5, 3) := by decide +kernel
theorem dX1_popInto_35 : decode cX1_popInto 35 = .ok (.iconst 0, 1) := by decide +kernel
theorem dX1_popInto_36 : decode cX1_popInto 36 = .ok (.ireturn, 1) := by decide +kernel
theorem dX1_popInto_37 : decode cX1_popInto 37 = .ok (.aload_n 0, 1) := by decide +kernel
theorem dX1_popInto_38 : decode cX1_popInto 38 = .ok (.getfield 11, 3) := by decide +kernel
theorem dX1_popInto_41 : decode cX1_popInto 41 = .ok (.iload_n 2, 1) := by decide +kernel
theorem dX1_popInto_42 : decode cX1_popInto 42 = .ok (.aaload, 1) := by decide +kernel
theorem dX1_popInto_43 : decode cX1_popInto 43 = .ok (.astore_n 3, 1) := by decide +kernel
theorem dX1_popInto_44 : decode cX1_popInto 44 = .ok (.aload_n 3, 1) := by decide +kernel
theorem dX1_popInto_45 : decode cX1_popInto 45 = .ok (.ifnonnull 5, 3) := by decide +kernel
theorem dX1_popInto_48 : decode cX1_popInto 48 = .ok (.iconst 0, 1) := by decide +kernel
theorem dX1_popInto_49 : decode cX1_popInto 49 = .ok (.ireturn, 1) := by decide +kernel
theorem dX1_popInto_50 : decode cX1_popInto 50 = .ok (.aload_n 1, 1) := by decide +kernel
theorem dX1_popInto_51 : decode cX1_popInto 51 = .ok (.aload_n 3, 1) := by decide +kernel
theorem dX1_popInto_52 : decode cX1_popInto 52 = .ok (.invokevirtual 22, 3) := by decide +kernel
theorem dX1_popInto_55 : decode cX1_popInto 55 = .ok (.aload_n 0, 1) := by decide +kernel
theorem dX1_popInto_56 : decode cX1_popInto 56 = .ok (.iload_n 2, 1) := by decide +kernel
theorem dX1_popInto_57 : decode cX1_popInto 57 = .ok (.putfield 17, 3) := by decide +kernel
theorem dX1_popInto_60 : decode cX1_popInto 60 = .ok (.aload_n 0, 1) := by decide +kernel
theorem dX1_popInto_61 : decode cX1_popInto 61 = .ok (.dup, 1) := by decide +kernel
theorem dX1_popInto_62 : decode cX1_popInto 62 = .ok (.getfield 26, 3) := by decide +kernel
theorem dX1_popInto_65 : decode cX1_popInto 65 = .ok (.iconst 1, 1) := by decide +kernel
theorem dX1_popInto_66 : decode cX1_popInto 66 = .ok (.isub, 1) := by decide +kernel
theorem dX1_popInto_67 : decode cX1_popInto 67 = .ok (.putfield 26, 3) := by decide +kernel
theorem dX1_popInto_70 : decode cX1_popInto 70 = .ok (.iconst 1, 1) := by decide +kernel
theorem dX1_popInto_71 : decode cX1_popInto 71 = .ok (.ireturn, 1) := by decide +kernel
theorem dX2_init_0 : decode cX2_init 0 = .ok (.aload_n 0, 1) := by decide +kernel
theorem dX2_init_1 : decode cX2_init 1 = .ok (.invokespecial 3, 3) := by decide +kernel
theorem dX2_init_4 : decode cX2_init 4 = .ok (.aload_n 0, 1) := by decide +kernel
theorem dX2_init_5 : decode cX2_init 5 = .ok (.bipush 30, 2) := by decide +kernel
theorem dX2_init_7 : decode cX2_init 7 = .ok (.newarray .long, 2) := by decide +kernel
theorem dX2_init_9 : decode cX2_init 9 = .ok (.putfield 9, 3) := by decide +kernel
theorem dX2_init_12 : decode cX2_init 12 = .ok (.aload_n 0, 1) := by decide +kernel
theorem dX2_init_13 : decode cX2_init 13 = .ok (.bipush 26, 2) := by decide +kernel
theorem dX2_init_15 : decode cX2_init 15 = .ok (.newarray .int, 2) := by decide +kernel
theorem dX2_init_17 : decode cX2_init 17 = .ok (.putfield 15, 3) := by decide +kernel
theorem dX2_init_20 : decode cX2_init 20 = .ok (.aload_n 0, 1) := by decide +kernel
theorem dX2_init_21 : decode cX2_init 21 = .ok (.bipush 7, 2) := by decide +kernel
theorem dX2_init_23 : decode cX2_init 23 = .ok (.newarray .int, 2) := by decide +kernel
theorem dX2_init_25 : decode cX2_init 25 = .ok (.putfield 19, 3) := by decide +kernel
theorem dX2_init_28 : decode cX2_init 28 = .ok (.return_, 1) := by decide +kernel
theorem dX2_copyFrom_0 : decode cX2_copyFrom 0 = .ok (.aload_n 1, 1) := by decide +kernel
theorem dX2_copyFrom_1 : decode cX2_copyFrom 1 = .ok (.getfield 9, 3) := by decide +kernel
theorem dX2_copyFrom_4 : decode cX2_copyFrom 4 = .ok (.iconst 0, 1) := by decide +kernel
theorem dX2_copyFrom_5 : decode cX2_copyFrom 5 = .ok (.aload_n 0, 1) := by decide +kernel
theorem dX2_copyFrom_6 : decode cX2_copyFrom 6 = .ok (.getfield 9, 3) := by decide +kernel
theorem dX2_copyFrom_9 : decode cX2_copyFrom 9 = .ok (.iconst 0, 1) := by decide +kernel
theorem dX2_copyFrom_10 : decode cX2_copyFrom 10 = .ok (.bipush 30, 2) := by decide +kernel
theorem dX2_copyFrom_12 : decode cX2_copyFrom 12 = .ok (.invokestatic 22, 3) := by decide +kernel
theorem dX2_copyFrom_15 : decode cX2_copyFrom 15 = .ok (.aload_n 1, 1) := by decide +kernel
theorem dX2_copyFrom_16 : decode cX2_copyFrom 16 = .ok (.getfield 15, 3) := by decide +kernel
theorem dX2_copyFrom_19 : decode cX2_copyFrom 19 = .ok (.iconst 0, 1) := by decide +kernel
theorem dX2_copyFrom_20 : decode cX2_copyFrom 20 = .ok (.aload_n 0, 1) := by decide +kernel
theorem dX2_copyFrom_21 : decode cX2_copyFrom 21 = .ok (.getfield 15, 3) := by decide +kernel
theorem dX2_copyFrom_24 : decode cX2_copyFrom 24 = .ok (.iconst 0, 1) := by decide +kernel
theorem dX2_copyFrom_25 : decode cX2_copyFrom 25 = .ok (.bipush 26, 2) := by decide +kernel
theorem dX2_copyFrom_27 : decode cX2_copyFrom 27 = .ok (.invokestatic 22, 3) := by decide +kernel
theorem dX2_copyFrom_30 : decode cX2_copyFrom 30 = .ok (.aload_n 1, 1) := by decide +kernel
theorem dX2_copyFrom_31 : decode cX2_copyFrom 31 = .ok (.getfield 19, 3) := by decide +kernel
theorem dX2_copyFrom_34 : decode cX2_copyFrom 34 = .ok (.iconst 0, 1) := by decide +kernel
theorem dX2_copyFrom_35 : decode cX2_copyFrom 35 = .ok (.aload_n 0, 1) := by decide +kernel
theorem dX2_copyFrom_36 : decode cX2_copyFrom 36 = .ok (.getfield 19, 3) := by decide +kernel
theorem dX2_copyFrom_39 : decode cX2_copyFrom 39 = .ok (.iconst 0, 1) := by decide +kernel
theorem dX2_copyFrom_40 : decode cX2_copyFrom 40 = .ok (.bipush 7, 2) := by decide +kernel
theorem dX2_copyFrom_42 : decode cX2_copyFrom 42 = .ok (.invokestatic 22, 3) := by decide +kernel
theorem dX2_copyFrom_45 : decode cX2_copyFrom 45 = .ok (.aload_n 0, 1) := by decide +kernel
theorem dX2_copyFrom_46 : decode cX2_copyFrom 46 = .ok (.aload_n 1, 1) := by decide +kernel
theorem dX2_copyFrom_47 : decode cX2_copyFrom 47 = .ok (.getfield 28, 3) := by decide +kernel
theorem dX2_copyFrom_50 : decode cX2_copyFrom 50 = .ok (.putfield 28, 3) := by decide +kernel
theorem dX2_copyFrom_53 : decode cX2_copyFrom 53 = .ok (.aload_n 0, 1) := by decide +kernel
theorem dX2_copyFrom_54 : decode cX2_copyFrom 54 = .ok (.aload_n 1, 1) := by decide +kernel
theorem dX2_copyFrom_55 : decode cX2_copyFrom 55 = .ok (.getfield 32, 3) := by decide +kernel
theorem dX2_copyFrom_58 : decode cX2_copyFrom 58 = .ok (.putfield 32, 3) := by decide +kernel
theorem dX2_copyFrom_61 : decode cX2_copyFrom 61 = .ok (.aload_n 0, 1) := by decide +kernel
theorem dX2_copyFrom_62 : decode cX2_copyFrom 62 = .ok (.aload_n 1, 1) := by decide +kernel
theorem dX2_copyFrom_63 : decode cX2_copyFrom 63 = .ok (.getfield 35, 3) := by decide +kernel
theorem dX2_copyFrom_66 : decode cX2_copyFrom 66 = .ok (.putfield 35, 3) := by decide +kernel
theorem dX2_copyFrom_69 : decode cX2_copyFrom 69 = .ok (.aload_n 0, 1) := by decide +kernel
theorem dX2_copyFrom_70 : decode cX2_copyFrom 70 = .ok (.aload_n 1, 1) := by decide +kernel
theorem dX2_copyFrom_71 : decode cX2_copyFrom 71 = .ok (.getfield 38, 3) := by decide +kernel
theorem dX2_copyFrom_74 : decode cX2_copyFrom 74 = .ok (.putfield 38, 3) := by decide +kernel
theorem dX2_copyFrom_77 : decode cX2_copyFrom 77 = .ok (.aload_n 0, 1) := by decide +kernel
theorem dX2_copyFrom_78 : decode cX2_copyFrom 78 = .ok (.aload_n 1, 1) := by decide +kernel
theorem dX2_copyFrom_79 : decode cX2_copyFrom 79 = .ok (.getfield 41, 3) := by decide +kernel
theorem dX2_copyFrom_82 : decode cX2_copyFrom 82 = .ok (.putfield 41, 3) := by decide +kernel
theorem dX2_copyFrom_85 : decode cX2_copyFrom 85 = .ok (.aload_n 0, 1) := by decide +kernel
theorem dX2_copyFrom_86 : decode cX2_copyFrom 86 = .ok (.aload_n 1, 1) := by decide +kernel
theorem dX2_copyFrom_87 : decode cX2_copyFrom 87 = .ok (.getfield 44, 3) := by decide +kernel
theorem dX2_copyFrom_90 : decode cX2_copyFrom 90 = .ok (.putfield 44, 3) := by decide +kernel
theorem dX2_copyFrom_93 : decode cX2_copyFrom 93 = .ok (.aload_n 0, 1) := by decide +kernel
theorem dX2_copyFrom_94 : decode cX2_copyFrom 94 = .ok (.aload_n 1, 1) := by decide +kernel
theorem dX2_copyFrom_95 : decode cX2_copyFrom 95 = .ok (.getfield 47, 3) := by decide +kernel
theorem dX2_copyFrom_98 : decode cX2_copyFrom 98 = .ok (.putfield 47, 3) := by decide +kernel
theorem dX2_copyFrom_101 : decode cX2_copyFrom 101 = .ok (.aload_n 0, 1) := by decide +kernel
theorem dX2_copyFrom_102 : decode cX2_copyFrom 102 = .ok (.aload_n 1, 1) := by decide +kernel
theorem dX2_copyFrom_103 : decode cX2_copyFrom 103 = .ok (.getfield 50, 3) := by decide +kernel
theorem dX2_copyFrom_106 : decode cX2_copyFrom 106 = .ok (.putfield 50, 3) := by decide +kernel
theorem dX2_copyFrom_109 : decode cX2_copyFrom 109 = .ok (.aload_n 0, 1) := by decide +kernel
theorem dX2_copyFrom_110 : decode cX2_copyFrom 110 = .ok (.aload_n 1, 1) := by decide +kernel
theorem dX2_copyFrom_111 : decode cX2_copyFrom 111 = .ok (.getfield 53, 3) := by decide +kernel
theorem dX2_copyFrom_114 : decode cX2_copyFrom 114 = .ok (.putfield 53, 3) := by decide +kernel
theorem dX2_copyFrom_117 : decode cX2_copyFrom 117 = .ok (.return_, 1) := by decide +kernel
theorem dX2_hasWord_0 : decode cX2_hasWord 0 = .ok (.iload_n 1, 1) := by decide +kernel
theorem dX2_hasWord_1 : decode cX2_hasWord 1 = .ok (.ifCond .lt 21, 3) := by decide +kernel
theorem dX2_hasWord_4 : decode cX2_hasWord 4 = .ok (.iload_n 1, 1) := by decide +kernel
theorem dX2_hasWord_5 : decode cX2_hasWord 5 = .ok (.aload_n 0, 1) := by decide +kernel
theorem dX2_hasWord_6 : decode cX2_hasWord 6 = .ok (.getfield 28, 3) := by decide +kernel
theorem dX2_hasWord_9 : decode cX2_hasWord 9 = .ok (.if_icmp .ge 13, 3) := by decide +kernel
theorem dX2_hasWord_12 : decode cX2_hasWord 12 = .ok (.iload_n 1, 1) := by decide +kernel
theorem dX2_hasWord_13 : decode cX2_hasWord 13 = .ok (.bipush 30, 2) := by decide +kernel
theorem dX2_hasWord_15 : decode cX2_hasWord 15 = .ok (.if_icmp .ge 7, 3) := by decide +kernel
theorem dX2_hasWord_18 : decode cX2_hasWord 18 = .ok (.iconst 1, 1) := by decide +kernel
theorem dX2_hasWord_19 : decode cX2_hasWord 19 = .ok (.goto 4, 3) := by decide +kernel
theorem dX2_hasWord_22 : decode cX2_hasWord 22 = .ok (.iconst 0, 1) := by decide +kernel
theorem dX2_hasWord_23 : decode cX2_hasWord 23 = .ok (.ireturn, 1) := by decide +kernel
set_option maxRecDepth 20000 in
theorem ggX2_wordAt_X2_hasWord : GoodIn wsX2_wordAt wsX2_hasWord := goodIn_r _ [6, 7, 8, 9, 10, 11, 12, 13, 14, 15, 16, 17, 18, 19] (by decide +kernel) (by decide +kernel)
set_option maxRecDepth 20000 in
theorem gX2_wordAt_X2_hasWord : GoodIn wsX2_wordAt (wsV RX2 57 RX2 yX2_hasWord wsX2_hasWord) := goodIn_app (goodIn_of _ (by decide +kernel)) ggX2_wordAt_X2_hasWord
theorem dX2_wordAt_0 : decode cX2_wordAt 0 = .ok (.aload_n 0, 1) := by decide +kernel
theorem dX2_wordAt_1 : decode cX2_wordAt 1 = .ok (.iload_n 1, 1) := by decide +kernel
theorem dX2_wordAt_2 : decode cX2_wordAt 2 = .ok (.invokevirtual 57, 3) := by decide +kernel
theorem dX2_wordAt_5 : decode cX2_wordAt 5 = .ok (.ifCond .eq 12, 3) := by decide +kernel
theorem dX2_wordAt_8 : decode cX2_wordAt 8 = .ok (.aload_n 0, 1) := by decide +kernel
theorem dX2_wordAt_9 : decode cX2_wordAt 9 = .ok (.getfield 9, 3) := by decide +kernel
theorem dX2_wordAt_12 : decode cX2_wordAt 12 = .ok (.iload_n 1, 1) := by decide +kernel
theorem dX2_wordAt_13 : decode cX2_wordAt 13 = .ok (.laload, 1) := by decide +kernel
theorem dX2_wordAt_14 : decode cX2_wordAt 14 = .ok (.goto 4, 3) := by decide +kernel
theorem dX2_wordAt_17 : decode cX2_wordAt 17 = .ok (.lconst 0, 1) := by decide +kernel
theorem dX2_wordAt_18 : decode cX2_wordAt 18 = .ok (.lreturn, 1) := by decide +kernel
set_option maxRecDepth 20000 in
theorem ggX2_isInList_X2_numberOf : GoodIn wsX2_isInList wsX2_numberOf := goodIn_r _ [5, 6, 7, 8, 9, 4, 10, 11, 12, 13, 14, 15, 16, 17, 18, 19, 20, 21, 22, 23, 24, 25, 26, 27] (by decide +kernel) (by decide +kernel)
set_option maxRecDepth 20000 in
theorem gX2_isInList_X2_numberOf : GoodIn wsX2_isInList (wsV RX2 63 RX2 yX2_numberOf wsX2_numberOf) := goodIn_app (goodIn_of _ (by decide +kernel)) ggX2_isInList_X2_numberOf
theorem dX2_isInList_0 : decode cX2_isInList 0 = .ok (.aload_n 0, 1) := by decide +kernel
theorem dX2_isInList_1 : decode cX2_isInList 1 = .ok (.lload_n 1, 1) := by decide +kernel
theorem dX2_isInList_2 : decode cX2_isInList 2 = .ok (.invokevirtual 63, 3) := by decide +kernel
theorem dX2_isInList_5 : decode cX2_isInList 5 = .ok (.iconst (-1), 1) := by decide +kernel
theorem dX2_isInList_6 : decode cX2_isInList 6 = .ok (.if_icmp .eq 7, 3) := by decide +kernel
theorem dX2_isInList_9 : decode cX2_isInList 9 = .ok (.iconst 1, 1) := by decide +kernel
theorem dX2_isInList_10 : decode cX2_isInList 10 = .ok (.goto 4, 3) := by decide +kernel
theorem dX2_isInList_13 : decode cX2_isInList 13 = .ok (.iconst 0, 1) := by decide +kernel
theorem dX2_isInList_14 : decode cX2_isInList 14 = .ok (.ireturn, 1) := by decide +kernel
set_option maxRecDepth 20000 in
theorem ggX2_numberOf_X2_wordAt : GoodIn wsX2_numberOf wsX2_wordAt := goodIn_r _ [6, 7, 8, 9, 10, 5, 11, 1, 12, 13, 14, 15, 16, 17, 18, 19, 20, 21, 22, 23] (by decide +kernel) (by decide +kernel)
set_option maxRecDepth 20000 in
theorem gX2_numberOf_X2_wordAt : GoodIn wsX2_numberOf (wsV RX2 67 RX2 yX2_wordAt wsX2_wordAt) := goodIn_app (goodIn_of _ (by decide +kernel)) ggX2_numberOf_X2_wordAt
theorem dX2_numberOf_0 : decode cX2_numberOf 0 = .ok (.iconst 0, 1) := by decide +kernel
theorem dX2_numberOf_1 : decode cX2_numberOf 1 = .ok (.istore_n 3, 1) := by decide +kernel
theorem dX2_numberOf_2 : decode cX2_numberOf 2 = .ok (.iload_n 3, 1) := by decide +kernel
theorem dX2_numberOf_3 : decode cX2_numberOf 3 = .ok (.aload_n 0, 1) := by decide +kernel
theorem dX2_numberOf_4 : decode cX2_numberOf 4 = .ok (.getfield 28, 3) := by decide +kernel
theorem dX2_numberOf_7 : decode cX2_numberOf 7 = .ok (.if_icmp .ge 21, 3) := by decide +kernel
theorem dX2_numberOf_10 : decode cX2_numberOf 10 = .ok (.aload_n 0, 1) := by decide +kernel
theorem dX2_numberOf_11 : decode cX2_numberOf 11 = .ok (.iload_n 3, 1) := by decide +kernel
theorem dX2_numberOf_12 : decode cX2_numberOf 12 = .ok (.invokevirtual 67, 3) := by decide +kernel
theorem dX2_numberOf_15 : decode cX2_numberOf 15 = .ok (.lload_n 1, 1) := by decide +kernel
theorem dX2_numberOf_16 : decode cX2_numberOf 16 = .ok (.lcmp, 1) := by decide +kernel
theorem dX2_numberOf_17 : decode cX2_numberOf 17 = .ok (.ifCond .ne 5, 3) := by decide +kernel
theorem dX2_numberOf_20 : decode cX2_numberOf 20 = .ok (.iload_n 3, 1) := by decide +kernel
theorem dX2_numberOf_21 : decode cX2_numberOf 21 = .ok (.ireturn, 1) := by decide +kernel
theorem dX2_numberOf_22 : decode cX2_numberOf 22 = .ok (.iinc 3 1, 3) := by decide +kernel
theorem dX2_numberOf_25 : decode cX2_numberOf 25 = .ok (.goto (-23), 3) := by decide +kernel
theorem dX2_numberOf_28 : decode cX2_numberOf 28 = .ok (.iconst (-1), 1) := by decide +kernel
theorem dX2_numberOf_29 : decode cX2_numberOf 29 = .ok (.ireturn, 1) := by decide +kernel
theorem dX2_insert_0 : decode cX2_insert 0 = .ok (.aload_n 0, 1) := by decide +kernel
theorem dX2_insert_1 : decode cX2_insert 1 = .ok (.getfield 28, 3) := by decide +kernel
theorem dX2_insert_4 : decode cX2_insert 4 = .ok (.ifCond .lt 12, 3) := by decide +kernel
theorem dX2_insert_7 : decode cX2_insert 7 = .ok (.aload_n 0, 1) := by decide +kernel
theorem dX2_insert_8 : decode cX2_insert 8 = .ok (.getfield 28, 3) := by decide +kernel
theorem dX2_insert_11 : decode cX2_insert 11 = .ok (.bipush 30, 2) := by decide +kernel
theorem dX2_insert_13 : decode cX2_insert 13 = .ok (.if_icmp .lt 5, 3) := by decide +kernel
theorem dX2_insert_16 : decode cX2_insert 16 = .ok (.iconst 0, 1) := by decide +kernel
theorem dX2_insert_17 : decode cX2_insert 17 = .ok (.ireturn, 1) := by decide +kernel
theorem dX2_insert_18 : decode cX2_insert 18 = .ok (.aload_n 0, 1) := by decide +kernel
theorem dX2_insert_19 : decode cX2_insert 19 = .ok (.getfield 28, 3) := by decide +kernel
theorem dX2_insert_22 : decode cX2_insert 22 = .ok (.istore_n 3, 1) := by decide +kernel
theorem dX2_insert_23 : decode cX2_insert 23 = .ok (.iload_n 3, 1) := by decide +kernel
theorem dX2_insert_24 : decode cX2_insert 24 = .ok (.ifCond .le 36, 3) := by decide +kernel
theorem dX2_insert_27 : decode cX2_insert 27 = .ok (.aload_n 0, 1) := by decide +kernel
theorem dX2_insert_28 : decode cX2_insert 28 = .ok (.getfield 9, 3) := by decide +kernel
theorem dX2_insert_31 : decode cX2_insert 31 = .ok (.iload_n 3, 1) := by decide +kernel
theorem dX2_insert_32 : decode cX2_insert 32 = .ok (.iconst 1, 1) := by decide +kernel
theorem dX2_insert_33 : decode cX2_insert 33 = .ok (.isub, 1) := by decide +kernel
theorem dX2_insert_34 : decode cX2_insert 34 = .ok (.laload, 1) := by decide +kernel
theorem dX2_insert_35 : decode cX2_insert 35 = .ok (.lload_n 1, 1) := by decide +kernel
theorem dX2_insert_36 : decode cX2_insert 36 = .ok (.lcmp, 1) := by decide +kernel
theorem dX2_insert_37 : decode cX2_insert 37 = .ok (.ifCond .le 23, 3) := by decide +kernel
theorem dX2_insert_40 : decode cX2_insert 40 = .ok (.aload_n 0, 1) := by decide +kernel
theorem dX2_insert_41 : decode cX2_insert 41 = .ok (.getfield 9, 3) := by decide +kernel
theorem dX2_insert_44 : decode cX2_insert 44 = .ok (.iload_n 3, 1) := by decide +kernel
theorem dX2_insert_45 : decode cX2_insert 45 = .ok (.aload_n 0, 1) := by decide +kernel
theorem dX2_insert_46 : decode cX2_insert 46 = .ok (.getfield 9, 3) := by decide +kernel
theorem dX2_insert_49 : decode cX2_insert 49 = .ok (.iload_n 3, 1) := by decide +kernel
theorem dX2_insert_50 : decode cX2_insert 50 = .ok (.iconst 1, 1) := by decide +kernel
theorem dX2_insert_51 : decode cX2_insert 51 = .ok (.isub, 1) := by decide +kernel
theorem dX2_insert_52 : decode cX2_insert 52 = .ok (.laload, 1) := by decide +kernel
theorem dX2_insert_53 : decode cX2_insert 53 = .ok (.lastore, 1) := by decide +kernel
theorem dX2_insert_54 : decode cX2_insert 54 = .ok (.iinc 3 (-1), 3) := by decide +kernel
theorem dX2_insert_57 : decode cX2_insert 57 = .ok (.goto (-34), 3) := by decide +kernel
theorem dX2_insert_60 : decode cX2_insert 60 = .ok (.aload_n 0, 1) := by decide +kernel
theorem dX2_insert_61 : decode cX2_insert 61 = .ok (.getfield 9, 3) := by decide +kernel
theorem dX2_insert_64 : decode cX2_insert 64 = .ok (.iload_n 3, 1) := by decide +kernel
theorem dX2_insert_65 : decode cX2_insert 65 = .ok (.lload_n 1, 1) := by decide +kernel
theorem dX2_insert_66 : decode cX2_insert 66 = .ok (.lastore, 1) := by decide +kernel
theorem dX2_insert_67 : decode cX2_insert 67 = .ok (.aload_n 0, 1) := by decide +kernel
theorem dX2_insert_68 : decode cX2_insert 68 = .ok (.dup, 1) := by decide +kernel
theorem dX2_insert_69 : decode cX2_insert 69 = .ok (.getfield 28, 3) := by decide +kernel
theorem dX2_insert_72 : decode cX2_insert 72 = .ok (.iconst 1, 1) := by decide +kernel
theorem dX2_insert_73 : decode cX2_insert 73 = .ok (.iadd, 1) := by decide +kernel
theorem dX2_insert_74 : decode cX2_insert 74 = .ok (.putfield 28, 3) := by decide +kernel
theorem dX2_insert_77 : decode cX2_insert 77 = .ok (.iconst 1, 1) := by decide +kernel
theorem dX2_insert_78 : decode cX2_insert 78 = .ok (.ireturn, 1) := by decide +kernel
set_option maxRecDepth 20000 in
theorem ggX2_remove_X2_hasWord : GoodIn wsX2_remove wsX2_hasWord := goodIn_r _ [7, 2, 8, 9, 10, 11, 12, 13, 14, 15, 16, 17, 18, 19] (by decide +kernel) (by decide +kernel)
set_option maxRecDepth 20000 in
theorem gX2_remove_X2_hasWord : GoodIn wsX2_remove (wsV RX2 57 RX2 yX2_hasWord wsX2_hasWord) := goodIn_app (goodIn_of _ (by decide +kernel)) ggX2_remove_X2_hasWord
theorem dX2_remove_0 : decode cX2_remove 0 = .ok (.aload_n 0, 1) := by decide +kernel
theorem dX2_remove_1 : decode cX2_remove 1 = .ok (.iload_n 1, 1) := by decide +kernel
theorem dX2_remove_2 : decode cX2_remove 2 = .ok (.invokevirtual 57, 3) := by decide +kernel
theorem dX2_remove_5 : decode cX2_remove 5 = .ok (.ifCond .ne 4, 3) := by decide +kernel
theorem dX2_remove_8 : decode cX2_remove 8 = .ok (.return_, 1) := by decide +kernel
theorem dX2_remove_9 : decode cX2_remove 9 = .ok (.iload_n 1, 1) := by decide +kernel
theorem dX2_remove_10 : decode cX2_remove 10 = .ok (.istore_n 2, 1) := by decide +kernel
theorem dX2_remove_11 : decode cX2_remove 11 = .ok (.iload_n 2, 1) := by decide +kernel
theorem dX2_remove_12 : decode cX2_remove 12 = .ok (.bipush 29, 2) := by decide +kernel
theorem dX2_remove_14 : decode cX2_remove 14 = .ok (.if_icmp .ge 23, 3) := by decide +kernel
theorem dX2_remove_17 : decode cX2_remove 17 = .ok (.aload_n 0, 1) := by decide +kernel
theorem dX2_remove_18 : decode cX2_remove 18 = .ok (.getfield 9, 3) := by decide +kernel
theorem dX2_remove_21 : decode cX2_remove 21 = .ok (.iload_n 2, 1) := by decide +kernel
theorem dX2_remove_22 : decode cX2_remove 22 = .ok (.aload_n 0, 1) := by decide +kernel
theorem dX2_remove_23 : decode cX2_remove 23 = .ok (.getfield 9, 3) := by decide +kernel
theorem dX2_remove_26 : decode cX2_remove 26 = .ok (.iload_n 2, 1) := by decide +kernel
theorem dX2_remove_27 : decode cX2_remove 27 = .ok (.iconst 1, 1) := by decide +kernel
theorem dX2_remove_28 : decode cX2_remove 28 = .ok (.iadd, 1) := by decide +kernel
theorem dX2_remove_29 : decode cX2_remove 29 = .ok (.laload, 1) := by decide +kernel
theorem dX2_remove_30 : decode cX2_remove 30 = .ok (.lastore, 1) := by decide +kernel
theorem dX2_remove_31 : decode cX2_remove 31 = .ok (.iinc 2 1, 3) := by decide +kernel
theorem dX2_remove_34 : decode cX2_remove 34 = .ok (.goto (-23), 3) := by decide +kernel
theorem dX2_remove_37 : decode cX2_remove 37 = .ok (.aload_n 0, 1) := by decide +kernel
theorem dX2_remove_38 : decode cX2_remove 38 = .ok (.dup, 1) := by decide +kernel
theorem dX2_remove_39 : decode cX2_remove 39 = .ok (.getfield 28, 3) := by decide +kernel
theorem dX2_remove_42 : decode cX2_remove 42 = .ok (.iconst 1, 1) := by decide +kernel
theorem dX2_remove_43 : decode cX2_remove 43 = .ok (.isub, 1) := by decide +kernel
theorem dX2_remove_44 : decode cX2_remove 44 = .ok (.putfield 28, 3) := by decide +kernel
theorem dX2_remove_47 : decode cX2_remove 47 = .ok (.return_, 1) := by decide +kernel
set_option maxRecDepth 20000 in
theorem ggX2_wordsOfLength_X2_wordAt : GoodIn wsX2_wordsOfLength wsX2_wordAt := goodIn_r _ [6, 7, 8, 9, 10, 5, 11, 1, 22, 23, 24, 25, 26, 27, 28, 29, 30, 31, 32, 33] (by decide +kernel) (by decide +kernel)
set_option maxRecDepth 20000 in
theorem gX2_wordsOfLength_X2_wordAt : GoodIn wsX2_wordsOfLength (wsV RX2 67 RX2 yX2_wordAt wsX2_wordAt) := goodIn_app (goodIn_of _ (by decide +kernel)) ggX2_wordsOfLength_X2_wordAt
set_option maxRecDepth 20000 in
theorem ggX2_wordsOfLength_X4_lengthOf : GoodIn wsX2_wordsOfLength wsX4_lengthOf := goodIn_r _ [15, 16, 17, 14, 18, 19, 20, 21] (by decide +kernel) (by decide +kernel)
set_option maxRecDepth 20000 in
theorem gX2_wordsOfLength_X4_lengthOf : GoodIn wsX2_wordsOfLength (va_wsS RX2 71 yX4_lengthOf wsX4_lengthOf) := goodIn_app (goodIn_of _ (by decide +kernel)) ggX2_wordsOfLength_X4_lengthOf
theorem dX2_wordsOfLength_0 : decode cX2_wordsOfLength 0 = .ok (.iconst 0, 1) := by decide +kernel
theorem dX2_wordsOfLength_1 : decode cX2_wordsOfLength 1 = .ok (.istore_n 2, 1) := by decide +kernel
theorem dX2_wordsOfLength_2 : decode cX2_wordsOfLength 2 = .ok (.iconst 0, 1) := by decide +kernel
theorem dX2_wordsOfLength_3 : decode cX2_wordsOfLength 3 = .ok (.istore_n 3, 1) := by decide +kernel
theorem dX2_wordsOfLength_4 : decode cX2_wordsOfLength 4 = .ok (.iload_n 3, 1) := by decide +kernel
theorem dX2_wordsOfLength_5 : decode cX2_wordsOfLength 5 = .ok (.aload_n 0, 1) := by decide +kernel
theorem dX2_wordsOfLength_6 : decode cX2_wordsOfLength 6 = .ok (.getfield 28, 3) := by decide +kernel
theorem dX2_wordsOfLength_9 : decode cX2_wordsOfLength 9 = .ok (.if_icmp .ge 27, 3) := by decide +kernel
theorem dX2_wordsOfLength_12 : decode cX2_wordsOfLength 12 = .ok (.aload_n 0, 1) := by decide +kernel
theorem dX2_wordsOfLength_13 : decode cX2_wordsOfLength 13 = .ok (.iload_n 3, 1) := by decide +kernel
theorem dX2_wordsOfLength_14 : decode cX2_wordsOfLength 14 = .ok (.invokevirtual 67, 3) := by decide +kernel
theorem dX2_wordsOfLength_17 : decode cX2_wordsOfLength 17 = .ok (.invokestatic 71, 3) := by decide +kernel
theorem dX2_wordsOfLength_20 : decode cX2_wordsOfLength 20 = .ok (.iload_n 1, 1) := by decide +kernel
theorem dX2_wordsOfLength_21 : decode cX2_wordsOfLength 21 = .ok (.if_icmp .ne 9, 3) := by decide +kernel
theorem dX2_wordsOfLength_24 : decode cX2_wordsOfLength 24 = .ok (.iload_n 2, 1) := by decide +kernel
theorem dX2_wordsOfLength_25 : decode cX2_wordsOfLength 25 = .ok (.iconst 1, 1) := by decide +kernel
theorem dX2_wordsOfLength_26 : decode cX2_wordsOfLength 26 = .ok (.iload_n 3, 1) := by decide +kernel
theorem dX2_wordsOfLength_27 : decode cX2_wordsOfLength 27 = .ok (.ishl, 1) := by decide +kernel
theorem dX2_wordsOfLength_28 : decode cX2_wordsOfLength 28 = .ok (.ior, 1) := by decide +kernel
theorem dX2_wordsOfLength_29 : decode cX2_wordsOfLength 29 = .ok (.istore_n 2, 1) := by decide +kernel
theorem dX2_wordsOfLength_30 : decode cX2_wordsOfLength 30 = .ok (.iinc 3 1, 3) := by decide +kernel
theorem dX2_wordsOfLength_33 : decode cX2_wordsOfLength 33 = .ok (.goto (-29), 3) := by decide +kernel
theorem dX2_wordsOfLength_36 : decode cX2_wordsOfLength 36 = .ok (.iload_n 2, 1) := by decide +kernel
theorem dX2_wordsOfLength_37 : decode cX2_wordsOfLength 37 = .ok (.ireturn, 1) := by decide +kernel
theorem dX2_isRunning_0 : decode cX2_isRunning 0 = .ok (.aload_n 0, 1) := by decide +kernel
theorem dX2_isRunning_1 : decode cX2_isRunning 1 = .ok (.getfield 35, 3) := by decide +kernel
theorem dX2_isRunning_4 : decode cX2_isRunning 4 = .ok (.iconst 1, 1) := by decide +kernel
theorem dX2_isRunning_5 : decode cX2_isRunning 5 = .ok (.if_icmp .ne 7, 3) := by decide +kernel
theorem dX2_isRunning_8 : decode cX2_isRunning 8 = .ok (.iconst 1, 1) := by decide +kernel
theorem dX2_isRunning_9 : decode cX2_isRunning 9 = .ok (.goto 4, 3) := by decide +kernel
theorem dX2_isRunning_12 : decode cX2_isRunning 12 = .ok (.iconst 0, 1) := by decide +kernel
theorem dX2_isRunning_13 : decode cX2_isRunning 13 = .ok (.ireturn, 1) := by decide +kernel
set_option maxRecDepth 20000 in
theorem ggX2_isCandidate_X2_hasWord : GoodIn wsX2_isCandidate wsX2_hasWord := goodIn_r _ [6, 7, 8, 9, 10, 11, 12, 13, 14, 15, 16, 17, 18, 19] (by decide +kernel) (by decide +kernel)
set_option maxRecDepth 20000 in
theorem gX2_isCandidate_X2_hasWord : GoodIn wsX2_isCandidate (wsV RX2 57 RX2 yX2_hasWord wsX2_hasWord) := goodIn_app (goodIn_of _ (by decide +kernel)) ggX2_isCandidate_X2_hasWord
theorem dX2_isCandidate_0 : decode cX2_isCandidate 0 = .ok (.aload_n 0, 1) := by decide +kernel
theorem dX2_isCandidate_1 : decode cX2_isCandidate 1 = .ok (.iload_n 1, 1) := by decide +kernel
theorem dX2_isCandidate_2 : decode cX2_isCandidate 2 = .ok (.invokevirtual 57, 3) := by decide +kernel
theorem dX2_isCandidate_5 : decode cX2_isCandidate 5 = .ok (.ifCond .eq 18, 3) := by decide +kernel
theorem dX2_isCandidate_8 : decode cX2_isCandidate 8 = .ok (.aload_n 0, 1) := by decide +kernel
theorem dX2_isCandidate_9 : decode cX2_isCandidate 9 = .ok (.getfield 44, 3) := by decide +kernel
theorem dX2_isCandidate_12 : decode cX2_isCandidate 12 = .ok (.iload_n 1, 1) := by decide +kernel
theorem dX2_isCandidate_13 : decode cX2_isCandidate 13 = .ok (.ishr, 1) := by decide +kernel
theorem dX2_isCandidate_14 : decode cX2_isCandidate 14 = .ok (.iconst 1, 1) := by decide +kernel
theorem dX2_isCandidate_15 : decode cX2_isCandidate 15 = .ok (.iand, 1) := by decide +kernel
theorem dX2_isCandidate_16 : decode cX2_isCandidate 16 = .ok (.ifCond .eq 7, 3) := by decide +kernel
theorem dX2_isCandidate_19 : decode cX2_isCandidate 19 = .ok (.iconst 1, 1) := by decide +kernel
theorem dX2_isCandidate_20 : decode cX2_isCandidate 20 = .ok (.goto 4, 3) := by decide +kernel
theorem dX2_isCandidate_23 : decode cX2_isCandidate 23 = .ok (.iconst 0, 1) := by decide +kernel
theorem dX2_isCandidate_24 : decode cX2_isCandidate 24 = .ok (.ireturn, 1) := by decide +kernel
set_option maxRecDepth 20000 in
theorem ggX2_wasGuessed_X5_bitOf : GoodIn wsX2_wasGuessed wsX5_bitOf := goodIn_r _ [4, 5, 6, 3, 7] (by decide +kernel) (by decide +kernel)
set_option maxRecDepth 20000 in
theorem gX2_wasGuessed_X5_bitOf_n74 : GoodIn wsX2_wasGuessed (wsX5_bitOf) := ggX2_wasGuessed_X5_bitOf
theorem dX2_wasGuessed_0 : decode cX2_wasGuessed 0 = .ok (.aload_n 0, 1) := by decide +kernel
theorem dX2_wasGuessed_1 : decode cX2_wasGuessed 1 = .ok (.getfield 47, 3) := by decide +kernel
theorem dX2_wasGuessed_4 : decode cX2_wasGuessed 4 = .ok (.iload_n 1, 1) := by decide +kernel
theorem dX2_wasGuessed_5 : decode cX2_wasGuessed 5 = .ok (.invokestatic 74, 3) := by decide +kernel
theorem dX2_wasGuessed_8 : decode cX2_wasGuessed 8 = .ok (.iand, 1) := by decide +kernel
theorem dX2_wasGuessed_9 : decode cX2_wasGuessed 9 = .ok (.ifCond .eq 7, 3) := by decide +kernel
theorem dX2_wasGuessed_12 : decode cX2_wasGuessed 12 = .ok (.iconst 1, 1) := by decide +kernel
theorem dX2_wasGuessed_13 : decode cX2_wasGuessed 13 = .ok (.goto 4, 3) := by decide +kernel
theorem dX2_wasGuessed_16 : decode cX2_wasGuessed 16 = .ok (.iconst 0, 1) := by decide +kernel
theorem dX2_wasGuessed_17 : decode cX2_wasGuessed 17 = .ok (.ireturn, 1) := by decide +kernel
theorem dX2_guessedAt_0 : decode cX2_guessedAt 0 = .ok (.iload_n 1, 1) := by decide +kernel
theorem dX2_guessedAt_1 : decode cX2_guessedAt 1 = .ok (.ifCond .lt 26, 3) := by decide +kernel
theorem dX2_guessedAt_4 : decode cX2_guessedAt 4 = .ok (.iload_n 1, 1) := by decide +kernel
theorem dX2_guessedAt_5 : decode cX2_guessedAt 5 = .ok (.aload_n 0, 1) := by decide +kernel
theorem dX2_guessedAt_6 : decode cX2_guessedAt 6 = .ok (.getfield 50, 3) := by decide +kernel
theorem dX2_guessedAt_9 : decode cX2_guessedAt 9 = .ok (.if_icmp .ge 18, 3) := by decide +kernel
theorem dX2_guessedAt_12 : decode cX2_guessedAt 12 = .ok (.iload_n 1, 1) := by decide +kernel
theorem dX2_guessedAt_13 : decode cX2_guessedAt 13 = .ok (.bipush 26, 2) := by decide +kernel
theorem dX2_guessedAt_15 : decode cX2_guessedAt 15 = .ok (.if_icmp .ge 12, 3) := by decide +kernel
theorem dX2_guessedAt_18 : decode cX2_guessedAt 18 = .ok (.aload_n 0, 1) := by decide +kernel
theorem dX2_guessedAt_19 : decode cX2_guessedAt 19 = .ok (.getfield 15, 3) := by decide +kernel
theorem dX2_guessedAt_22 : decode cX2_guessedAt 22 = .ok (.iload_n 1, 1) := by decide +kernel
theorem dX2_guessedAt_23 : decode cX2_guessedAt 23 = .ok (.iaload, 1) := by decide +kernel
theorem dX2_guessedAt_24 : decode cX2_guessedAt 24 = .ok (.goto 4, 3) := by decide +kernel
theorem dX2_guessedAt_27 : decode cX2_guessedAt 27 = .ok (.iconst (-1), 1) := by decide +kernel
theorem dX2_guessedAt_28 : decode cX2_guessedAt 28 = .ok (.ireturn, 1) := by decide +kernel
set_option maxRecDepth 20000 in
theorem ggX2_candidatesWith_X2_isCandidate : GoodIn wsX2_candidatesWith wsX2_isCandidate := goodIn_r _ [6, 7, 8, 9, 10, 5, 11, 1, 27, 28, 29, 30, 31, 32, 33, 34, 35, 36, 37, 38] (by decide +kernel) (by decide +kernel)
set_option maxRecDepth 20000 in
theorem gX2_candidatesWith_X2_isCandidate : GoodIn wsX2_candidatesWith (wsV RX2 78 RX2 yX2_isCandidate wsX2_isCandidate) := goodIn_app (goodIn_of _ (by decide +kernel)) ggX2_candidatesWith_X2_isCandidate
set_option maxRecDepth 20000 in
theorem ggX2_candidatesWith_X2_wordAt : GoodIn wsX2_candidatesWith wsX2_wordAt := goodIn_r _ [15, 16, 8, 9, 10, 5, 11, 1, 27, 28, 29, 30, 31, 32, 33, 34, 35, 36, 37, 38] (by decide +kernel) (by decide +kernel)
set_option maxRecDepth 20000 in
theorem gX2_candidatesWith_X2_wordAt : GoodIn wsX2_candidatesWith (wsV RX2 67 RX2 yX2_wordAt wsX2_wordAt) := goodIn_app (goodIn_of _ (by decide +kernel)) ggX2_candidatesWith_X2_wordAt
set_option maxRecDepth 20000 in
theorem ggX2_candidatesWith_X4_maskOf : GoodIn wsX2_candidatesWith wsX4_maskOf := goodIn_r _ [20, 21, 22, 19, 23, 24, 25, 26] (by decide +kernel) (by decide +kernel)
set_option maxRecDepth 20000 in
theorem gX2_candidatesWith_X4_maskOf : GoodIn wsX2_candidatesWith (va_wsS RX2 81 yX4_maskOf wsX4_maskOf) := goodIn_app (goodIn_of _ (by decide +kernel)) ggX2_candidatesWith_X4_maskOf
theorem dX2_candidatesWith_0 : decode cX2_candidatesWith 0 = .ok (.iconst 0, 1) := by decide +kernel
theorem dX2_candidatesWith_1 : decode cX2_candidatesWith 1 = .ok (.istore_n 2, 1) := by decide +kernel
theorem dX2_candidatesWith_2 : decode cX2_candidatesWith 2 = .ok (.iconst 0, 1) := by decide +kernel
theorem dX2_candidatesWith_3 : decode cX2_candidatesWith 3 = .ok (.istore_n 3, 1) := by decide +kernel
theorem dX2_candidatesWith_4 : decode cX2_candidatesWith 4 = .ok (.iload_n 3, 1) := by decide +kernel
theorem dX2_candidatesWith_5 : decode cX2_candidatesWith 5 = .ok (.aload_n 0, 1) := by decide +kernel
theorem dX2_candidatesWith_6 : decode cX2_candidatesWith 6 = .ok (.getfield 28, 3) := by decide +kernel
theorem dX2_candidatesWith_9 : decode cX2_candidatesWith 9 = .ok (.if_icmp .ge 32, 3) := by decide +kernel
theorem dX2_candidatesWith_12 : decode cX2_candidatesWith 12 = .ok (.aload_n 0, 1) := by decide +kernel
theorem dX2_candidatesWith_13 : decode cX2_candidatesWith 13 = .ok (.iload_n 3, 1) := by decide +kernel
theorem dX2_candidatesWith_14 : decode cX2_candidatesWith 14 = .ok (.invokevirtual 78, 3) := by decide +kernel
theorem dX2_candidatesWith_17 : decode cX2_candidatesWith 17 = .ok (.ifCond .eq 18, 3) := by decide +kernel
theorem dX2_candidatesWith_20 : decode cX2_candidatesWith 20 = .ok (.aload_n 0, 1) := by decide +kernel
theorem dX2_candidatesWith_21 : decode cX2_candidatesWith 21 = .ok (.iload_n 3, 1) := by decide +kernel
theorem dX2_candidatesWith_22 : decode cX2_candidatesWith 22 = .ok (.invokevirtual 67, 3) := by decide +kernel
theorem dX2_candidatesWith_25 : decode cX2_candidatesWith 25 = .ok (.iload_n 1, 1) := by decide +kernel
theorem dX2_candidatesWith_26 : decode cX2_candidatesWith 26 = .ok (.invokestatic 81, 3) := by decide +kernel
theorem dX2_candidatesWith_29 : decode cX2_candidatesWith 29 = .ok (.ifCond .eq 6, 3) := by decide +kernel
theorem dX2_candidatesWith_32 : decode cX2_candidatesWith 32 = .ok (.iinc 2 1, 3) := by decide +kernel
theorem dX2_candidatesWith_35 : decode cX2_candidatesWith 35 = .ok (.iinc 3 1, 3) := by decide +kernel
theorem dX2_candidatesWith_38 : decode cX2_candidatesWith 38 = .ok (.goto (-34), 3) := by decide +kernel
theorem dX2_candidatesWith_41 : decode cX2_candidatesWith 41 = .ok (.iload_n 2, 1) := by decide +kernel
theorem dX2_candidatesWith_42 : decode cX2_candidatesWith 42 = .ok (.ireturn, 1) := by decide +kernel
set_option maxRecDepth 20000 in
theorem ggX2_lettersOfAll_X2_isCandidate : GoodIn wsX2_lettersOfAll wsX2_isCandidate := goodIn_r _ [7, 8, 9, 10, 11, 6, 12, 2, 34, 35, 36, 37, 38, 39, 40, 41, 42, 43, 44, 45] (by decide +kernel) (by decide +kernel)
set_option maxRecDepth 20000 in
theorem gX2_lettersOfAll_X2_isCandidate : GoodIn wsX2_lettersOfAll (wsV RX2 78 RX2 yX2_isCandidate wsX2_isCandidate) := goodIn_app (goodIn_of _ (by decide +kernel)) ggX2_lettersOfAll_X2_isCandidate
set_option maxRecDepth 20000 in
theorem ggX2_lettersOfAll_X2_wordAt : GoodIn wsX2_lettersOfAll wsX2_wordAt := goodIn_r _ [16, 17, 9, 10, 11, 6, 12, 2, 34, 35, 36, 37, 38, 39, 40, 41, 42, 43, 44, 45] (by decide +kernel) (by decide +kernel)
set_option maxRecDepth 20000 in
theorem gX2_lettersOfAll_X2_wordAt : GoodIn wsX2_lettersOfAll (wsV RX2 67 RX2 yX2_wordAt wsX2_wordAt) := goodIn_app (goodIn_of _ (by decide +kernel)) ggX2_lettersOfAll_X2_wordAt
set_option maxRecDepth 20000 in
theorem ggX2_lettersOfAll_X4_lettersOf : GoodIn wsX2_lettersOfAll wsX4_lettersOf := goodIn_r _ [21, 22, 23, 20, 24, 25, 26, 27, 28, 29, 30, 31, 32, 33] (by decide +kernel) (by decide +kernel)
set_option maxRecDepth 20000 in
theorem gX2_lettersOfAll_X4_lettersOf : GoodIn wsX2_lettersOfAll (va_wsS RX2 86 yX4_lettersOf wsX4_lettersOf) := goodIn_app (goodIn_of _ (by decide +kernel)) ggX2_lettersOfAll_X4_lettersOf
theorem dX2_lettersOfAll_0 : decode cX2_lettersOfAll 0 = .ok (.ldc 85, 2) := by decide +kernel
theorem dX2_lettersOfAll_2 : decode cX2_lettersOfAll 2 = .ok (.istore_n 1, 1) := by decide +kernel
theorem dX2_lettersOfAll_3 : decode cX2_lettersOfAll 3 = .ok (.iconst 0, 1) := by decide +kernel
theorem dX2_lettersOfAll_4 : decode cX2_lettersOfAll 4 = .ok (.istore_n 2, 1) := by decide +kernel
theorem dX2_lettersOfAll_5 : decode cX2_lettersOfAll 5 = .ok (.iload_n 2, 1) := by decide +kernel
theorem dX2_lettersOfAll_6 : decode cX2_lettersOfAll 6 = .ok (.aload_n 0, 1) := by decide +kernel
theorem dX2_lettersOfAll_7 : decode cX2_lettersOfAll 7 = .ok (.getfield 28, 3) := by decide +kernel
theorem dX2_lettersOfAll_10 : decode cX2_lettersOfAll 10 = .ok (.if_icmp .ge 28, 3) := by decide +kernel
theorem dX2_lettersOfAll_13 : decode cX2_lettersOfAll 13 = .ok (.aload_n 0, 1) := by decide +kernel
theorem dX2_lettersOfAll_14 : decode cX2_lettersOfAll 14 = .ok (.iload_n 2, 1) := by decide +kernel
theorem dX2_lettersOfAll_15 : decode cX2_lettersOfAll 15 = .ok (.invokevirtual 78, 3) := by decide +kernel
theorem dX2_lettersOfAll_18 : decode cX2_lettersOfAll 18 = .ok (.ifCond .eq 14, 3) := by decide +kernel
theorem dX2_lettersOfAll_21 : decode cX2_lettersOfAll 21 = .ok (.iload_n 1, 1) := by decide +kernel
theorem dX2_lettersOfAll_22 : decode cX2_lettersOfAll 22 = .ok (.aload_n 0, 1) := by decide +kernel
theorem dX2_lettersOfAll_23 : decode cX2_lettersOfAll 23 = .ok (.iload_n 2, 1) := by decide +kernel
theorem dX2_lettersOfAll_24 : decode cX2_lettersOfAll 24 = .ok (.invokevirtual 67, 3) := by decide +kernel
theorem dX2_lettersOfAll_27 : decode cX2_lettersOfAll 27 = .ok (.invokestatic 86, 3) := by decide +kernel
theorem dX2_lettersOfAll_30 : decode cX2_lettersOfAll 30 = .ok (.iand, 1) := by decide +kernel
theorem dX2_lettersOfAll_31 : decode cX2_lettersOfAll 31 = .ok (.istore_n 1, 1) := by decide +kernel
theorem dX2_lettersOfAll_32 : decode cX2_lettersOfAll 32 = .ok (.iinc 2 1, 3) := by decide +kernel
theorem dX2_lettersOfAll_35 : decode cX2_lettersOfAll 35 = .ok (.goto (-30), 3) := by decide +kernel
theorem dX2_lettersOfAll_38 : decode cX2_lettersOfAll 38 = .ok (.iload_n 1, 1) := by decide +kernel
theorem dX2_lettersOfAll_39 : decode cX2_lettersOfAll 39 = .ok (.ireturn, 1) := by decide +kernel
theorem dX2_totalOf_0 : decode cX2_totalOf 0 = .ok (.iload_n 1, 1) := by decide +kernel
theorem dX2_totalOf_1 : decode cX2_totalOf 1 = .ok (.ifCond .lt 18, 3) := by decide +kernel
theorem dX2_totalOf_4 : decode cX2_totalOf 4 = .ok (.iload_n 1, 1) := by decide +kernel
theorem dX2_totalOf_5 : decode cX2_totalOf 5 = .ok (.bipush 7, 2) := by decide +kernel
theorem dX2_totalOf_7 : decode cX2_totalOf 7 = .ok (.if_icmp .ge 12, 3) := by decide +kernel
theorem dX2_totalOf_10 : decode cX2_totalOf 10 = .ok (.aload_n 0, 1) := by decide +kernel
theorem dX2_totalOf_11 : decode cX2_totalOf 11 = .ok (.getfield 19, 3) := by decide +kernel
theorem dX2_totalOf_14 : decode cX2_totalOf 14 = .ok (.iload_n 1, 1) := by decide +kernel
theorem dX2_totalOf_15 : decode cX2_totalOf 15 = .ok (.iaload, 1) := by decide +kernel
theorem dX2_totalOf_16 : decode cX2_totalOf 16 = .ok (.goto 4, 3) := by decide +kernel
theorem dX2_totalOf_19 : decode cX2_totalOf 19 = .ok (.iconst 0, 1) := by decide +kernel
theorem dX2_totalOf_20 : decode cX2_totalOf 20 = .ok (.ireturn, 1) := by decide +kernel
theorem dX2_count_0 : decode cX2_count 0 = .ok (.iload_n 1, 1) := by decide +kernel
theorem dX2_count_1 : decode cX2_count 1 = .ok (.ifCond .lt 19, 3) := by decide +kernel
theorem dX2_count_4 : decode cX2_count 4 = .ok (.iload_n 1, 1) := by decide +kernel
theorem dX2_count_5 : decode cX2_count 5 = .ok (.bipush 7, 2) := by decide +kernel
theorem dX2_count_7 : decode cX2_count 7 = .ok (.if_icmp .ge 13, 3) := by decide +kernel
theorem dX2_count_10 : decode cX2_count 10 = .ok (.aload_n 0, 1) := by decide +kernel
theorem dX2_count_11 : decode cX2_count 11 = .ok (.getfield 19, 3) := by decide +kernel
theorem dX2_count_14 : decode cX2_count 14 = .ok (.iload_n 1, 1) := by decide +kernel
theorem dX2_count_15 : decode cX2_count 15 = .ok (.dup2, 1) := by decide +kernel
theorem dX2_count_16 : decode cX2_count 16 = .ok (.iaload, 1) := by decide +kernel
theorem dX2_count_17 : decode cX2_count 17 = .ok (.iconst 1, 1) := by decide +kernel
theorem dX2_count_18 : decode cX2_count 18 = .ok (.iadd, 1) := by decide +kernel
theorem dX2_count_19 : decode cX2_count 19 = .ok (.iastore, 1) := by decide +kernel
theorem dX2_count_20 : decode cX2_count 20 = .ok (.return_, 1) := by decide +kernel
set_option maxRecDepth 20000 in
theorem ggX2_begin_X2_endWithoutGame : GoodIn wsX2_begin wsX2_endWithoutGame := goodIn_r _ [9, 1, 2, 3, 4, 10, 11, 12, 18, 19, 20, 21, 22, 23, 24, 25, 26, 27, 28, 29] (by decide +kernel) (by decide +kernel)
set_option maxRecDepth 20000 in
theorem gX2_begin_X2_endWithoutGame : GoodIn wsX2_begin (wsV RX2 89 RX2 yX2_endWithoutGame wsX2_endWithoutGame) := goodIn_app (goodIn_of _ (by decide +kernel)) ggX2_begin_X2_endWithoutGame
set_option maxRecDepth 20000 in
theorem ggX2_begin_X2_count : GoodIn wsX2_begin wsX2_count := goodIn_r _ [16, 17, 18, 19, 20, 21, 22, 23, 24, 25, 26, 27, 28, 29] (by decide +kernel) (by decide +kernel)
set_option maxRecDepth 20000 in
theorem gX2_begin_X2_count : GoodIn wsX2_begin (wsV RX2 92 RX2 yX2_count wsX2_count) := goodIn_app (goodIn_of _ (by decide +kernel)) ggX2_begin_X2_count
theorem dX2_begin_0 : decode cX2_begin 0 = .ok (.aload_n 0, 1) := by decide +kernel
theorem dX2_begin_1 : decode cX2_begin 1 = .ok (.invokevirtual 89, 3) := by decide +kernel
theorem dX2_begin_4 : decode cX2_begin 4 = .ok (.aload_n 0, 1) := by decide +kernel
theorem dX2_begin_5 : decode cX2_begin 5 = .ok (.iconst 1, 1) := by decide +kernel
theorem dX2_begin_6 : decode cX2_begin 6 = .ok (.putfield 35, 3) := by decide +kernel
theorem dX2_begin_9 : decode cX2_begin 9 = .ok (.aload_n 0, 1) := by decide +kernel
theorem dX2_begin_10 : decode cX2_begin 10 = .ok (.iload_n 1, 1) := by decide +kernel
theorem dX2_begin_11 : decode cX2_begin 11 = .ok (.putfield 38, 3) := by decide +kernel
theorem dX2_begin_14 : decode cX2_begin 14 = .ok (.aload_n 0, 1) := by decide +kernel
theorem dX2_begin_15 : decode cX2_begin 15 = .ok (.iload_n 2, 1) := by decide +kernel
theorem dX2_begin_16 : decode cX2_begin 16 = .ok (.putfield 41, 3) := by decide +kernel
theorem dX2_begin_19 : decode cX2_begin 19 = .ok (.aload_n 0, 1) := by decide +kernel
theorem dX2_begin_20 : decode cX2_begin 20 = .ok (.iload_n 3, 1) := by decide +kernel
theorem dX2_begin_21 : decode cX2_begin 21 = .ok (.putfield 44, 3) := by decide +kernel
theorem dX2_begin_24 : decode cX2_begin 24 = .ok (.aload_n 0, 1) := by decide +kernel
theorem dX2_begin_25 : decode cX2_begin 25 = .ok (.iconst 0, 1) := by decide +kernel
theorem dX2_begin_26 : decode cX2_begin 26 = .ok (.invokevirtual 92, 3) := by decide +kernel
theorem dX2_begin_29 : decode cX2_begin 29 = .ok (.return_, 1) := by decide +kernel
theorem dX2_endWithoutGame_0 : decode cX2_endWithoutGame 0 = .ok (.aload_n 0, 1) := by decide +kernel
theorem dX2_endWithoutGame_1 : decode cX2_endWithoutGame 1 = .ok (.iconst 0, 1) := by decide +kernel
theorem dX2_endWithoutGame_2 : decode cX2_endWithoutGame 2 = .ok (.putfield 35, 3) := by decide +kernel
theorem dX2_endWithoutGame_5 : decode cX2_endWithoutGame 5 = .ok (.aload_n 0, 1) := by decide +kernel
theorem dX2_endWithoutGame_6 : decode cX2_endWithoutGame 6 = .ok (.iconst 0, 1) := by decide +kernel
theorem dX2_endWithoutGame_7 : decode cX2_endWithoutGame 7 = .ok (.putfield 38, 3) := by decide +kernel
theorem dX2_endWithoutGame_10 : decode cX2_endWithoutGame 10 = .ok (.aload_n 0, 1) := by decide +kernel
theorem dX2_endWithoutGame_11 : decode cX2_endWithoutGame 11 = .ok (.iconst 0, 1) := by decide +kernel
theorem dX2_endWithoutGame_12 : decode cX2_endWithoutGame 12 = .ok (.putfield 41, 3) := by decide +kernel
theorem dX2_endWithoutGame_15 : decode cX2_endWithoutGame 15 = .ok (.aload_n 0, 1) := by decide +kernel
theorem dX2_endWithoutGame_16 : decode cX2_endWithoutGame 16 = .ok (.iconst 0, 1) := by decide +kernel
theorem dX2_endWithoutGame_17 : decode cX2_endWithoutGame 17 = .ok (.putfield 44, 3) := by decide +kernel
theorem dX2_endWithoutGame_20 : decode cX2_endWithoutGame 20 = .ok (.aload_n 0, 1) := by decide +kernel
theorem dX2_endWithoutGame_21 : decode cX2_endWithoutGame 21 = .ok (.iconst 0, 1) := by decide +kernel
theorem dX2_endWithoutGame_22 : decode cX2_endWithoutGame 22 = .ok (.putfield 47, 3) := by decide +kernel
theorem dX2_endWithoutGame_25 : decode cX2_endWithoutGame 25 = .ok (.aload_n 0, 1) := by decide +kernel
theorem dX2_endWithoutGame_26 : decode cX2_endWithoutGame 26 = .ok (.iconst 0, 1) := by decide +kernel
theorem dX2_endWithoutGame_27 : decode cX2_endWithoutGame 27 = .ok (.putfield 50, 3) := by decide +kernel
theorem dX2_endWithoutGame_30 : decode cX2_endWithoutGame 30 = .ok (.aload_n 0, 1) := by decide +kernel
theorem dX2_endWithoutGame_31 : decode cX2_endWithoutGame 31 = .ok (.lconst 0, 1) := by decide +kernel
theorem dX2_endWithoutGame_32 : decode cX2_endWithoutGame 32 = .ok (.putfield 53, 3) := by decide +kernel
theorem dX2_endWithoutGame_35 : decode cX2_endWithoutGame 35 = .ok (.return_, 1) := by decide +kernel
set_option maxRecDepth 20000 in
theorem ggX2_takeLetter_X2_noteGuess : GoodIn wsX2_takeLetter wsX2_noteGuess := goodIn_r _ [8, 9, 10, 11, 12, 13, 14, 15, 16, 17, 18, 19, 20, 7, 21, 22, 50, 51, 52, 53, 54, 55, 56, 57, 58, 59, 60, 61] (by decide +kernel) (by decide +kernel)
set_option maxRecDepth 20000 in
theorem gX2_takeLetter_X2_noteGuess : GoodIn wsX2_takeLetter (wsV RX2 96 RX2 yX2_noteGuess wsX2_noteGuess) := goodIn_app (goodIn_of _ (by decide +kernel)) ggX2_takeLetter_X2_noteGuess
set_option maxRecDepth 20000 in
theorem ggX2_takeLetter_X2_miss : GoodIn wsX2_takeLetter wsX2_miss := goodIn_r _ [26, 27, 18, 19, 20, 7, 21, 22, 28, 29, 30, 31, 32, 50, 51, 52, 53, 54, 55, 56, 57, 58, 59, 60, 61] (by decide +kernel) (by decide +kernel)
set_option maxRecDepth 20000 in
theorem gX2_takeLetter_X2_miss : GoodIn wsX2_takeLetter (wsV RX2 99 RX2 yX2_miss wsX2_miss) := goodIn_app (goodIn_of _ (by decide +kernel)) ggX2_takeLetter_X2_miss
set_option maxRecDepth 20000 in
theorem ggX2_takeLetter_X4_withLetter : GoodIn wsX2_takeLetter wsX4_withLetter := goodIn_r _ [36, 16, 13, 17, 37, 38, 35, 39] (by decide +kernel) (by decide +kernel)
set_option maxRecDepth 20000 in
theorem gX2_takeLetter_X4_withLetter : GoodIn wsX2_takeLetter (va_wsS RX2 103 yX4_withLetter wsX4_withLetter) := goodIn_app (goodIn_of _ (by decide +kernel)) ggX2_takeLetter_X4_withLetter
set_option maxRecDepth 20000 in
theorem ggX2_takeLetter_X4_lengthOf : GoodIn wsX2_takeLetter wsX4_lengthOf := goodIn_r _ [42, 43, 44, 35, 45, 37, 38, 39] (by decide +kernel) (by decide +kernel)
set_option maxRecDepth 20000 in
theorem gX2_takeLetter_X4_lengthOf : GoodIn wsX2_takeLetter (va_wsS RX2 71 yX4_lengthOf wsX4_lengthOf) := goodIn_app (goodIn_of _ (by decide +kernel)) ggX2_takeLetter_X4_lengthOf
set_option maxRecDepth 20000 in
theorem ggX2_takeLetter_X2_win : GoodIn wsX2_takeLetter wsX2_win := goodIn_r _ [49, 32, 18, 19, 20, 7, 21, 22, 50, 51, 52, 53, 54, 55, 56, 57, 58, 59, 60, 61] (by decide +kernel) (by decide +kernel)
set_option maxRecDepth 20000 in
theorem gX2_takeLetter_X2_win : GoodIn wsX2_takeLetter (wsV RX2 107 RX2 yX2_win wsX2_win) := goodIn_app (goodIn_of _ (by decide +kernel)) ggX2_takeLetter_X2_win
theorem dX2_takeLetter_0 : decode cX2_takeLetter 0 = .ok (.aload_n 0, 1) := by decide +kernel
theorem dX2_takeLetter_1 : decode cX2_takeLetter 1 = .ok (.iload_n 1, 1) := by decide +kernel
theorem dX2_takeLetter_2 : decode cX2_takeLetter 2 = .ok (.invokevirtual 96, 3) := by decide +kernel
theorem dX2_takeLetter_5 : decode cX2_takeLetter 5 = .ok (.iload_n 3, 1) := by decide +kernel
theorem dX2_takeLetter_6 : decode cX2_takeLetter 6 = .ok (.aload_n 0, 1) := by decide +kernel
theorem dX2_takeLetter_7 : decode cX2_takeLetter 7 = .ok (.getfield 44, 3) := by decide +kernel
theorem dX2_takeLetter_10 : decode cX2_takeLetter 10 = .ok (.if_icmp .eq 7, 3) := by decide +kernel
theorem dX2_takeLetter_13 : decode cX2_takeLetter 13 = .ok (.iconst 1, 1) := by decide +kernel
theorem dX2_takeLetter_14 : decode cX2_takeLetter 14 = .ok (.goto 4, 3) := by decide +kernel
theorem dX2_takeLetter_17 : decode cX2_takeLetter 17 = .ok (.iconst 0, 1) := by decide +kernel
theorem dX2_takeLetter_18 : decode cX2_takeLetter 18 = .ok (.istore 4, 2) := by decide +kernel
theorem dX2_takeLetter_20 : decode cX2_takeLetter 20 = .ok (.aload_n 0, 1) := by decide +kernel
theorem dX2_takeLetter_21 : decode cX2_takeLetter 21 = .ok (.iload_n 3, 1) := by decide +kernel
theorem dX2_takeLetter_22 : decode cX2_takeLetter 22 = .ok (.putfield 44, 3) := by decide +kernel
theorem dX2_takeLetter_25 : decode cX2_takeLetter 25 = .ok (.iload_n 2, 1) := by decide +kernel
theorem dX2_takeLetter_26 : decode cX2_takeLetter 26 = .ok (.ifCond .ne 10, 3) := by decide +kernel
theorem dX2_takeLetter_29 : decode cX2_takeLetter 29 = .ok (.aload_n 0, 1) := by decide +kernel
theorem dX2_takeLetter_30 : decode cX2_takeLetter 30 = .ok (.iload 4, 2) := by decide +kernel
theorem dX2_takeLetter_32 : decode cX2_takeLetter 32 = .ok (.invokevirtual 99, 3) := by decide +kernel
theorem dX2_takeLetter_35 : decode cX2_takeLetter 35 = .ok (.return_, 1) := by decide +kernel
theorem dX2_takeLetter_36 : decode cX2_takeLetter 36 = .ok (.iconst 0, 1) := by decide +kernel
theorem dX2_takeLetter_37 : decode cX2_takeLetter 37 = .ok (.istore 5, 2) := by decide +kernel
theorem dX2_takeLetter_39 : decode cX2_takeLetter 39 = .ok (.iload 5, 2) := by decide +kernel
theorem dX2_takeLetter_41 : decode cX2_takeLetter 41 = .ok (.aload_n 0, 1) := by decide +kernel
theorem dX2_takeLetter_42 : decode cX2_takeLetter 42 = .ok (.getfield 38, 3) := by decide +kernel
theorem dX2_takeLetter_45 : decode cX2_takeLetter 45 = .ok (.if_icmp .ge 32, 3) := by decide +kernel
theorem dX2_takeLetter_48 : decode cX2_takeLetter 48 = .ok (.iload_n 2, 1) := by decide +kernel
theorem dX2_takeLetter_49 : decode cX2_takeLetter 49 = .ok (.iload 5, 2) := by decide +kernel
theorem dX2_takeLetter_51 : decode cX2_takeLetter 51 = .ok (.ishr, 1) := by decide +kernel
theorem dX2_takeLetter_52 : decode cX2_takeLetter 52 = .ok (.iconst 1, 1) := by decide +kernel
theorem dX2_takeLetter_53 : decode cX2_takeLetter 53 = .ok (.iand, 1) := by decide +kernel
theorem dX2_takeLetter_54 : decode cX2_takeLetter 54 = .ok (.ifCond .eq 17, 3) := by decide +kernel
theorem dX2_takeLetter_57 : decode cX2_takeLetter 57 = .ok (.aload_n 0, 1) := by decide +kernel
theorem dX2_takeLetter_58 : decode cX2_takeLetter 58 = .ok (.aload_n 0, 1) := by decide +kernel
theorem dX2_takeLetter_59 : decode cX2_takeLetter 59 = .ok (.getfield 53, 3) := by decide +kernel
theorem dX2_takeLetter_62 : decode cX2_takeLetter 62 = .ok (.iload 5, 2) := by decide +kernel
theorem dX2_takeLetter_64 : decode cX2_takeLetter 64 = .ok (.iload_n 1, 1) := by decide +kernel
theorem dX2_takeLetter_65 : decode cX2_takeLetter 65 = .ok (.invokestatic 103, 3) := by decide +kernel
theorem dX2_takeLetter_68 : decode cX2_takeLetter 68 = .ok (.putfield 53, 3) := by decide +kernel
theorem dX2_takeLetter_71 : decode cX2_takeLetter 71 = .ok (.iinc 5 1, 3) := by decide +kernel
theorem dX2_takeLetter_74 : decode cX2_takeLetter 74 = .ok (.goto (-35), 3) := by decide +kernel
theorem dX2_takeLetter_77 : decode cX2_takeLetter 77 = .ok (.aload_n 0, 1) := by decide +kernel
theorem dX2_takeLetter_78 : decode cX2_takeLetter 78 = .ok (.getfield 53, 3) := by decide +kernel
theorem dX2_takeLetter_81 : decode cX2_takeLetter 81 = .ok (.invokestatic 71, 3) := by decide +kernel
theorem dX2_takeLetter_84 : decode cX2_takeLetter 84 = .ok (.aload_n 0, 1) := by decide +kernel
theorem dX2_takeLetter_85 : decode cX2_takeLetter 85 = .ok (.getfield 38, 3) := by decide +kernel
theorem dX2_takeLetter_88 : decode cX2_takeLetter 88 = .ok (.if_icmp .ne 7, 3) := by decide +kernel
theorem dX2_takeLetter_91 : decode cX2_takeLetter 91 = .ok (.aload_n 0, 1) := by decide +kernel
theorem dX2_takeLetter_92 : decode cX2_takeLetter 92 = .ok (.invokevirtual 107, 3) := by decide +kernel
theorem dX2_takeLetter_95 : decode cX2_takeLetter 95 = .ok (.return_, 1) := by decide +kernel
set_option maxRecDepth 20000 in
theorem ggX2_noteGuess_X5_bitOf : GoodIn wsX2_noteGuess wsX5_bitOf := goodIn_r _ [6, 7, 8, 5, 9] (by decide +kernel) (by decide +kernel)
set_option maxRecDepth 20000 in
theorem gX2_noteGuess_X5_bitOf_n74 : GoodIn wsX2_noteGuess (wsX5_bitOf) := ggX2_noteGuess_X5_bitOf
set_option maxRecDepth 20000 in
theorem ggX2_noteGuess_X2_count : GoodIn wsX2_noteGuess wsX2_count := goodIn_r _ [14, 15, 16, 17, 18, 19, 20, 21, 22, 23, 24, 25, 26, 27] (by decide +kernel) (by decide +kernel)
set_option maxRecDepth 20000 in
theorem gX2_noteGuess_X2_count : GoodIn wsX2_noteGuess (wsV RX2 92 RX2 yX2_count wsX2_count) := goodIn_app (goodIn_of _ (by decide +kernel)) ggX2_noteGuess_X2_count
theorem dX2_noteGuess_0 : decode cX2_noteGuess 0 = .ok (.aload_n 0, 1) := by decide +kernel
theorem dX2_noteGuess_1 : decode cX2_noteGuess 1 = .ok (.getfield 50, 3) := by decide +kernel
theorem dX2_noteGuess_4 : decode cX2_noteGuess 4 = .ok (.ifCond .lt 32, 3) := by decide +kernel
theorem dX2_noteGuess_7 : decode cX2_noteGuess 7 = .ok (.aload_n 0, 1) := by decide +kernel
theorem dX2_noteGuess_8 : decode cX2_noteGuess 8 = .ok (.getfield 50, 3) := by decide +kernel
theorem dX2_noteGuess_11 : decode cX2_noteGuess 11 = .ok (.bipush 26, 2) := by decide +kernel
theorem dX2_noteGuess_13 : decode cX2_noteGuess 13 = .ok (.if_icmp .ge 23, 3) := by decide +kernel
theorem dX2_noteGuess_16 : decode cX2_noteGuess 16 = .ok (.aload_n 0, 1) := by decide +kernel
theorem dX2_noteGuess_17 : decode cX2_noteGuess 17 = .ok (.getfield 15, 3) := by decide +kernel
theorem dX2_noteGuess_20 : decode cX2_noteGuess 20 = .ok (.aload_n 0, 1) := by decide +kernel
theorem dX2_noteGuess_21 : decode cX2_noteGuess 21 = .ok (.getfield 50, 3) := by decide +kernel
theorem dX2_noteGuess_24 : decode cX2_noteGuess 24 = .ok (.iload_n 1, 1) := by decide +kernel
theorem dX2_noteGuess_25 : decode cX2_noteGuess 25 = .ok (.iastore, 1) := by decide +kernel
theorem dX2_noteGuess_26 : decode cX2_noteGuess 26 = .ok (.aload_n 0, 1) := by decide +kernel
theorem dX2_noteGuess_27 : decode cX2_noteGuess 27 = .ok (.dup, 1) := by decide +kernel
theorem dX2_noteGuess_28 : decode cX2_noteGuess 28 = .ok (.getfield 50, 3) := by decide +kernel
theorem dX2_noteGuess_31 : decode cX2_noteGuess 31 = .ok (.iconst 1, 1) := by decide +kernel
theorem dX2_noteGuess_32 : decode cX2_noteGuess 32 = .ok (.iadd, 1) := by decide +kernel
theorem dX2_noteGuess_33 : decode cX2_noteGuess 33 = .ok (.putfield 50, 3) := by decide +kernel
theorem dX2_noteGuess_36 : decode cX2_noteGuess 36 = .ok (.aload_n 0, 1) := by decide +kernel
theorem dX2_noteGuess_37 : decode cX2_noteGuess 37 = .ok (.dup, 1) := by decide +kernel
theorem dX2_noteGuess_38 : decode cX2_noteGuess 38 = .ok (.getfield 47, 3) := by decide +kernel
theorem dX2_noteGuess_41 : decode cX2_noteGuess 41 = .ok (.iload_n 1, 1) := by decide +kernel
theorem dX2_noteGuess_42 : decode cX2_noteGuess 42 = .ok (.invokestatic 74, 3) := by decide +kernel
theorem dX2_noteGuess_45 : decode cX2_noteGuess 45 = .ok (.ior, 1) := by decide +kernel
theorem dX2_noteGuess_46 : decode cX2_noteGuess 46 = .ok (.putfield 47, 3) := by decide +kernel
theorem dX2_noteGuess_49 : decode cX2_noteGuess 49 = .ok (.aload_n 0, 1) := by decide +kernel
theorem dX2_noteGuess_50 : decode cX2_noteGuess 50 = .ok (.iconst 3, 1) := by decide +kernel
theorem dX2_noteGuess_51 : decode cX2_noteGuess 51 = .ok (.invokevirtual 92, 3) := by decide +kernel
theorem dX2_noteGuess_54 : decode cX2_noteGuess 54 = .ok (.return_, 1) := by decide +kernel
set_option maxRecDepth 20000 in
theorem ggX2_takeWord_X2_count : GoodIn wsX2_takeWord wsX2_count := goodIn_r _ [7, 8, 41, 42, 43, 44, 45, 46, 47, 48, 49, 50, 51, 52] (by decide +kernel) (by decide +kernel)
set_option maxRecDepth 20000 in
theorem gX2_takeWord_X2_count : GoodIn wsX2_takeWord (wsV RX2 92 RX2 yX2_count wsX2_count) := goodIn_app (goodIn_of _ (by decide +kernel)) ggX2_takeWord_X2_count
set_option maxRecDepth 20000 in
theorem ggX2_takeWord_X2_numberOf : GoodIn wsX2_takeWord wsX2_numberOf := goodIn_r _ [12, 13, 14, 15, 16, 6, 17, 18, 19, 20, 21, 22, 41, 42, 43, 44, 45, 46, 47, 48, 49, 50, 51, 52] (by decide +kernel) (by decide +kernel)
set_option maxRecDepth 20000 in
theorem gX2_takeWord_X2_numberOf : GoodIn wsX2_takeWord (wsV RX2 63 RX2 yX2_numberOf wsX2_numberOf) := goodIn_app (goodIn_of _ (by decide +kernel)) ggX2_takeWord_X2_numberOf
set_option maxRecDepth 20000 in
theorem ggX2_takeWord_X2_isCandidate : GoodIn wsX2_takeWord wsX2_isCandidate := goodIn_r _ [26, 1, 19, 20, 21, 6, 22, 13, 41, 42, 43, 44, 45, 46, 47, 48, 49, 50, 51, 52] (by decide +kernel) (by decide +kernel)
set_option maxRecDepth 20000 in
theorem gX2_takeWord_X2_isCandidate : GoodIn wsX2_takeWord (wsV RX2 78 RX2 yX2_isCandidate wsX2_isCandidate) := goodIn_app (goodIn_of _ (by decide +kernel)) ggX2_takeWord_X2_isCandidate
set_option maxRecDepth 20000 in
theorem ggX2_takeWord_X2_win : GoodIn wsX2_takeWord wsX2_win := goodIn_r _ [30, 31, 3, 4, 5, 6, 7, 8, 41, 42, 43, 44, 45, 46, 47, 48, 49, 50, 51, 52] (by decide +kernel) (by decide +kernel)
set_option maxRecDepth 20000 in
theorem gX2_takeWord_X2_win : GoodIn wsX2_takeWord (wsV RX2 107 RX2 yX2_win wsX2_win) := goodIn_app (goodIn_of _ (by decide +kernel)) ggX2_takeWord_X2_win
set_option maxRecDepth 20000 in
theorem ggX2_takeWord_X2_miss : GoodIn wsX2_takeWord wsX2_miss := goodIn_r _ [35, 36, 3, 4, 5, 6, 7, 8, 37, 38, 39, 40, 31, 41, 42, 43, 44, 45, 46, 47, 48, 49, 50, 51, 52] (by decide +kernel) (by decide +kernel)
set_option maxRecDepth 20000 in
theorem gX2_takeWord_X2_miss : GoodIn wsX2_takeWord (wsV RX2 99 RX2 yX2_miss wsX2_miss) := goodIn_app (goodIn_of _ (by decide +kernel)) ggX2_takeWord_X2_miss
theorem dX2_takeWord_0 : decode cX2_takeWord 0 = .ok (.aload_n 0, 1) := by decide +kernel
theorem dX2_takeWord_1 : decode cX2_takeWord 1 = .ok (.iconst 4, 1) := by decide +kernel
theorem dX2_takeWord_2 : decode cX2_takeWord 2 = .ok (.invokevirtual 92, 3) := by decide +kernel
theorem dX2_takeWord_5 : decode cX2_takeWord 5 = .ok (.aload_n 0, 1) := by decide +kernel
theorem dX2_takeWord_6 : decode cX2_takeWord 6 = .ok (.lload_n 1, 1) := by decide +kernel
theorem dX2_takeWord_7 : decode cX2_takeWord 7 = .ok (.invokevirtual 63, 3) := by decide +kernel
theorem dX2_takeWord_10 : decode cX2_takeWord 10 = .ok (.istore_n 3, 1) := by decide +kernel
theorem dX2_takeWord_11 : decode cX2_takeWord 11 = .ok (.aload_n 0, 1) := by decide +kernel
theorem dX2_takeWord_12 : decode cX2_takeWord 12 = .ok (.iload_n 3, 1) := by decide +kernel
theorem dX2_takeWord_13 : decode cX2_takeWord 13 = .ok (.invokevirtual 78, 3) := by decide +kernel
theorem dX2_takeWord_16 : decode cX2_takeWord 16 = .ok (.ifCond .eq 9, 3) := by decide +kernel
theorem dX2_takeWord_19 : decode cX2_takeWord 19 = .ok (.iconst 1, 1) := by decide +kernel
theorem dX2_takeWord_20 : decode cX2_takeWord 20 = .ok (.iload_n 3, 1) := by decide +kernel
theorem dX2_takeWord_21 : decode cX2_takeWord 21 = .ok (.ishl, 1) := by decide +kernel
theorem dX2_takeWord_22 : decode cX2_takeWord 22 = .ok (.goto 4, 3) := by decide +kernel
theorem dX2_takeWord_25 : decode cX2_takeWord 25 = .ok (.iconst 0, 1) := by decide +kernel
theorem dX2_takeWord_26 : decode cX2_takeWord 26 = .ok (.istore 4, 2) := by decide +kernel
theorem dX2_takeWord_28 : decode cX2_takeWord 28 = .ok (.iload 4, 2) := by decide +kernel
theorem dX2_takeWord_30 : decode cX2_takeWord 30 = .ok (.ifCond .eq 24, 3) := by decide +kernel
theorem dX2_takeWord_33 : decode cX2_takeWord 33 = .ok (.iload 4, 2) := by decide +kernel
theorem dX2_takeWord_35 : decode cX2_takeWord 35 = .ok (.aload_n 0, 1) := by decide +kernel
theorem dX2_takeWord_36 : decode cX2_takeWord 36 = .ok (.getfield 44, 3) := by decide +kernel
theorem dX2_takeWord_39 : decode cX2_takeWord 39 = .ok (.if_icmp .ne 15, 3) := by decide +kernel
theorem dX2_takeWord_42 : decode cX2_takeWord 42 = .ok (.aload_n 0, 1) := by decide +kernel
theorem dX2_takeWord_43 : decode cX2_takeWord 43 = .ok (.lload_n 1, 1) := by decide +kernel
theorem dX2_takeWord_44 : decode cX2_takeWord 44 = .ok (.putfield 53, 3) := by decide +kernel
theorem dX2_takeWord_47 : decode cX2_takeWord 47 = .ok (.aload_n 0, 1) := by decide +kernel
theorem dX2_takeWord_48 : decode cX2_takeWord 48 = .ok (.invokevirtual 107, 3) := by decide +kernel
theorem dX2_takeWord_51 : decode cX2_takeWord 51 = .ok (.goto 30, 3) := by decide +kernel
theorem dX2_takeWord_54 : decode cX2_takeWord 54 = .ok (.aload_n 0, 1) := by decide +kernel
theorem dX2_takeWord_55 : decode cX2_takeWord 55 = .ok (.dup, 1) := by decide +kernel
theorem dX2_takeWord_56 : decode cX2_takeWord 56 = .ok (.getfield 44, 3) := by decide +kernel
theorem dX2_takeWord_59 : decode cX2_takeWord 59 = .ok (.iload 4, 2) := by decide +kernel
theorem dX2_takeWord_61 : decode cX2_takeWord 61 = .ok (.iconst (-1), 1) := by decide +kernel
theorem dX2_takeWord_62 : decode cX2_takeWord 62 = .ok (.ixor, 1) := by decide +kernel
theorem dX2_takeWord_63 : decode cX2_takeWord 63 = .ok (.iand, 1) := by decide +kernel
theorem dX2_takeWord_64 : decode cX2_takeWord 64 = .ok (.putfield 44, 3) := by decide +kernel
theorem dX2_takeWord_67 : decode cX2_takeWord 67 = .ok (.aload_n 0, 1) := by decide +kernel
theorem dX2_takeWord_68 : decode cX2_takeWord 68 = .ok (.iload 4, 2) := by decide +kernel
theorem dX2_takeWord_70 : decode cX2_takeWord 70 = .ok (.ifCond .eq 7, 3) := by decide +kernel
theorem dX2_takeWord_73 : decode cX2_takeWord 73 = .ok (.iconst 1, 1) := by decide +kernel
theorem dX2_takeWord_74 : decode cX2_takeWord 74 = .ok (.goto 4, 3) := by decide +kernel
theorem dX2_takeWord_77 : decode cX2_takeWord 77 = .ok (.iconst 0, 1) := by decide +kernel
theorem dX2_takeWord_78 : decode cX2_takeWord 78 = .ok (.invokevirtual 99, 3) := by decide +kernel
theorem dX2_takeWord_81 : decode cX2_takeWord 81 = .ok (.return_, 1) := by decide +kernel
set_option maxRecDepth 20000 in
theorem ggX2_miss_X2_count : GoodIn wsX2_miss wsX2_count := goodIn_r _ [6, 7, 13, 14, 15, 16, 17, 18, 19, 20, 21, 22, 23, 24] (by decide +kernel) (by decide +kernel)
set_option maxRecDepth 20000 in
theorem gX2_miss_X2_count : GoodIn wsX2_miss (wsV RX2 92 RX2 yX2_count wsX2_count) := goodIn_app (goodIn_of _ (by decide +kernel)) ggX2_miss_X2_count
set_option maxRecDepth 20000 in
theorem ggX2_miss_X2_lose : GoodIn wsX2_miss wsX2_lose := goodIn_r _ [11, 12, 2, 3, 4, 5, 6, 7, 13, 14, 15, 16, 17, 18, 19, 20, 21, 22, 23, 24] (by decide +kernel) (by decide +kernel)
set_option maxRecDepth 20000 in
theorem gX2_miss_X2_lose : GoodIn wsX2_miss (wsV RX2 110 RX2 yX2_lose wsX2_lose) := goodIn_app (goodIn_of _ (by decide +kernel)) ggX2_miss_X2_lose
theorem dX2_miss_0 : decode cX2_miss 0 = .ok (.aload_n 0, 1) := by decide +kernel
theorem dX2_miss_1 : decode cX2_miss 1 = .ok (.iconst 5, 1) := by decide +kernel
theorem dX2_miss_2 : decode cX2_miss 2 = .ok (.invokevirtual 92, 3) := by decide +kernel
theorem dX2_miss_5 : decode cX2_miss 5 = .ok (.iload_n 1, 1) := by decide +kernel
theorem dX2_miss_6 : decode cX2_miss 6 = .ok (.ifCond .eq 9, 3) := by decide +kernel
theorem dX2_miss_9 : decode cX2_miss 9 = .ok (.aload_n 0, 1) := by decide +kernel
theorem dX2_miss_10 : decode cX2_miss 10 = .ok (.bipush 6, 2) := by decide +kernel
theorem dX2_miss_12 : decode cX2_miss 12 = .ok (.invokevirtual 92, 3) := by decide +kernel
theorem dX2_miss_15 : decode cX2_miss 15 = .ok (.aload_n 0, 1) := by decide +kernel
theorem dX2_miss_16 : decode cX2_miss 16 = .ok (.dup, 1) := by decide +kernel
theorem dX2_miss_17 : decode cX2_miss 17 = .ok (.getfield 41, 3) := by decide +kernel
theorem dX2_miss_20 : decode cX2_miss 20 = .ok (.iconst 1, 1) := by decide +kernel
theorem dX2_miss_21 : decode cX2_miss 21 = .ok (.isub, 1) := by decide +kernel
theorem dX2_miss_22 : decode cX2_miss 22 = .ok (.putfield 41, 3) := by decide +kernel
theorem dX2_miss_25 : decode cX2_miss 25 = .ok (.aload_n 0, 1) := by decide +kernel
theorem dX2_miss_26 : decode cX2_miss 26 = .ok (.getfield 41, 3) := by decide +kernel
theorem dX2_miss_29 : decode cX2_miss 29 = .ok (.ifCond .ne 7, 3) := by decide +kernel
theorem dX2_miss_32 : decode cX2_miss 32 = .ok (.aload_n 0, 1) := by decide +kernel
theorem dX2_miss_33 : decode cX2_miss 33 = .ok (.invokevirtual 110, 3) := by decide +kernel
theorem dX2_miss_36 : decode cX2_miss 36 = .ok (.return_, 1) := by decide +kernel
set_option maxRecDepth 20000 in
theorem ggX2_win_X2_count : GoodIn wsX2_win wsX2_count := goodIn_r _ [6, 7, 8, 9, 10, 11, 12, 13, 14, 15, 16, 17, 18, 19] (by decide +kernel) (by decide +kernel)
set_option maxRecDepth 20000 in
theorem gX2_win_X2_count : GoodIn wsX2_win (wsV RX2 92 RX2 yX2_count wsX2_count) := goodIn_app (goodIn_of _ (by decide +kernel)) ggX2_win_X2_count
theorem dX2_win_0 : decode cX2_win 0 = .ok (.aload_n 0, 1) := by decide +kernel
theorem dX2_win_1 : decode cX2_win 1 = .ok (.iconst 2, 1) := by decide +kernel
theorem dX2_win_2 : decode cX2_win 2 = .ok (.putfield 35, 3) := by decide +kernel
theorem dX2_win_5 : decode cX2_win 5 = .ok (.aload_n 0, 1) := by decide +kernel
theorem dX2_win_6 : decode cX2_win 6 = .ok (.iconst 1, 1) := by decide +kernel
theorem dX2_win_7 : decode cX2_win 7 = .ok (.invokevirtual 92, 3) := by decide +kernel
theorem dX2_win_10 : decode cX2_win 10 = .ok (.return_, 1) := by decide +kernel
set_option maxRecDepth 20000 in
theorem ggX2_lose_X2_count : GoodIn wsX2_lose wsX2_count := goodIn_r _ [6, 7, 8, 9, 10, 11, 12, 13, 14, 15, 16, 17, 18, 19] (by decide +kernel) (by decide +kernel)
set_option maxRecDepth 20000 in
theorem gX2_lose_X2_count : GoodIn wsX2_lose (wsV RX2 92 RX2 yX2_count wsX2_count) := goodIn_app (goodIn_of _ (by decide +kernel)) ggX2_lose_X2_count
theorem dX2_lose_0 : decode cX2_lose 0 = .ok (.aload_n 0, 1) := by decide +kernel
theorem dX2_lose_1 : decode cX2_lose 1 = .ok (.iconst 3, 1) := by decide +kernel
theorem dX2_lose_2 : decode cX2_lose 2 = .ok (.putfield 35, 3) := by decide +kernel
theorem dX2_lose_5 : decode cX2_lose 5 = .ok (.aload_n 0, 1) := by decide +kernel
theorem dX2_lose_6 : decode cX2_lose 6 = .ok (.iconst 2, 1) := by decide +kernel
theorem dX2_lose_7 : decode cX2_lose 7 = .ok (.invokevirtual 92, 3) := by decide +kernel
theorem dX2_lose_10 : decode cX2_lose 10 = .ok (.return_, 1) := by decide +kernel
theorem dX3_init_0 : decode cX3_init 0 = .ok (.aload_n 0, 1) := by decide +kernel
theorem dX3_init_1 : decode cX3_init 1 = .ok (.invokespecial 3, 3) := by decide +kernel
theorem dX3_init_4 : decode cX3_init 4 = .ok (.aload_n 0, 1) := by decide +kernel
theorem dX3_init_5 : decode cX3_init 5 = .ok (.bipush 80, 2) := by decide +kernel
theorem dX3_init_7 : decode cX3_init 7 = .ok (.newarray .char, 2) := by decide +kernel
theorem dX3_init_9 : decode cX3_init 9 = .ok (.putfield 9, 3) := by decide +kernel
theorem dX3_init_12 : decode cX3_init 12 = .ok (.aload_n 0, 1) := by decide +kernel
theorem dX3_init_13 : decode cX3_init 13 = .ok (.bipush 27, 2) := by decide +kernel
theorem dX3_init_15 : decode cX3_init 15 = .ok (.newarray .long, 2) := by decide +kernel
theorem dX3_init_17 : decode cX3_init 17 = .ok (.putfield 15, 3) := by decide +kernel
theorem dX3_init_20 : decode cX3_init 20 = .ok (.return_, 1) := by decide +kernel
theorem dX3_append_0 : decode cX3_append 0 = .ok (.aload_n 0, 1) := by decide +kernel
theorem dX3_append_1 : decode cX3_append 1 = .ok (.getfield 19, 3) := by decide +kernel
theorem dX3_append_4 : decode cX3_append 4 = .ok (.ifCond .lt 12, 3) := by decide +kernel
theorem dX3_append_7 : decode cX3_append 7 = .ok (.aload_n 0, 1) := by decide +kernel
theorem dX3_append_8 : decode cX3_append 8 = .ok (.getfield 19, 3) := by decide +kernel
theorem dX3_append_11 : decode cX3_append 11 = .ok (.bipush 80, 2) := by decide +kernel
theorem dX3_append_13 : decode cX3_append 13 = .ok (.if_icmp .lt 5, 3) := by decide +kernel
theorem dX3_append_16 : decode cX3_append 16 = .ok (.iconst 0, 1) := by decide +kernel
theorem dX3_append_17 : decode cX3_append 17 = .ok (.ireturn, 1) := by decide +kernel
theorem dX3_append_18 : decode cX3_append 18 = .ok (.aload_n 0, 1) := by decide +kernel
theorem dX3_append_19 : decode cX3_append 19 = .ok (.getfield 9, 3) := by decide +kernel
theorem dX3_append_22 : decode cX3_append 22 = .ok (.aload_n 0, 1) := by decide +kernel
theorem dX3_append_23 : decode cX3_append 23 = .ok (.getfield 19, 3) := by decide +kernel
theorem dX3_append_26 : decode cX3_append 26 = .ok (.iload_n 1, 1) := by decide +kernel
theorem dX3_append_27 : decode cX3_append 27 = .ok (.castore, 1) := by decide +kernel
theorem dX3_append_28 : decode cX3_append 28 = .ok (.aload_n 0, 1) := by decide +kernel
theorem dX3_append_29 : decode cX3_append 29 = .ok (.dup, 1) := by decide +kernel
theorem dX3_append_30 : decode cX3_append 30 = .ok (.getfield 19, 3) := by decide +kernel
theorem dX3_append_33 : decode cX3_append 33 = .ok (.iconst 1, 1) := by decide +kernel
theorem dX3_append_34 : decode cX3_append 34 = .ok (.iadd, 1) := by decide +kernel
theorem dX3_append_35 : decode cX3_append 35 = .ok (.putfield 19, 3) := by decide +kernel
theorem dX3_append_38 : decode cX3_append 38 = .ok (.iconst 1, 1) := by decide +kernel
theorem dX3_append_39 : decode cX3_append 39 = .ok (.ireturn, 1) := by decide +kernel
theorem dX3_empty_0 : decode cX3_empty 0 = .ok (.aload_n 0, 1) := by decide +kernel
theorem dX3_empty_1 : decode cX3_empty 1 = .ok (.iconst 0, 1) := by decide +kernel
theorem dX3_empty_2 : decode cX3_empty 2 = .ok (.putfield 19, 3) := by decide +kernel
theorem dX3_empty_5 : decode cX3_empty 5 = .ok (.return_, 1) := by decide +kernel
theorem dX3_signAt_0 : decode cX3_signAt 0 = .ok (.iload_n 1, 1) := by decide +kernel
theorem dX3_signAt_1 : decode cX3_signAt 1 = .ok (.ifCond .lt 18, 3) := by decide +kernel
theorem dX3_signAt_4 : decode cX3_signAt 4 = .ok (.iload_n 1, 1) := by decide +kernel
theorem dX3_signAt_5 : decode cX3_signAt 5 = .ok (.bipush 80, 2) := by decide +kernel
theorem dX3_signAt_7 : decode cX3_signAt 7 = .ok (.if_icmp .ge 12, 3) := by decide +kernel
theorem dX3_signAt_10 : decode cX3_signAt 10 = .ok (.aload_n 0, 1) := by decide +kernel
theorem dX3_signAt_11 : decode cX3_signAt 11 = .ok (.getfield 9, 3) := by decide +kernel
theorem dX3_signAt_14 : decode cX3_signAt 14 = .ok (.iload_n 1, 1) := by decide +kernel
theorem dX3_signAt_15 : decode cX3_signAt 15 = .ok (.caload, 1) := by decide +kernel
theorem dX3_signAt_16 : decode cX3_signAt 16 = .ok (.goto 4, 3) := by decide +kernel
theorem dX3_signAt_19 : decode cX3_signAt 19 = .ok (.iconst 0, 1) := by decide +kernel
theorem dX3_signAt_20 : decode cX3_signAt 20 = .ok (.ireturn, 1) := by decide +kernel
set_option maxRecDepth 20000 in
theorem ggX3_firstError_X3_signAt : GoodIn wsX3_firstError wsX3_signAt := goodIn_r _ [6, 7, 11, 12, 13] (by decide +kernel) (by decide +kernel)
set_option maxRecDepth 20000 in
theorem gX3_firstError_X3_signAt : GoodIn wsX3_firstError (wsV RX3 23 RX3 yX3_signAt wsX3_signAt) := goodIn_app (goodIn_of _ (by decide +kernel)) ggX3_firstError_X3_signAt
set_option maxRecDepth 20000 in
theorem ggX3_firstError_X5_isLetter : GoodIn wsX3_firstError wsX5_isLetter := goodIn_r _ [10] (by decide +kernel) (by decide +kernel)
set_option maxRecDepth 20000 in
theorem gX3_firstError_X5_isLetter_n27 : GoodIn wsX3_firstError (wsX5_isLetter) := ggX3_firstError_X5_isLetter
theorem dX3_firstError_0 : decode cX3_firstError 0 = .ok (.iconst 0, 1) := by decide +kernel
theorem dX3_firstError_1 : decode cX3_firstError 1 = .ok (.istore_n 1, 1) := by decide +kernel
theorem dX3_firstError_2 : decode cX3_firstError 2 = .ok (.iconst 0, 1) := by decide +kernel
theorem dX3_firstError_3 : decode cX3_firstError 3 = .ok (.istore_n 2, 1) := by decide +kernel
theorem dX3_firstError_4 : decode cX3_firstError 4 = .ok (.iload_n 2, 1) := by decide +kernel
theorem dX3_firstError_5 : decode cX3_firstError 5 = .ok (.aload_n 0, 1) := by decide +kernel
theorem dX3_firstError_6 : decode cX3_firstError 6 = .ok (.getfield 19, 3) := by decide +kernel
theorem dX3_firstError_9 : decode cX3_firstError 9 = .ok (.if_icmp .ge 52, 3) := by decide +kernel
theorem dX3_firstError_12 : decode cX3_firstError 12 = .ok (.aload_n 0, 1) := by decide +kernel
theorem dX3_firstError_13 : decode cX3_firstError 13 = .ok (.iload_n 2, 1) := by decide +kernel
theorem dX3_firstError_14 : decode cX3_firstError 14 = .ok (.invokevirtual 23, 3) := by decide +kernel
theorem dX3_firstError_17 : decode cX3_firstError 17 = .ok (.istore_n 3, 1) := by decide +kernel
theorem dX3_firstError_18 : decode cX3_firstError 18 = .ok (.iload_n 3, 1) := by decide +kernel
theorem dX3_firstError_19 : decode cX3_firstError 19 = .ok (.bipush 44, 2) := by decide +kernel
theorem dX3_firstError_21 : decode cX3_firstError 21 = .ok (.if_icmp .ne 13, 3) := by decide +kernel
theorem dX3_firstError_24 : decode cX3_firstError 24 = .ok (.iload_n 1, 1) := by decide +kernel
theorem dX3_firstError_25 : decode cX3_firstError 25 = .ok (.iconst 2, 1) := by decide +kernel
theorem dX3_firstError_26 : decode cX3_firstError 26 = .ok (.if_icmp .lt 8, 3) := by decide +kernel
theorem dX3_firstError_29 : decode cX3_firstError 29 = .ok (.iconst 0, 1) := by decide +kernel
theorem dX3_firstError_30 : decode cX3_firstError 30 = .ok (.istore_n 1, 1) := by decide +kernel
theorem dX3_firstError_31 : decode cX3_firstError 31 = .ok (.goto 24, 3) := by decide +kernel
theorem dX3_firstError_34 : decode cX3_firstError 34 = .ok (.iload_n 3, 1) := by decide +kernel
theorem dX3_firstError_35 : decode cX3_firstError 35 = .ok (.invokestatic 27, 3) := by decide +kernel
theorem dX3_firstError_38 : decode cX3_firstError 38 = .ok (.ifCond .eq 15, 3) := by decide +kernel
theorem dX3_firstError_41 : decode cX3_firstError 41 = .ok (.iload_n 1, 1) := by decide +kernel
theorem dX3_firstError_42 : decode cX3_firstError 42 = .ok (.bipush 8, 2) := by decide +kernel
theorem dX3_firstError_44 : decode cX3_firstError 44 = .ok (.if_icmp .ge 9, 3) := by decide +kernel
theorem dX3_firstError_47 : decode cX3_firstError 47 = .ok (.iinc 1 1, 3) := by decide +kernel
theorem dX3_firstError_50 : decode cX3_firstError 50 = .ok (.goto 5, 3) := by decide +kernel
theorem dX3_firstError_53 : decode cX3_firstError 53 = .ok (.iload_n 2, 1) := by decide +kernel
theorem dX3_firstError_54 : decode cX3_firstError 54 = .ok (.ireturn, 1) := by decide +kernel
theorem dX3_firstError_55 : decode cX3_firstError 55 = .ok (.iinc 2 1, 3) := by decide +kernel
theorem dX3_firstError_58 : decode cX3_firstError 58 = .ok (.goto (-54), 3) := by decide +kernel
theorem dX3_firstError_61 : decode cX3_firstError 61 = .ok (.iload_n 1, 1) := by decide +kernel
theorem dX3_firstError_62 : decode cX3_firstError 62 = .ok (.iconst 2, 1) := by decide +kernel
theorem dX3_firstError_63 : decode cX3_firstError 63 = .ok (.if_icmp .ge 10, 3) := by decide +kernel
theorem dX3_firstError_66 : decode cX3_firstError 66 = .ok (.aload_n 0, 1) := by decide +kernel
theorem dX3_firstError_67 : decode cX3_firstError 67 = .ok (.getfield 19, 3) := by decide +kernel
theorem dX3_firstError_70 : decode cX3_firstError 70 = .ok (.goto 5, 3) := by decide +kernel
theorem dX3_firstError_73 : decode cX3_firstError 73 = .ok (.bipush (-6), 2) := by decide +kernel
theorem dX3_firstError_75 : decode cX3_firstError 75 = .ok (.ireturn, 1) := by decide +kernel
set_option maxRecDepth 20000 in
theorem ggX3_readWords_X3_signAt : GoodIn wsX3_readWords wsX3_signAt := goodIn_r _ [6, 7, 23, 24, 25] (by decide +kernel) (by decide +kernel)
set_option maxRecDepth 20000 in
theorem gX3_readWords_X3_signAt : GoodIn wsX3_readWords (wsV RX3 23 RX3 yX3_signAt wsX3_signAt) := goodIn_app (goodIn_of _ (by decide +kernel)) ggX3_readWords_X3_signAt
set_option maxRecDepth 20000 in
theorem ggX3_readWords_X3_keepRead : GoodIn wsX3_readWords wsX3_keepRead := goodIn_r _ [11, 12, 23, 24, 25] (by decide +kernel) (by decide +kernel)
set_option maxRecDepth 20000 in
theorem gX3_readWords_X3_keepRead : GoodIn wsX3_readWords (wsV RX3 33 RX3 yX3_keepRead wsX3_keepRead) := goodIn_app (goodIn_of _ (by decide +kernel)) ggX3_readWords_X3_keepRead
set_option maxRecDepth 20000 in
theorem ggX3_readWords_X4_withLetter : GoodIn wsX3_readWords wsX4_withLetter := goodIn_r _ [16, 17, 18, 19, 20, 21, 15, 22] (by decide +kernel) (by decide +kernel)
set_option maxRecDepth 20000 in
theorem gX3_readWords_X4_withLetter : GoodIn wsX3_readWords (va_wsS RX3 37 yX4_withLetter wsX4_withLetter) := goodIn_app (goodIn_of _ (by decide +kernel)) ggX3_readWords_X4_withLetter
theorem dX3_readWords_0 : decode cX3_readWords 0 = .ok (.iconst 0, 1) := by decide +kernel
theorem dX3_readWords_1 : decode cX3_readWords 1 = .ok (.istore_n 1, 1) := by decide +kernel
theorem dX3_readWords_2 : decode cX3_readWords 2 = .ok (.iconst 0, 1) := by decide +kernel
theorem dX3_readWords_3 : decode cX3_readWords 3 = .ok (.istore_n 2, 1) := by decide +kernel
theorem dX3_readWords_4 : decode cX3_readWords 4 = .ok (.lconst 0, 1) := by decide +kernel
theorem dX3_readWords_5 : decode cX3_readWords 5 = .ok (.lstore_n 3, 1) := by decide +kernel
theorem dX3_readWords_6 : decode cX3_readWords 6 = .ok (.iconst 0, 1) := by decide +kernel
theorem dX3_readWords_7 : decode cX3_readWords 7 = .ok (.istore 5, 2) := by decide +kernel
theorem dX3_readWords_9 : decode cX3_readWords 9 = .ok (.iload 5, 2) := by decide +kernel
theorem dX3_readWords_11 : decode cX3_readWords 11 = .ok (.aload_n 0, 1) := by decide +kernel
theorem dX3_readWords_12 : decode cX3_readWords 12 = .ok (.getfield 19, 3) := by decide +kernel
theorem dX3_readWords_15 : decode cX3_readWords 15 = .ok (.if_icmp .ge 49, 3) := by decide +kernel
theorem dX3_readWords_18 : decode cX3_readWords 18 = .ok (.aload_n 0, 1) := by decide +kernel
theorem dX3_readWords_19 : decode cX3_readWords 19 = .ok (.iload 5, 2) := by decide +kernel
theorem dX3_readWords_21 : decode cX3_readWords 21 = .ok (.invokevirtual 23, 3) := by decide +kernel
theorem dX3_readWords_24 : decode cX3_readWords 24 = .ok (.istore 6, 2) := by decide +kernel
theorem dX3_readWords_26 : decode cX3_readWords 26 = .ok (.iload 6, 2) := by decide +kernel
theorem dX3_readWords_28 : decode cX3_readWords 28 = .ok (.bipush 44, 2) := by decide +kernel
theorem dX3_readWords_30 : decode cX3_readWords 30 = .ok (.if_icmp .ne 17, 3) := by decide +kernel
theorem dX3_readWords_33 : decode cX3_readWords 33 = .ok (.aload_n 0, 1) := by decide +kernel
theorem dX3_readWords_34 : decode cX3_readWords 34 = .ok (.iload_n 1, 1) := by decide +kernel
theorem dX3_readWords_35 : decode cX3_readWords 35 = .ok (.lload_n 3, 1) := by decide +kernel
theorem dX3_readWords_36 : decode cX3_readWords 36 = .ok (.invokevirtual 33, 3) := by decide +kernel
theorem dX3_readWords_39 : decode cX3_readWords 39 = .ok (.istore_n 1, 1) := by decide +kernel
theorem dX3_readWords_40 : decode cX3_readWords 40 = .ok (.iconst 0, 1) := by decide +kernel
theorem dX3_readWords_41 : decode cX3_readWords 41 = .ok (.istore_n 2, 1) := by decide +kernel
theorem dX3_readWords_42 : decode cX3_readWords 42 = .ok (.lconst 0, 1) := by decide +kernel
theorem dX3_readWords_43 : decode cX3_readWords 43 = .ok (.lstore_n 3, 1) := by decide +kernel
theorem dX3_readWords_44 : decode cX3_readWords 44 = .ok (.goto 14, 3) := by decide +kernel
theorem dX3_readWords_47 : decode cX3_readWords 47 = .ok (.lload_n 3, 1) := by decide +kernel
theorem dX3_readWords_48 : decode cX3_readWords 48 = .ok (.iload_n 2, 1) := by decide +kernel
theorem dX3_readWords_49 : decode cX3_readWords 49 = .ok (.iload 6, 2) := by decide +kernel
theorem dX3_readWords_51 : decode cX3_readWords 51 = .ok (.invokestatic 37, 3) := by decide +kernel
theorem dX3_readWords_54 : decode cX3_readWords 54 = .ok (.lstore_n 3, 1) := by decide +kernel
theorem dX3_readWords_55 : decode cX3_readWords 55 = .ok (.iinc 2 1, 3) := by decide +kernel
theorem dX3_readWords_58 : decode cX3_readWords 58 = .ok (.iinc 5 1, 3) := by decide +kernel
theorem dX3_readWords_61 : decode cX3_readWords 61 = .ok (.goto (-52), 3) := by decide +kernel
theorem dX3_readWords_64 : decode cX3_readWords 64 = .ok (.aload_n 0, 1) := by decide +kernel
theorem dX3_readWords_65 : decode cX3_readWords 65 = .ok (.iload_n 1, 1) := by decide +kernel
theorem dX3_readWords_66 : decode cX3_readWords 66 = .ok (.lload_n 3, 1) := by decide +kernel
theorem dX3_readWords_67 : decode cX3_readWords 67 = .ok (.invokevirtual 33, 3) := by decide +kernel
theorem dX3_readWords_70 : decode cX3_readWords 70 = .ok (.ireturn, 1) := by decide +kernel
theorem dX3_keepRead_0 : decode cX3_keepRead 0 = .ok (.iload_n 1, 1) := by decide +kernel
theorem dX3_keepRead_1 : decode cX3_keepRead 1 = .ok (.ifCond .lt 9, 3) := by decide +kernel
theorem dX3_keepRead_4 : decode cX3_keepRead 4 = .ok (.iload_n 1, 1) := by decide +kernel
theorem dX3_keepRead_5 : decode cX3_keepRead 5 = .ok (.bipush 27, 2) := by decide +kernel
theorem dX3_keepRead_7 : decode cX3_keepRead 7 = .ok (.if_icmp .lt 5, 3) := by decide +kernel
theorem dX3_keepRead_10 : decode cX3_keepRead 10 = .ok (.iload_n 1, 1) := by decide +kernel
theorem dX3_keepRead_11 : decode cX3_keepRead 11 = .ok (.ireturn, 1) := by decide +kernel
theorem dX3_keepRead_12 : decode cX3_keepRead 12 = .ok (.aload_n 0, 1) := by decide +kernel
theorem dX3_keepRead_13 : decode cX3_keepRead 13 = .ok (.getfield 15, 3) := by decide +kernel
theorem dX3_keepRead_16 : decode cX3_keepRead 16 = .ok (.iload_n 1, 1) := by decide +kernel
theorem dX3_keepRead_17 : decode cX3_keepRead 17 = .ok (.lload_n 2, 1) := by decide +kernel
theorem dX3_keepRead_18 : decode cX3_keepRead 18 = .ok (.lastore, 1) := by decide +kernel
theorem dX3_keepRead_19 : decode cX3_keepRead 19 = .ok (.iload_n 1, 1) := by decide +kernel
theorem dX3_keepRead_20 : decode cX3_keepRead 20 = .ok (.iconst 1, 1) := by decide +kernel
theorem dX3_keepRead_21 : decode cX3_keepRead 21 = .ok (.iadd, 1) := by decide +kernel
theorem dX3_keepRead_22 : decode cX3_keepRead 22 = .ok (.ireturn, 1) := by decide +kernel
theorem dX3_wordRead_0 : decode cX3_wordRead 0 = .ok (.iload_n 1, 1) := by decide +kernel
theorem dX3_wordRead_1 : decode cX3_wordRead 1 = .ok (.ifCond .lt 18, 3) := by decide +kernel
theorem dX3_wordRead_4 : decode cX3_wordRead 4 = .ok (.iload_n 1, 1) := by decide +kernel
theorem dX3_wordRead_5 : decode cX3_wordRead 5 = .ok (.bipush 27, 2) := by decide +kernel
theorem dX3_wordRead_7 : decode cX3_wordRead 7 = .ok (.if_icmp .ge 12, 3) := by decide +kernel
theorem dX3_wordRead_10 : decode cX3_wordRead 10 = .ok (.aload_n 0, 1) := by decide +kernel
theorem dX3_wordRead_11 : decode cX3_wordRead 11 = .ok (.getfield 15, 3) := by decide +kernel
theorem dX3_wordRead_14 : decode cX3_wordRead 14 = .ok (.iload_n 1, 1) := by decide +kernel
theorem dX3_wordRead_15 : decode cX3_wordRead 15 = .ok (.laload, 1) := by decide +kernel
theorem dX3_wordRead_16 : decode cX3_wordRead 16 = .ok (.goto 4, 3) := by decide +kernel
theorem dX3_wordRead_19 : decode cX3_wordRead 19 = .ok (.lconst 0, 1) := by decide +kernel
theorem dX3_wordRead_20 : decode cX3_wordRead 20 = .ok (.lreturn, 1) := by decide +kernel
set_option maxRecDepth 20000 in
theorem ggX4_letterAt_X4_shiftOf : GoodIn wsX4_letterAt wsX4_shiftOf := goodIn_r _ [4] (by decide +kernel) (by decide +kernel)
set_option maxRecDepth 20000 in
theorem gX4_letterAt_X4_shiftOf : GoodIn wsX4_letterAt (va_wsS RX4 11 yX4_shiftOf wsX4_shiftOf) := goodIn_app (goodIn_of _ (by decide +kernel)) ggX4_letterAt_X4_shiftOf
theorem dX4_letterAt_0 : decode cX4_letterAt 0 = .ok (.iload_n 2, 1) := by decide +kernel
theorem dX4_letterAt_1 : decode cX4_letterAt 1 = .ok (.ifCond .lt 9, 3) := by decide +kernel
theorem dX4_letterAt_4 : decode cX4_letterAt 4 = .ok (.iload_n 2, 1) := by decide +kernel
theorem dX4_letterAt_5 : decode cX4_letterAt 5 = .ok (.bipush 8, 2) := by decide +kernel
theorem dX4_letterAt_7 : decode cX4_letterAt 7 = .ok (.if_icmp .lt 5, 3) := by decide +kernel
theorem dX4_letterAt_10 : decode cX4_letterAt 10 = .ok (.iconst 0, 1) := by decide +kernel
theorem dX4_letterAt_11 : decode cX4_letterAt 11 = .ok (.ireturn, 1) := by decide +kernel
theorem dX4_letterAt_12 : decode cX4_letterAt 12 = .ok (.lload_n 0, 1) := by decide +kernel
theorem dX4_letterAt_13 : decode cX4_letterAt 13 = .ok (.iload_n 2, 1) := by decide +kernel
theorem dX4_letterAt_14 : decode cX4_letterAt 14 = .ok (.invokestatic 11, 3) := by decide +kernel
theorem dX4_letterAt_17 : decode cX4_letterAt 17 = .ok (.lshr, 1) := by decide +kernel
theorem dX4_letterAt_18 : decode cX4_letterAt 18 = .ok (.l2i, 1) := by decide +kernel
theorem dX4_letterAt_19 : decode cX4_letterAt 19 = .ok (.bipush 31, 2) := by decide +kernel
theorem dX4_letterAt_21 : decode cX4_letterAt 21 = .ok (.iand, 1) := by decide +kernel
theorem dX4_letterAt_22 : decode cX4_letterAt 22 = .ok (.istore_n 3, 1) := by decide +kernel
theorem dX4_letterAt_23 : decode cX4_letterAt 23 = .ok (.iload_n 3, 1) := by decide +kernel
theorem dX4_letterAt_24 : decode cX4_letterAt 24 = .ok (.ifCond .ne 7, 3) := by decide +kernel
theorem dX4_letterAt_27 : decode cX4_letterAt 27 = .ok (.iconst 0, 1) := by decide +kernel
theorem dX4_letterAt_28 : decode cX4_letterAt 28 = .ok (.goto 7, 3) := by decide +kernel
theorem dX4_letterAt_31 : decode cX4_letterAt 31 = .ok (.bipush 96, 2) := by decide +kernel
theorem dX4_letterAt_33 : decode cX4_letterAt 33 = .ok (.iload_n 3, 1) := by decide +kernel
theorem dX4_letterAt_34 : decode cX4_letterAt 34 = .ok (.iadd, 1) := by decide +kernel
theorem dX4_letterAt_35 : decode cX4_letterAt 35 = .ok (.ireturn, 1) := by decide +kernel
set_option maxRecDepth 20000 in
theorem ggX4_withLetter_X5_isLetter : GoodIn wsX4_withLetter wsX5_isLetter := goodIn_r _ [3] (by decide +kernel) (by decide +kernel)
set_option maxRecDepth 20000 in
theorem gX4_withLetter_X5_isLetter_n15 : GoodIn wsX4_withLetter (wsX5_isLetter) := ggX4_withLetter_X5_isLetter
set_option maxRecDepth 20000 in
theorem ggX4_withLetter_X4_shiftOf : GoodIn wsX4_withLetter wsX4_shiftOf := goodIn_r _ [7] (by decide +kernel) (by decide +kernel)
set_option maxRecDepth 20000 in
theorem gX4_withLetter_X4_shiftOf : GoodIn wsX4_withLetter (va_wsS RX4 11 yX4_shiftOf wsX4_shiftOf) := goodIn_app (goodIn_of _ (by decide +kernel)) ggX4_withLetter_X4_shiftOf
theorem dX4_withLetter_0 : decode cX4_withLetter 0 = .ok (.iload_n 2, 1) := by decide +kernel
theorem dX4_withLetter_1 : decode cX4_withLetter 1 = .ok (.ifCond .lt 16, 3) := by decide +kernel
theorem dX4_withLetter_4 : decode cX4_withLetter 4 = .ok (.iload_n 2, 1) := by decide +kernel
theorem dX4_withLetter_5 : decode cX4_withLetter 5 = .ok (.bipush 8, 2) := by decide +kernel
theorem dX4_withLetter_7 : decode cX4_withLetter 7 = .ok (.if_icmp .ge 10, 3) := by decide +kernel
theorem dX4_withLetter_10 : decode cX4_withLetter 10 = .ok (.iload_n 3, 1) := by decide +kernel
theorem dX4_withLetter_11 : decode cX4_withLetter 11 = .ok (.invokestatic 15, 3) := by decide +kernel
theorem dX4_withLetter_14 : decode cX4_withLetter 14 = .ok (.ifCond .ne 5, 3) := by decide +kernel
theorem dX4_withLetter_17 : decode cX4_withLetter 17 = .ok (.lload_n 0, 1) := by decide +kernel
theorem dX4_withLetter_18 : decode cX4_withLetter 18 = .ok (.lreturn, 1) := by decide +kernel
theorem dX4_withLetter_19 : decode cX4_withLetter 19 = .ok (.lload_n 0, 1) := by decide +kernel
theorem dX4_withLetter_20 : decode cX4_withLetter 20 = .ok (.iload_n 3, 1) := by decide +kernel
theorem dX4_withLetter_21 : decode cX4_withLetter 21 = .ok (.bipush 96, 2) := by decide +kernel
theorem dX4_withLetter_23 : decode cX4_withLetter 23 = .ok (.isub, 1) := by decide +kernel
theorem dX4_withLetter_24 : decode cX4_withLetter 24 = .ok (.i2l, 1) := by decide +kernel
theorem dX4_withLetter_25 : decode cX4_withLetter 25 = .ok (.iload_n 2, 1) := by decide +kernel
theorem dX4_withLetter_26 : decode cX4_withLetter 26 = .ok (.invokestatic 11, 3) := by decide +kernel
theorem dX4_withLetter_29 : decode cX4_withLetter 29 = .ok (.lshl, 1) := by decide +kernel
theorem dX4_withLetter_30 : decode cX4_withLetter 30 = .ok (.lor, 1) := by decide +kernel
theorem dX4_withLetter_31 : decode cX4_withLetter 31 = .ok (.lreturn, 1) := by decide +kernel
theorem dX4_shiftOf_0 : decode cX4_shiftOf 0 = .ok (.iconst 5, 1) := by decide +kernel
theorem dX4_shiftOf_1 : decode cX4_shiftOf 1 = .ok (.bipush 7, 2) := by decide +kernel
theorem dX4_shiftOf_3 : decode cX4_shiftOf 3 = .ok (.iload_n 0, 1) := by decide +kernel
theorem dX4_shiftOf_4 : decode cX4_shiftOf 4 = .ok (.isub, 1) := by decide +kernel
theorem dX4_shiftOf_5 : decode cX4_shiftOf 5 = .ok (.imul, 1) := by decide +kernel
theorem dX4_shiftOf_6 : decode cX4_shiftOf 6 = .ok (.ireturn, 1) := by decide +kernel
set_option maxRecDepth 20000 in
theorem ggX4_lengthOf_X4_letterAt : GoodIn wsX4_lengthOf wsX4_letterAt := goodIn_r _ [4, 5, 6, 3, 7] (by decide +kernel) (by decide +kernel)
set_option maxRecDepth 20000 in
theorem gX4_lengthOf_X4_letterAt : GoodIn wsX4_lengthOf (va_wsS RX4 19 yX4_letterAt wsX4_letterAt) := goodIn_app (goodIn_of _ (by decide +kernel)) ggX4_lengthOf_X4_letterAt
theorem dX4_lengthOf_0 : decode cX4_lengthOf 0 = .ok (.iconst 0, 1) := by decide +kernel
theorem dX4_lengthOf_1 : decode cX4_lengthOf 1 = .ok (.istore_n 2, 1) := by decide +kernel
theorem dX4_lengthOf_2 : decode cX4_lengthOf 2 = .ok (.iconst 0, 1) := by decide +kernel
theorem dX4_lengthOf_3 : decode cX4_lengthOf 3 = .ok (.istore_n 3, 1) := by decide +kernel
theorem dX4_lengthOf_4 : decode cX4_lengthOf 4 = .ok (.iload_n 3, 1) := by decide +kernel
theorem dX4_lengthOf_5 : decode cX4_lengthOf 5 = .ok (.bipush 8, 2) := by decide +kernel
theorem dX4_lengthOf_7 : decode cX4_lengthOf 7 = .ok (.if_icmp .ge 20, 3) := by decide +kernel
theorem dX4_lengthOf_10 : decode cX4_lengthOf 10 = .ok (.lload_n 0, 1) := by decide +kernel
theorem dX4_lengthOf_11 : decode cX4_lengthOf 11 = .ok (.iload_n 3, 1) := by decide +kernel
theorem dX4_lengthOf_12 : decode cX4_lengthOf 12 = .ok (.invokestatic 19, 3) := by decide +kernel
theorem dX4_lengthOf_15 : decode cX4_lengthOf 15 = .ok (.ifCond .eq 6, 3) := by decide +kernel
theorem dX4_lengthOf_18 : decode cX4_lengthOf 18 = .ok (.iinc 2 1, 3) := by decide +kernel
theorem dX4_lengthOf_21 : decode cX4_lengthOf 21 = .ok (.iinc 3 1, 3) := by decide +kernel
theorem dX4_lengthOf_24 : decode cX4_lengthOf 24 = .ok (.goto (-20), 3) := by decide +kernel
theorem dX4_lengthOf_27 : decode cX4_lengthOf 27 = .ok (.iload_n 2, 1) := by decide +kernel
theorem dX4_lengthOf_28 : decode cX4_lengthOf 28 = .ok (.ireturn, 1) := by decide +kernel
set_option maxRecDepth 20000 in
theorem ggX4_maskOf_X4_letterAt : GoodIn wsX4_maskOf wsX4_letterAt := goodIn_r _ [4, 5, 6, 3, 7] (by decide +kernel) (by decide +kernel)
set_option maxRecDepth 20000 in
theorem gX4_maskOf_X4_letterAt : GoodIn wsX4_maskOf (va_wsS RX4 19 yX4_letterAt wsX4_letterAt) := goodIn_app (goodIn_of _ (by decide +kernel)) ggX4_maskOf_X4_letterAt
theorem dX4_maskOf_0 : decode cX4_maskOf 0 = .ok (.iconst 0, 1) := by decide +kernel
theorem dX4_maskOf_1 : decode cX4_maskOf 1 = .ok (.istore_n 3, 1) := by decide +kernel
theorem dX4_maskOf_2 : decode cX4_maskOf 2 = .ok (.iconst 0, 1) := by decide +kernel
theorem dX4_maskOf_3 : decode cX4_maskOf 3 = .ok (.istore 4, 2) := by decide +kernel
theorem dX4_maskOf_5 : decode cX4_maskOf 5 = .ok (.iload 4, 2) := by decide +kernel
theorem dX4_maskOf_7 : decode cX4_maskOf 7 = .ok (.bipush 8, 2) := by decide +kernel
theorem dX4_maskOf_9 : decode cX4_maskOf 9 = .ok (.if_icmp .ge 26, 3) := by decide +kernel
theorem dX4_maskOf_12 : decode cX4_maskOf 12 = .ok (.lload_n 0, 1) := by decide +kernel
theorem dX4_maskOf_13 : decode cX4_maskOf 13 = .ok (.iload 4, 2) := by decide +kernel
theorem dX4_maskOf_15 : decode cX4_maskOf 15 = .ok (.invokestatic 19, 3) := by decide +kernel
theorem dX4_maskOf_18 : decode cX4_maskOf 18 = .ok (.iload_n 2, 1) := by decide +kernel
theorem dX4_maskOf_19 : decode cX4_maskOf 19 = .ok (.if_icmp .ne 10, 3) := by decide +kernel
theorem dX4_maskOf_22 : decode cX4_maskOf 22 = .ok (.iload_n 3, 1) := by decide +kernel
theorem dX4_maskOf_23 : decode cX4_maskOf 23 = .ok (.iconst 1, 1) := by decide +kernel
theorem dX4_maskOf_24 : decode cX4_maskOf 24 = .ok (.iload 4, 2) := by decide +kernel
theorem dX4_maskOf_26 : decode cX4_maskOf 26 = .ok (.ishl, 1) := by decide +kernel
theorem dX4_maskOf_27 : decode cX4_maskOf 27 = .ok (.ior, 1) := by decide +kernel
theorem dX4_maskOf_28 : decode cX4_maskOf 28 = .ok (.istore_n 3, 1) := by decide +kernel
theorem dX4_maskOf_29 : decode cX4_maskOf 29 = .ok (.iinc 4 1, 3) := by decide +kernel
theorem dX4_maskOf_32 : decode cX4_maskOf 32 = .ok (.goto (-27), 3) := by decide +kernel
theorem dX4_maskOf_35 : decode cX4_maskOf 35 = .ok (.iload_n 3, 1) := by decide +kernel
theorem dX4_maskOf_36 : decode cX4_maskOf 36 = .ok (.ireturn, 1) := by decide +kernel
set_option maxRecDepth 20000 in
theorem ggX4_lettersOf_X4_letterAt : GoodIn wsX4_lettersOf wsX4_letterAt := goodIn_r _ [4, 5, 6, 3, 7] (by decide +kernel) (by decide +kernel)
set_option maxRecDepth 20000 in
theorem gX4_lettersOf_X4_letterAt : GoodIn wsX4_lettersOf (va_wsS RX4 19 yX4_letterAt wsX4_letterAt) := goodIn_app (goodIn_of _ (by decide +kernel)) ggX4_lettersOf_X4_letterAt
set_option maxRecDepth 20000 in
theorem ggX4_lettersOf_X5_bitOf : GoodIn wsX4_lettersOf wsX5_bitOf := goodIn_r _ [10, 11, 12, 9, 13] (by decide +kernel) (by decide +kernel)
set_option maxRecDepth 20000 in
theorem gX4_lettersOf_X5_bitOf_n23 : GoodIn wsX4_lettersOf (wsX5_bitOf) := ggX4_lettersOf_X5_bitOf
theorem dX4_lettersOf_0 : decode cX4_lettersOf 0 = .ok (.iconst 0, 1) := by decide +kernel
theorem dX4_lettersOf_1 : decode cX4_lettersOf 1 = .ok (.istore_n 2, 1) := by decide +kernel
theorem dX4_lettersOf_2 : decode cX4_lettersOf 2 = .ok (.iconst 0, 1) := by decide +kernel
theorem dX4_lettersOf_3 : decode cX4_lettersOf 3 = .ok (.istore_n 3, 1) := by decide +kernel
theorem dX4_lettersOf_4 : decode cX4_lettersOf 4 = .ok (.iload_n 3, 1) := by decide +kernel
theorem dX4_lettersOf_5 : decode cX4_lettersOf 5 = .ok (.bipush 8, 2) := by decide +kernel
theorem dX4_lettersOf_7 : decode cX4_lettersOf 7 = .ok (.if_icmp .ge 20, 3) := by decide +kernel
theorem dX4_lettersOf_10 : decode cX4_lettersOf 10 = .ok (.iload_n 2, 1) := by decide +kernel
theorem dX4_lettersOf_11 : decode cX4_lettersOf 11 = .ok (.lload_n 0, 1) := by decide +kernel
theorem dX4_lettersOf_12 : decode cX4_lettersOf 12 = .ok (.iload_n 3, 1) := by decide +kernel
theorem dX4_lettersOf_13 : decode cX4_lettersOf 13 = .ok (.invokestatic 19, 3) := by decide +kernel
theorem dX4_lettersOf_16 : decode cX4_lettersOf 16 = .ok (.invokestatic 23, 3) := by decide +kernel
theorem dX4_lettersOf_19 : decode cX4_lettersOf 19 = .ok (.ior, 1) := by decide +kernel
theorem dX4_lettersOf_20 : decode cX4_lettersOf 20 = .ok (.istore_n 2, 1) := by decide +kernel
theorem dX4_lettersOf_21 : decode cX4_lettersOf 21 = .ok (.iinc 3 1, 3) := by decide +kernel
theorem dX4_lettersOf_24 : decode cX4_lettersOf 24 = .ok (.goto (-20), 3) := by decide +kernel
theorem dX4_lettersOf_27 : decode cX4_lettersOf 27 = .ok (.iload_n 2, 1) := by decide +kernel
theorem dX4_lettersOf_28 : decode cX4_lettersOf 28 = .ok (.ireturn, 1) := by decide +kernel
