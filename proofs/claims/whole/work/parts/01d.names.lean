theorem dX6_init_0 : decode cX6_init 0 = .ok (.aload_n 0, 1) := by decide +kernel
theorem dX6_init_1 : decode cX6_init 1 = .ok (.invokespecial 1, 3) := by decide +kernel
theorem dX6_init_4 : decode cX6_init 4 = .ok (.aload_n 0, 1) := by decide +kernel
theorem dX6_init_5 : decode cX6_init 5 = .ok (.sipush 319, 3) := by decide +kernel
theorem dX6_init_8 : decode cX6_init 8 = .ok (.newarray .int, 2) := by decide +kernel
theorem dX6_init_10 : decode cX6_init 10 = .ok (.putfield 7, 3) := by decide +kernel
theorem dX6_init_13 : decode cX6_init 13 = .ok (.aload_n 0, 1) := by decide +kernel
theorem dX6_init_14 : decode cX6_init 14 = .ok (.sipush 319, 3) := by decide +kernel
theorem dX6_init_17 : decode cX6_init 17 = .ok (.newarray .int, 2) := by decide +kernel
theorem dX6_init_19 : decode cX6_init 19 = .ok (.putfield 13, 3) := by decide +kernel
theorem dX6_init_22 : decode cX6_init 22 = .ok (.aload_n 0, 1) := by decide +kernel
theorem dX6_init_23 : decode cX6_init 23 = .ok (.sipush 1914, 3) := by decide +kernel
theorem dX6_init_26 : decode cX6_init 26 = .ok (.newarray .int, 2) := by decide +kernel
theorem dX6_init_28 : decode cX6_init 28 = .ok (.putfield 16, 3) := by decide +kernel
theorem dX6_init_31 : decode cX6_init 31 = .ok (.aload_n 0, 1) := by decide +kernel
theorem dX6_init_32 : decode cX6_init 32 = .ok (.bipush 80, 2) := by decide +kernel
theorem dX6_init_34 : decode cX6_init 34 = .ok (.newarray .int, 2) := by decide +kernel
theorem dX6_init_36 : decode cX6_init 36 = .ok (.putfield 19, 3) := by decide +kernel
theorem dX6_init_39 : decode cX6_init 39 = .ok (.aload_n 0, 1) := by decide +kernel
theorem dX6_init_40 : decode cX6_init 40 = .ok (.bipush 30, 2) := by decide +kernel
theorem dX6_init_42 : decode cX6_init 42 = .ok (.newarray .int, 2) := by decide +kernel
theorem dX6_init_44 : decode cX6_init 44 = .ok (.putfield 22, 3) := by decide +kernel
theorem dX6_init_47 : decode cX6_init 47 = .ok (.aload_n 0, 1) := by decide +kernel
theorem dX6_init_48 : decode cX6_init 48 = .ok (.bipush 30, 2) := by decide +kernel
theorem dX6_init_50 : decode cX6_init 50 = .ok (.newarray .int, 2) := by decide +kernel
theorem dX6_init_52 : decode cX6_init 52 = .ok (.putfield 25, 3) := by decide +kernel
theorem dX6_init_55 : decode cX6_init 55 = .ok (.aload_n 0, 1) := by decide +kernel
theorem dX6_init_56 : decode cX6_init 56 = .ok (.bipush 30, 2) := by decide +kernel
theorem dX6_init_58 : decode cX6_init 58 = .ok (.newarray .int, 2) := by decide +kernel
theorem dX6_init_60 : decode cX6_init 60 = .ok (.putfield 28, 3) := by decide +kernel
theorem dX6_init_63 : decode cX6_init 63 = .ok (.aload_n 0, 1) := by decide +kernel
theorem dX6_init_64 : decode cX6_init 64 = .ok (.bipush 30, 2) := by decide +kernel
theorem dX6_init_66 : decode cX6_init 66 = .ok (.newarray .int, 2) := by decide +kernel
theorem dX6_init_68 : decode cX6_init 68 = .ok (.putfield 31, 3) := by decide +kernel
theorem dX6_init_71 : decode cX6_init 71 = .ok (.aload_n 0, 1) := by decide +kernel
theorem dX6_init_72 : decode cX6_init 72 = .ok (.bipush 30, 2) := by decide +kernel
theorem dX6_init_74 : decode cX6_init 74 = .ok (.newarray .int, 2) := by decide +kernel
theorem dX6_init_76 : decode cX6_init 76 = .ok (.putfield 34, 3) := by decide +kernel
theorem dX6_init_79 : decode cX6_init 79 = .ok (.aload_n 0, 1) := by decide +kernel
theorem dX6_init_80 : decode cX6_init 80 = .ok (.iconst 0, 1) := by decide +kernel
theorem dX6_init_81 : decode cX6_init 81 = .ok (.putfield 37, 3) := by decide +kernel
theorem dX6_init_84 : decode cX6_init 84 = .ok (.return_, 1) := by decide +kernel
theorem dX6_in_0 : decode cX6_in 0 = .ok (.iload_n 0, 1) := by decide +kernel
theorem dX6_in_1 : decode cX6_in 1 = .ok (.iload_n 1, 1) := by decide +kernel
theorem dX6_in_2 : decode cX6_in 2 = .ok (.if_icmp .lt 12, 3) := by decide +kernel
theorem dX6_in_5 : decode cX6_in 5 = .ok (.iload_n 0, 1) := by decide +kernel
theorem dX6_in_6 : decode cX6_in 6 = .ok (.iload_n 2, 1) := by decide +kernel
theorem dX6_in_7 : decode cX6_in 7 = .ok (.if_icmp .gt 7, 3) := by decide +kernel
theorem dX6_in_10 : decode cX6_in 10 = .ok (.iconst 1, 1) := by decide +kernel
theorem dX6_in_11 : decode cX6_in 11 = .ok (.goto 4, 3) := by decide +kernel
theorem dX6_in_14 : decode cX6_in 14 = .ok (.iconst 0, 1) := by decide +kernel
theorem dX6_in_15 : decode cX6_in 15 = .ok (.ireturn, 1) := by decide +kernel
set_option maxRecDepth 20000 in
theorem ggX6_isLetter_X6_in : GoodIn wsX6_isLetter wsX6_in := goodIn_r _ [4] (by decide +kernel) (by decide +kernel)
set_option maxRecDepth 20000 in
theorem gX6_isLetter_X6_in : GoodIn wsX6_isLetter (va_wsS RX6 41 yX6_in wsX6_in) := goodIn_app (goodIn_of _ (by decide +kernel)) ggX6_isLetter_X6_in
theorem dX6_isLetter_0 : decode cX6_isLetter 0 = .ok (.iload_n 0, 1) := by decide +kernel
theorem dX6_isLetter_1 : decode cX6_isLetter 1 = .ok (.bipush 97, 2) := by decide +kernel
theorem dX6_isLetter_3 : decode cX6_isLetter 3 = .ok (.bipush 122, 2) := by decide +kernel
theorem dX6_isLetter_5 : decode cX6_isLetter 5 = .ok (.invokestatic 41, 3) := by decide +kernel
theorem dX6_isLetter_8 : decode cX6_isLetter 8 = .ok (.ireturn, 1) := by decide +kernel
theorem dX6_bits_0 : decode cX6_bits 0 = .ok (.iconst 0, 1) := by decide +kernel
theorem dX6_bits_1 : decode cX6_bits 1 = .ok (.istore_n 1, 1) := by decide +kernel
theorem dX6_bits_2 : decode cX6_bits 2 = .ok (.iconst 0, 1) := by decide +kernel
theorem dX6_bits_3 : decode cX6_bits 3 = .ok (.istore_n 2, 1) := by decide +kernel
theorem dX6_bits_4 : decode cX6_bits 4 = .ok (.iload_n 2, 1) := by decide +kernel
theorem dX6_bits_5 : decode cX6_bits 5 = .ok (.bipush 31, 2) := by decide +kernel
theorem dX6_bits_7 : decode cX6_bits 7 = .ok (.if_icmp .ge 17, 3) := by decide +kernel
theorem dX6_bits_10 : decode cX6_bits 10 = .ok (.iload_n 1, 1) := by decide +kernel
theorem dX6_bits_11 : decode cX6_bits 11 = .ok (.iload_n 0, 1) := by decide +kernel
theorem dX6_bits_12 : decode cX6_bits 12 = .ok (.iload_n 2, 1) := by decide +kernel
theorem dX6_bits_13 : decode cX6_bits 13 = .ok (.ishr, 1) := by decide +kernel
theorem dX6_bits_14 : decode cX6_bits 14 = .ok (.iconst 1, 1) := by decide +kernel
theorem dX6_bits_15 : decode cX6_bits 15 = .ok (.iand, 1) := by decide +kernel
theorem dX6_bits_16 : decode cX6_bits 16 = .ok (.iadd, 1) := by decide +kernel
theorem dX6_bits_17 : decode cX6_bits 17 = .ok (.istore_n 1, 1) := by decide +kernel
theorem dX6_bits_18 : decode cX6_bits 18 = .ok (.iinc 2 1, 3) := by decide +kernel
theorem dX6_bits_21 : decode cX6_bits 21 = .ok (.goto (-17), 3) := by decide +kernel
theorem dX6_bits_24 : decode cX6_bits 24 = .ok (.iload_n 1, 1) := by decide +kernel
theorem dX6_bits_25 : decode cX6_bits 25 = .ok (.ireturn, 1) := by decide +kernel
theorem dX6_lowest_0 : decode cX6_lowest 0 = .ok (.iconst 0, 1) := by decide +kernel
theorem dX6_lowest_1 : decode cX6_lowest 1 = .ok (.istore_n 1, 1) := by decide +kernel
theorem dX6_lowest_2 : decode cX6_lowest 2 = .ok (.iload_n 1, 1) := by decide +kernel
theorem dX6_lowest_3 : decode cX6_lowest 3 = .ok (.bipush 30, 2) := by decide +kernel
theorem dX6_lowest_5 : decode cX6_lowest 5 = .ok (.if_icmp .ge 17, 3) := by decide +kernel
theorem dX6_lowest_8 : decode cX6_lowest 8 = .ok (.iload_n 0, 1) := by decide +kernel
theorem dX6_lowest_9 : decode cX6_lowest 9 = .ok (.iload_n 1, 1) := by decide +kernel
theorem dX6_lowest_10 : decode cX6_lowest 10 = .ok (.ishr, 1) := by decide +kernel
theorem dX6_lowest_11 : decode cX6_lowest 11 = .ok (.iconst 1, 1) := by decide +kernel
theorem dX6_lowest_12 : decode cX6_lowest 12 = .ok (.iand, 1) := by decide +kernel
theorem dX6_lowest_13 : decode cX6_lowest 13 = .ok (.ifCond .ne 9, 3) := by decide +kernel
theorem dX6_lowest_16 : decode cX6_lowest 16 = .ok (.iinc 1 1, 3) := by decide +kernel
theorem dX6_lowest_19 : decode cX6_lowest 19 = .ok (.goto (-17), 3) := by decide +kernel
theorem dX6_lowest_22 : decode cX6_lowest 22 = .ok (.iload_n 1, 1) := by decide +kernel
theorem dX6_lowest_23 : decode cX6_lowest 23 = .ok (.ireturn, 1) := by decide +kernel
theorem dX6_saves_0 : decode cX6_saves 0 = .ok (.aload_n 0, 1) := by decide +kernel
theorem dX6_saves_1 : decode cX6_saves 1 = .ok (.getfield 45, 3) := by decide +kernel
theorem dX6_saves_4 : decode cX6_saves 4 = .ok (.bipush 6, 2) := by decide +kernel
theorem dX6_saves_6 : decode cX6_saves 6 = .ok (.if_icmp .ne 44, 3) := by decide +kernel
theorem dX6_saves_9 : decode cX6_saves 9 = .ok (.iconst 0, 1) := by decide +kernel
theorem dX6_saves_10 : decode cX6_saves 10 = .ok (.istore_n 1, 1) := by decide +kernel
theorem dX6_saves_11 : decode cX6_saves 11 = .ok (.iload_n 1, 1) := by decide +kernel
theorem dX6_saves_12 : decode cX6_saves 12 = .ok (.sipush 1595, 3) := by decide +kernel
theorem dX6_saves_15 : decode cX6_saves 15 = .ok (.if_icmp .ge 25, 3) := by decide +kernel
theorem dX6_saves_18 : decode cX6_saves 18 = .ok (.aload_n 0, 1) := by decide +kernel
theorem dX6_saves_19 : decode cX6_saves 19 = .ok (.getfield 16, 3) := by decide +kernel
theorem dX6_saves_22 : decode cX6_saves 22 = .ok (.iload_n 1, 1) := by decide +kernel
theorem dX6_saves_23 : decode cX6_saves 23 = .ok (.aload_n 0, 1) := by decide +kernel
theorem dX6_saves_24 : decode cX6_saves 24 = .ok (.getfield 16, 3) := by decide +kernel
theorem dX6_saves_27 : decode cX6_saves 27 = .ok (.sipush 319, 3) := by decide +kernel
theorem dX6_saves_30 : decode cX6_saves 30 = .ok (.iload_n 1, 1) := by decide +kernel
theorem dX6_saves_31 : decode cX6_saves 31 = .ok (.iadd, 1) := by decide +kernel
theorem dX6_saves_32 : decode cX6_saves 32 = .ok (.iaload, 1) := by decide +kernel
theorem dX6_saves_33 : decode cX6_saves 33 = .ok (.iastore, 1) := by decide +kernel
theorem dX6_saves_34 : decode cX6_saves 34 = .ok (.iinc 1 1, 3) := by decide +kernel
theorem dX6_saves_37 : decode cX6_saves 37 = .ok (.goto (-26), 3) := by decide +kernel
theorem dX6_saves_40 : decode cX6_saves 40 = .ok (.aload_n 0, 1) := by decide +kernel
theorem dX6_saves_41 : decode cX6_saves 41 = .ok (.dup, 1) := by decide +kernel
theorem dX6_saves_42 : decode cX6_saves 42 = .ok (.getfield 45, 3) := by decide +kernel
theorem dX6_saves_45 : decode cX6_saves 45 = .ok (.iconst 1, 1) := by decide +kernel
theorem dX6_saves_46 : decode cX6_saves 46 = .ok (.isub, 1) := by decide +kernel
theorem dX6_saves_47 : decode cX6_saves 47 = .ok (.putfield 45, 3) := by decide +kernel
theorem dX6_saves_50 : decode cX6_saves 50 = .ok (.iconst 0, 1) := by decide +kernel
theorem dX6_saves_51 : decode cX6_saves 51 = .ok (.istore_n 1, 1) := by decide +kernel
theorem dX6_saves_52 : decode cX6_saves 52 = .ok (.iload_n 1, 1) := by decide +kernel
theorem dX6_saves_53 : decode cX6_saves 53 = .ok (.sipush 319, 3) := by decide +kernel
theorem dX6_saves_56 : decode cX6_saves 56 = .ok (.if_icmp .ge 30, 3) := by decide +kernel
theorem dX6_saves_59 : decode cX6_saves 59 = .ok (.aload_n 0, 1) := by decide +kernel
theorem dX6_saves_60 : decode cX6_saves 60 = .ok (.getfield 16, 3) := by decide +kernel
theorem dX6_saves_63 : decode cX6_saves 63 = .ok (.sipush 319, 3) := by decide +kernel
theorem dX6_saves_66 : decode cX6_saves 66 = .ok (.aload_n 0, 1) := by decide +kernel
theorem dX6_saves_67 : decode cX6_saves 67 = .ok (.getfield 45, 3) := by decide +kernel
theorem dX6_saves_70 : decode cX6_saves 70 = .ok (.imul, 1) := by decide +kernel
theorem dX6_saves_71 : decode cX6_saves 71 = .ok (.iload_n 1, 1) := by decide +kernel
theorem dX6_saves_72 : decode cX6_saves 72 = .ok (.iadd, 1) := by decide +kernel
theorem dX6_saves_73 : decode cX6_saves 73 = .ok (.aload_n 0, 1) := by decide +kernel
theorem dX6_saves_74 : decode cX6_saves 74 = .ok (.getfield 7, 3) := by decide +kernel
theorem dX6_saves_77 : decode cX6_saves 77 = .ok (.iload_n 1, 1) := by decide +kernel
theorem dX6_saves_78 : decode cX6_saves 78 = .ok (.iaload, 1) := by decide +kernel
theorem dX6_saves_79 : decode cX6_saves 79 = .ok (.iastore, 1) := by decide +kernel
theorem dX6_saves_80 : decode cX6_saves 80 = .ok (.iinc 1 1, 3) := by decide +kernel
theorem dX6_saves_83 : decode cX6_saves 83 = .ok (.goto (-31), 3) := by decide +kernel
theorem dX6_saves_86 : decode cX6_saves 86 = .ok (.aload_n 0, 1) := by decide +kernel
theorem dX6_saves_87 : decode cX6_saves 87 = .ok (.dup, 1) := by decide +kernel
theorem dX6_saves_88 : decode cX6_saves 88 = .ok (.getfield 45, 3) := by decide +kernel
theorem dX6_saves_91 : decode cX6_saves 91 = .ok (.iconst 1, 1) := by decide +kernel
theorem dX6_saves_92 : decode cX6_saves 92 = .ok (.iadd, 1) := by decide +kernel
theorem dX6_saves_93 : decode cX6_saves 93 = .ok (.putfield 45, 3) := by decide +kernel
theorem dX6_saves_96 : decode cX6_saves 96 = .ok (.return_, 1) := by decide +kernel
theorem dX6_putAside_0 : decode cX6_putAside 0 = .ok (.iconst 0, 1) := by decide +kernel
theorem dX6_putAside_1 : decode cX6_putAside 1 = .ok (.istore_n 1, 1) := by decide +kernel
theorem dX6_putAside_2 : decode cX6_putAside 2 = .ok (.iload_n 1, 1) := by decide +kernel
theorem dX6_putAside_3 : decode cX6_putAside 3 = .ok (.sipush 319, 3) := by decide +kernel
theorem dX6_putAside_6 : decode cX6_putAside 6 = .ok (.if_icmp .ge 21, 3) := by decide +kernel
theorem dX6_putAside_9 : decode cX6_putAside 9 = .ok (.aload_n 0, 1) := by decide +kernel
theorem dX6_putAside_10 : decode cX6_putAside 10 = .ok (.getfield 13, 3) := by decide +kernel
theorem dX6_putAside_13 : decode cX6_putAside 13 = .ok (.iload_n 1, 1) := by decide +kernel
theorem dX6_putAside_14 : decode cX6_putAside 14 = .ok (.aload_n 0, 1) := by decide +kernel
theorem dX6_putAside_15 : decode cX6_putAside 15 = .ok (.getfield 7, 3) := by decide +kernel
theorem dX6_putAside_18 : decode cX6_putAside 18 = .ok (.iload_n 1, 1) := by decide +kernel
theorem dX6_putAside_19 : decode cX6_putAside 19 = .ok (.iaload, 1) := by decide +kernel
theorem dX6_putAside_20 : decode cX6_putAside 20 = .ok (.iastore, 1) := by decide +kernel
theorem dX6_putAside_21 : decode cX6_putAside 21 = .ok (.iinc 1 1, 3) := by decide +kernel
theorem dX6_putAside_24 : decode cX6_putAside 24 = .ok (.goto (-22), 3) := by decide +kernel
theorem dX6_putAside_27 : decode cX6_putAside 27 = .ok (.return_, 1) := by decide +kernel
theorem dX6_putBack_0 : decode cX6_putBack 0 = .ok (.iconst 0, 1) := by decide +kernel
theorem dX6_putBack_1 : decode cX6_putBack 1 = .ok (.istore_n 1, 1) := by decide +kernel
theorem dX6_putBack_2 : decode cX6_putBack 2 = .ok (.iload_n 1, 1) := by decide +kernel
theorem dX6_putBack_3 : decode cX6_putBack 3 = .ok (.sipush 319, 3) := by decide +kernel
theorem dX6_putBack_6 : decode cX6_putBack 6 = .ok (.if_icmp .ge 21, 3) := by decide +kernel
theorem dX6_putBack_9 : decode cX6_putBack 9 = .ok (.aload_n 0, 1) := by decide +kernel
theorem dX6_putBack_10 : decode cX6_putBack 10 = .ok (.getfield 7, 3) := by decide +kernel
theorem dX6_putBack_13 : decode cX6_putBack 13 = .ok (.iload_n 1, 1) := by decide +kernel
theorem dX6_putBack_14 : decode cX6_putBack 14 = .ok (.aload_n 0, 1) := by decide +kernel
theorem dX6_putBack_15 : decode cX6_putBack 15 = .ok (.getfield 13, 3) := by decide +kernel
theorem dX6_putBack_18 : decode cX6_putBack 18 = .ok (.iload_n 1, 1) := by decide +kernel
theorem dX6_putBack_19 : decode cX6_putBack 19 = .ok (.iaload, 1) := by decide +kernel
theorem dX6_putBack_20 : decode cX6_putBack 20 = .ok (.iastore, 1) := by decide +kernel
theorem dX6_putBack_21 : decode cX6_putBack 21 = .ok (.iinc 1 1, 3) := by decide +kernel
theorem dX6_putBack_24 : decode cX6_putBack 24 = .ok (.goto (-22), 3) := by decide +kernel
theorem dX6_putBack_27 : decode cX6_putBack 27 = .ok (.return_, 1) := by decide +kernel
theorem dX6_letter_0 : decode cX6_letter 0 = .ok (.aload_n 0, 1) := by decide +kernel
theorem dX6_letter_1 : decode cX6_letter 1 = .ok (.getfield 7, 3) := by decide +kernel
theorem dX6_letter_4 : decode cX6_letter 4 = .ok (.bipush 79, 2) := by decide +kernel
theorem dX6_letter_6 : decode cX6_letter 6 = .ok (.bipush 8, 2) := by decide +kernel
theorem dX6_letter_8 : decode cX6_letter 8 = .ok (.iload_n 1, 1) := by decide +kernel
theorem dX6_letter_9 : decode cX6_letter 9 = .ok (.imul, 1) := by decide +kernel
theorem dX6_letter_10 : decode cX6_letter 10 = .ok (.iadd, 1) := by decide +kernel
theorem dX6_letter_11 : decode cX6_letter 11 = .ok (.iload_n 2, 1) := by decide +kernel
theorem dX6_letter_12 : decode cX6_letter 12 = .ok (.iadd, 1) := by decide +kernel
theorem dX6_letter_13 : decode cX6_letter 13 = .ok (.iaload, 1) := by decide +kernel
theorem dX6_letter_14 : decode cX6_letter 14 = .ok (.ireturn, 1) := by decide +kernel
theorem dX6_isCandidate_0 : decode cX6_isCandidate 0 = .ok (.aload_n 0, 1) := by decide +kernel
theorem dX6_isCandidate_1 : decode cX6_isCandidate 1 = .ok (.getfield 7, 3) := by decide +kernel
theorem dX6_isCandidate_4 : decode cX6_isCandidate 4 = .ok (.bipush 7, 2) := by decide +kernel
theorem dX6_isCandidate_6 : decode cX6_isCandidate 6 = .ok (.iaload, 1) := by decide +kernel
theorem dX6_isCandidate_7 : decode cX6_isCandidate 7 = .ok (.iload_n 1, 1) := by decide +kernel
theorem dX6_isCandidate_8 : decode cX6_isCandidate 8 = .ok (.ishr, 1) := by decide +kernel
theorem dX6_isCandidate_9 : decode cX6_isCandidate 9 = .ok (.iconst 1, 1) := by decide +kernel
theorem dX6_isCandidate_10 : decode cX6_isCandidate 10 = .ok (.iand, 1) := by decide +kernel
theorem dX6_isCandidate_11 : decode cX6_isCandidate 11 = .ok (.iconst 1, 1) := by decide +kernel
theorem dX6_isCandidate_12 : decode cX6_isCandidate 12 = .ok (.if_icmp .ne 7, 3) := by decide +kernel
theorem dX6_isCandidate_15 : decode cX6_isCandidate 15 = .ok (.iconst 1, 1) := by decide +kernel
theorem dX6_isCandidate_16 : decode cX6_isCandidate 16 = .ok (.goto 4, 3) := by decide +kernel
theorem dX6_isCandidate_19 : decode cX6_isCandidate 19 = .ok (.iconst 0, 1) := by decide +kernel
theorem dX6_isCandidate_20 : decode cX6_isCandidate 20 = .ok (.ireturn, 1) := by decide +kernel
theorem dX6_isGuessed_0 : decode cX6_isGuessed 0 = .ok (.aload_n 0, 1) := by decide +kernel
theorem dX6_isGuessed_1 : decode cX6_isGuessed 1 = .ok (.getfield 7, 3) := by decide +kernel
theorem dX6_isGuessed_4 : decode cX6_isGuessed 4 = .ok (.iconst 5, 1) := by decide +kernel
theorem dX6_isGuessed_5 : decode cX6_isGuessed 5 = .ok (.iaload, 1) := by decide +kernel
theorem dX6_isGuessed_6 : decode cX6_isGuessed 6 = .ok (.iload_n 1, 1) := by decide +kernel
theorem dX6_isGuessed_7 : decode cX6_isGuessed 7 = .ok (.bipush 97, 2) := by decide +kernel
theorem dX6_isGuessed_9 : decode cX6_isGuessed 9 = .ok (.isub, 1) := by decide +kernel
theorem dX6_isGuessed_10 : decode cX6_isGuessed 10 = .ok (.ishr, 1) := by decide +kernel
theorem dX6_isGuessed_11 : decode cX6_isGuessed 11 = .ok (.iconst 1, 1) := by decide +kernel
theorem dX6_isGuessed_12 : decode cX6_isGuessed 12 = .ok (.iand, 1) := by decide +kernel
theorem dX6_isGuessed_13 : decode cX6_isGuessed 13 = .ok (.iconst 1, 1) := by decide +kernel
theorem dX6_isGuessed_14 : decode cX6_isGuessed 14 = .ok (.if_icmp .ne 7, 3) := by decide +kernel
theorem dX6_isGuessed_17 : decode cX6_isGuessed 17 = .ok (.iconst 1, 1) := by decide +kernel
theorem dX6_isGuessed_18 : decode cX6_isGuessed 18 = .ok (.goto 4, 3) := by decide +kernel
theorem dX6_isGuessed_21 : decode cX6_isGuessed 21 = .ok (.iconst 0, 1) := by decide +kernel
theorem dX6_isGuessed_22 : decode cX6_isGuessed 22 = .ok (.ireturn, 1) := by decide +kernel
theorem dX6_runs_0 : decode cX6_runs 0 = .ok (.aload_n 0, 1) := by decide +kernel
theorem dX6_runs_1 : decode cX6_runs 1 = .ok (.getfield 7, 3) := by decide +kernel
theorem dX6_runs_4 : decode cX6_runs 4 = .ok (.iconst 2, 1) := by decide +kernel
theorem dX6_runs_5 : decode cX6_runs 5 = .ok (.iaload, 1) := by decide +kernel
theorem dX6_runs_6 : decode cX6_runs 6 = .ok (.iconst 1, 1) := by decide +kernel
theorem dX6_runs_7 : decode cX6_runs 7 = .ok (.if_icmp .ne 7, 3) := by decide +kernel
theorem dX6_runs_10 : decode cX6_runs 10 = .ok (.iconst 1, 1) := by decide +kernel
theorem dX6_runs_11 : decode cX6_runs 11 = .ok (.goto 4, 3) := by decide +kernel
theorem dX6_runs_14 : decode cX6_runs 14 = .ok (.iconst 0, 1) := by decide +kernel
theorem dX6_runs_15 : decode cX6_runs 15 = .ok (.ireturn, 1) := by decide +kernel
set_option maxRecDepth 20000 in
theorem ggX6_type_X6_in : GoodIn wsX6_type wsX6_in := goodIn_r _ [6] (by decide +kernel) (by decide +kernel)
set_option maxRecDepth 20000 in
theorem gX6_type_X6_in : GoodIn wsX6_type (va_wsS RX6 41 yX6_in wsX6_in) := goodIn_app (goodIn_of _ (by decide +kernel)) ggX6_type_X6_in
theorem dX6_type_0 : decode cX6_type 0 = .ok (.iload_n 1, 1) := by decide +kernel
theorem dX6_type_1 : decode cX6_type 1 = .ok (.bipush 33, 2) := by decide +kernel
theorem dX6_type_3 : decode cX6_type 3 = .ok (.bipush 126, 2) := by decide +kernel
theorem dX6_type_5 : decode cX6_type 5 = .ok (.invokestatic 41, 3) := by decide +kernel
theorem dX6_type_8 : decode cX6_type 8 = .ok (.ifCond .ne 6, 3) := by decide +kernel
theorem dX6_type_11 : decode cX6_type 11 = .ok (.bipush (-2), 2) := by decide +kernel
theorem dX6_type_13 : decode cX6_type 13 = .ok (.ireturn, 1) := by decide +kernel
theorem dX6_type_14 : decode cX6_type 14 = .ok (.aload_n 0, 1) := by decide +kernel
theorem dX6_type_15 : decode cX6_type 15 = .ok (.getfield 48, 3) := by decide +kernel
theorem dX6_type_18 : decode cX6_type 18 = .ok (.bipush 80, 2) := by decide +kernel
theorem dX6_type_20 : decode cX6_type 20 = .ok (.if_icmp .ne 6, 3) := by decide +kernel
theorem dX6_type_23 : decode cX6_type 23 = .ok (.bipush (-4), 2) := by decide +kernel
theorem dX6_type_25 : decode cX6_type 25 = .ok (.ireturn, 1) := by decide +kernel
theorem dX6_type_26 : decode cX6_type 26 = .ok (.aload_n 0, 1) := by decide +kernel
theorem dX6_type_27 : decode cX6_type 27 = .ok (.getfield 19, 3) := by decide +kernel
theorem dX6_type_30 : decode cX6_type 30 = .ok (.aload_n 0, 1) := by decide +kernel
theorem dX6_type_31 : decode cX6_type 31 = .ok (.getfield 48, 3) := by decide +kernel
theorem dX6_type_34 : decode cX6_type 34 = .ok (.iload_n 1, 1) := by decide +kernel
theorem dX6_type_35 : decode cX6_type 35 = .ok (.iastore, 1) := by decide +kernel
theorem dX6_type_36 : decode cX6_type 36 = .ok (.aload_n 0, 1) := by decide +kernel
theorem dX6_type_37 : decode cX6_type 37 = .ok (.dup, 1) := by decide +kernel
theorem dX6_type_38 : decode cX6_type 38 = .ok (.getfield 48, 3) := by decide +kernel
theorem dX6_type_41 : decode cX6_type 41 = .ok (.iconst 1, 1) := by decide +kernel
theorem dX6_type_42 : decode cX6_type 42 = .ok (.iadd, 1) := by decide +kernel
theorem dX6_type_43 : decode cX6_type 43 = .ok (.putfield 48, 3) := by decide +kernel
theorem dX6_type_46 : decode cX6_type 46 = .ok (.aload_n 0, 1) := by decide +kernel
theorem dX6_type_47 : decode cX6_type 47 = .ok (.getfield 48, 3) := by decide +kernel
theorem dX6_type_50 : decode cX6_type 50 = .ok (.ireturn, 1) := by decide +kernel
theorem dX6_clearText_0 : decode cX6_clearText 0 = .ok (.aload_n 0, 1) := by decide +kernel
theorem dX6_clearText_1 : decode cX6_clearText 1 = .ok (.getfield 48, 3) := by decide +kernel
theorem dX6_clearText_4 : decode cX6_clearText 4 = .ok (.istore_n 1, 1) := by decide +kernel
theorem dX6_clearText_5 : decode cX6_clearText 5 = .ok (.aload_n 0, 1) := by decide +kernel
theorem dX6_clearText_6 : decode cX6_clearText 6 = .ok (.iconst 0, 1) := by decide +kernel
theorem dX6_clearText_7 : decode cX6_clearText 7 = .ok (.putfield 48, 3) := by decide +kernel
theorem dX6_clearText_10 : decode cX6_clearText 10 = .ok (.iload_n 1, 1) := by decide +kernel
theorem dX6_clearText_11 : decode cX6_clearText 11 = .ok (.ireturn, 1) := by decide +kernel
set_option maxRecDepth 20000 in
theorem ggX6_error_X6_isLetter : GoodIn wsX6_error wsX6_isLetter := goodIn_r _ [6, 7, 8, 5, 9] (by decide +kernel) (by decide +kernel)
set_option maxRecDepth 20000 in
theorem gX6_error_X6_isLetter : GoodIn wsX6_error (va_wsS RX6 51 yX6_isLetter wsX6_isLetter) := goodIn_app (goodIn_of _ (by decide +kernel)) ggX6_error_X6_isLetter
theorem dX6_error_0 : decode cX6_error 0 = .ok (.iconst 0, 1) := by decide +kernel
theorem dX6_error_1 : decode cX6_error 1 = .ok (.istore_n 1, 1) := by decide +kernel
theorem dX6_error_2 : decode cX6_error 2 = .ok (.iconst 0, 1) := by decide +kernel
theorem dX6_error_3 : decode cX6_error 3 = .ok (.istore_n 2, 1) := by decide +kernel
theorem dX6_error_4 : decode cX6_error 4 = .ok (.iload_n 2, 1) := by decide +kernel
theorem dX6_error_5 : decode cX6_error 5 = .ok (.aload_n 0, 1) := by decide +kernel
theorem dX6_error_6 : decode cX6_error 6 = .ok (.getfield 48, 3) := by decide +kernel
theorem dX6_error_9 : decode cX6_error 9 = .ok (.if_icmp .ge 62, 3) := by decide +kernel
theorem dX6_error_12 : decode cX6_error 12 = .ok (.aload_n 0, 1) := by decide +kernel
theorem dX6_error_13 : decode cX6_error 13 = .ok (.getfield 19, 3) := by decide +kernel
theorem dX6_error_16 : decode cX6_error 16 = .ok (.iload_n 2, 1) := by decide +kernel
theorem dX6_error_17 : decode cX6_error 17 = .ok (.iaload, 1) := by decide +kernel
theorem dX6_error_18 : decode cX6_error 18 = .ok (.invokestatic 51, 3) := by decide +kernel
theorem dX6_error_21 : decode cX6_error 21 = .ok (.istore_n 3, 1) := by decide +kernel
theorem dX6_error_22 : decode cX6_error 22 = .ok (.iload_n 3, 1) := by decide +kernel
theorem dX6_error_23 : decode cX6_error 23 = .ok (.ifCond .eq 12, 3) := by decide +kernel
theorem dX6_error_26 : decode cX6_error 26 = .ok (.iload_n 1, 1) := by decide +kernel
theorem dX6_error_27 : decode cX6_error 27 = .ok (.bipush 8, 2) := by decide +kernel
theorem dX6_error_29 : decode cX6_error 29 = .ok (.if_icmp .ne 24, 3) := by decide +kernel
theorem dX6_error_32 : decode cX6_error 32 = .ok (.goto 19, 3) := by decide +kernel
theorem dX6_error_35 : decode cX6_error 35 = .ok (.aload_n 0, 1) := by decide +kernel
theorem dX6_error_36 : decode cX6_error 36 = .ok (.getfield 19, 3) := by decide +kernel
theorem dX6_error_39 : decode cX6_error 39 = .ok (.iload_n 2, 1) := by decide +kernel
theorem dX6_error_40 : decode cX6_error 40 = .ok (.iaload, 1) := by decide +kernel
theorem dX6_error_41 : decode cX6_error 41 = .ok (.bipush 44, 2) := by decide +kernel
theorem dX6_error_43 : decode cX6_error 43 = .ok (.if_icmp .ne 8, 3) := by decide +kernel
theorem dX6_error_46 : decode cX6_error 46 = .ok (.iload_n 1, 1) := by decide +kernel
theorem dX6_error_47 : decode cX6_error 47 = .ok (.iconst 2, 1) := by decide +kernel
theorem dX6_error_48 : decode cX6_error 48 = .ok (.if_icmp .ge 5, 3) := by decide +kernel
theorem dX6_error_51 : decode cX6_error 51 = .ok (.iload_n 2, 1) := by decide +kernel
theorem dX6_error_52 : decode cX6_error 52 = .ok (.ireturn, 1) := by decide +kernel
theorem dX6_error_53 : decode cX6_error 53 = .ok (.iload_n 3, 1) := by decide +kernel
theorem dX6_error_54 : decode cX6_error 54 = .ok (.ifCond .eq 9, 3) := by decide +kernel
theorem dX6_error_57 : decode cX6_error 57 = .ok (.iload_n 1, 1) := by decide +kernel
theorem dX6_error_58 : decode cX6_error 58 = .ok (.iconst 1, 1) := by decide +kernel
theorem dX6_error_59 : decode cX6_error 59 = .ok (.iadd, 1) := by decide +kernel
theorem dX6_error_60 : decode cX6_error 60 = .ok (.goto 4, 3) := by decide +kernel
theorem dX6_error_63 : decode cX6_error 63 = .ok (.iconst 0, 1) := by decide +kernel
theorem dX6_error_64 : decode cX6_error 64 = .ok (.istore_n 1, 1) := by decide +kernel
theorem dX6_error_65 : decode cX6_error 65 = .ok (.iinc 2 1, 3) := by decide +kernel
theorem dX6_error_68 : decode cX6_error 68 = .ok (.goto (-64), 3) := by decide +kernel
theorem dX6_error_71 : decode cX6_error 71 = .ok (.iload_n 1, 1) := by decide +kernel
theorem dX6_error_72 : decode cX6_error 72 = .ok (.iconst 2, 1) := by decide +kernel
theorem dX6_error_73 : decode cX6_error 73 = .ok (.if_icmp .ge 10, 3) := by decide +kernel
theorem dX6_error_76 : decode cX6_error 76 = .ok (.aload_n 0, 1) := by decide +kernel
theorem dX6_error_77 : decode cX6_error 77 = .ok (.getfield 48, 3) := by decide +kernel
theorem dX6_error_80 : decode cX6_error 80 = .ok (.goto 5, 3) := by decide +kernel
theorem dX6_error_83 : decode cX6_error 83 = .ok (.bipush (-6), 2) := by decide +kernel
theorem dX6_error_85 : decode cX6_error 85 = .ok (.ireturn, 1) := by decide +kernel
set_option maxRecDepth 20000 in
theorem ggX6_syntaxError_X6_error : GoodIn wsX6_syntaxError wsX6_error := goodIn_r _ [5, 6, 7, 8, 9, 4, 10, 11, 12, 13, 14, 15, 16, 17, 18, 19, 20, 21, 22, 23, 24, 25] (by decide +kernel) (by decide +kernel)
set_option maxRecDepth 20000 in
theorem gX6_syntaxError_X6_error : GoodIn wsX6_syntaxError (wsV RX6 55 RX6 yX6_error wsX6_error) := goodIn_app (goodIn_of _ (by decide +kernel)) ggX6_syntaxError_X6_error
theorem dX6_syntaxError_0 : decode cX6_syntaxError 0 = .ok (.aload_n 0, 1) := by decide +kernel
theorem dX6_syntaxError_1 : decode cX6_syntaxError 1 = .ok (.invokevirtual 55, 3) := by decide +kernel
theorem dX6_syntaxError_4 : decode cX6_syntaxError 4 = .ok (.ireturn, 1) := by decide +kernel
theorem dX6_endOf_0 : decode cX6_endOf 0 = .ok (.iload_n 1, 1) := by decide +kernel
theorem dX6_endOf_1 : decode cX6_endOf 1 = .ok (.istore_n 2, 1) := by decide +kernel
theorem dX6_endOf_2 : decode cX6_endOf 2 = .ok (.iload_n 2, 1) := by decide +kernel
theorem dX6_endOf_3 : decode cX6_endOf 3 = .ok (.aload_n 0, 1) := by decide +kernel
theorem dX6_endOf_4 : decode cX6_endOf 4 = .ok (.getfield 48, 3) := by decide +kernel
theorem dX6_endOf_7 : decode cX6_endOf 7 = .ok (.if_icmp .ge 20, 3) := by decide +kernel
theorem dX6_endOf_10 : decode cX6_endOf 10 = .ok (.aload_n 0, 1) := by decide +kernel
theorem dX6_endOf_11 : decode cX6_endOf 11 = .ok (.getfield 19, 3) := by decide +kernel
theorem dX6_endOf_14 : decode cX6_endOf 14 = .ok (.iload_n 2, 1) := by decide +kernel
theorem dX6_endOf_15 : decode cX6_endOf 15 = .ok (.iaload, 1) := by decide +kernel
theorem dX6_endOf_16 : decode cX6_endOf 16 = .ok (.bipush 44, 2) := by decide +kernel
theorem dX6_endOf_18 : decode cX6_endOf 18 = .ok (.if_icmp .eq 9, 3) := by decide +kernel
theorem dX6_endOf_21 : decode cX6_endOf 21 = .ok (.iinc 2 1, 3) := by decide +kernel
theorem dX6_endOf_24 : decode cX6_endOf 24 = .ok (.goto (-22), 3) := by decide +kernel
theorem dX6_endOf_27 : decode cX6_endOf 27 = .ok (.iload_n 2, 1) := by decide +kernel
theorem dX6_endOf_28 : decode cX6_endOf 28 = .ok (.ireturn, 1) := by decide +kernel
set_option maxRecDepth 20000 in
theorem ggX6_compares_X6_letter : GoodIn wsX6_compares wsX6_letter := goodIn_r _ [7, 1, 8, 9, 10, 11, 12, 13, 14, 15, 16, 17, 18, 19] (by decide +kernel) (by decide +kernel)
set_option maxRecDepth 20000 in
theorem gX6_compares_X6_letter : GoodIn wsX6_compares (wsV RX6 59 RX6 yX6_letter wsX6_letter) := goodIn_app (goodIn_of _ (by decide +kernel)) ggX6_compares_X6_letter
theorem dX6_compares_0 : decode cX6_compares 0 = .ok (.iconst 0, 1) := by decide +kernel
theorem dX6_compares_1 : decode cX6_compares 1 = .ok (.istore 4, 2) := by decide +kernel
theorem dX6_compares_3 : decode cX6_compares 3 = .ok (.iload 4, 2) := by decide +kernel
theorem dX6_compares_5 : decode cX6_compares 5 = .ok (.iload_n 3, 1) := by decide +kernel
theorem dX6_compares_6 : decode cX6_compares 6 = .ok (.iload_n 2, 1) := by decide +kernel
theorem dX6_compares_7 : decode cX6_compares 7 = .ok (.isub, 1) := by decide +kernel
theorem dX6_compares_8 : decode cX6_compares 8 = .ok (.if_icmp .ge 52, 3) := by decide +kernel
theorem dX6_compares_11 : decode cX6_compares 11 = .ok (.iload 4, 2) := by decide +kernel
theorem dX6_compares_13 : decode cX6_compares 13 = .ok (.aload_n 0, 1) := by decide +kernel
theorem dX6_compares_14 : decode cX6_compares 14 = .ok (.getfield 7, 3) := by decide +kernel
theorem dX6_compares_17 : decode cX6_compares 17 = .ok (.bipush 49, 2) := by decide +kernel
theorem dX6_compares_19 : decode cX6_compares 19 = .ok (.iload_n 1, 1) := by decide +kernel
theorem dX6_compares_20 : decode cX6_compares 20 = .ok (.iadd, 1) := by decide +kernel
theorem dX6_compares_21 : decode cX6_compares 21 = .ok (.iaload, 1) := by decide +kernel
theorem dX6_compares_22 : decode cX6_compares 22 = .ok (.if_icmp .ne 5, 3) := by decide +kernel
theorem dX6_compares_25 : decode cX6_compares 25 = .ok (.iconst (-1), 1) := by decide +kernel
theorem dX6_compares_26 : decode cX6_compares 26 = .ok (.ireturn, 1) := by decide +kernel
theorem dX6_compares_27 : decode cX6_compares 27 = .ok (.aload_n 0, 1) := by decide +kernel
theorem dX6_compares_28 : decode cX6_compares 28 = .ok (.iload_n 1, 1) := by decide +kernel
theorem dX6_compares_29 : decode cX6_compares 29 = .ok (.iload 4, 2) := by decide +kernel
theorem dX6_compares_31 : decode cX6_compares 31 = .ok (.invokevirtual 59, 3) := by decide +kernel
theorem dX6_compares_34 : decode cX6_compares 34 = .ok (.aload_n 0, 1) := by decide +kernel
theorem dX6_compares_35 : decode cX6_compares 35 = .ok (.getfield 19, 3) := by decide +kernel
theorem dX6_compares_38 : decode cX6_compares 38 = .ok (.iload_n 2, 1) := by decide +kernel
theorem dX6_compares_39 : decode cX6_compares 39 = .ok (.iload 4, 2) := by decide +kernel
theorem dX6_compares_41 : decode cX6_compares 41 = .ok (.iadd, 1) := by decide +kernel
theorem dX6_compares_42 : decode cX6_compares 42 = .ok (.iaload, 1) := by decide +kernel
theorem dX6_compares_43 : decode cX6_compares 43 = .ok (.isub, 1) := by decide +kernel
theorem dX6_compares_44 : decode cX6_compares 44 = .ok (.istore 5, 2) := by decide +kernel
theorem dX6_compares_46 : decode cX6_compares 46 = .ok (.iload 5, 2) := by decide +kernel
theorem dX6_compares_48 : decode cX6_compares 48 = .ok (.ifCond .eq 6, 3) := by decide +kernel
theorem dX6_compares_51 : decode cX6_compares 51 = .ok (.iload 5, 2) := by decide +kernel
theorem dX6_compares_53 : decode cX6_compares 53 = .ok (.ireturn, 1) := by decide +kernel
theorem dX6_compares_54 : decode cX6_compares 54 = .ok (.iinc 4 1, 3) := by decide +kernel
theorem dX6_compares_57 : decode cX6_compares 57 = .ok (.goto (-54), 3) := by decide +kernel
theorem dX6_compares_60 : decode cX6_compares 60 = .ok (.aload_n 0, 1) := by decide +kernel
theorem dX6_compares_61 : decode cX6_compares 61 = .ok (.getfield 7, 3) := by decide +kernel
theorem dX6_compares_64 : decode cX6_compares 64 = .ok (.bipush 49, 2) := by decide +kernel
theorem dX6_compares_66 : decode cX6_compares 66 = .ok (.iload_n 1, 1) := by decide +kernel
theorem dX6_compares_67 : decode cX6_compares 67 = .ok (.iadd, 1) := by decide +kernel
theorem dX6_compares_68 : decode cX6_compares 68 = .ok (.iaload, 1) := by decide +kernel
theorem dX6_compares_69 : decode cX6_compares 69 = .ok (.iload_n 3, 1) := by decide +kernel
theorem dX6_compares_70 : decode cX6_compares 70 = .ok (.iload_n 2, 1) := by decide +kernel
theorem dX6_compares_71 : decode cX6_compares 71 = .ok (.isub, 1) := by decide +kernel
theorem dX6_compares_72 : decode cX6_compares 72 = .ok (.isub, 1) := by decide +kernel
theorem dX6_compares_73 : decode cX6_compares 73 = .ok (.ireturn, 1) := by decide +kernel
set_option maxRecDepth 20000 in
theorem ggX6_placeFor_X6_compares : GoodIn wsX6_placeFor wsX6_compares := goodIn_r _ [6, 1, 7, 8, 9, 10, 5, 11, 12, 13, 14, 15, 16, 17, 18, 19, 20, 21, 22, 23] (by decide +kernel) (by decide +kernel)
set_option maxRecDepth 20000 in
theorem gX6_placeFor_X6_compares : GoodIn wsX6_placeFor (wsV RX6 63 RX6 yX6_compares wsX6_compares) := goodIn_app (goodIn_of _ (by decide +kernel)) ggX6_placeFor_X6_compares
theorem dX6_placeFor_0 : decode cX6_placeFor 0 = .ok (.iconst 0, 1) := by decide +kernel
theorem dX6_placeFor_1 : decode cX6_placeFor 1 = .ok (.istore_n 3, 1) := by decide +kernel
theorem dX6_placeFor_2 : decode cX6_placeFor 2 = .ok (.iload_n 3, 1) := by decide +kernel
theorem dX6_placeFor_3 : decode cX6_placeFor 3 = .ok (.aload_n 0, 1) := by decide +kernel
theorem dX6_placeFor_4 : decode cX6_placeFor 4 = .ok (.getfield 7, 3) := by decide +kernel
theorem dX6_placeFor_7 : decode cX6_placeFor 7 = .ok (.iconst 0, 1) := by decide +kernel
theorem dX6_placeFor_8 : decode cX6_placeFor 8 = .ok (.iaload, 1) := by decide +kernel
theorem dX6_placeFor_9 : decode cX6_placeFor 9 = .ok (.if_icmp .ge 19, 3) := by decide +kernel
theorem dX6_placeFor_12 : decode cX6_placeFor 12 = .ok (.aload_n 0, 1) := by decide +kernel
theorem dX6_placeFor_13 : decode cX6_placeFor 13 = .ok (.iload_n 3, 1) := by decide +kernel
theorem dX6_placeFor_14 : decode cX6_placeFor 14 = .ok (.iload_n 1, 1) := by decide +kernel
theorem dX6_placeFor_15 : decode cX6_placeFor 15 = .ok (.iload_n 2, 1) := by decide +kernel
theorem dX6_placeFor_16 : decode cX6_placeFor 16 = .ok (.invokevirtual 63, 3) := by decide +kernel
theorem dX6_placeFor_19 : decode cX6_placeFor 19 = .ok (.ifCond .ge 9, 3) := by decide +kernel
theorem dX6_placeFor_22 : decode cX6_placeFor 22 = .ok (.iinc 3 1, 3) := by decide +kernel
theorem dX6_placeFor_25 : decode cX6_placeFor 25 = .ok (.goto (-23), 3) := by decide +kernel
theorem dX6_placeFor_28 : decode cX6_placeFor 28 = .ok (.iload_n 3, 1) := by decide +kernel
theorem dX6_placeFor_29 : decode cX6_placeFor 29 = .ok (.ireturn, 1) := by decide +kernel
set_option maxRecDepth 20000 in
theorem ggX6_isIn_X6_placeFor : GoodIn wsX6_isIn wsX6_placeFor := goodIn_r _ [6, 1, 7, 8, 9, 5, 10, 11, 12, 13, 14, 15, 16, 17, 18, 19, 20, 21, 22, 23, 24, 25, 26, 27] (by decide +kernel) (by decide +kernel)
set_option maxRecDepth 20000 in
theorem gX6_isIn_X6_placeFor : GoodIn wsX6_isIn (wsV RX6 67 RX6 yX6_placeFor wsX6_placeFor) := goodIn_app (goodIn_of _ (by decide +kernel)) ggX6_isIn_X6_placeFor
set_option maxRecDepth 20000 in
theorem ggX6_isIn_X6_compares : GoodIn wsX6_isIn wsX6_compares := goodIn_r _ [10, 1, 11, 12, 13, 14, 5, 15, 16, 17, 18, 19, 20, 21, 22, 23, 24, 25, 26, 27] (by decide +kernel) (by decide +kernel)
set_option maxRecDepth 20000 in
theorem gX6_isIn_X6_compares : GoodIn wsX6_isIn (wsV RX6 63 RX6 yX6_compares wsX6_compares) := goodIn_app (goodIn_of _ (by decide +kernel)) ggX6_isIn_X6_compares
theorem dX6_isIn_0 : decode cX6_isIn 0 = .ok (.aload_n 0, 1) := by decide +kernel
theorem dX6_isIn_1 : decode cX6_isIn 1 = .ok (.iload_n 1, 1) := by decide +kernel
theorem dX6_isIn_2 : decode cX6_isIn 2 = .ok (.iload_n 2, 1) := by decide +kernel
theorem dX6_isIn_3 : decode cX6_isIn 3 = .ok (.invokevirtual 67, 3) := by decide +kernel
theorem dX6_isIn_6 : decode cX6_isIn 6 = .ok (.istore_n 3, 1) := by decide +kernel
theorem dX6_isIn_7 : decode cX6_isIn 7 = .ok (.iload_n 3, 1) := by decide +kernel
theorem dX6_isIn_8 : decode cX6_isIn 8 = .ok (.aload_n 0, 1) := by decide +kernel
theorem dX6_isIn_9 : decode cX6_isIn 9 = .ok (.getfield 7, 3) := by decide +kernel
theorem dX6_isIn_12 : decode cX6_isIn 12 = .ok (.iconst 0, 1) := by decide +kernel
theorem dX6_isIn_13 : decode cX6_isIn 13 = .ok (.iaload, 1) := by decide +kernel
theorem dX6_isIn_14 : decode cX6_isIn 14 = .ok (.if_icmp .ge 17, 3) := by decide +kernel
theorem dX6_isIn_17 : decode cX6_isIn 17 = .ok (.aload_n 0, 1) := by decide +kernel
theorem dX6_isIn_18 : decode cX6_isIn 18 = .ok (.iload_n 3, 1) := by decide +kernel
theorem dX6_isIn_19 : decode cX6_isIn 19 = .ok (.iload_n 1, 1) := by decide +kernel
theorem dX6_isIn_20 : decode cX6_isIn 20 = .ok (.iload_n 2, 1) := by decide +kernel
theorem dX6_isIn_21 : decode cX6_isIn 21 = .ok (.invokevirtual 63, 3) := by decide +kernel
theorem dX6_isIn_24 : decode cX6_isIn 24 = .ok (.ifCond .ne 7, 3) := by decide +kernel
theorem dX6_isIn_27 : decode cX6_isIn 27 = .ok (.iconst 1, 1) := by decide +kernel
theorem dX6_isIn_28 : decode cX6_isIn 28 = .ok (.goto 4, 3) := by decide +kernel
theorem dX6_isIn_31 : decode cX6_isIn 31 = .ok (.iconst 0, 1) := by decide +kernel
theorem dX6_isIn_32 : decode cX6_isIn 32 = .ok (.ireturn, 1) := by decide +kernel
theorem dX6_noGame_0 : decode cX6_noGame 0 = .ok (.iconst 2, 1) := by decide +kernel
theorem dX6_noGame_1 : decode cX6_noGame 1 = .ok (.istore_n 1, 1) := by decide +kernel
theorem dX6_noGame_2 : decode cX6_noGame 2 = .ok (.iload_n 1, 1) := by decide +kernel
theorem dX6_noGame_3 : decode cX6_noGame 3 = .ok (.bipush 8, 2) := by decide +kernel
theorem dX6_noGame_5 : decode cX6_noGame 5 = .ok (.if_icmp .ge 16, 3) := by decide +kernel
theorem dX6_noGame_8 : decode cX6_noGame 8 = .ok (.aload_n 0, 1) := by decide +kernel
theorem dX6_noGame_9 : decode cX6_noGame 9 = .ok (.getfield 7, 3) := by decide +kernel
theorem dX6_noGame_12 : decode cX6_noGame 12 = .ok (.iload_n 1, 1) := by decide +kernel
theorem dX6_noGame_13 : decode cX6_noGame 13 = .ok (.iconst 0, 1) := by decide +kernel
theorem dX6_noGame_14 : decode cX6_noGame 14 = .ok (.iastore, 1) := by decide +kernel
theorem dX6_noGame_15 : decode cX6_noGame 15 = .ok (.iinc 1 1, 3) := by decide +kernel
theorem dX6_noGame_18 : decode cX6_noGame 18 = .ok (.goto (-16), 3) := by decide +kernel
theorem dX6_noGame_21 : decode cX6_noGame 21 = .ok (.bipush 15, 2) := by decide +kernel
theorem dX6_noGame_23 : decode cX6_noGame 23 = .ok (.istore_n 1, 1) := by decide +kernel
theorem dX6_noGame_24 : decode cX6_noGame 24 = .ok (.iload_n 1, 1) := by decide +kernel
theorem dX6_noGame_25 : decode cX6_noGame 25 = .ok (.bipush 49, 2) := by decide +kernel
theorem dX6_noGame_27 : decode cX6_noGame 27 = .ok (.if_icmp .ge 16, 3) := by decide +kernel
theorem dX6_noGame_30 : decode cX6_noGame 30 = .ok (.aload_n 0, 1) := by decide +kernel
theorem dX6_noGame_31 : decode cX6_noGame 31 = .ok (.getfield 7, 3) := by decide +kernel
theorem dX6_noGame_34 : decode cX6_noGame 34 = .ok (.iload_n 1, 1) := by decide +kernel
theorem dX6_noGame_35 : decode cX6_noGame 35 = .ok (.iconst 0, 1) := by decide +kernel
theorem dX6_noGame_36 : decode cX6_noGame 36 = .ok (.iastore, 1) := by decide +kernel
theorem dX6_noGame_37 : decode cX6_noGame 37 = .ok (.iinc 1 1, 3) := by decide +kernel
theorem dX6_noGame_40 : decode cX6_noGame 40 = .ok (.goto (-16), 3) := by decide +kernel
theorem dX6_noGame_43 : decode cX6_noGame 43 = .ok (.return_, 1) := by decide +kernel
set_option maxRecDepth 20000 in
theorem ggX6_puts_X6_placeFor : GoodIn wsX6_puts wsX6_placeFor := goodIn_r _ [7, 1, 8, 9, 10, 6, 11, 2, 12, 13, 14, 15, 16, 17, 18, 19, 20, 21, 22, 23, 24, 25, 26, 27] (by decide +kernel) (by decide +kernel)
set_option maxRecDepth 20000 in
theorem gX6_puts_X6_placeFor : GoodIn wsX6_puts (wsV RX6 67 RX6 yX6_placeFor wsX6_placeFor) := goodIn_app (goodIn_of _ (by decide +kernel)) ggX6_puts_X6_placeFor
set_option maxRecDepth 20000 in
theorem ggX6_puts_X6_letter : GoodIn wsX6_puts wsX6_letter := goodIn_r _ [15, 1, 16, 17, 18, 19, 20, 21, 22, 23, 24, 25, 26, 27] (by decide +kernel) (by decide +kernel)
set_option maxRecDepth 20000 in
theorem gX6_puts_X6_letter : GoodIn wsX6_puts (wsV RX6 59 RX6 yX6_letter wsX6_letter) := goodIn_app (goodIn_of _ (by decide +kernel)) ggX6_puts_X6_letter
theorem dX6_puts_0 : decode cX6_puts 0 = .ok (.aload_n 0, 1) := by decide +kernel
theorem dX6_puts_1 : decode cX6_puts 1 = .ok (.iload_n 1, 1) := by decide +kernel
theorem dX6_puts_2 : decode cX6_puts 2 = .ok (.iload_n 2, 1) := by decide +kernel
theorem dX6_puts_3 : decode cX6_puts 3 = .ok (.invokevirtual 67, 3) := by decide +kernel
theorem dX6_puts_6 : decode cX6_puts 6 = .ok (.istore_n 3, 1) := by decide +kernel
theorem dX6_puts_7 : decode cX6_puts 7 = .ok (.aload_n 0, 1) := by decide +kernel
theorem dX6_puts_8 : decode cX6_puts 8 = .ok (.getfield 7, 3) := by decide +kernel
theorem dX6_puts_11 : decode cX6_puts 11 = .ok (.iconst 0, 1) := by decide +kernel
theorem dX6_puts_12 : decode cX6_puts 12 = .ok (.iaload, 1) := by decide +kernel
theorem dX6_puts_13 : decode cX6_puts 13 = .ok (.istore 4, 2) := by decide +kernel
theorem dX6_puts_15 : decode cX6_puts 15 = .ok (.iload 4, 2) := by decide +kernel
theorem dX6_puts_17 : decode cX6_puts 17 = .ok (.iload_n 3, 1) := by decide +kernel
theorem dX6_puts_18 : decode cX6_puts 18 = .ok (.if_icmp .le 73, 3) := by decide +kernel
theorem dX6_puts_21 : decode cX6_puts 21 = .ok (.aload_n 0, 1) := by decide +kernel
theorem dX6_puts_22 : decode cX6_puts 22 = .ok (.getfield 7, 3) := by decide +kernel
theorem dX6_puts_25 : decode cX6_puts 25 = .ok (.bipush 49, 2) := by decide +kernel
theorem dX6_puts_27 : decode cX6_puts 27 = .ok (.iload 4, 2) := by decide +kernel
theorem dX6_puts_29 : decode cX6_puts 29 = .ok (.iadd, 1) := by decide +kernel
theorem dX6_puts_30 : decode cX6_puts 30 = .ok (.aload_n 0, 1) := by decide +kernel
theorem dX6_puts_31 : decode cX6_puts 31 = .ok (.getfield 7, 3) := by decide +kernel
theorem dX6_puts_34 : decode cX6_puts 34 = .ok (.bipush 49, 2) := by decide +kernel
theorem dX6_puts_36 : decode cX6_puts 36 = .ok (.iload 4, 2) := by decide +kernel
theorem dX6_puts_38 : decode cX6_puts 38 = .ok (.iadd, 1) := by decide +kernel
theorem dX6_puts_39 : decode cX6_puts 39 = .ok (.iconst 1, 1) := by decide +kernel
theorem dX6_puts_40 : decode cX6_puts 40 = .ok (.isub, 1) := by decide +kernel
theorem dX6_puts_41 : decode cX6_puts 41 = .ok (.iaload, 1) := by decide +kernel
theorem dX6_puts_42 : decode cX6_puts 42 = .ok (.iastore, 1) := by decide +kernel
theorem dX6_puts_43 : decode cX6_puts 43 = .ok (.iconst 0, 1) := by decide +kernel
theorem dX6_puts_44 : decode cX6_puts 44 = .ok (.istore 5, 2) := by decide +kernel
theorem dX6_puts_46 : decode cX6_puts 46 = .ok (.iload 5, 2) := by decide +kernel
theorem dX6_puts_48 : decode cX6_puts 48 = .ok (.bipush 8, 2) := by decide +kernel
theorem dX6_puts_50 : decode cX6_puts 50 = .ok (.if_icmp .ge 35, 3) := by decide +kernel
theorem dX6_puts_53 : decode cX6_puts 53 = .ok (.aload_n 0, 1) := by decide +kernel
theorem dX6_puts_54 : decode cX6_puts 54 = .ok (.getfield 7, 3) := by decide +kernel
theorem dX6_puts_57 : decode cX6_puts 57 = .ok (.bipush 79, 2) := by decide +kernel
theorem dX6_puts_59 : decode cX6_puts 59 = .ok (.bipush 8, 2) := by decide +kernel
theorem dX6_puts_61 : decode cX6_puts 61 = .ok (.iload 4, 2) := by decide +kernel
theorem dX6_puts_63 : decode cX6_puts 63 = .ok (.imul, 1) := by decide +kernel
theorem dX6_puts_64 : decode cX6_puts 64 = .ok (.iadd, 1) := by decide +kernel
theorem dX6_puts_65 : decode cX6_puts 65 = .ok (.iload 5, 2) := by decide +kernel
theorem dX6_puts_67 : decode cX6_puts 67 = .ok (.iadd, 1) := by decide +kernel
theorem dX6_puts_68 : decode cX6_puts 68 = .ok (.aload_n 0, 1) := by decide +kernel
theorem dX6_puts_69 : decode cX6_puts 69 = .ok (.iload 4, 2) := by decide +kernel
theorem dX6_puts_71 : decode cX6_puts 71 = .ok (.iconst 1, 1) := by decide +kernel
theorem dX6_puts_72 : decode cX6_puts 72 = .ok (.isub, 1) := by decide +kernel
theorem dX6_puts_73 : decode cX6_puts 73 = .ok (.iload 5, 2) := by decide +kernel
theorem dX6_puts_75 : decode cX6_puts 75 = .ok (.invokevirtual 59, 3) := by decide +kernel
theorem dX6_puts_78 : decode cX6_puts 78 = .ok (.iastore, 1) := by decide +kernel
theorem dX6_puts_79 : decode cX6_puts 79 = .ok (.iinc 5 1, 3) := by decide +kernel
theorem dX6_puts_82 : decode cX6_puts 82 = .ok (.goto (-36), 3) := by decide +kernel
theorem dX6_puts_85 : decode cX6_puts 85 = .ok (.iinc 4 (-1), 3) := by decide +kernel
theorem dX6_puts_88 : decode cX6_puts 88 = .ok (.goto (-73), 3) := by decide +kernel
theorem dX6_puts_91 : decode cX6_puts 91 = .ok (.aload_n 0, 1) := by decide +kernel
theorem dX6_puts_92 : decode cX6_puts 92 = .ok (.getfield 7, 3) := by decide +kernel
theorem dX6_puts_95 : decode cX6_puts 95 = .ok (.bipush 49, 2) := by decide +kernel
theorem dX6_puts_97 : decode cX6_puts 97 = .ok (.iload_n 3, 1) := by decide +kernel
theorem dX6_puts_98 : decode cX6_puts 98 = .ok (.iadd, 1) := by decide +kernel
theorem dX6_puts_99 : decode cX6_puts 99 = .ok (.iload_n 2, 1) := by decide +kernel
theorem dX6_puts_100 : decode cX6_puts 100 = .ok (.iload_n 1, 1) := by decide +kernel
theorem dX6_puts_101 : decode cX6_puts 101 = .ok (.isub, 1) := by decide +kernel
theorem dX6_puts_102 : decode cX6_puts 102 = .ok (.iastore, 1) := by decide +kernel
theorem dX6_puts_103 : decode cX6_puts 103 = .ok (.iconst 0, 1) := by decide +kernel
theorem dX6_puts_104 : decode cX6_puts 104 = .ok (.istore 4, 2) := by decide +kernel
theorem dX6_puts_106 : decode cX6_puts 106 = .ok (.iload 4, 2) := by decide +kernel
theorem dX6_puts_108 : decode cX6_puts 108 = .ok (.bipush 8, 2) := by decide +kernel
theorem dX6_puts_110 : decode cX6_puts 110 = .ok (.if_icmp .ge 45, 3) := by decide +kernel
theorem dX6_puts_113 : decode cX6_puts 113 = .ok (.aload_n 0, 1) := by decide +kernel
theorem dX6_puts_114 : decode cX6_puts 114 = .ok (.getfield 7, 3) := by decide +kernel
theorem dX6_puts_117 : decode cX6_puts 117 = .ok (.bipush 79, 2) := by decide +kernel
theorem dX6_puts_119 : decode cX6_puts 119 = .ok (.bipush 8, 2) := by decide +kernel
theorem dX6_puts_121 : decode cX6_puts 121 = .ok (.iload_n 3, 1) := by decide +kernel
theorem dX6_puts_122 : decode cX6_puts 122 = .ok (.imul, 1) := by decide +kernel
theorem dX6_puts_123 : decode cX6_puts 123 = .ok (.iadd, 1) := by decide +kernel
theorem dX6_puts_124 : decode cX6_puts 124 = .ok (.iload 4, 2) := by decide +kernel
theorem dX6_puts_126 : decode cX6_puts 126 = .ok (.iadd, 1) := by decide +kernel
theorem dX6_puts_127 : decode cX6_puts 127 = .ok (.iload_n 1, 1) := by decide +kernel
theorem dX6_puts_128 : decode cX6_puts 128 = .ok (.iload 4, 2) := by decide +kernel
theorem dX6_puts_130 : decode cX6_puts 130 = .ok (.iadd, 1) := by decide +kernel
theorem dX6_puts_131 : decode cX6_puts 131 = .ok (.iload_n 2, 1) := by decide +kernel
theorem dX6_puts_132 : decode cX6_puts 132 = .ok (.if_icmp .ge 15, 3) := by decide +kernel
theorem dX6_puts_135 : decode cX6_puts 135 = .ok (.aload_n 0, 1) := by decide +kernel
theorem dX6_puts_136 : decode cX6_puts 136 = .ok (.getfield 19, 3) := by decide +kernel
theorem dX6_puts_139 : decode cX6_puts 139 = .ok (.iload_n 1, 1) := by decide +kernel
theorem dX6_puts_140 : decode cX6_puts 140 = .ok (.iload 4, 2) := by decide +kernel
theorem dX6_puts_142 : decode cX6_puts 142 = .ok (.iadd, 1) := by decide +kernel
theorem dX6_puts_143 : decode cX6_puts 143 = .ok (.iaload, 1) := by decide +kernel
theorem dX6_puts_144 : decode cX6_puts 144 = .ok (.goto 4, 3) := by decide +kernel
theorem dX6_puts_147 : decode cX6_puts 147 = .ok (.iconst 0, 1) := by decide +kernel
theorem dX6_puts_148 : decode cX6_puts 148 = .ok (.iastore, 1) := by decide +kernel
theorem dX6_puts_149 : decode cX6_puts 149 = .ok (.iinc 4 1, 3) := by decide +kernel
theorem dX6_puts_152 : decode cX6_puts 152 = .ok (.goto (-46), 3) := by decide +kernel
theorem dX6_puts_155 : decode cX6_puts 155 = .ok (.aload_n 0, 1) := by decide +kernel
theorem dX6_puts_156 : decode cX6_puts 156 = .ok (.getfield 7, 3) := by decide +kernel
theorem dX6_puts_159 : decode cX6_puts 159 = .ok (.iconst 0, 1) := by decide +kernel
theorem dX6_puts_160 : decode cX6_puts 160 = .ok (.dup2, 1) := by decide +kernel
theorem dX6_puts_161 : decode cX6_puts 161 = .ok (.iaload, 1) := by decide +kernel
theorem dX6_puts_162 : decode cX6_puts 162 = .ok (.iconst 1, 1) := by decide +kernel
theorem dX6_puts_163 : decode cX6_puts 163 = .ok (.iadd, 1) := by decide +kernel
theorem dX6_puts_164 : decode cX6_puts 164 = .ok (.iastore, 1) := by decide +kernel
theorem dX6_puts_165 : decode cX6_puts 165 = .ok (.return_, 1) := by decide +kernel
set_option maxRecDepth 20000 in
theorem ggX6_addWords_X6_error : GoodIn wsX6_addWords wsX6_error := goodIn_r _ [7, 1, 8, 9, 10, 6, 11, 12, 13, 14, 66, 67, 68, 69, 70, 71, 72, 73, 74, 75, 76, 77] (by decide +kernel) (by decide +kernel)
set_option maxRecDepth 20000 in
theorem gX6_addWords_X6_error : GoodIn wsX6_addWords (wsV RX6 55 RX6 yX6_error wsX6_error) := goodIn_app (goodIn_of _ (by decide +kernel)) ggX6_addWords_X6_error
set_option maxRecDepth 20000 in
theorem ggX6_addWords_X6_runs : GoodIn wsX6_addWords wsX6_runs := goodIn_r _ [18, 2, 66, 67, 68, 69, 70, 71, 72, 73, 74, 75, 76, 77] (by decide +kernel) (by decide +kernel)
set_option maxRecDepth 20000 in
theorem gX6_addWords_X6_runs : GoodIn wsX6_addWords (wsV RX6 70 RX6 yX6_runs wsX6_runs) := goodIn_app (goodIn_of _ (by decide +kernel)) ggX6_addWords_X6_runs
set_option maxRecDepth 20000 in
theorem ggX6_addWords_X6_putAside : GoodIn wsX6_addWords wsX6_putAside := goodIn_r _ [22, 23, 2, 66, 67, 68, 69, 70, 71, 72, 73, 74, 75, 76, 77] (by decide +kernel) (by decide +kernel)
set_option maxRecDepth 20000 in
theorem gX6_addWords_X6_putAside : GoodIn wsX6_addWords (wsV RX6 74 RX6 yX6_putAside wsX6_putAside) := goodIn_app (goodIn_of _ (by decide +kernel)) ggX6_addWords_X6_putAside
set_option maxRecDepth 20000 in
theorem ggX6_addWords_X6_endOf : GoodIn wsX6_addWords wsX6_endOf := goodIn_r _ [27, 1, 8, 66, 67, 68, 69, 70, 71, 72, 73, 74, 75, 76, 77] (by decide +kernel) (by decide +kernel)
set_option maxRecDepth 20000 in
theorem gX6_addWords_X6_endOf : GoodIn wsX6_addWords (wsV RX6 77 RX6 yX6_endOf wsX6_endOf) := goodIn_app (goodIn_of _ (by decide +kernel)) ggX6_addWords_X6_endOf
set_option maxRecDepth 20000 in
theorem ggX6_addWords_X6_isIn : GoodIn wsX6_addWords wsX6_isIn := goodIn_r _ [31, 2, 32, 33, 34, 6, 35, 36, 37, 38, 39, 8, 40, 41, 42, 43, 66, 67, 68, 69, 70, 71, 72, 73, 74, 75, 76, 77] (by decide +kernel) (by decide +kernel)
set_option maxRecDepth 20000 in
theorem gX6_addWords_X6_isIn : GoodIn wsX6_addWords (wsV RX6 81 RX6 yX6_isIn wsX6_isIn) := goodIn_app (goodIn_of _ (by decide +kernel)) ggX6_addWords_X6_isIn
set_option maxRecDepth 20000 in
theorem ggX6_addWords_X6_puts : GoodIn wsX6_addWords wsX6_puts := goodIn_r _ [47, 2, 8, 32, 33, 34, 6, 35, 36, 37, 38, 39, 40, 41, 42, 43, 66, 67, 68, 69, 70, 71, 72, 73, 74, 75, 76, 77] (by decide +kernel) (by decide +kernel)
set_option maxRecDepth 20000 in
theorem gX6_addWords_X6_puts : GoodIn wsX6_addWords (wsV RX6 85 RX6 yX6_puts wsX6_puts) := goodIn_app (goodIn_of _ (by decide +kernel)) ggX6_addWords_X6_puts
set_option maxRecDepth 20000 in
theorem ggX6_addWords_X6_putBack : GoodIn wsX6_addWords wsX6_putBack := goodIn_r _ [51, 2, 23, 66, 67, 68, 69, 70, 71, 72, 73, 74, 75, 76, 77] (by decide +kernel) (by decide +kernel)
set_option maxRecDepth 20000 in
theorem gX6_addWords_X6_putBack : GoodIn wsX6_addWords (wsV RX6 89 RX6 yX6_putBack wsX6_putBack) := goodIn_app (goodIn_of _ (by decide +kernel)) ggX6_addWords_X6_putBack
set_option maxRecDepth 20000 in
theorem ggX6_addWords_X6_savesAside : GoodIn wsX6_addWords wsX6_savesAside := goodIn_r _ [55, 2, 23, 56, 57, 58, 6, 59, 60, 61, 66, 67, 68, 69, 70, 71, 72, 73, 74, 75, 76, 77] (by decide +kernel) (by decide +kernel)
set_option maxRecDepth 20000 in
theorem gX6_addWords_X6_savesAside : GoodIn wsX6_addWords (wsV RX6 92 RX6 yX6_savesAside wsX6_savesAside) := goodIn_app (goodIn_of _ (by decide +kernel)) ggX6_addWords_X6_savesAside
set_option maxRecDepth 20000 in
theorem ggX6_addWords_X6_noGame : GoodIn wsX6_addWords wsX6_noGame := goodIn_r _ [65, 2, 66, 67, 68, 69, 70, 71, 72, 73, 74, 75, 76, 77] (by decide +kernel) (by decide +kernel)
set_option maxRecDepth 20000 in
theorem gX6_addWords_X6_noGame : GoodIn wsX6_addWords (wsV RX6 95 RX6 yX6_noGame wsX6_noGame) := goodIn_app (goodIn_of _ (by decide +kernel)) ggX6_addWords_X6_noGame
theorem dX6_addWords_0 : decode cX6_addWords 0 = .ok (.aload_n 0, 1) := by decide +kernel
theorem dX6_addWords_1 : decode cX6_addWords 1 = .ok (.invokevirtual 55, 3) := by decide +kernel
theorem dX6_addWords_4 : decode cX6_addWords 4 = .ok (.bipush (-6), 2) := by decide +kernel
theorem dX6_addWords_6 : decode cX6_addWords 6 = .ok (.if_icmp .eq 6, 3) := by decide +kernel
theorem dX6_addWords_9 : decode cX6_addWords 9 = .ok (.bipush (-5), 2) := by decide +kernel
theorem dX6_addWords_11 : decode cX6_addWords 11 = .ok (.ireturn, 1) := by decide +kernel
theorem dX6_addWords_12 : decode cX6_addWords 12 = .ok (.aload_n 0, 1) := by decide +kernel
theorem dX6_addWords_13 : decode cX6_addWords 13 = .ok (.invokevirtual 70, 3) := by decide +kernel
theorem dX6_addWords_16 : decode cX6_addWords 16 = .ok (.ifCond .eq 6, 3) := by decide +kernel
theorem dX6_addWords_19 : decode cX6_addWords 19 = .ok (.bipush (-3), 2) := by decide +kernel
theorem dX6_addWords_21 : decode cX6_addWords 21 = .ok (.ireturn, 1) := by decide +kernel
theorem dX6_addWords_22 : decode cX6_addWords 22 = .ok (.aload_n 0, 1) := by decide +kernel
theorem dX6_addWords_23 : decode cX6_addWords 23 = .ok (.invokevirtual 74, 3) := by decide +kernel
theorem dX6_addWords_26 : decode cX6_addWords 26 = .ok (.iconst 0, 1) := by decide +kernel
theorem dX6_addWords_27 : decode cX6_addWords 27 = .ok (.istore_n 1, 1) := by decide +kernel
theorem dX6_addWords_28 : decode cX6_addWords 28 = .ok (.iconst 0, 1) := by decide +kernel
theorem dX6_addWords_29 : decode cX6_addWords 29 = .ok (.istore_n 2, 1) := by decide +kernel
theorem dX6_addWords_30 : decode cX6_addWords 30 = .ok (.iconst 0, 1) := by decide +kernel
theorem dX6_addWords_31 : decode cX6_addWords 31 = .ok (.istore_n 3, 1) := by decide +kernel
theorem dX6_addWords_32 : decode cX6_addWords 32 = .ok (.iload_n 3, 1) := by decide +kernel
theorem dX6_addWords_33 : decode cX6_addWords 33 = .ok (.aload_n 0, 1) := by decide +kernel
theorem dX6_addWords_34 : decode cX6_addWords 34 = .ok (.getfield 48, 3) := by decide +kernel
theorem dX6_addWords_37 : decode cX6_addWords 37 = .ok (.if_icmp .ge 82, 3) := by decide +kernel
theorem dX6_addWords_40 : decode cX6_addWords 40 = .ok (.aload_n 0, 1) := by decide +kernel
theorem dX6_addWords_41 : decode cX6_addWords 41 = .ok (.iload_n 3, 1) := by decide +kernel
theorem dX6_addWords_42 : decode cX6_addWords 42 = .ok (.aload_n 0, 1) := by decide +kernel
theorem dX6_addWords_43 : decode cX6_addWords 43 = .ok (.iload_n 3, 1) := by decide +kernel
theorem dX6_addWords_44 : decode cX6_addWords 44 = .ok (.invokevirtual 77, 3) := by decide +kernel
theorem dX6_addWords_47 : decode cX6_addWords 47 = .ok (.invokevirtual 81, 3) := by decide +kernel
theorem dX6_addWords_50 : decode cX6_addWords 50 = .ok (.ifCond .ne 7, 3) := by decide +kernel
theorem dX6_addWords_53 : decode cX6_addWords 53 = .ok (.iconst 1, 1) := by decide +kernel
theorem dX6_addWords_54 : decode cX6_addWords 54 = .ok (.goto 4, 3) := by decide +kernel
theorem dX6_addWords_57 : decode cX6_addWords 57 = .ok (.iconst 0, 1) := by decide +kernel
theorem dX6_addWords_58 : decode cX6_addWords 58 = .ok (.istore 4, 2) := by decide +kernel
theorem dX6_addWords_60 : decode cX6_addWords 60 = .ok (.iload_n 2, 1) := by decide +kernel
theorem dX6_addWords_61 : decode cX6_addWords 61 = .ok (.ifCond .ne 19, 3) := by decide +kernel
theorem dX6_addWords_64 : decode cX6_addWords 64 = .ok (.iload 4, 2) := by decide +kernel
theorem dX6_addWords_66 : decode cX6_addWords 66 = .ok (.ifCond .eq 18, 3) := by decide +kernel
theorem dX6_addWords_69 : decode cX6_addWords 69 = .ok (.aload_n 0, 1) := by decide +kernel
theorem dX6_addWords_70 : decode cX6_addWords 70 = .ok (.getfield 7, 3) := by decide +kernel
theorem dX6_addWords_73 : decode cX6_addWords 73 = .ok (.iconst 0, 1) := by decide +kernel
theorem dX6_addWords_74 : decode cX6_addWords 74 = .ok (.iaload, 1) := by decide +kernel
theorem dX6_addWords_75 : decode cX6_addWords 75 = .ok (.bipush 30, 2) := by decide +kernel
theorem dX6_addWords_77 : decode cX6_addWords 77 = .ok (.if_icmp .ne 7, 3) := by decide +kernel
theorem dX6_addWords_80 : decode cX6_addWords 80 = .ok (.iconst 1, 1) := by decide +kernel
theorem dX6_addWords_81 : decode cX6_addWords 81 = .ok (.goto 4, 3) := by decide +kernel
theorem dX6_addWords_84 : decode cX6_addWords 84 = .ok (.iconst 0, 1) := by decide +kernel
theorem dX6_addWords_85 : decode cX6_addWords 85 = .ok (.istore_n 2, 1) := by decide +kernel
theorem dX6_addWords_86 : decode cX6_addWords 86 = .ok (.iload 4, 2) := by decide +kernel
theorem dX6_addWords_88 : decode cX6_addWords 88 = .ok (.ifCond .eq 20, 3) := by decide +kernel
theorem dX6_addWords_91 : decode cX6_addWords 91 = .ok (.iload_n 2, 1) := by decide +kernel
theorem dX6_addWords_92 : decode cX6_addWords 92 = .ok (.ifCond .ne 16, 3) := by decide +kernel
theorem dX6_addWords_95 : decode cX6_addWords 95 = .ok (.aload_n 0, 1) := by decide +kernel
theorem dX6_addWords_96 : decode cX6_addWords 96 = .ok (.iload_n 3, 1) := by decide +kernel
theorem dX6_addWords_97 : decode cX6_addWords 97 = .ok (.aload_n 0, 1) := by decide +kernel
theorem dX6_addWords_98 : decode cX6_addWords 98 = .ok (.iload_n 3, 1) := by decide +kernel
theorem dX6_addWords_99 : decode cX6_addWords 99 = .ok (.invokevirtual 77, 3) := by decide +kernel
theorem dX6_addWords_102 : decode cX6_addWords 102 = .ok (.invokevirtual 85, 3) := by decide +kernel
theorem dX6_addWords_105 : decode cX6_addWords 105 = .ok (.iinc 1 1, 3) := by decide +kernel
theorem dX6_addWords_108 : decode cX6_addWords 108 = .ok (.aload_n 0, 1) := by decide +kernel
theorem dX6_addWords_109 : decode cX6_addWords 109 = .ok (.iload_n 3, 1) := by decide +kernel
theorem dX6_addWords_110 : decode cX6_addWords 110 = .ok (.invokevirtual 77, 3) := by decide +kernel
theorem dX6_addWords_113 : decode cX6_addWords 113 = .ok (.iconst 1, 1) := by decide +kernel
theorem dX6_addWords_114 : decode cX6_addWords 114 = .ok (.iadd, 1) := by decide +kernel
theorem dX6_addWords_115 : decode cX6_addWords 115 = .ok (.istore_n 3, 1) := by decide +kernel
theorem dX6_addWords_116 : decode cX6_addWords 116 = .ok (.goto (-84), 3) := by decide +kernel
theorem dX6_addWords_119 : decode cX6_addWords 119 = .ok (.iload_n 2, 1) := by decide +kernel
theorem dX6_addWords_120 : decode cX6_addWords 120 = .ok (.ifCond .eq 10, 3) := by decide +kernel
theorem dX6_addWords_123 : decode cX6_addWords 123 = .ok (.aload_n 0, 1) := by decide +kernel
theorem dX6_addWords_124 : decode cX6_addWords 124 = .ok (.invokevirtual 89, 3) := by decide +kernel
theorem dX6_addWords_127 : decode cX6_addWords 127 = .ok (.bipush (-4), 2) := by decide +kernel
theorem dX6_addWords_129 : decode cX6_addWords 129 = .ok (.ireturn, 1) := by decide +kernel
theorem dX6_addWords_130 : decode cX6_addWords 130 = .ok (.aload_n 0, 1) := by decide +kernel
theorem dX6_addWords_131 : decode cX6_addWords 131 = .ok (.invokevirtual 92, 3) := by decide +kernel
theorem dX6_addWords_134 : decode cX6_addWords 134 = .ok (.aload_n 0, 1) := by decide +kernel
theorem dX6_addWords_135 : decode cX6_addWords 135 = .ok (.invokevirtual 95, 3) := by decide +kernel
theorem dX6_addWords_138 : decode cX6_addWords 138 = .ok (.aload_n 0, 1) := by decide +kernel
theorem dX6_addWords_139 : decode cX6_addWords 139 = .ok (.iconst 0, 1) := by decide +kernel
theorem dX6_addWords_140 : decode cX6_addWords 140 = .ok (.putfield 48, 3) := by decide +kernel
theorem dX6_addWords_143 : decode cX6_addWords 143 = .ok (.iload_n 1, 1) := by decide +kernel
theorem dX6_addWords_144 : decode cX6_addWords 144 = .ok (.ireturn, 1) := by decide +kernel
set_option maxRecDepth 20000 in
theorem ggX6_savesAside_X6_saves : GoodIn wsX6_savesAside wsX6_saves := goodIn_r _ [7, 8, 9, 1, 10, 11, 12, 13, 14, 15, 16, 17, 18, 19, 20, 21] (by decide +kernel) (by decide +kernel)
set_option maxRecDepth 20000 in
theorem gX6_savesAside_X6_saves : GoodIn wsX6_savesAside (wsV RX6 98 RX6 yX6_saves wsX6_saves) := goodIn_app (goodIn_of _ (by decide +kernel)) ggX6_savesAside_X6_saves
theorem dX6_savesAside_0 : decode cX6_savesAside 0 = .ok (.iconst 0, 1) := by decide +kernel
theorem dX6_savesAside_1 : decode cX6_savesAside 1 = .ok (.istore_n 1, 1) := by decide +kernel
theorem dX6_savesAside_2 : decode cX6_savesAside 2 = .ok (.iload_n 1, 1) := by decide +kernel
theorem dX6_savesAside_3 : decode cX6_savesAside 3 = .ok (.sipush 319, 3) := by decide +kernel
theorem dX6_savesAside_6 : decode cX6_savesAside 6 = .ok (.if_icmp .ge 35, 3) := by decide +kernel
theorem dX6_savesAside_9 : decode cX6_savesAside 9 = .ok (.aload_n 0, 1) := by decide +kernel
theorem dX6_savesAside_10 : decode cX6_savesAside 10 = .ok (.getfield 7, 3) := by decide +kernel
theorem dX6_savesAside_13 : decode cX6_savesAside 13 = .ok (.iload_n 1, 1) := by decide +kernel
theorem dX6_savesAside_14 : decode cX6_savesAside 14 = .ok (.iaload, 1) := by decide +kernel
theorem dX6_savesAside_15 : decode cX6_savesAside 15 = .ok (.istore_n 2, 1) := by decide +kernel
theorem dX6_savesAside_16 : decode cX6_savesAside 16 = .ok (.aload_n 0, 1) := by decide +kernel
theorem dX6_savesAside_17 : decode cX6_savesAside 17 = .ok (.getfield 7, 3) := by decide +kernel
theorem dX6_savesAside_20 : decode cX6_savesAside 20 = .ok (.iload_n 1, 1) := by decide +kernel
theorem dX6_savesAside_21 : decode cX6_savesAside 21 = .ok (.aload_n 0, 1) := by decide +kernel
theorem dX6_savesAside_22 : decode cX6_savesAside 22 = .ok (.getfield 13, 3) := by decide +kernel
theorem dX6_savesAside_25 : decode cX6_savesAside 25 = .ok (.iload_n 1, 1) := by decide +kernel
theorem dX6_savesAside_26 : decode cX6_savesAside 26 = .ok (.iaload, 1) := by decide +kernel
theorem dX6_savesAside_27 : decode cX6_savesAside 27 = .ok (.iastore, 1) := by decide +kernel
theorem dX6_savesAside_28 : decode cX6_savesAside 28 = .ok (.aload_n 0, 1) := by decide +kernel
theorem dX6_savesAside_29 : decode cX6_savesAside 29 = .ok (.getfield 13, 3) := by decide +kernel
theorem dX6_savesAside_32 : decode cX6_savesAside 32 = .ok (.iload_n 1, 1) := by decide +kernel
theorem dX6_savesAside_33 : decode cX6_savesAside 33 = .ok (.iload_n 2, 1) := by decide +kernel
theorem dX6_savesAside_34 : decode cX6_savesAside 34 = .ok (.iastore, 1) := by decide +kernel
theorem dX6_savesAside_35 : decode cX6_savesAside 35 = .ok (.iinc 1 1, 3) := by decide +kernel
theorem dX6_savesAside_38 : decode cX6_savesAside 38 = .ok (.goto (-36), 3) := by decide +kernel
theorem dX6_savesAside_41 : decode cX6_savesAside 41 = .ok (.aload_n 0, 1) := by decide +kernel
theorem dX6_savesAside_42 : decode cX6_savesAside 42 = .ok (.invokevirtual 98, 3) := by decide +kernel
theorem dX6_savesAside_45 : decode cX6_savesAside 45 = .ok (.iconst 0, 1) := by decide +kernel
theorem dX6_savesAside_46 : decode cX6_savesAside 46 = .ok (.istore_n 1, 1) := by decide +kernel
theorem dX6_savesAside_47 : decode cX6_savesAside 47 = .ok (.iload_n 1, 1) := by decide +kernel
theorem dX6_savesAside_48 : decode cX6_savesAside 48 = .ok (.sipush 319, 3) := by decide +kernel
theorem dX6_savesAside_51 : decode cX6_savesAside 51 = .ok (.if_icmp .ge 35, 3) := by decide +kernel
theorem dX6_savesAside_54 : decode cX6_savesAside 54 = .ok (.aload_n 0, 1) := by decide +kernel
theorem dX6_savesAside_55 : decode cX6_savesAside 55 = .ok (.getfield 7, 3) := by decide +kernel
theorem dX6_savesAside_58 : decode cX6_savesAside 58 = .ok (.iload_n 1, 1) := by decide +kernel
theorem dX6_savesAside_59 : decode cX6_savesAside 59 = .ok (.iaload, 1) := by decide +kernel
theorem dX6_savesAside_60 : decode cX6_savesAside 60 = .ok (.istore_n 2, 1) := by decide +kernel
theorem dX6_savesAside_61 : decode cX6_savesAside 61 = .ok (.aload_n 0, 1) := by decide +kernel
theorem dX6_savesAside_62 : decode cX6_savesAside 62 = .ok (.getfield 7, 3) := by decide +kernel
theorem dX6_savesAside_65 : decode cX6_savesAside 65 = .ok (.iload_n 1, 1) := by decide +kernel
theorem dX6_savesAside_66 : decode cX6_savesAside 66 = .ok (.aload_n 0, 1) := by decide +kernel
theorem dX6_savesAside_67 : decode cX6_savesAside 67 = .ok (.getfield 13, 3) := by decide +kernel
theorem dX6_savesAside_70 : decode cX6_savesAside 70 = .ok (.iload_n 1, 1) := by decide +kernel
theorem dX6_savesAside_71 : decode cX6_savesAside 71 = .ok (.iaload, 1) := by decide +kernel
theorem dX6_savesAside_72 : decode cX6_savesAside 72 = .ok (.iastore, 1) := by decide +kernel
theorem dX6_savesAside_73 : decode cX6_savesAside 73 = .ok (.aload_n 0, 1) := by decide +kernel
theorem dX6_savesAside_74 : decode cX6_savesAside 74 = .ok (.getfield 13, 3) := by decide +kernel
theorem dX6_savesAside_77 : decode cX6_savesAside 77 = .ok (.iload_n 1, 1) := by decide +kernel
theorem dX6_savesAside_78 : decode cX6_savesAside 78 = .ok (.iload_n 2, 1) := by decide +kernel
theorem dX6_savesAside_79 : decode cX6_savesAside 79 = .ok (.iastore, 1) := by decide +kernel
theorem dX6_savesAside_80 : decode cX6_savesAside 80 = .ok (.iinc 1 1, 3) := by decide +kernel
theorem dX6_savesAside_83 : decode cX6_savesAside 83 = .ok (.goto (-36), 3) := by decide +kernel
theorem dX6_savesAside_86 : decode cX6_savesAside 86 = .ok (.return_, 1) := by decide +kernel
set_option maxRecDepth 20000 in
theorem ggX6_removeWord_X6_in : GoodIn wsX6_removeWord wsX6_in := goodIn_r _ [5] (by decide +kernel) (by decide +kernel)
set_option maxRecDepth 20000 in
theorem gX6_removeWord_X6_in : GoodIn wsX6_removeWord (va_wsS RX6 41 yX6_in wsX6_in) := goodIn_app (goodIn_of _ (by decide +kernel)) ggX6_removeWord_X6_in
set_option maxRecDepth 20000 in
theorem ggX6_removeWord_X6_runs : GoodIn wsX6_removeWord wsX6_runs := goodIn_r _ [9, 1, 24, 25, 26, 27, 28, 29, 30, 31, 32, 33, 34, 35] (by decide +kernel) (by decide +kernel)
set_option maxRecDepth 20000 in
theorem gX6_removeWord_X6_runs : GoodIn wsX6_removeWord (wsV RX6 70 RX6 yX6_runs wsX6_runs) := goodIn_app (goodIn_of _ (by decide +kernel)) ggX6_removeWord_X6_runs
set_option maxRecDepth 20000 in
theorem ggX6_removeWord_X6_saves : GoodIn wsX6_removeWord wsX6_saves := goodIn_r _ [13, 14, 15, 1, 24, 25, 26, 27, 28, 29, 30, 31, 32, 33, 34, 35] (by decide +kernel) (by decide +kernel)
set_option maxRecDepth 20000 in
theorem gX6_removeWord_X6_saves : GoodIn wsX6_removeWord (wsV RX6 98 RX6 yX6_saves wsX6_saves) := goodIn_app (goodIn_of _ (by decide +kernel)) ggX6_removeWord_X6_saves
set_option maxRecDepth 20000 in
theorem ggX6_removeWord_X6_noGame : GoodIn wsX6_removeWord wsX6_noGame := goodIn_r _ [19, 1, 24, 25, 26, 27, 28, 29, 30, 31, 32, 33, 34, 35] (by decide +kernel) (by decide +kernel)
set_option maxRecDepth 20000 in
theorem gX6_removeWord_X6_noGame : GoodIn wsX6_removeWord (wsV RX6 95 RX6 yX6_noGame wsX6_noGame) := goodIn_app (goodIn_of _ (by decide +kernel)) ggX6_removeWord_X6_noGame
set_option maxRecDepth 20000 in
theorem ggX6_removeWord_X6_letter : GoodIn wsX6_removeWord wsX6_letter := goodIn_r _ [23, 1, 24, 25, 26, 27, 28, 29, 30, 31, 32, 33, 34, 35] (by decide +kernel) (by decide +kernel)
set_option maxRecDepth 20000 in
theorem gX6_removeWord_X6_letter : GoodIn wsX6_removeWord (wsV RX6 59 RX6 yX6_letter wsX6_letter) := goodIn_app (goodIn_of _ (by decide +kernel)) ggX6_removeWord_X6_letter
theorem dX6_removeWord_0 : decode cX6_removeWord 0 = .ok (.iload_n 1, 1) := by decide +kernel
theorem dX6_removeWord_1 : decode cX6_removeWord 1 = .ok (.iconst 0, 1) := by decide +kernel
theorem dX6_removeWord_2 : decode cX6_removeWord 2 = .ok (.aload_n 0, 1) := by decide +kernel
theorem dX6_removeWord_3 : decode cX6_removeWord 3 = .ok (.getfield 7, 3) := by decide +kernel
theorem dX6_removeWord_6 : decode cX6_removeWord 6 = .ok (.iconst 0, 1) := by decide +kernel
theorem dX6_removeWord_7 : decode cX6_removeWord 7 = .ok (.iaload, 1) := by decide +kernel
theorem dX6_removeWord_8 : decode cX6_removeWord 8 = .ok (.iconst 1, 1) := by decide +kernel
theorem dX6_removeWord_9 : decode cX6_removeWord 9 = .ok (.isub, 1) := by decide +kernel
theorem dX6_removeWord_10 : decode cX6_removeWord 10 = .ok (.invokestatic 41, 3) := by decide +kernel
theorem dX6_removeWord_13 : decode cX6_removeWord 13 = .ok (.ifCond .ne 5, 3) := by decide +kernel
theorem dX6_removeWord_16 : decode cX6_removeWord 16 = .ok (.iconst (-1), 1) := by decide +kernel
theorem dX6_removeWord_17 : decode cX6_removeWord 17 = .ok (.ireturn, 1) := by decide +kernel
theorem dX6_removeWord_18 : decode cX6_removeWord 18 = .ok (.aload_n 0, 1) := by decide +kernel
theorem dX6_removeWord_19 : decode cX6_removeWord 19 = .ok (.invokevirtual 70, 3) := by decide +kernel
theorem dX6_removeWord_22 : decode cX6_removeWord 22 = .ok (.ifCond .eq 6, 3) := by decide +kernel
theorem dX6_removeWord_25 : decode cX6_removeWord 25 = .ok (.bipush (-3), 2) := by decide +kernel
theorem dX6_removeWord_27 : decode cX6_removeWord 27 = .ok (.ireturn, 1) := by decide +kernel
theorem dX6_removeWord_28 : decode cX6_removeWord 28 = .ok (.aload_n 0, 1) := by decide +kernel
theorem dX6_removeWord_29 : decode cX6_removeWord 29 = .ok (.invokevirtual 98, 3) := by decide +kernel
theorem dX6_removeWord_32 : decode cX6_removeWord 32 = .ok (.aload_n 0, 1) := by decide +kernel
theorem dX6_removeWord_33 : decode cX6_removeWord 33 = .ok (.invokevirtual 95, 3) := by decide +kernel
theorem dX6_removeWord_36 : decode cX6_removeWord 36 = .ok (.aload_n 0, 1) := by decide +kernel
theorem dX6_removeWord_37 : decode cX6_removeWord 37 = .ok (.getfield 7, 3) := by decide +kernel
theorem dX6_removeWord_40 : decode cX6_removeWord 40 = .ok (.iconst 0, 1) := by decide +kernel
theorem dX6_removeWord_41 : decode cX6_removeWord 41 = .ok (.dup2, 1) := by decide +kernel
theorem dX6_removeWord_42 : decode cX6_removeWord 42 = .ok (.iaload, 1) := by decide +kernel
theorem dX6_removeWord_43 : decode cX6_removeWord 43 = .ok (.iconst 1, 1) := by decide +kernel
theorem dX6_removeWord_44 : decode cX6_removeWord 44 = .ok (.isub, 1) := by decide +kernel
theorem dX6_removeWord_45 : decode cX6_removeWord 45 = .ok (.iastore, 1) := by decide +kernel
theorem dX6_removeWord_46 : decode cX6_removeWord 46 = .ok (.iload_n 1, 1) := by decide +kernel
theorem dX6_removeWord_47 : decode cX6_removeWord 47 = .ok (.istore_n 2, 1) := by decide +kernel
theorem dX6_removeWord_48 : decode cX6_removeWord 48 = .ok (.iload_n 2, 1) := by decide +kernel
theorem dX6_removeWord_49 : decode cX6_removeWord 49 = .ok (.aload_n 0, 1) := by decide +kernel
theorem dX6_removeWord_50 : decode cX6_removeWord 50 = .ok (.getfield 7, 3) := by decide +kernel
theorem dX6_removeWord_53 : decode cX6_removeWord 53 = .ok (.iconst 0, 1) := by decide +kernel
theorem dX6_removeWord_54 : decode cX6_removeWord 54 = .ok (.iaload, 1) := by decide +kernel
theorem dX6_removeWord_55 : decode cX6_removeWord 55 = .ok (.if_icmp .ge 65, 3) := by decide +kernel
theorem dX6_removeWord_58 : decode cX6_removeWord 58 = .ok (.aload_n 0, 1) := by decide +kernel
theorem dX6_removeWord_59 : decode cX6_removeWord 59 = .ok (.getfield 7, 3) := by decide +kernel
theorem dX6_removeWord_62 : decode cX6_removeWord 62 = .ok (.bipush 49, 2) := by decide +kernel
theorem dX6_removeWord_64 : decode cX6_removeWord 64 = .ok (.iload_n 2, 1) := by decide +kernel
theorem dX6_removeWord_65 : decode cX6_removeWord 65 = .ok (.iadd, 1) := by decide +kernel
theorem dX6_removeWord_66 : decode cX6_removeWord 66 = .ok (.aload_n 0, 1) := by decide +kernel
theorem dX6_removeWord_67 : decode cX6_removeWord 67 = .ok (.getfield 7, 3) := by decide +kernel
theorem dX6_removeWord_70 : decode cX6_removeWord 70 = .ok (.bipush 49, 2) := by decide +kernel
theorem dX6_removeWord_72 : decode cX6_removeWord 72 = .ok (.iload_n 2, 1) := by decide +kernel
theorem dX6_removeWord_73 : decode cX6_removeWord 73 = .ok (.iadd, 1) := by decide +kernel
theorem dX6_removeWord_74 : decode cX6_removeWord 74 = .ok (.iconst 1, 1) := by decide +kernel
theorem dX6_removeWord_75 : decode cX6_removeWord 75 = .ok (.iadd, 1) := by decide +kernel
theorem dX6_removeWord_76 : decode cX6_removeWord 76 = .ok (.iaload, 1) := by decide +kernel
theorem dX6_removeWord_77 : decode cX6_removeWord 77 = .ok (.iastore, 1) := by decide +kernel
theorem dX6_removeWord_78 : decode cX6_removeWord 78 = .ok (.iconst 0, 1) := by decide +kernel
theorem dX6_removeWord_79 : decode cX6_removeWord 79 = .ok (.istore_n 3, 1) := by decide +kernel
theorem dX6_removeWord_80 : decode cX6_removeWord 80 = .ok (.iload_n 3, 1) := by decide +kernel
theorem dX6_removeWord_81 : decode cX6_removeWord 81 = .ok (.bipush 8, 2) := by decide +kernel
theorem dX6_removeWord_83 : decode cX6_removeWord 83 = .ok (.if_icmp .ge 31, 3) := by decide +kernel
theorem dX6_removeWord_86 : decode cX6_removeWord 86 = .ok (.aload_n 0, 1) := by decide +kernel
theorem dX6_removeWord_87 : decode cX6_removeWord 87 = .ok (.getfield 7, 3) := by decide +kernel
theorem dX6_removeWord_90 : decode cX6_removeWord 90 = .ok (.bipush 79, 2) := by decide +kernel
theorem dX6_removeWord_92 : decode cX6_removeWord 92 = .ok (.bipush 8, 2) := by decide +kernel
theorem dX6_removeWord_94 : decode cX6_removeWord 94 = .ok (.iload_n 2, 1) := by decide +kernel
theorem dX6_removeWord_95 : decode cX6_removeWord 95 = .ok (.imul, 1) := by decide +kernel
theorem dX6_removeWord_96 : decode cX6_removeWord 96 = .ok (.iadd, 1) := by decide +kernel
theorem dX6_removeWord_97 : decode cX6_removeWord 97 = .ok (.iload_n 3, 1) := by decide +kernel
theorem dX6_removeWord_98 : decode cX6_removeWord 98 = .ok (.iadd, 1) := by decide +kernel
theorem dX6_removeWord_99 : decode cX6_removeWord 99 = .ok (.aload_n 0, 1) := by decide +kernel
theorem dX6_removeWord_100 : decode cX6_removeWord 100 = .ok (.iload_n 2, 1) := by decide +kernel
theorem dX6_removeWord_101 : decode cX6_removeWord 101 = .ok (.iconst 1, 1) := by decide +kernel
theorem dX6_removeWord_102 : decode cX6_removeWord 102 = .ok (.iadd, 1) := by decide +kernel
theorem dX6_removeWord_103 : decode cX6_removeWord 103 = .ok (.iload_n 3, 1) := by decide +kernel
theorem dX6_removeWord_104 : decode cX6_removeWord 104 = .ok (.invokevirtual 59, 3) := by decide +kernel
theorem dX6_removeWord_107 : decode cX6_removeWord 107 = .ok (.iastore, 1) := by decide +kernel
theorem dX6_removeWord_108 : decode cX6_removeWord 108 = .ok (.iinc 3 1, 3) := by decide +kernel
theorem dX6_removeWord_111 : decode cX6_removeWord 111 = .ok (.goto (-31), 3) := by decide +kernel
theorem dX6_removeWord_114 : decode cX6_removeWord 114 = .ok (.iinc 2 1, 3) := by decide +kernel
theorem dX6_removeWord_117 : decode cX6_removeWord 117 = .ok (.goto (-69), 3) := by decide +kernel
theorem dX6_removeWord_120 : decode cX6_removeWord 120 = .ok (.aload_n 0, 1) := by decide +kernel
theorem dX6_removeWord_121 : decode cX6_removeWord 121 = .ok (.getfield 7, 3) := by decide +kernel
theorem dX6_removeWord_124 : decode cX6_removeWord 124 = .ok (.iconst 0, 1) := by decide +kernel
theorem dX6_removeWord_125 : decode cX6_removeWord 125 = .ok (.iaload, 1) := by decide +kernel
theorem dX6_removeWord_126 : decode cX6_removeWord 126 = .ok (.ireturn, 1) := by decide +kernel
theorem dX6_words_0 : decode cX6_words 0 = .ok (.aload_n 0, 1) := by decide +kernel
theorem dX6_words_1 : decode cX6_words 1 = .ok (.getfield 7, 3) := by decide +kernel
theorem dX6_words_4 : decode cX6_words 4 = .ok (.iconst 0, 1) := by decide +kernel
theorem dX6_words_5 : decode cX6_words 5 = .ok (.iaload, 1) := by decide +kernel
theorem dX6_words_6 : decode cX6_words 6 = .ok (.ireturn, 1) := by decide +kernel
set_option maxRecDepth 20000 in
theorem ggX6_letterOf_X6_in : GoodIn wsX6_letterOf wsX6_in := goodIn_r _ [5] (by decide +kernel) (by decide +kernel)
set_option maxRecDepth 20000 in
theorem gX6_letterOf_X6_in : GoodIn wsX6_letterOf (va_wsS RX6 41 yX6_in wsX6_in) := goodIn_app (goodIn_of _ (by decide +kernel)) ggX6_letterOf_X6_in
set_option maxRecDepth 20000 in
theorem ggX6_letterOf_X6_letter : GoodIn wsX6_letterOf wsX6_letter := goodIn_r _ [9, 1, 10, 11, 12, 13, 14, 15, 16, 17, 18, 19, 20, 21] (by decide +kernel) (by decide +kernel)
set_option maxRecDepth 20000 in
theorem gX6_letterOf_X6_letter : GoodIn wsX6_letterOf (wsV RX6 59 RX6 yX6_letter wsX6_letter) := goodIn_app (goodIn_of _ (by decide +kernel)) ggX6_letterOf_X6_letter
theorem dX6_letterOf_0 : decode cX6_letterOf 0 = .ok (.iload_n 1, 1) := by decide +kernel
theorem dX6_letterOf_1 : decode cX6_letterOf 1 = .ok (.iconst 0, 1) := by decide +kernel
theorem dX6_letterOf_2 : decode cX6_letterOf 2 = .ok (.aload_n 0, 1) := by decide +kernel
theorem dX6_letterOf_3 : decode cX6_letterOf 3 = .ok (.getfield 7, 3) := by decide +kernel
theorem dX6_letterOf_6 : decode cX6_letterOf 6 = .ok (.iconst 0, 1) := by decide +kernel
theorem dX6_letterOf_7 : decode cX6_letterOf 7 = .ok (.iaload, 1) := by decide +kernel
theorem dX6_letterOf_8 : decode cX6_letterOf 8 = .ok (.iconst 1, 1) := by decide +kernel
theorem dX6_letterOf_9 : decode cX6_letterOf 9 = .ok (.isub, 1) := by decide +kernel
theorem dX6_letterOf_10 : decode cX6_letterOf 10 = .ok (.invokestatic 41, 3) := by decide +kernel
theorem dX6_letterOf_13 : decode cX6_letterOf 13 = .ok (.ifCond .eq 31, 3) := by decide +kernel
theorem dX6_letterOf_16 : decode cX6_letterOf 16 = .ok (.iload_n 2, 1) := by decide +kernel
theorem dX6_letterOf_17 : decode cX6_letterOf 17 = .ok (.iconst 0, 1) := by decide +kernel
theorem dX6_letterOf_18 : decode cX6_letterOf 18 = .ok (.aload_n 0, 1) := by decide +kernel
theorem dX6_letterOf_19 : decode cX6_letterOf 19 = .ok (.getfield 7, 3) := by decide +kernel
theorem dX6_letterOf_22 : decode cX6_letterOf 22 = .ok (.bipush 49, 2) := by decide +kernel
theorem dX6_letterOf_24 : decode cX6_letterOf 24 = .ok (.iload_n 1, 1) := by decide +kernel
theorem dX6_letterOf_25 : decode cX6_letterOf 25 = .ok (.iadd, 1) := by decide +kernel
theorem dX6_letterOf_26 : decode cX6_letterOf 26 = .ok (.iaload, 1) := by decide +kernel
theorem dX6_letterOf_27 : decode cX6_letterOf 27 = .ok (.iconst 1, 1) := by decide +kernel
theorem dX6_letterOf_28 : decode cX6_letterOf 28 = .ok (.isub, 1) := by decide +kernel
theorem dX6_letterOf_29 : decode cX6_letterOf 29 = .ok (.invokestatic 41, 3) := by decide +kernel
theorem dX6_letterOf_32 : decode cX6_letterOf 32 = .ok (.ifCond .eq 12, 3) := by decide +kernel
theorem dX6_letterOf_35 : decode cX6_letterOf 35 = .ok (.aload_n 0, 1) := by decide +kernel
theorem dX6_letterOf_36 : decode cX6_letterOf 36 = .ok (.iload_n 1, 1) := by decide +kernel
theorem dX6_letterOf_37 : decode cX6_letterOf 37 = .ok (.iload_n 2, 1) := by decide +kernel
theorem dX6_letterOf_38 : decode cX6_letterOf 38 = .ok (.invokevirtual 59, 3) := by decide +kernel
theorem dX6_letterOf_41 : decode cX6_letterOf 41 = .ok (.goto 4, 3) := by decide +kernel
theorem dX6_letterOf_44 : decode cX6_letterOf 44 = .ok (.iconst (-1), 1) := by decide +kernel
theorem dX6_letterOf_45 : decode cX6_letterOf 45 = .ok (.ireturn, 1) := by decide +kernel
set_option maxRecDepth 20000 in
theorem ggX6_maskOf_X6_letter : GoodIn wsX6_maskOf wsX6_letter := goodIn_r _ [6, 1, 7, 8, 9, 10, 11, 12, 13, 14, 15, 16, 17, 18] (by decide +kernel) (by decide +kernel)
set_option maxRecDepth 20000 in
theorem gX6_maskOf_X6_letter : GoodIn wsX6_maskOf (wsV RX6 59 RX6 yX6_letter wsX6_letter) := goodIn_app (goodIn_of _ (by decide +kernel)) ggX6_maskOf_X6_letter
theorem dX6_maskOf_0 : decode cX6_maskOf 0 = .ok (.iconst 0, 1) := by decide +kernel
theorem dX6_maskOf_1 : decode cX6_maskOf 1 = .ok (.istore_n 3, 1) := by decide +kernel
theorem dX6_maskOf_2 : decode cX6_maskOf 2 = .ok (.iconst 0, 1) := by decide +kernel
theorem dX6_maskOf_3 : decode cX6_maskOf 3 = .ok (.istore 4, 2) := by decide +kernel
theorem dX6_maskOf_5 : decode cX6_maskOf 5 = .ok (.iload 4, 2) := by decide +kernel
theorem dX6_maskOf_7 : decode cX6_maskOf 7 = .ok (.aload_n 0, 1) := by decide +kernel
theorem dX6_maskOf_8 : decode cX6_maskOf 8 = .ok (.getfield 7, 3) := by decide +kernel
theorem dX6_maskOf_11 : decode cX6_maskOf 11 = .ok (.bipush 49, 2) := by decide +kernel
theorem dX6_maskOf_13 : decode cX6_maskOf 13 = .ok (.iload_n 1, 1) := by decide +kernel
theorem dX6_maskOf_14 : decode cX6_maskOf 14 = .ok (.iadd, 1) := by decide +kernel
theorem dX6_maskOf_15 : decode cX6_maskOf 15 = .ok (.iaload, 1) := by decide +kernel
theorem dX6_maskOf_16 : decode cX6_maskOf 16 = .ok (.if_icmp .ge 31, 3) := by decide +kernel
theorem dX6_maskOf_19 : decode cX6_maskOf 19 = .ok (.iload_n 3, 1) := by decide +kernel
theorem dX6_maskOf_20 : decode cX6_maskOf 20 = .ok (.aload_n 0, 1) := by decide +kernel
theorem dX6_maskOf_21 : decode cX6_maskOf 21 = .ok (.iload_n 1, 1) := by decide +kernel
theorem dX6_maskOf_22 : decode cX6_maskOf 22 = .ok (.iload 4, 2) := by decide +kernel
theorem dX6_maskOf_24 : decode cX6_maskOf 24 = .ok (.invokevirtual 59, 3) := by decide +kernel
theorem dX6_maskOf_27 : decode cX6_maskOf 27 = .ok (.iload_n 2, 1) := by decide +kernel
theorem dX6_maskOf_28 : decode cX6_maskOf 28 = .ok (.if_icmp .ne 10, 3) := by decide +kernel
theorem dX6_maskOf_31 : decode cX6_maskOf 31 = .ok (.iconst 1, 1) := by decide +kernel
theorem dX6_maskOf_32 : decode cX6_maskOf 32 = .ok (.iload 4, 2) := by decide +kernel
theorem dX6_maskOf_34 : decode cX6_maskOf 34 = .ok (.ishl, 1) := by decide +kernel
theorem dX6_maskOf_35 : decode cX6_maskOf 35 = .ok (.goto 4, 3) := by decide +kernel
theorem dX6_maskOf_38 : decode cX6_maskOf 38 = .ok (.iconst 0, 1) := by decide +kernel
theorem dX6_maskOf_39 : decode cX6_maskOf 39 = .ok (.ior, 1) := by decide +kernel
theorem dX6_maskOf_40 : decode cX6_maskOf 40 = .ok (.istore_n 3, 1) := by decide +kernel
theorem dX6_maskOf_41 : decode cX6_maskOf 41 = .ok (.iinc 4 1, 3) := by decide +kernel
theorem dX6_maskOf_44 : decode cX6_maskOf 44 = .ok (.goto (-39), 3) := by decide +kernel
theorem dX6_maskOf_47 : decode cX6_maskOf 47 = .ok (.iload_n 3, 1) := by decide +kernel
theorem dX6_maskOf_48 : decode cX6_maskOf 48 = .ok (.ireturn, 1) := by decide +kernel
set_option maxRecDepth 20000 in
theorem ggX6_lettersOf_X6_letter : GoodIn wsX6_lettersOf wsX6_letter := goodIn_r _ [6, 1, 7, 8, 9, 10, 11, 12, 13, 14, 15, 16, 17, 18] (by decide +kernel) (by decide +kernel)
set_option maxRecDepth 20000 in
theorem gX6_lettersOf_X6_letter : GoodIn wsX6_lettersOf (wsV RX6 59 RX6 yX6_letter wsX6_letter) := goodIn_app (goodIn_of _ (by decide +kernel)) ggX6_lettersOf_X6_letter
theorem dX6_lettersOf_0 : decode cX6_lettersOf 0 = .ok (.iconst 0, 1) := by decide +kernel
theorem dX6_lettersOf_1 : decode cX6_lettersOf 1 = .ok (.istore_n 2, 1) := by decide +kernel
theorem dX6_lettersOf_2 : decode cX6_lettersOf 2 = .ok (.iconst 0, 1) := by decide +kernel
theorem dX6_lettersOf_3 : decode cX6_lettersOf 3 = .ok (.istore_n 3, 1) := by decide +kernel
theorem dX6_lettersOf_4 : decode cX6_lettersOf 4 = .ok (.iload_n 3, 1) := by decide +kernel
theorem dX6_lettersOf_5 : decode cX6_lettersOf 5 = .ok (.aload_n 0, 1) := by decide +kernel
theorem dX6_lettersOf_6 : decode cX6_lettersOf 6 = .ok (.getfield 7, 3) := by decide +kernel
theorem dX6_lettersOf_9 : decode cX6_lettersOf 9 = .ok (.bipush 49, 2) := by decide +kernel
theorem dX6_lettersOf_11 : decode cX6_lettersOf 11 = .ok (.iload_n 1, 1) := by decide +kernel
theorem dX6_lettersOf_12 : decode cX6_lettersOf 12 = .ok (.iadd, 1) := by decide +kernel
theorem dX6_lettersOf_13 : decode cX6_lettersOf 13 = .ok (.iaload, 1) := by decide +kernel
theorem dX6_lettersOf_14 : decode cX6_lettersOf 14 = .ok (.if_icmp .ge 23, 3) := by decide +kernel
theorem dX6_lettersOf_17 : decode cX6_lettersOf 17 = .ok (.iload_n 2, 1) := by decide +kernel
theorem dX6_lettersOf_18 : decode cX6_lettersOf 18 = .ok (.iconst 1, 1) := by decide +kernel
theorem dX6_lettersOf_19 : decode cX6_lettersOf 19 = .ok (.aload_n 0, 1) := by decide +kernel
theorem dX6_lettersOf_20 : decode cX6_lettersOf 20 = .ok (.iload_n 1, 1) := by decide +kernel
theorem dX6_lettersOf_21 : decode cX6_lettersOf 21 = .ok (.iload_n 3, 1) := by decide +kernel
theorem dX6_lettersOf_22 : decode cX6_lettersOf 22 = .ok (.invokevirtual 59, 3) := by decide +kernel
theorem dX6_lettersOf_25 : decode cX6_lettersOf 25 = .ok (.bipush 97, 2) := by decide +kernel
theorem dX6_lettersOf_27 : decode cX6_lettersOf 27 = .ok (.isub, 1) := by decide +kernel
theorem dX6_lettersOf_28 : decode cX6_lettersOf 28 = .ok (.ishl, 1) := by decide +kernel
theorem dX6_lettersOf_29 : decode cX6_lettersOf 29 = .ok (.ior, 1) := by decide +kernel
theorem dX6_lettersOf_30 : decode cX6_lettersOf 30 = .ok (.istore_n 2, 1) := by decide +kernel
theorem dX6_lettersOf_31 : decode cX6_lettersOf 31 = .ok (.iinc 3 1, 3) := by decide +kernel
theorem dX6_lettersOf_34 : decode cX6_lettersOf 34 = .ok (.goto (-30), 3) := by decide +kernel
theorem dX6_lettersOf_37 : decode cX6_lettersOf 37 = .ok (.iload_n 2, 1) := by decide +kernel
theorem dX6_lettersOf_38 : decode cX6_lettersOf 38 = .ok (.ireturn, 1) := by decide +kernel
theorem dX6_familyWith_0 : decode cX6_familyWith 0 = .ok (.iconst 0, 1) := by decide +kernel
theorem dX6_familyWith_1 : decode cX6_familyWith 1 = .ok (.istore_n 2, 1) := by decide +kernel
theorem dX6_familyWith_2 : decode cX6_familyWith 2 = .ok (.iload_n 2, 1) := by decide +kernel
theorem dX6_familyWith_3 : decode cX6_familyWith 3 = .ok (.aload_n 0, 1) := by decide +kernel
theorem dX6_familyWith_4 : decode cX6_familyWith 4 = .ok (.getfield 37, 3) := by decide +kernel
theorem dX6_familyWith_7 : decode cX6_familyWith 7 = .ok (.if_icmp .ge 19, 3) := by decide +kernel
theorem dX6_familyWith_10 : decode cX6_familyWith 10 = .ok (.aload_n 0, 1) := by decide +kernel
theorem dX6_familyWith_11 : decode cX6_familyWith 11 = .ok (.getfield 22, 3) := by decide +kernel
theorem dX6_familyWith_14 : decode cX6_familyWith 14 = .ok (.iload_n 2, 1) := by decide +kernel
theorem dX6_familyWith_15 : decode cX6_familyWith 15 = .ok (.iaload, 1) := by decide +kernel
theorem dX6_familyWith_16 : decode cX6_familyWith 16 = .ok (.iload_n 1, 1) := by decide +kernel
theorem dX6_familyWith_17 : decode cX6_familyWith 17 = .ok (.if_icmp .eq 9, 3) := by decide +kernel
theorem dX6_familyWith_20 : decode cX6_familyWith 20 = .ok (.iinc 2 1, 3) := by decide +kernel
theorem dX6_familyWith_23 : decode cX6_familyWith 23 = .ok (.goto (-21), 3) := by decide +kernel
theorem dX6_familyWith_26 : decode cX6_familyWith 26 = .ok (.iload_n 2, 1) := by decide +kernel
theorem dX6_familyWith_27 : decode cX6_familyWith 27 = .ok (.ireturn, 1) := by decide +kernel
set_option maxRecDepth 20000 in
theorem ggX6_laysFamilies_X6_isCandidate : GoodIn wsX6_laysFamilies wsX6_isCandidate := goodIn_r _ [12, 2, 32, 33, 34, 35, 36, 37, 38, 39, 40, 41, 42, 43] (by decide +kernel) (by decide +kernel)
set_option maxRecDepth 20000 in
theorem gX6_laysFamilies_X6_isCandidate : GoodIn wsX6_laysFamilies (wsV RX6 101 RX6 yX6_isCandidate wsX6_isCandidate) := goodIn_app (goodIn_of _ (by decide +kernel)) ggX6_laysFamilies_X6_isCandidate
set_option maxRecDepth 20000 in
theorem ggX6_laysFamilies_X6_maskOf : GoodIn wsX6_laysFamilies wsX6_maskOf := goodIn_r _ [16, 2, 17, 18, 19, 11, 20, 32, 33, 34, 35, 36, 37, 38, 39, 40, 41, 42, 43] (by decide +kernel) (by decide +kernel)
set_option maxRecDepth 20000 in
theorem gX6_laysFamilies_X6_maskOf : GoodIn wsX6_laysFamilies (wsV RX6 104 RX6 yX6_maskOf wsX6_maskOf) := goodIn_app (goodIn_of _ (by decide +kernel)) ggX6_laysFamilies_X6_maskOf
set_option maxRecDepth 20000 in
theorem ggX6_laysFamilies_X6_familyWith : GoodIn wsX6_laysFamilies wsX6_familyWith := goodIn_r _ [24, 1, 3, 32, 33, 34, 35, 36, 37, 38, 39, 40, 41, 42, 43] (by decide +kernel) (by decide +kernel)
set_option maxRecDepth 20000 in
theorem gX6_laysFamilies_X6_familyWith : GoodIn wsX6_laysFamilies (wsV RX6 107 RX6 yX6_familyWith wsX6_familyWith) := goodIn_app (goodIn_of _ (by decide +kernel)) ggX6_laysFamilies_X6_familyWith
set_option maxRecDepth 20000 in
theorem ggX6_laysFamilies_X6_lettersOf : GoodIn wsX6_laysFamilies wsX6_lettersOf := goodIn_r _ [28, 2, 17, 18, 19, 11, 20, 32, 33, 34, 35, 36, 37, 38, 39, 40, 41, 42, 43] (by decide +kernel) (by decide +kernel)
set_option maxRecDepth 20000 in
theorem gX6_laysFamilies_X6_lettersOf : GoodIn wsX6_laysFamilies (wsV RX6 110 RX6 yX6_lettersOf wsX6_lettersOf) := goodIn_app (goodIn_of _ (by decide +kernel)) ggX6_laysFamilies_X6_lettersOf
set_option maxRecDepth 20000 in
theorem ggX6_laysFamilies_X6_bits : GoodIn wsX6_laysFamilies wsX6_bits := goodIn_r _ [31] (by decide +kernel) (by decide +kernel)
set_option maxRecDepth 20000 in
theorem gX6_laysFamilies_X6_bits : GoodIn wsX6_laysFamilies (va_wsS RX6 113 yX6_bits wsX6_bits) := goodIn_app (goodIn_of _ (by decide +kernel)) ggX6_laysFamilies_X6_bits
theorem dX6_laysFamilies_0 : decode cX6_laysFamilies 0 = .ok (.aload_n 0, 1) := by decide +kernel
theorem dX6_laysFamilies_1 : decode cX6_laysFamilies 1 = .ok (.iconst 0, 1) := by decide +kernel
theorem dX6_laysFamilies_2 : decode cX6_laysFamilies 2 = .ok (.putfield 37, 3) := by decide +kernel
theorem dX6_laysFamilies_5 : decode cX6_laysFamilies 5 = .ok (.iconst 0, 1) := by decide +kernel
theorem dX6_laysFamilies_6 : decode cX6_laysFamilies 6 = .ok (.istore_n 2, 1) := by decide +kernel
theorem dX6_laysFamilies_7 : decode cX6_laysFamilies 7 = .ok (.iload_n 2, 1) := by decide +kernel
theorem dX6_laysFamilies_8 : decode cX6_laysFamilies 8 = .ok (.aload_n 0, 1) := by decide +kernel
theorem dX6_laysFamilies_9 : decode cX6_laysFamilies 9 = .ok (.getfield 7, 3) := by decide +kernel
theorem dX6_laysFamilies_12 : decode cX6_laysFamilies 12 = .ok (.iconst 0, 1) := by decide +kernel
theorem dX6_laysFamilies_13 : decode cX6_laysFamilies 13 = .ok (.iaload, 1) := by decide +kernel
theorem dX6_laysFamilies_14 : decode cX6_laysFamilies 14 = .ok (.if_icmp .ge 79, 3) := by decide +kernel
theorem dX6_laysFamilies_17 : decode cX6_laysFamilies 17 = .ok (.aload_n 0, 1) := by decide +kernel
theorem dX6_laysFamilies_18 : decode cX6_laysFamilies 18 = .ok (.iload_n 2, 1) := by decide +kernel
theorem dX6_laysFamilies_19 : decode cX6_laysFamilies 19 = .ok (.invokevirtual 101, 3) := by decide +kernel
theorem dX6_laysFamilies_22 : decode cX6_laysFamilies 22 = .ok (.ifCond .eq 65, 3) := by decide +kernel
theorem dX6_laysFamilies_25 : decode cX6_laysFamilies 25 = .ok (.aload_n 0, 1) := by decide +kernel
theorem dX6_laysFamilies_26 : decode cX6_laysFamilies 26 = .ok (.iload_n 2, 1) := by decide +kernel
theorem dX6_laysFamilies_27 : decode cX6_laysFamilies 27 = .ok (.iload_n 1, 1) := by decide +kernel
theorem dX6_laysFamilies_28 : decode cX6_laysFamilies 28 = .ok (.invokevirtual 104, 3) := by decide +kernel
theorem dX6_laysFamilies_31 : decode cX6_laysFamilies 31 = .ok (.istore_n 3, 1) := by decide +kernel
theorem dX6_laysFamilies_32 : decode cX6_laysFamilies 32 = .ok (.aload_n 0, 1) := by decide +kernel
theorem dX6_laysFamilies_33 : decode cX6_laysFamilies 33 = .ok (.iload_n 3, 1) := by decide +kernel
theorem dX6_laysFamilies_34 : decode cX6_laysFamilies 34 = .ok (.invokevirtual 107, 3) := by decide +kernel
theorem dX6_laysFamilies_37 : decode cX6_laysFamilies 37 = .ok (.istore 4, 2) := by decide +kernel
theorem dX6_laysFamilies_39 : decode cX6_laysFamilies 39 = .ok (.iload 4, 2) := by decide +kernel
theorem dX6_laysFamilies_41 : decode cX6_laysFamilies 41 = .ok (.aload_n 0, 1) := by decide +kernel
theorem dX6_laysFamilies_42 : decode cX6_laysFamilies 42 = .ok (.getfield 37, 3) := by decide +kernel
theorem dX6_laysFamilies_45 : decode cX6_laysFamilies 45 = .ok (.if_icmp .ne 29, 3) := by decide +kernel
theorem dX6_laysFamilies_48 : decode cX6_laysFamilies 48 = .ok (.aload_n 0, 1) := by decide +kernel
theorem dX6_laysFamilies_49 : decode cX6_laysFamilies 49 = .ok (.getfield 22, 3) := by decide +kernel
theorem dX6_laysFamilies_52 : decode cX6_laysFamilies 52 = .ok (.iload 4, 2) := by decide +kernel
theorem dX6_laysFamilies_54 : decode cX6_laysFamilies 54 = .ok (.iload_n 3, 1) := by decide +kernel
theorem dX6_laysFamilies_55 : decode cX6_laysFamilies 55 = .ok (.iastore, 1) := by decide +kernel
theorem dX6_laysFamilies_56 : decode cX6_laysFamilies 56 = .ok (.aload_n 0, 1) := by decide +kernel
theorem dX6_laysFamilies_57 : decode cX6_laysFamilies 57 = .ok (.getfield 25, 3) := by decide +kernel
theorem dX6_laysFamilies_60 : decode cX6_laysFamilies 60 = .ok (.iload 4, 2) := by decide +kernel
theorem dX6_laysFamilies_62 : decode cX6_laysFamilies 62 = .ok (.iconst 0, 1) := by decide +kernel
theorem dX6_laysFamilies_63 : decode cX6_laysFamilies 63 = .ok (.iastore, 1) := by decide +kernel
theorem dX6_laysFamilies_64 : decode cX6_laysFamilies 64 = .ok (.aload_n 0, 1) := by decide +kernel
theorem dX6_laysFamilies_65 : decode cX6_laysFamilies 65 = .ok (.dup, 1) := by decide +kernel
theorem dX6_laysFamilies_66 : decode cX6_laysFamilies 66 = .ok (.getfield 37, 3) := by decide +kernel
theorem dX6_laysFamilies_69 : decode cX6_laysFamilies 69 = .ok (.iconst 1, 1) := by decide +kernel
theorem dX6_laysFamilies_70 : decode cX6_laysFamilies 70 = .ok (.iadd, 1) := by decide +kernel
theorem dX6_laysFamilies_71 : decode cX6_laysFamilies 71 = .ok (.putfield 37, 3) := by decide +kernel
theorem dX6_laysFamilies_74 : decode cX6_laysFamilies 74 = .ok (.aload_n 0, 1) := by decide +kernel
theorem dX6_laysFamilies_75 : decode cX6_laysFamilies 75 = .ok (.getfield 25, 3) := by decide +kernel
theorem dX6_laysFamilies_78 : decode cX6_laysFamilies 78 = .ok (.iload 4, 2) := by decide +kernel
theorem dX6_laysFamilies_80 : decode cX6_laysFamilies 80 = .ok (.dup2, 1) := by decide +kernel
theorem dX6_laysFamilies_81 : decode cX6_laysFamilies 81 = .ok (.iaload, 1) := by decide +kernel
theorem dX6_laysFamilies_82 : decode cX6_laysFamilies 82 = .ok (.iconst 1, 1) := by decide +kernel
theorem dX6_laysFamilies_83 : decode cX6_laysFamilies 83 = .ok (.iload_n 2, 1) := by decide +kernel
theorem dX6_laysFamilies_84 : decode cX6_laysFamilies 84 = .ok (.ishl, 1) := by decide +kernel
theorem dX6_laysFamilies_85 : decode cX6_laysFamilies 85 = .ok (.ior, 1) := by decide +kernel
theorem dX6_laysFamilies_86 : decode cX6_laysFamilies 86 = .ok (.iastore, 1) := by decide +kernel
theorem dX6_laysFamilies_87 : decode cX6_laysFamilies 87 = .ok (.iinc 2 1, 3) := by decide +kernel
theorem dX6_laysFamilies_90 : decode cX6_laysFamilies 90 = .ok (.goto (-83), 3) := by decide +kernel
theorem dX6_laysFamilies_93 : decode cX6_laysFamilies 93 = .ok (.iconst 0, 1) := by decide +kernel
theorem dX6_laysFamilies_94 : decode cX6_laysFamilies 94 = .ok (.istore_n 2, 1) := by decide +kernel
theorem dX6_laysFamilies_95 : decode cX6_laysFamilies 95 = .ok (.iload_n 2, 1) := by decide +kernel
theorem dX6_laysFamilies_96 : decode cX6_laysFamilies 96 = .ok (.aload_n 0, 1) := by decide +kernel
theorem dX6_laysFamilies_97 : decode cX6_laysFamilies 97 = .ok (.getfield 37, 3) := by decide +kernel
theorem dX6_laysFamilies_100 : decode cX6_laysFamilies 100 = .ok (.if_icmp .ge 117, 3) := by decide +kernel
theorem dX6_laysFamilies_103 : decode cX6_laysFamilies 103 = .ok (.iconst 0, 1) := by decide +kernel
theorem dX6_laysFamilies_104 : decode cX6_laysFamilies 104 = .ok (.istore_n 3, 1) := by decide +kernel
theorem dX6_laysFamilies_105 : decode cX6_laysFamilies 105 = .ok (.iconst 0, 1) := by decide +kernel
theorem dX6_laysFamilies_106 : decode cX6_laysFamilies 106 = .ok (.istore 4, 2) := by decide +kernel
theorem dX6_laysFamilies_108 : decode cX6_laysFamilies 108 = .ok (.iload 4, 2) := by decide +kernel
theorem dX6_laysFamilies_110 : decode cX6_laysFamilies 110 = .ok (.aload_n 0, 1) := by decide +kernel
theorem dX6_laysFamilies_111 : decode cX6_laysFamilies 111 = .ok (.getfield 7, 3) := by decide +kernel
theorem dX6_laysFamilies_114 : decode cX6_laysFamilies 114 = .ok (.iconst 0, 1) := by decide +kernel
theorem dX6_laysFamilies_115 : decode cX6_laysFamilies 115 = .ok (.iaload, 1) := by decide +kernel
theorem dX6_laysFamilies_116 : decode cX6_laysFamilies 116 = .ok (.if_icmp .ge 37, 3) := by decide +kernel
theorem dX6_laysFamilies_119 : decode cX6_laysFamilies 119 = .ok (.iload_n 3, 1) := by decide +kernel
theorem dX6_laysFamilies_120 : decode cX6_laysFamilies 120 = .ok (.aload_n 0, 1) := by decide +kernel
theorem dX6_laysFamilies_121 : decode cX6_laysFamilies 121 = .ok (.getfield 25, 3) := by decide +kernel
theorem dX6_laysFamilies_124 : decode cX6_laysFamilies 124 = .ok (.iload_n 2, 1) := by decide +kernel
theorem dX6_laysFamilies_125 : decode cX6_laysFamilies 125 = .ok (.iaload, 1) := by decide +kernel
theorem dX6_laysFamilies_126 : decode cX6_laysFamilies 126 = .ok (.iload 4, 2) := by decide +kernel
theorem dX6_laysFamilies_128 : decode cX6_laysFamilies 128 = .ok (.ishr, 1) := by decide +kernel
theorem dX6_laysFamilies_129 : decode cX6_laysFamilies 129 = .ok (.iconst 1, 1) := by decide +kernel
theorem dX6_laysFamilies_130 : decode cX6_laysFamilies 130 = .ok (.iand, 1) := by decide +kernel
theorem dX6_laysFamilies_131 : decode cX6_laysFamilies 131 = .ok (.iconst 1, 1) := by decide +kernel
theorem dX6_laysFamilies_132 : decode cX6_laysFamilies 132 = .ok (.if_icmp .ne 12, 3) := by decide +kernel
theorem dX6_laysFamilies_135 : decode cX6_laysFamilies 135 = .ok (.aload_n 0, 1) := by decide +kernel
theorem dX6_laysFamilies_136 : decode cX6_laysFamilies 136 = .ok (.iload 4, 2) := by decide +kernel
theorem dX6_laysFamilies_138 : decode cX6_laysFamilies 138 = .ok (.invokevirtual 110, 3) := by decide +kernel
theorem dX6_laysFamilies_141 : decode cX6_laysFamilies 141 = .ok (.goto 4, 3) := by decide +kernel
theorem dX6_laysFamilies_144 : decode cX6_laysFamilies 144 = .ok (.iconst 0, 1) := by decide +kernel
theorem dX6_laysFamilies_145 : decode cX6_laysFamilies 145 = .ok (.ior, 1) := by decide +kernel
theorem dX6_laysFamilies_146 : decode cX6_laysFamilies 146 = .ok (.istore_n 3, 1) := by decide +kernel
theorem dX6_laysFamilies_147 : decode cX6_laysFamilies 147 = .ok (.iinc 4 1, 3) := by decide +kernel
theorem dX6_laysFamilies_150 : decode cX6_laysFamilies 150 = .ok (.goto (-42), 3) := by decide +kernel
theorem dX6_laysFamilies_153 : decode cX6_laysFamilies 153 = .ok (.aload_n 0, 1) := by decide +kernel
theorem dX6_laysFamilies_154 : decode cX6_laysFamilies 154 = .ok (.getfield 34, 3) := by decide +kernel
theorem dX6_laysFamilies_157 : decode cX6_laysFamilies 157 = .ok (.iload_n 2, 1) := by decide +kernel
theorem dX6_laysFamilies_158 : decode cX6_laysFamilies 158 = .ok (.iload_n 3, 1) := by decide +kernel
theorem dX6_laysFamilies_159 : decode cX6_laysFamilies 159 = .ok (.aload_n 0, 1) := by decide +kernel
theorem dX6_laysFamilies_160 : decode cX6_laysFamilies 160 = .ok (.getfield 7, 3) := by decide +kernel
theorem dX6_laysFamilies_163 : decode cX6_laysFamilies 163 = .ok (.iconst 5, 1) := by decide +kernel
theorem dX6_laysFamilies_164 : decode cX6_laysFamilies 164 = .ok (.iaload, 1) := by decide +kernel
theorem dX6_laysFamilies_165 : decode cX6_laysFamilies 165 = .ok (.iconst (-1), 1) := by decide +kernel
theorem dX6_laysFamilies_166 : decode cX6_laysFamilies 166 = .ok (.ixor, 1) := by decide +kernel
theorem dX6_laysFamilies_167 : decode cX6_laysFamilies 167 = .ok (.iand, 1) := by decide +kernel
theorem dX6_laysFamilies_168 : decode cX6_laysFamilies 168 = .ok (.iconst 1, 1) := by decide +kernel
theorem dX6_laysFamilies_169 : decode cX6_laysFamilies 169 = .ok (.iload_n 1, 1) := by decide +kernel
theorem dX6_laysFamilies_170 : decode cX6_laysFamilies 170 = .ok (.bipush 97, 2) := by decide +kernel
theorem dX6_laysFamilies_172 : decode cX6_laysFamilies 172 = .ok (.isub, 1) := by decide +kernel
theorem dX6_laysFamilies_173 : decode cX6_laysFamilies 173 = .ok (.ishl, 1) := by decide +kernel
theorem dX6_laysFamilies_174 : decode cX6_laysFamilies 174 = .ok (.iconst (-1), 1) := by decide +kernel
theorem dX6_laysFamilies_175 : decode cX6_laysFamilies 175 = .ok (.ixor, 1) := by decide +kernel
theorem dX6_laysFamilies_176 : decode cX6_laysFamilies 176 = .ok (.iand, 1) := by decide +kernel
theorem dX6_laysFamilies_177 : decode cX6_laysFamilies 177 = .ok (.invokestatic 113, 3) := by decide +kernel
theorem dX6_laysFamilies_180 : decode cX6_laysFamilies 180 = .ok (.iastore, 1) := by decide +kernel
theorem dX6_laysFamilies_181 : decode cX6_laysFamilies 181 = .ok (.aload_n 0, 1) := by decide +kernel
theorem dX6_laysFamilies_182 : decode cX6_laysFamilies 182 = .ok (.getfield 28, 3) := by decide +kernel
theorem dX6_laysFamilies_185 : decode cX6_laysFamilies 185 = .ok (.iload_n 2, 1) := by decide +kernel
theorem dX6_laysFamilies_186 : decode cX6_laysFamilies 186 = .ok (.aload_n 0, 1) := by decide +kernel
theorem dX6_laysFamilies_187 : decode cX6_laysFamilies 187 = .ok (.getfield 25, 3) := by decide +kernel
theorem dX6_laysFamilies_190 : decode cX6_laysFamilies 190 = .ok (.iload_n 2, 1) := by decide +kernel
theorem dX6_laysFamilies_191 : decode cX6_laysFamilies 191 = .ok (.iaload, 1) := by decide +kernel
theorem dX6_laysFamilies_192 : decode cX6_laysFamilies 192 = .ok (.invokestatic 113, 3) := by decide +kernel
theorem dX6_laysFamilies_195 : decode cX6_laysFamilies 195 = .ok (.iastore, 1) := by decide +kernel
theorem dX6_laysFamilies_196 : decode cX6_laysFamilies 196 = .ok (.aload_n 0, 1) := by decide +kernel
theorem dX6_laysFamilies_197 : decode cX6_laysFamilies 197 = .ok (.getfield 31, 3) := by decide +kernel
theorem dX6_laysFamilies_200 : decode cX6_laysFamilies 200 = .ok (.iload_n 2, 1) := by decide +kernel
theorem dX6_laysFamilies_201 : decode cX6_laysFamilies 201 = .ok (.aload_n 0, 1) := by decide +kernel
theorem dX6_laysFamilies_202 : decode cX6_laysFamilies 202 = .ok (.getfield 22, 3) := by decide +kernel
theorem dX6_laysFamilies_205 : decode cX6_laysFamilies 205 = .ok (.iload_n 2, 1) := by decide +kernel
theorem dX6_laysFamilies_206 : decode cX6_laysFamilies 206 = .ok (.iaload, 1) := by decide +kernel
theorem dX6_laysFamilies_207 : decode cX6_laysFamilies 207 = .ok (.invokestatic 113, 3) := by decide +kernel
theorem dX6_laysFamilies_210 : decode cX6_laysFamilies 210 = .ok (.iastore, 1) := by decide +kernel
theorem dX6_laysFamilies_211 : decode cX6_laysFamilies 211 = .ok (.iinc 2 1, 3) := by decide +kernel
theorem dX6_laysFamilies_214 : decode cX6_laysFamilies 214 = .ok (.goto (-119), 3) := by decide +kernel
theorem dX6_laysFamilies_217 : decode cX6_laysFamilies 217 = .ok (.return_, 1) := by decide +kernel
theorem dX6_isAhead_0 : decode cX6_isAhead 0 = .ok (.aload_n 0, 1) := by decide +kernel
theorem dX6_isAhead_1 : decode cX6_isAhead 1 = .ok (.getfield 7, 3) := by decide +kernel
theorem dX6_isAhead_4 : decode cX6_isAhead 4 = .ok (.iconst 1, 1) := by decide +kernel
theorem dX6_isAhead_5 : decode cX6_isAhead 5 = .ok (.iaload, 1) := by decide +kernel
theorem dX6_isAhead_6 : decode cX6_isAhead 6 = .ok (.iconst 1, 1) := by decide +kernel
theorem dX6_isAhead_7 : decode cX6_isAhead 7 = .ok (.if_icmp .ne 45, 3) := by decide +kernel
theorem dX6_isAhead_10 : decode cX6_isAhead 10 = .ok (.aload_n 0, 1) := by decide +kernel
theorem dX6_isAhead_11 : decode cX6_isAhead 11 = .ok (.getfield 22, 3) := by decide +kernel
theorem dX6_isAhead_14 : decode cX6_isAhead 14 = .ok (.iload_n 1, 1) := by decide +kernel
theorem dX6_isAhead_15 : decode cX6_isAhead 15 = .ok (.iaload, 1) := by decide +kernel
theorem dX6_isAhead_16 : decode cX6_isAhead 16 = .ok (.ifCond .eq 12, 3) := by decide +kernel
theorem dX6_isAhead_19 : decode cX6_isAhead 19 = .ok (.aload_n 0, 1) := by decide +kernel
theorem dX6_isAhead_20 : decode cX6_isAhead 20 = .ok (.getfield 22, 3) := by decide +kernel
theorem dX6_isAhead_23 : decode cX6_isAhead 23 = .ok (.iload_n 2, 1) := by decide +kernel
theorem dX6_isAhead_24 : decode cX6_isAhead 24 = .ok (.iaload, 1) := by decide +kernel
theorem dX6_isAhead_25 : decode cX6_isAhead 25 = .ok (.ifCond .ne 27, 3) := by decide +kernel
theorem dX6_isAhead_28 : decode cX6_isAhead 28 = .ok (.aload_n 0, 1) := by decide +kernel
theorem dX6_isAhead_29 : decode cX6_isAhead 29 = .ok (.getfield 22, 3) := by decide +kernel
theorem dX6_isAhead_32 : decode cX6_isAhead 32 = .ok (.iload_n 1, 1) := by decide +kernel
theorem dX6_isAhead_33 : decode cX6_isAhead 33 = .ok (.iaload, 1) := by decide +kernel
theorem dX6_isAhead_34 : decode cX6_isAhead 34 = .ok (.ifCond .ne 16, 3) := by decide +kernel
theorem dX6_isAhead_37 : decode cX6_isAhead 37 = .ok (.aload_n 0, 1) := by decide +kernel
theorem dX6_isAhead_38 : decode cX6_isAhead 38 = .ok (.getfield 22, 3) := by decide +kernel
theorem dX6_isAhead_41 : decode cX6_isAhead 41 = .ok (.iload_n 2, 1) := by decide +kernel
theorem dX6_isAhead_42 : decode cX6_isAhead 42 = .ok (.iaload, 1) := by decide +kernel
theorem dX6_isAhead_43 : decode cX6_isAhead 43 = .ok (.ifCond .eq 7, 3) := by decide +kernel
theorem dX6_isAhead_46 : decode cX6_isAhead 46 = .ok (.iconst 1, 1) := by decide +kernel
theorem dX6_isAhead_47 : decode cX6_isAhead 47 = .ok (.goto 4, 3) := by decide +kernel
theorem dX6_isAhead_50 : decode cX6_isAhead 50 = .ok (.iconst 0, 1) := by decide +kernel
theorem dX6_isAhead_51 : decode cX6_isAhead 51 = .ok (.ireturn, 1) := by decide +kernel
theorem dX6_isAhead_52 : decode cX6_isAhead 52 = .ok (.aload_n 0, 1) := by decide +kernel
theorem dX6_isAhead_53 : decode cX6_isAhead 53 = .ok (.getfield 7, 3) := by decide +kernel
theorem dX6_isAhead_56 : decode cX6_isAhead 56 = .ok (.iconst 1, 1) := by decide +kernel
theorem dX6_isAhead_57 : decode cX6_isAhead 57 = .ok (.iaload, 1) := by decide +kernel
theorem dX6_isAhead_58 : decode cX6_isAhead 58 = .ok (.iconst 2, 1) := by decide +kernel
theorem dX6_isAhead_59 : decode cX6_isAhead 59 = .ok (.if_icmp .ne 39, 3) := by decide +kernel
theorem dX6_isAhead_62 : decode cX6_isAhead 62 = .ok (.aload_n 0, 1) := by decide +kernel
theorem dX6_isAhead_63 : decode cX6_isAhead 63 = .ok (.getfield 34, 3) := by decide +kernel
theorem dX6_isAhead_66 : decode cX6_isAhead 66 = .ok (.iload_n 1, 1) := by decide +kernel
theorem dX6_isAhead_67 : decode cX6_isAhead 67 = .ok (.iaload, 1) := by decide +kernel
theorem dX6_isAhead_68 : decode cX6_isAhead 68 = .ok (.aload_n 0, 1) := by decide +kernel
theorem dX6_isAhead_69 : decode cX6_isAhead 69 = .ok (.getfield 34, 3) := by decide +kernel
theorem dX6_isAhead_72 : decode cX6_isAhead 72 = .ok (.iload_n 2, 1) := by decide +kernel
theorem dX6_isAhead_73 : decode cX6_isAhead 73 = .ok (.iaload, 1) := by decide +kernel
theorem dX6_isAhead_74 : decode cX6_isAhead 74 = .ok (.if_icmp .eq 24, 3) := by decide +kernel
theorem dX6_isAhead_77 : decode cX6_isAhead 77 = .ok (.aload_n 0, 1) := by decide +kernel
theorem dX6_isAhead_78 : decode cX6_isAhead 78 = .ok (.getfield 34, 3) := by decide +kernel
theorem dX6_isAhead_81 : decode cX6_isAhead 81 = .ok (.iload_n 1, 1) := by decide +kernel
theorem dX6_isAhead_82 : decode cX6_isAhead 82 = .ok (.iaload, 1) := by decide +kernel
theorem dX6_isAhead_83 : decode cX6_isAhead 83 = .ok (.aload_n 0, 1) := by decide +kernel
theorem dX6_isAhead_84 : decode cX6_isAhead 84 = .ok (.getfield 34, 3) := by decide +kernel
theorem dX6_isAhead_87 : decode cX6_isAhead 87 = .ok (.iload_n 2, 1) := by decide +kernel
theorem dX6_isAhead_88 : decode cX6_isAhead 88 = .ok (.iaload, 1) := by decide +kernel
theorem dX6_isAhead_89 : decode cX6_isAhead 89 = .ok (.if_icmp .le 7, 3) := by decide +kernel
theorem dX6_isAhead_92 : decode cX6_isAhead 92 = .ok (.iconst 1, 1) := by decide +kernel
theorem dX6_isAhead_93 : decode cX6_isAhead 93 = .ok (.goto 4, 3) := by decide +kernel
theorem dX6_isAhead_96 : decode cX6_isAhead 96 = .ok (.iconst 0, 1) := by decide +kernel
theorem dX6_isAhead_97 : decode cX6_isAhead 97 = .ok (.ireturn, 1) := by decide +kernel
theorem dX6_isAhead_98 : decode cX6_isAhead 98 = .ok (.aload_n 0, 1) := by decide +kernel
theorem dX6_isAhead_99 : decode cX6_isAhead 99 = .ok (.getfield 28, 3) := by decide +kernel
theorem dX6_isAhead_102 : decode cX6_isAhead 102 = .ok (.iload_n 1, 1) := by decide +kernel
theorem dX6_isAhead_103 : decode cX6_isAhead 103 = .ok (.iaload, 1) := by decide +kernel
theorem dX6_isAhead_104 : decode cX6_isAhead 104 = .ok (.aload_n 0, 1) := by decide +kernel
theorem dX6_isAhead_105 : decode cX6_isAhead 105 = .ok (.getfield 28, 3) := by decide +kernel
theorem dX6_isAhead_108 : decode cX6_isAhead 108 = .ok (.iload_n 2, 1) := by decide +kernel
theorem dX6_isAhead_109 : decode cX6_isAhead 109 = .ok (.iaload, 1) := by decide +kernel
theorem dX6_isAhead_110 : decode cX6_isAhead 110 = .ok (.if_icmp .eq 24, 3) := by decide +kernel
theorem dX6_isAhead_113 : decode cX6_isAhead 113 = .ok (.aload_n 0, 1) := by decide +kernel
theorem dX6_isAhead_114 : decode cX6_isAhead 114 = .ok (.getfield 28, 3) := by decide +kernel
theorem dX6_isAhead_117 : decode cX6_isAhead 117 = .ok (.iload_n 1, 1) := by decide +kernel
theorem dX6_isAhead_118 : decode cX6_isAhead 118 = .ok (.iaload, 1) := by decide +kernel
theorem dX6_isAhead_119 : decode cX6_isAhead 119 = .ok (.aload_n 0, 1) := by decide +kernel
theorem dX6_isAhead_120 : decode cX6_isAhead 120 = .ok (.getfield 28, 3) := by decide +kernel
theorem dX6_isAhead_123 : decode cX6_isAhead 123 = .ok (.iload_n 2, 1) := by decide +kernel
theorem dX6_isAhead_124 : decode cX6_isAhead 124 = .ok (.iaload, 1) := by decide +kernel
theorem dX6_isAhead_125 : decode cX6_isAhead 125 = .ok (.if_icmp .le 7, 3) := by decide +kernel
theorem dX6_isAhead_128 : decode cX6_isAhead 128 = .ok (.iconst 1, 1) := by decide +kernel
theorem dX6_isAhead_129 : decode cX6_isAhead 129 = .ok (.goto 4, 3) := by decide +kernel
theorem dX6_isAhead_132 : decode cX6_isAhead 132 = .ok (.iconst 0, 1) := by decide +kernel
theorem dX6_isAhead_133 : decode cX6_isAhead 133 = .ok (.ireturn, 1) := by decide +kernel
theorem dX6_isAhead_134 : decode cX6_isAhead 134 = .ok (.aload_n 0, 1) := by decide +kernel
theorem dX6_isAhead_135 : decode cX6_isAhead 135 = .ok (.getfield 31, 3) := by decide +kernel
theorem dX6_isAhead_138 : decode cX6_isAhead 138 = .ok (.iload_n 1, 1) := by decide +kernel
theorem dX6_isAhead_139 : decode cX6_isAhead 139 = .ok (.iaload, 1) := by decide +kernel
theorem dX6_isAhead_140 : decode cX6_isAhead 140 = .ok (.aload_n 0, 1) := by decide +kernel
theorem dX6_isAhead_141 : decode cX6_isAhead 141 = .ok (.getfield 31, 3) := by decide +kernel
theorem dX6_isAhead_144 : decode cX6_isAhead 144 = .ok (.iload_n 2, 1) := by decide +kernel
theorem dX6_isAhead_145 : decode cX6_isAhead 145 = .ok (.iaload, 1) := by decide +kernel
theorem dX6_isAhead_146 : decode cX6_isAhead 146 = .ok (.if_icmp .eq 26, 3) := by decide +kernel
theorem dX6_isAhead_149 : decode cX6_isAhead 149 = .ok (.aload_n 0, 1) := by decide +kernel
theorem dX6_isAhead_150 : decode cX6_isAhead 150 = .ok (.getfield 31, 3) := by decide +kernel
theorem dX6_isAhead_153 : decode cX6_isAhead 153 = .ok (.iload_n 1, 1) := by decide +kernel
theorem dX6_isAhead_154 : decode cX6_isAhead 154 = .ok (.iaload, 1) := by decide +kernel
theorem dX6_isAhead_155 : decode cX6_isAhead 155 = .ok (.aload_n 0, 1) := by decide +kernel
theorem dX6_isAhead_156 : decode cX6_isAhead 156 = .ok (.getfield 31, 3) := by decide +kernel
theorem dX6_isAhead_159 : decode cX6_isAhead 159 = .ok (.iload_n 2, 1) := by decide +kernel
theorem dX6_isAhead_160 : decode cX6_isAhead 160 = .ok (.iaload, 1) := by decide +kernel
theorem dX6_isAhead_161 : decode cX6_isAhead 161 = .ok (.if_icmp .ge 7, 3) := by decide +kernel
theorem dX6_isAhead_164 : decode cX6_isAhead 164 = .ok (.iconst 1, 1) := by decide +kernel
theorem dX6_isAhead_165 : decode cX6_isAhead 165 = .ok (.goto 27, 3) := by decide +kernel
theorem dX6_isAhead_168 : decode cX6_isAhead 168 = .ok (.iconst 0, 1) := by decide +kernel
theorem dX6_isAhead_169 : decode cX6_isAhead 169 = .ok (.goto 23, 3) := by decide +kernel
theorem dX6_isAhead_172 : decode cX6_isAhead 172 = .ok (.aload_n 0, 1) := by decide +kernel
theorem dX6_isAhead_173 : decode cX6_isAhead 173 = .ok (.getfield 22, 3) := by decide +kernel
theorem dX6_isAhead_176 : decode cX6_isAhead 176 = .ok (.iload_n 1, 1) := by decide +kernel
theorem dX6_isAhead_177 : decode cX6_isAhead 177 = .ok (.iaload, 1) := by decide +kernel
theorem dX6_isAhead_178 : decode cX6_isAhead 178 = .ok (.aload_n 0, 1) := by decide +kernel
theorem dX6_isAhead_179 : decode cX6_isAhead 179 = .ok (.getfield 22, 3) := by decide +kernel
theorem dX6_isAhead_182 : decode cX6_isAhead 182 = .ok (.iload_n 2, 1) := by decide +kernel
theorem dX6_isAhead_183 : decode cX6_isAhead 183 = .ok (.iaload, 1) := by decide +kernel
theorem dX6_isAhead_184 : decode cX6_isAhead 184 = .ok (.if_icmp .ge 7, 3) := by decide +kernel
theorem dX6_isAhead_187 : decode cX6_isAhead 187 = .ok (.iconst 1, 1) := by decide +kernel
theorem dX6_isAhead_188 : decode cX6_isAhead 188 = .ok (.goto 4, 3) := by decide +kernel
theorem dX6_isAhead_191 : decode cX6_isAhead 191 = .ok (.iconst 0, 1) := by decide +kernel
theorem dX6_isAhead_192 : decode cX6_isAhead 192 = .ok (.ireturn, 1) := by decide +kernel
set_option maxRecDepth 20000 in
theorem ggX6_ranked_X6_isAhead : GoodIn wsX6_ranked wsX6_isAhead := goodIn_r _ [6, 7, 8, 9, 10, 11, 12, 13, 14, 15, 16, 17, 18, 19, 20, 21, 22, 23] (by decide +kernel) (by decide +kernel)
set_option maxRecDepth 20000 in
theorem gX6_ranked_X6_isAhead : GoodIn wsX6_ranked (wsV RX6 116 RX6 yX6_isAhead wsX6_isAhead) := goodIn_app (goodIn_of _ (by decide +kernel)) ggX6_ranked_X6_isAhead
theorem dX6_ranked_0 : decode cX6_ranked 0 = .ok (.iconst 0, 1) := by decide +kernel
theorem dX6_ranked_1 : decode cX6_ranked 1 = .ok (.istore_n 2, 1) := by decide +kernel
theorem dX6_ranked_2 : decode cX6_ranked 2 = .ok (.iload_n 2, 1) := by decide +kernel
theorem dX6_ranked_3 : decode cX6_ranked 3 = .ok (.aload_n 0, 1) := by decide +kernel
theorem dX6_ranked_4 : decode cX6_ranked 4 = .ok (.getfield 37, 3) := by decide +kernel
theorem dX6_ranked_7 : decode cX6_ranked 7 = .ok (.if_icmp .ge 54, 3) := by decide +kernel
theorem dX6_ranked_10 : decode cX6_ranked 10 = .ok (.iconst 0, 1) := by decide +kernel
theorem dX6_ranked_11 : decode cX6_ranked 11 = .ok (.istore_n 3, 1) := by decide +kernel
theorem dX6_ranked_12 : decode cX6_ranked 12 = .ok (.iconst 0, 1) := by decide +kernel
theorem dX6_ranked_13 : decode cX6_ranked 13 = .ok (.istore 4, 2) := by decide +kernel
theorem dX6_ranked_15 : decode cX6_ranked 15 = .ok (.iload 4, 2) := by decide +kernel
theorem dX6_ranked_17 : decode cX6_ranked 17 = .ok (.aload_n 0, 1) := by decide +kernel
theorem dX6_ranked_18 : decode cX6_ranked 18 = .ok (.getfield 37, 3) := by decide +kernel
theorem dX6_ranked_21 : decode cX6_ranked 21 = .ok (.if_icmp .ge 27, 3) := by decide +kernel
theorem dX6_ranked_24 : decode cX6_ranked 24 = .ok (.iload_n 3, 1) := by decide +kernel
theorem dX6_ranked_25 : decode cX6_ranked 25 = .ok (.aload_n 0, 1) := by decide +kernel
theorem dX6_ranked_26 : decode cX6_ranked 26 = .ok (.iload 4, 2) := by decide +kernel
theorem dX6_ranked_28 : decode cX6_ranked 28 = .ok (.iload_n 2, 1) := by decide +kernel
theorem dX6_ranked_29 : decode cX6_ranked 29 = .ok (.invokevirtual 116, 3) := by decide +kernel
theorem dX6_ranked_32 : decode cX6_ranked 32 = .ok (.ifCond .eq 7, 3) := by decide +kernel
theorem dX6_ranked_35 : decode cX6_ranked 35 = .ok (.iconst 1, 1) := by decide +kernel
theorem dX6_ranked_36 : decode cX6_ranked 36 = .ok (.goto 4, 3) := by decide +kernel
theorem dX6_ranked_39 : decode cX6_ranked 39 = .ok (.iconst 0, 1) := by decide +kernel
theorem dX6_ranked_40 : decode cX6_ranked 40 = .ok (.iadd, 1) := by decide +kernel
theorem dX6_ranked_41 : decode cX6_ranked 41 = .ok (.istore_n 3, 1) := by decide +kernel
theorem dX6_ranked_42 : decode cX6_ranked 42 = .ok (.iinc 4 1, 3) := by decide +kernel
theorem dX6_ranked_45 : decode cX6_ranked 45 = .ok (.goto (-30), 3) := by decide +kernel
theorem dX6_ranked_48 : decode cX6_ranked 48 = .ok (.iload_n 3, 1) := by decide +kernel
theorem dX6_ranked_49 : decode cX6_ranked 49 = .ok (.iload_n 1, 1) := by decide +kernel
theorem dX6_ranked_50 : decode cX6_ranked 50 = .ok (.if_icmp .ne 5, 3) := by decide +kernel
theorem dX6_ranked_53 : decode cX6_ranked 53 = .ok (.iload_n 2, 1) := by decide +kernel
theorem dX6_ranked_54 : decode cX6_ranked 54 = .ok (.ireturn, 1) := by decide +kernel
theorem dX6_ranked_55 : decode cX6_ranked 55 = .ok (.iinc 2 1, 3) := by decide +kernel
theorem dX6_ranked_58 : decode cX6_ranked 58 = .ok (.goto (-56), 3) := by decide +kernel
theorem dX6_ranked_61 : decode cX6_ranked 61 = .ok (.aload_n 0, 1) := by decide +kernel
theorem dX6_ranked_62 : decode cX6_ranked 62 = .ok (.getfield 37, 3) := by decide +kernel
theorem dX6_ranked_65 : decode cX6_ranked 65 = .ok (.ireturn, 1) := by decide +kernel
set_option maxRecDepth 20000 in
theorem ggX6_setPolicy_X6_in : GoodIn wsX6_setPolicy wsX6_in := goodIn_r _ [5] (by decide +kernel) (by decide +kernel)
set_option maxRecDepth 20000 in
theorem gX6_setPolicy_X6_in : GoodIn wsX6_setPolicy (va_wsS RX6 41 yX6_in wsX6_in) := goodIn_app (goodIn_of _ (by decide +kernel)) ggX6_setPolicy_X6_in
set_option maxRecDepth 20000 in
theorem ggX6_setPolicy_X6_saves : GoodIn wsX6_setPolicy wsX6_saves := goodIn_r _ [9, 10, 11, 1, 12, 13, 14, 15, 16, 17, 18, 19, 20, 21, 22, 23] (by decide +kernel) (by decide +kernel)
set_option maxRecDepth 20000 in
theorem gX6_setPolicy_X6_saves : GoodIn wsX6_setPolicy (wsV RX6 98 RX6 yX6_saves wsX6_saves) := goodIn_app (goodIn_of _ (by decide +kernel)) ggX6_setPolicy_X6_saves
theorem dX6_setPolicy_0 : decode cX6_setPolicy 0 = .ok (.iload_n 1, 1) := by decide +kernel
theorem dX6_setPolicy_1 : decode cX6_setPolicy 1 = .ok (.iconst 0, 1) := by decide +kernel
theorem dX6_setPolicy_2 : decode cX6_setPolicy 2 = .ok (.iconst 2, 1) := by decide +kernel
theorem dX6_setPolicy_3 : decode cX6_setPolicy 3 = .ok (.invokestatic 41, 3) := by decide +kernel
theorem dX6_setPolicy_6 : decode cX6_setPolicy 6 = .ok (.ifCond .ne 6, 3) := by decide +kernel
theorem dX6_setPolicy_9 : decode cX6_setPolicy 9 = .ok (.bipush (-2), 2) := by decide +kernel
theorem dX6_setPolicy_11 : decode cX6_setPolicy 11 = .ok (.ireturn, 1) := by decide +kernel
theorem dX6_setPolicy_12 : decode cX6_setPolicy 12 = .ok (.aload_n 0, 1) := by decide +kernel
theorem dX6_setPolicy_13 : decode cX6_setPolicy 13 = .ok (.invokevirtual 98, 3) := by decide +kernel
theorem dX6_setPolicy_16 : decode cX6_setPolicy 16 = .ok (.aload_n 0, 1) := by decide +kernel
theorem dX6_setPolicy_17 : decode cX6_setPolicy 17 = .ok (.getfield 7, 3) := by decide +kernel
theorem dX6_setPolicy_20 : decode cX6_setPolicy 20 = .ok (.iconst 1, 1) := by decide +kernel
theorem dX6_setPolicy_21 : decode cX6_setPolicy 21 = .ok (.iaload, 1) := by decide +kernel
theorem dX6_setPolicy_22 : decode cX6_setPolicy 22 = .ok (.istore_n 2, 1) := by decide +kernel
theorem dX6_setPolicy_23 : decode cX6_setPolicy 23 = .ok (.aload_n 0, 1) := by decide +kernel
theorem dX6_setPolicy_24 : decode cX6_setPolicy 24 = .ok (.getfield 7, 3) := by decide +kernel
theorem dX6_setPolicy_27 : decode cX6_setPolicy 27 = .ok (.iconst 1, 1) := by decide +kernel
theorem dX6_setPolicy_28 : decode cX6_setPolicy 28 = .ok (.iload_n 1, 1) := by decide +kernel
theorem dX6_setPolicy_29 : decode cX6_setPolicy 29 = .ok (.iastore, 1) := by decide +kernel
theorem dX6_setPolicy_30 : decode cX6_setPolicy 30 = .ok (.iload_n 2, 1) := by decide +kernel
theorem dX6_setPolicy_31 : decode cX6_setPolicy 31 = .ok (.ireturn, 1) := by decide +kernel
theorem dX6_ofLength_0 : decode cX6_ofLength 0 = .ok (.iconst 0, 1) := by decide +kernel
theorem dX6_ofLength_1 : decode cX6_ofLength 1 = .ok (.istore_n 2, 1) := by decide +kernel
theorem dX6_ofLength_2 : decode cX6_ofLength 2 = .ok (.iconst 0, 1) := by decide +kernel
theorem dX6_ofLength_3 : decode cX6_ofLength 3 = .ok (.istore_n 3, 1) := by decide +kernel
theorem dX6_ofLength_4 : decode cX6_ofLength 4 = .ok (.iload_n 3, 1) := by decide +kernel
theorem dX6_ofLength_5 : decode cX6_ofLength 5 = .ok (.aload_n 0, 1) := by decide +kernel
theorem dX6_ofLength_6 : decode cX6_ofLength 6 = .ok (.getfield 7, 3) := by decide +kernel
theorem dX6_ofLength_9 : decode cX6_ofLength 9 = .ok (.iconst 0, 1) := by decide +kernel
theorem dX6_ofLength_10 : decode cX6_ofLength 10 = .ok (.iaload, 1) := by decide +kernel
theorem dX6_ofLength_11 : decode cX6_ofLength 11 = .ok (.if_icmp .ge 32, 3) := by decide +kernel
theorem dX6_ofLength_14 : decode cX6_ofLength 14 = .ok (.iload_n 2, 1) := by decide +kernel
theorem dX6_ofLength_15 : decode cX6_ofLength 15 = .ok (.aload_n 0, 1) := by decide +kernel
theorem dX6_ofLength_16 : decode cX6_ofLength 16 = .ok (.getfield 7, 3) := by decide +kernel
theorem dX6_ofLength_19 : decode cX6_ofLength 19 = .ok (.bipush 49, 2) := by decide +kernel
theorem dX6_ofLength_21 : decode cX6_ofLength 21 = .ok (.iload_n 3, 1) := by decide +kernel
theorem dX6_ofLength_22 : decode cX6_ofLength 22 = .ok (.iadd, 1) := by decide +kernel
theorem dX6_ofLength_23 : decode cX6_ofLength 23 = .ok (.iaload, 1) := by decide +kernel
theorem dX6_ofLength_24 : decode cX6_ofLength 24 = .ok (.iload_n 1, 1) := by decide +kernel
theorem dX6_ofLength_25 : decode cX6_ofLength 25 = .ok (.if_icmp .ne 9, 3) := by decide +kernel
theorem dX6_ofLength_28 : decode cX6_ofLength 28 = .ok (.iconst 1, 1) := by decide +kernel
theorem dX6_ofLength_29 : decode cX6_ofLength 29 = .ok (.iload_n 3, 1) := by decide +kernel
theorem dX6_ofLength_30 : decode cX6_ofLength 30 = .ok (.ishl, 1) := by decide +kernel
theorem dX6_ofLength_31 : decode cX6_ofLength 31 = .ok (.goto 4, 3) := by decide +kernel
theorem dX6_ofLength_34 : decode cX6_ofLength 34 = .ok (.iconst 0, 1) := by decide +kernel
theorem dX6_ofLength_35 : decode cX6_ofLength 35 = .ok (.ior, 1) := by decide +kernel
theorem dX6_ofLength_36 : decode cX6_ofLength 36 = .ok (.istore_n 2, 1) := by decide +kernel
theorem dX6_ofLength_37 : decode cX6_ofLength 37 = .ok (.iinc 3 1, 3) := by decide +kernel
theorem dX6_ofLength_40 : decode cX6_ofLength 40 = .ok (.goto (-36), 3) := by decide +kernel
theorem dX6_ofLength_43 : decode cX6_ofLength 43 = .ok (.iload_n 2, 1) := by decide +kernel
theorem dX6_ofLength_44 : decode cX6_ofLength 44 = .ok (.ireturn, 1) := by decide +kernel
set_option maxRecDepth 20000 in
theorem ggX6_start_X6_in : GoodIn wsX6_start wsX6_in := goodIn_r _ [5] (by decide +kernel) (by decide +kernel)
set_option maxRecDepth 20000 in
theorem gX6_start_X6_in : GoodIn wsX6_start (va_wsS RX6 41 yX6_in wsX6_in) := goodIn_app (goodIn_of _ (by decide +kernel)) ggX6_start_X6_in
set_option maxRecDepth 20000 in
theorem ggX6_start_X6_ofLength : GoodIn wsX6_start wsX6_ofLength := goodIn_r _ [9, 1, 23, 24, 25, 26, 27, 28, 29, 30, 31, 32, 33, 34] (by decide +kernel) (by decide +kernel)
set_option maxRecDepth 20000 in
theorem gX6_start_X6_ofLength : GoodIn wsX6_start (wsV RX6 119 RX6 yX6_ofLength wsX6_ofLength) := goodIn_app (goodIn_of _ (by decide +kernel)) ggX6_start_X6_ofLength
set_option maxRecDepth 20000 in
theorem ggX6_start_X6_saves : GoodIn wsX6_start wsX6_saves := goodIn_r _ [13, 14, 15, 1, 23, 24, 25, 26, 27, 28, 29, 30, 31, 32, 33, 34] (by decide +kernel) (by decide +kernel)
set_option maxRecDepth 20000 in
theorem gX6_start_X6_saves : GoodIn wsX6_start (wsV RX6 98 RX6 yX6_saves wsX6_saves) := goodIn_app (goodIn_of _ (by decide +kernel)) ggX6_start_X6_saves
set_option maxRecDepth 20000 in
theorem ggX6_start_X6_noGame : GoodIn wsX6_start wsX6_noGame := goodIn_r _ [19, 1, 23, 24, 25, 26, 27, 28, 29, 30, 31, 32, 33, 34] (by decide +kernel) (by decide +kernel)
set_option maxRecDepth 20000 in
theorem gX6_start_X6_noGame : GoodIn wsX6_start (wsV RX6 95 RX6 yX6_noGame wsX6_noGame) := goodIn_app (goodIn_of _ (by decide +kernel)) ggX6_start_X6_noGame
set_option maxRecDepth 20000 in
theorem ggX6_start_X6_bits : GoodIn wsX6_start wsX6_bits := goodIn_r _ [22] (by decide +kernel) (by decide +kernel)
set_option maxRecDepth 20000 in
theorem gX6_start_X6_bits : GoodIn wsX6_start (va_wsS RX6 113 yX6_bits wsX6_bits) := goodIn_app (goodIn_of _ (by decide +kernel)) ggX6_start_X6_bits
theorem dX6_start_0 : decode cX6_start 0 = .ok (.iload_n 1, 1) := by decide +kernel
theorem dX6_start_1 : decode cX6_start 1 = .ok (.iconst 2, 1) := by decide +kernel
theorem dX6_start_2 : decode cX6_start 2 = .ok (.bipush 8, 2) := by decide +kernel
theorem dX6_start_4 : decode cX6_start 4 = .ok (.invokestatic 41, 3) := by decide +kernel
theorem dX6_start_7 : decode cX6_start 7 = .ok (.ifCond .eq 13, 3) := by decide +kernel
theorem dX6_start_10 : decode cX6_start 10 = .ok (.iload_n 2, 1) := by decide +kernel
theorem dX6_start_11 : decode cX6_start 11 = .ok (.iconst 1, 1) := by decide +kernel
theorem dX6_start_12 : decode cX6_start 12 = .ok (.bipush 20, 2) := by decide +kernel
theorem dX6_start_14 : decode cX6_start 14 = .ok (.invokestatic 41, 3) := by decide +kernel
theorem dX6_start_17 : decode cX6_start 17 = .ok (.ifCond .ne 6, 3) := by decide +kernel
theorem dX6_start_20 : decode cX6_start 20 = .ok (.bipush (-2), 2) := by decide +kernel
theorem dX6_start_22 : decode cX6_start 22 = .ok (.ireturn, 1) := by decide +kernel
theorem dX6_start_23 : decode cX6_start 23 = .ok (.aload_n 0, 1) := by decide +kernel
theorem dX6_start_24 : decode cX6_start 24 = .ok (.iload_n 1, 1) := by decide +kernel
theorem dX6_start_25 : decode cX6_start 25 = .ok (.invokevirtual 119, 3) := by decide +kernel
theorem dX6_start_28 : decode cX6_start 28 = .ok (.ifCond .ne 6, 3) := by decide +kernel
theorem dX6_start_31 : decode cX6_start 31 = .ok (.bipush (-3), 2) := by decide +kernel
theorem dX6_start_33 : decode cX6_start 33 = .ok (.ireturn, 1) := by decide +kernel
theorem dX6_start_34 : decode cX6_start 34 = .ok (.aload_n 0, 1) := by decide +kernel
theorem dX6_start_35 : decode cX6_start 35 = .ok (.invokevirtual 98, 3) := by decide +kernel
theorem dX6_start_38 : decode cX6_start 38 = .ok (.aload_n 0, 1) := by decide +kernel
theorem dX6_start_39 : decode cX6_start 39 = .ok (.invokevirtual 95, 3) := by decide +kernel
theorem dX6_start_42 : decode cX6_start 42 = .ok (.aload_n 0, 1) := by decide +kernel
theorem dX6_start_43 : decode cX6_start 43 = .ok (.getfield 7, 3) := by decide +kernel
theorem dX6_start_46 : decode cX6_start 46 = .ok (.iconst 2, 1) := by decide +kernel
theorem dX6_start_47 : decode cX6_start 47 = .ok (.iconst 1, 1) := by decide +kernel
theorem dX6_start_48 : decode cX6_start 48 = .ok (.iastore, 1) := by decide +kernel
theorem dX6_start_49 : decode cX6_start 49 = .ok (.aload_n 0, 1) := by decide +kernel
theorem dX6_start_50 : decode cX6_start 50 = .ok (.getfield 7, 3) := by decide +kernel
theorem dX6_start_53 : decode cX6_start 53 = .ok (.iconst 3, 1) := by decide +kernel
theorem dX6_start_54 : decode cX6_start 54 = .ok (.iload_n 1, 1) := by decide +kernel
theorem dX6_start_55 : decode cX6_start 55 = .ok (.iastore, 1) := by decide +kernel
theorem dX6_start_56 : decode cX6_start 56 = .ok (.aload_n 0, 1) := by decide +kernel
theorem dX6_start_57 : decode cX6_start 57 = .ok (.getfield 7, 3) := by decide +kernel
theorem dX6_start_60 : decode cX6_start 60 = .ok (.iconst 4, 1) := by decide +kernel
theorem dX6_start_61 : decode cX6_start 61 = .ok (.iload_n 2, 1) := by decide +kernel
theorem dX6_start_62 : decode cX6_start 62 = .ok (.iastore, 1) := by decide +kernel
theorem dX6_start_63 : decode cX6_start 63 = .ok (.aload_n 0, 1) := by decide +kernel
theorem dX6_start_64 : decode cX6_start 64 = .ok (.getfield 7, 3) := by decide +kernel
theorem dX6_start_67 : decode cX6_start 67 = .ok (.bipush 7, 2) := by decide +kernel
theorem dX6_start_69 : decode cX6_start 69 = .ok (.aload_n 0, 1) := by decide +kernel
theorem dX6_start_70 : decode cX6_start 70 = .ok (.iload_n 1, 1) := by decide +kernel
theorem dX6_start_71 : decode cX6_start 71 = .ok (.invokevirtual 119, 3) := by decide +kernel
theorem dX6_start_74 : decode cX6_start 74 = .ok (.iastore, 1) := by decide +kernel
theorem dX6_start_75 : decode cX6_start 75 = .ok (.aload_n 0, 1) := by decide +kernel
theorem dX6_start_76 : decode cX6_start 76 = .ok (.getfield 7, 3) := by decide +kernel
theorem dX6_start_79 : decode cX6_start 79 = .ok (.bipush 8, 2) := by decide +kernel
theorem dX6_start_81 : decode cX6_start 81 = .ok (.dup2, 1) := by decide +kernel
theorem dX6_start_82 : decode cX6_start 82 = .ok (.iaload, 1) := by decide +kernel
theorem dX6_start_83 : decode cX6_start 83 = .ok (.iconst 1, 1) := by decide +kernel
theorem dX6_start_84 : decode cX6_start 84 = .ok (.iadd, 1) := by decide +kernel
theorem dX6_start_85 : decode cX6_start 85 = .ok (.iastore, 1) := by decide +kernel
theorem dX6_start_86 : decode cX6_start 86 = .ok (.aload_n 0, 1) := by decide +kernel
theorem dX6_start_87 : decode cX6_start 87 = .ok (.getfield 7, 3) := by decide +kernel
theorem dX6_start_90 : decode cX6_start 90 = .ok (.bipush 7, 2) := by decide +kernel
theorem dX6_start_92 : decode cX6_start 92 = .ok (.iaload, 1) := by decide +kernel
theorem dX6_start_93 : decode cX6_start 93 = .ok (.invokestatic 113, 3) := by decide +kernel
theorem dX6_start_96 : decode cX6_start 96 = .ok (.ireturn, 1) := by decide +kernel
theorem dX6_ends_0 : decode cX6_ends 0 = .ok (.aload_n 0, 1) := by decide +kernel
theorem dX6_ends_1 : decode cX6_ends 1 = .ok (.getfield 7, 3) := by decide +kernel
theorem dX6_ends_4 : decode cX6_ends 4 = .ok (.iconst 2, 1) := by decide +kernel
theorem dX6_ends_5 : decode cX6_ends 5 = .ok (.iload_n 1, 1) := by decide +kernel
theorem dX6_ends_6 : decode cX6_ends 6 = .ok (.iastore, 1) := by decide +kernel
theorem dX6_ends_7 : decode cX6_ends 7 = .ok (.aload_n 0, 1) := by decide +kernel
theorem dX6_ends_8 : decode cX6_ends 8 = .ok (.getfield 7, 3) := by decide +kernel
theorem dX6_ends_11 : decode cX6_ends 11 = .ok (.bipush 8, 2) := by decide +kernel
theorem dX6_ends_13 : decode cX6_ends 13 = .ok (.iload_n 1, 1) := by decide +kernel
theorem dX6_ends_14 : decode cX6_ends 14 = .ok (.iconst 2, 1) := by decide +kernel
theorem dX6_ends_15 : decode cX6_ends 15 = .ok (.if_icmp .ne 7, 3) := by decide +kernel
theorem dX6_ends_18 : decode cX6_ends 18 = .ok (.iconst 1, 1) := by decide +kernel
theorem dX6_ends_19 : decode cX6_ends 19 = .ok (.goto 4, 3) := by decide +kernel
theorem dX6_ends_22 : decode cX6_ends 22 = .ok (.iconst 2, 1) := by decide +kernel
theorem dX6_ends_23 : decode cX6_ends 23 = .ok (.iadd, 1) := by decide +kernel
theorem dX6_ends_24 : decode cX6_ends 24 = .ok (.dup2, 1) := by decide +kernel
theorem dX6_ends_25 : decode cX6_ends 25 = .ok (.iaload, 1) := by decide +kernel
theorem dX6_ends_26 : decode cX6_ends 26 = .ok (.iconst 1, 1) := by decide +kernel
theorem dX6_ends_27 : decode cX6_ends 27 = .ok (.iadd, 1) := by decide +kernel
theorem dX6_ends_28 : decode cX6_ends 28 = .ok (.iastore, 1) := by decide +kernel
theorem dX6_ends_29 : decode cX6_ends 29 = .ok (.return_, 1) := by decide +kernel
set_option maxRecDepth 20000 in
theorem ggX6_misses_X6_ends : GoodIn wsX6_misses wsX6_ends := goodIn_r _ [6, 1, 7, 8, 9, 10, 11, 12, 13, 14, 15, 16, 17, 18] (by decide +kernel) (by decide +kernel)
set_option maxRecDepth 20000 in
theorem gX6_misses_X6_ends : GoodIn wsX6_misses (wsV RX6 122 RX6 yX6_ends wsX6_ends) := goodIn_app (goodIn_of _ (by decide +kernel)) ggX6_misses_X6_ends
theorem dX6_misses_0 : decode cX6_misses 0 = .ok (.aload_n 0, 1) := by decide +kernel
theorem dX6_misses_1 : decode cX6_misses 1 = .ok (.getfield 7, 3) := by decide +kernel
theorem dX6_misses_4 : decode cX6_misses 4 = .ok (.iconst 4, 1) := by decide +kernel
theorem dX6_misses_5 : decode cX6_misses 5 = .ok (.dup2, 1) := by decide +kernel
theorem dX6_misses_6 : decode cX6_misses 6 = .ok (.iaload, 1) := by decide +kernel
theorem dX6_misses_7 : decode cX6_misses 7 = .ok (.iconst 1, 1) := by decide +kernel
theorem dX6_misses_8 : decode cX6_misses 8 = .ok (.isub, 1) := by decide +kernel
theorem dX6_misses_9 : decode cX6_misses 9 = .ok (.iastore, 1) := by decide +kernel
theorem dX6_misses_10 : decode cX6_misses 10 = .ok (.aload_n 0, 1) := by decide +kernel
theorem dX6_misses_11 : decode cX6_misses 11 = .ok (.getfield 7, 3) := by decide +kernel
theorem dX6_misses_14 : decode cX6_misses 14 = .ok (.bipush 13, 2) := by decide +kernel
theorem dX6_misses_16 : decode cX6_misses 16 = .ok (.dup2, 1) := by decide +kernel
theorem dX6_misses_17 : decode cX6_misses 17 = .ok (.iaload, 1) := by decide +kernel
theorem dX6_misses_18 : decode cX6_misses 18 = .ok (.iconst 1, 1) := by decide +kernel
theorem dX6_misses_19 : decode cX6_misses 19 = .ok (.iadd, 1) := by decide +kernel
theorem dX6_misses_20 : decode cX6_misses 20 = .ok (.iastore, 1) := by decide +kernel
theorem dX6_misses_21 : decode cX6_misses 21 = .ok (.aload_n 0, 1) := by decide +kernel
theorem dX6_misses_22 : decode cX6_misses 22 = .ok (.getfield 7, 3) := by decide +kernel
theorem dX6_misses_25 : decode cX6_misses 25 = .ok (.bipush 14, 2) := by decide +kernel
theorem dX6_misses_27 : decode cX6_misses 27 = .ok (.dup2, 1) := by decide +kernel
theorem dX6_misses_28 : decode cX6_misses 28 = .ok (.iaload, 1) := by decide +kernel
theorem dX6_misses_29 : decode cX6_misses 29 = .ok (.iload_n 1, 1) := by decide +kernel
theorem dX6_misses_30 : decode cX6_misses 30 = .ok (.ifCond .eq 7, 3) := by decide +kernel
theorem dX6_misses_33 : decode cX6_misses 33 = .ok (.iconst 1, 1) := by decide +kernel
theorem dX6_misses_34 : decode cX6_misses 34 = .ok (.goto 4, 3) := by decide +kernel
theorem dX6_misses_37 : decode cX6_misses 37 = .ok (.iconst 0, 1) := by decide +kernel
theorem dX6_misses_38 : decode cX6_misses 38 = .ok (.iadd, 1) := by decide +kernel
theorem dX6_misses_39 : decode cX6_misses 39 = .ok (.iastore, 1) := by decide +kernel
theorem dX6_misses_40 : decode cX6_misses 40 = .ok (.aload_n 0, 1) := by decide +kernel
theorem dX6_misses_41 : decode cX6_misses 41 = .ok (.getfield 7, 3) := by decide +kernel
theorem dX6_misses_44 : decode cX6_misses 44 = .ok (.iconst 4, 1) := by decide +kernel
theorem dX6_misses_45 : decode cX6_misses 45 = .ok (.iaload, 1) := by decide +kernel
theorem dX6_misses_46 : decode cX6_misses 46 = .ok (.ifCond .ne 8, 3) := by decide +kernel
theorem dX6_misses_49 : decode cX6_misses 49 = .ok (.aload_n 0, 1) := by decide +kernel
theorem dX6_misses_50 : decode cX6_misses 50 = .ok (.iconst 3, 1) := by decide +kernel
theorem dX6_misses_51 : decode cX6_misses 51 = .ok (.invokevirtual 122, 3) := by decide +kernel
theorem dX6_misses_54 : decode cX6_misses 54 = .ok (.return_, 1) := by decide +kernel
theorem dX6_isHidden_0 : decode cX6_isHidden 0 = .ok (.iconst 0, 1) := by decide +kernel
theorem dX6_isHidden_1 : decode cX6_isHidden 1 = .ok (.istore_n 1, 1) := by decide +kernel
theorem dX6_isHidden_2 : decode cX6_isHidden 2 = .ok (.iconst 0, 1) := by decide +kernel
theorem dX6_isHidden_3 : decode cX6_isHidden 3 = .ok (.istore_n 2, 1) := by decide +kernel
theorem dX6_isHidden_4 : decode cX6_isHidden 4 = .ok (.iload_n 2, 1) := by decide +kernel
theorem dX6_isHidden_5 : decode cX6_isHidden 5 = .ok (.aload_n 0, 1) := by decide +kernel
theorem dX6_isHidden_6 : decode cX6_isHidden 6 = .ok (.getfield 7, 3) := by decide +kernel
theorem dX6_isHidden_9 : decode cX6_isHidden 9 = .ok (.iconst 3, 1) := by decide +kernel
theorem dX6_isHidden_10 : decode cX6_isHidden 10 = .ok (.iaload, 1) := by decide +kernel
theorem dX6_isHidden_11 : decode cX6_isHidden 11 = .ok (.if_icmp .ge 31, 3) := by decide +kernel
theorem dX6_isHidden_14 : decode cX6_isHidden 14 = .ok (.iload_n 1, 1) := by decide +kernel
theorem dX6_isHidden_15 : decode cX6_isHidden 15 = .ok (.ifCond .ne 15, 3) := by decide +kernel
theorem dX6_isHidden_18 : decode cX6_isHidden 18 = .ok (.aload_n 0, 1) := by decide +kernel
theorem dX6_isHidden_19 : decode cX6_isHidden 19 = .ok (.getfield 7, 3) := by decide +kernel
theorem dX6_isHidden_22 : decode cX6_isHidden 22 = .ok (.bipush 41, 2) := by decide +kernel
theorem dX6_isHidden_24 : decode cX6_isHidden 24 = .ok (.iload_n 2, 1) := by decide +kernel
theorem dX6_isHidden_25 : decode cX6_isHidden 25 = .ok (.iadd, 1) := by decide +kernel
theorem dX6_isHidden_26 : decode cX6_isHidden 26 = .ok (.iaload, 1) := by decide +kernel
theorem dX6_isHidden_27 : decode cX6_isHidden 27 = .ok (.ifCond .ne 7, 3) := by decide +kernel
theorem dX6_isHidden_30 : decode cX6_isHidden 30 = .ok (.iconst 1, 1) := by decide +kernel
theorem dX6_isHidden_31 : decode cX6_isHidden 31 = .ok (.goto 4, 3) := by decide +kernel
theorem dX6_isHidden_34 : decode cX6_isHidden 34 = .ok (.iconst 0, 1) := by decide +kernel
theorem dX6_isHidden_35 : decode cX6_isHidden 35 = .ok (.istore_n 1, 1) := by decide +kernel
theorem dX6_isHidden_36 : decode cX6_isHidden 36 = .ok (.iinc 2 1, 3) := by decide +kernel
theorem dX6_isHidden_39 : decode cX6_isHidden 39 = .ok (.goto (-35), 3) := by decide +kernel
theorem dX6_isHidden_42 : decode cX6_isHidden 42 = .ok (.iload_n 1, 1) := by decide +kernel
theorem dX6_isHidden_43 : decode cX6_isHidden 43 = .ok (.ireturn, 1) := by decide +kernel
set_option maxRecDepth 20000 in
theorem ggX6_guessesOn_X6_laysFamilies : GoodIn wsX6_guessesOn wsX6_laysFamilies := goodIn_r _ [10, 1, 3, 2, 4, 11, 12, 5, 13, 14, 15, 9, 16, 17, 18, 19, 20, 21, 22, 23, 24, 25, 26, 27, 28, 29, 30, 31, 32, 33, 34, 35, 56, 57, 58, 59, 60, 61, 62, 63, 64, 65, 66, 67] (by decide +kernel) (by decide +kernel)
set_option maxRecDepth 20000 in
theorem gX6_guessesOn_X6_laysFamilies : GoodIn wsX6_guessesOn (wsV RX6 126 RX6 yX6_laysFamilies wsX6_laysFamilies) := goodIn_app (goodIn_of _ (by decide +kernel)) ggX6_guessesOn_X6_laysFamilies
set_option maxRecDepth 20000 in
theorem ggX6_guessesOn_X6_ranked : GoodIn wsX6_guessesOn wsX6_ranked := goodIn_r _ [39, 1, 40, 41, 42, 9, 43, 3, 2, 11, 12, 5, 56, 57, 58, 59, 60, 61, 62, 63, 64, 65, 66, 67] (by decide +kernel) (by decide +kernel)
set_option maxRecDepth 20000 in
theorem gX6_guessesOn_X6_ranked : GoodIn wsX6_guessesOn (wsV RX6 129 RX6 yX6_ranked wsX6_ranked) := goodIn_app (goodIn_of _ (by decide +kernel)) ggX6_guessesOn_X6_ranked
set_option maxRecDepth 20000 in
theorem ggX6_guessesOn_X6_misses : GoodIn wsX6_guessesOn wsX6_misses := goodIn_r _ [47, 3, 48, 49, 50, 9, 51, 56, 57, 58, 59, 60, 61, 62, 63, 64, 65, 66, 67] (by decide +kernel) (by decide +kernel)
set_option maxRecDepth 20000 in
theorem gX6_guessesOn_X6_misses : GoodIn wsX6_guessesOn (wsV RX6 132 RX6 yX6_misses wsX6_misses) := goodIn_app (goodIn_of _ (by decide +kernel)) ggX6_guessesOn_X6_misses
set_option maxRecDepth 20000 in
theorem ggX6_guessesOn_X6_isHidden : GoodIn wsX6_guessesOn wsX6_isHidden := goodIn_r _ [55, 3, 56, 57, 58, 59, 60, 61, 62, 63, 64, 65, 66, 67] (by decide +kernel) (by decide +kernel)
set_option maxRecDepth 20000 in
theorem gX6_guessesOn_X6_isHidden : GoodIn wsX6_guessesOn (wsV RX6 136 RX6 yX6_isHidden wsX6_isHidden) := goodIn_app (goodIn_of _ (by decide +kernel)) ggX6_guessesOn_X6_isHidden
set_option maxRecDepth 20000 in
theorem ggX6_guessesOn_X6_ends : GoodIn wsX6_guessesOn wsX6_ends := goodIn_r _ [51, 3, 56, 57, 58, 59, 60, 61, 62, 63, 64, 65, 66, 67] (by decide +kernel) (by decide +kernel)
set_option maxRecDepth 20000 in
theorem gX6_guessesOn_X6_ends : GoodIn wsX6_guessesOn (wsV RX6 122 RX6 yX6_ends wsX6_ends) := goodIn_app (goodIn_of _ (by decide +kernel)) ggX6_guessesOn_X6_ends
theorem dX6_guessesOn_0 : decode cX6_guessesOn 0 = .ok (.aload_n 0, 1) := by decide +kernel
theorem dX6_guessesOn_1 : decode cX6_guessesOn 1 = .ok (.iload_n 1, 1) := by decide +kernel
theorem dX6_guessesOn_2 : decode cX6_guessesOn 2 = .ok (.invokevirtual 126, 3) := by decide +kernel
theorem dX6_guessesOn_5 : decode cX6_guessesOn 5 = .ok (.aload_n 0, 1) := by decide +kernel
theorem dX6_guessesOn_6 : decode cX6_guessesOn 6 = .ok (.iconst 0, 1) := by decide +kernel
theorem dX6_guessesOn_7 : decode cX6_guessesOn 7 = .ok (.invokevirtual 129, 3) := by decide +kernel
theorem dX6_guessesOn_10 : decode cX6_guessesOn 10 = .ok (.istore_n 2, 1) := by decide +kernel
theorem dX6_guessesOn_11 : decode cX6_guessesOn 11 = .ok (.aload_n 0, 1) := by decide +kernel
theorem dX6_guessesOn_12 : decode cX6_guessesOn 12 = .ok (.getfield 37, 3) := by decide +kernel
theorem dX6_guessesOn_15 : decode cX6_guessesOn 15 = .ok (.iconst 1, 1) := by decide +kernel
theorem dX6_guessesOn_16 : decode cX6_guessesOn 16 = .ok (.if_icmp .gt 12, 3) := by decide +kernel
theorem dX6_guessesOn_19 : decode cX6_guessesOn 19 = .ok (.aload_n 0, 1) := by decide +kernel
theorem dX6_guessesOn_20 : decode cX6_guessesOn 20 = .ok (.getfield 22, 3) := by decide +kernel
theorem dX6_guessesOn_23 : decode cX6_guessesOn 23 = .ok (.iconst 0, 1) := by decide +kernel
theorem dX6_guessesOn_24 : decode cX6_guessesOn 24 = .ok (.iaload, 1) := by decide +kernel
theorem dX6_guessesOn_25 : decode cX6_guessesOn 25 = .ok (.ifCond .eq 7, 3) := by decide +kernel
theorem dX6_guessesOn_28 : decode cX6_guessesOn 28 = .ok (.iconst 1, 1) := by decide +kernel
theorem dX6_guessesOn_29 : decode cX6_guessesOn 29 = .ok (.goto 4, 3) := by decide +kernel
theorem dX6_guessesOn_32 : decode cX6_guessesOn 32 = .ok (.iconst 0, 1) := by decide +kernel
theorem dX6_guessesOn_33 : decode cX6_guessesOn 33 = .ok (.istore_n 3, 1) := by decide +kernel
theorem dX6_guessesOn_34 : decode cX6_guessesOn 34 = .ok (.aload_n 0, 1) := by decide +kernel
theorem dX6_guessesOn_35 : decode cX6_guessesOn 35 = .ok (.getfield 7, 3) := by decide +kernel
theorem dX6_guessesOn_38 : decode cX6_guessesOn 38 = .ok (.bipush 7, 2) := by decide +kernel
theorem dX6_guessesOn_40 : decode cX6_guessesOn 40 = .ok (.aload_n 0, 1) := by decide +kernel
theorem dX6_guessesOn_41 : decode cX6_guessesOn 41 = .ok (.getfield 25, 3) := by decide +kernel
theorem dX6_guessesOn_44 : decode cX6_guessesOn 44 = .ok (.iload_n 2, 1) := by decide +kernel
theorem dX6_guessesOn_45 : decode cX6_guessesOn 45 = .ok (.iaload, 1) := by decide +kernel
theorem dX6_guessesOn_46 : decode cX6_guessesOn 46 = .ok (.iastore, 1) := by decide +kernel
theorem dX6_guessesOn_47 : decode cX6_guessesOn 47 = .ok (.aload_n 0, 1) := by decide +kernel
theorem dX6_guessesOn_48 : decode cX6_guessesOn 48 = .ok (.getfield 7, 3) := by decide +kernel
theorem dX6_guessesOn_51 : decode cX6_guessesOn 51 = .ok (.bipush 15, 2) := by decide +kernel
theorem dX6_guessesOn_53 : decode cX6_guessesOn 53 = .ok (.aload_n 0, 1) := by decide +kernel
theorem dX6_guessesOn_54 : decode cX6_guessesOn 54 = .ok (.getfield 7, 3) := by decide +kernel
theorem dX6_guessesOn_57 : decode cX6_guessesOn 57 = .ok (.bipush 6, 2) := by decide +kernel
theorem dX6_guessesOn_59 : decode cX6_guessesOn 59 = .ok (.iaload, 1) := by decide +kernel
theorem dX6_guessesOn_60 : decode cX6_guessesOn 60 = .ok (.iadd, 1) := by decide +kernel
theorem dX6_guessesOn_61 : decode cX6_guessesOn 61 = .ok (.iload_n 1, 1) := by decide +kernel
theorem dX6_guessesOn_62 : decode cX6_guessesOn 62 = .ok (.iastore, 1) := by decide +kernel
theorem dX6_guessesOn_63 : decode cX6_guessesOn 63 = .ok (.aload_n 0, 1) := by decide +kernel
theorem dX6_guessesOn_64 : decode cX6_guessesOn 64 = .ok (.getfield 7, 3) := by decide +kernel
theorem dX6_guessesOn_67 : decode cX6_guessesOn 67 = .ok (.bipush 6, 2) := by decide +kernel
theorem dX6_guessesOn_69 : decode cX6_guessesOn 69 = .ok (.dup2, 1) := by decide +kernel
theorem dX6_guessesOn_70 : decode cX6_guessesOn 70 = .ok (.iaload, 1) := by decide +kernel
theorem dX6_guessesOn_71 : decode cX6_guessesOn 71 = .ok (.iconst 1, 1) := by decide +kernel
theorem dX6_guessesOn_72 : decode cX6_guessesOn 72 = .ok (.iadd, 1) := by decide +kernel
theorem dX6_guessesOn_73 : decode cX6_guessesOn 73 = .ok (.iastore, 1) := by decide +kernel
theorem dX6_guessesOn_74 : decode cX6_guessesOn 74 = .ok (.aload_n 0, 1) := by decide +kernel
theorem dX6_guessesOn_75 : decode cX6_guessesOn 75 = .ok (.getfield 7, 3) := by decide +kernel
theorem dX6_guessesOn_78 : decode cX6_guessesOn 78 = .ok (.iconst 5, 1) := by decide +kernel
theorem dX6_guessesOn_79 : decode cX6_guessesOn 79 = .ok (.dup2, 1) := by decide +kernel
theorem dX6_guessesOn_80 : decode cX6_guessesOn 80 = .ok (.iaload, 1) := by decide +kernel
theorem dX6_guessesOn_81 : decode cX6_guessesOn 81 = .ok (.iconst 1, 1) := by decide +kernel
theorem dX6_guessesOn_82 : decode cX6_guessesOn 82 = .ok (.iload_n 1, 1) := by decide +kernel
theorem dX6_guessesOn_83 : decode cX6_guessesOn 83 = .ok (.bipush 97, 2) := by decide +kernel
theorem dX6_guessesOn_85 : decode cX6_guessesOn 85 = .ok (.isub, 1) := by decide +kernel
theorem dX6_guessesOn_86 : decode cX6_guessesOn 86 = .ok (.ishl, 1) := by decide +kernel
theorem dX6_guessesOn_87 : decode cX6_guessesOn 87 = .ok (.ior, 1) := by decide +kernel
theorem dX6_guessesOn_88 : decode cX6_guessesOn 88 = .ok (.iastore, 1) := by decide +kernel
theorem dX6_guessesOn_89 : decode cX6_guessesOn 89 = .ok (.aload_n 0, 1) := by decide +kernel
theorem dX6_guessesOn_90 : decode cX6_guessesOn 90 = .ok (.getfield 7, 3) := by decide +kernel
theorem dX6_guessesOn_93 : decode cX6_guessesOn 93 = .ok (.bipush 11, 2) := by decide +kernel
theorem dX6_guessesOn_95 : decode cX6_guessesOn 95 = .ok (.dup2, 1) := by decide +kernel
theorem dX6_guessesOn_96 : decode cX6_guessesOn 96 = .ok (.iaload, 1) := by decide +kernel
theorem dX6_guessesOn_97 : decode cX6_guessesOn 97 = .ok (.iconst 1, 1) := by decide +kernel
theorem dX6_guessesOn_98 : decode cX6_guessesOn 98 = .ok (.iadd, 1) := by decide +kernel
theorem dX6_guessesOn_99 : decode cX6_guessesOn 99 = .ok (.iastore, 1) := by decide +kernel
theorem dX6_guessesOn_100 : decode cX6_guessesOn 100 = .ok (.aload_n 0, 1) := by decide +kernel
theorem dX6_guessesOn_101 : decode cX6_guessesOn 101 = .ok (.getfield 22, 3) := by decide +kernel
theorem dX6_guessesOn_104 : decode cX6_guessesOn 104 = .ok (.iload_n 2, 1) := by decide +kernel
theorem dX6_guessesOn_105 : decode cX6_guessesOn 105 = .ok (.iaload, 1) := by decide +kernel
theorem dX6_guessesOn_106 : decode cX6_guessesOn 106 = .ok (.istore 4, 2) := by decide +kernel
theorem dX6_guessesOn_108 : decode cX6_guessesOn 108 = .ok (.iload 4, 2) := by decide +kernel
theorem dX6_guessesOn_110 : decode cX6_guessesOn 110 = .ok (.ifCond .ne 10, 3) := by decide +kernel
theorem dX6_guessesOn_113 : decode cX6_guessesOn 113 = .ok (.aload_n 0, 1) := by decide +kernel
theorem dX6_guessesOn_114 : decode cX6_guessesOn 114 = .ok (.iload_n 3, 1) := by decide +kernel
theorem dX6_guessesOn_115 : decode cX6_guessesOn 115 = .ok (.invokevirtual 132, 3) := by decide +kernel
theorem dX6_guessesOn_118 : decode cX6_guessesOn 118 = .ok (.iconst 0, 1) := by decide +kernel
theorem dX6_guessesOn_119 : decode cX6_guessesOn 119 = .ok (.ireturn, 1) := by decide +kernel
theorem dX6_guessesOn_120 : decode cX6_guessesOn 120 = .ok (.iconst 0, 1) := by decide +kernel
theorem dX6_guessesOn_121 : decode cX6_guessesOn 121 = .ok (.istore 5, 2) := by decide +kernel
theorem dX6_guessesOn_123 : decode cX6_guessesOn 123 = .ok (.iload 5, 2) := by decide +kernel
theorem dX6_guessesOn_125 : decode cX6_guessesOn 125 = .ok (.aload_n 0, 1) := by decide +kernel
theorem dX6_guessesOn_126 : decode cX6_guessesOn 126 = .ok (.getfield 7, 3) := by decide +kernel
theorem dX6_guessesOn_129 : decode cX6_guessesOn 129 = .ok (.iconst 3, 1) := by decide +kernel
theorem dX6_guessesOn_130 : decode cX6_guessesOn 130 = .ok (.iaload, 1) := by decide +kernel
theorem dX6_guessesOn_131 : decode cX6_guessesOn 131 = .ok (.if_icmp .ge 44, 3) := by decide +kernel
theorem dX6_guessesOn_134 : decode cX6_guessesOn 134 = .ok (.aload_n 0, 1) := by decide +kernel
theorem dX6_guessesOn_135 : decode cX6_guessesOn 135 = .ok (.getfield 7, 3) := by decide +kernel
theorem dX6_guessesOn_138 : decode cX6_guessesOn 138 = .ok (.bipush 41, 2) := by decide +kernel
theorem dX6_guessesOn_140 : decode cX6_guessesOn 140 = .ok (.iload 5, 2) := by decide +kernel
theorem dX6_guessesOn_142 : decode cX6_guessesOn 142 = .ok (.iadd, 1) := by decide +kernel
theorem dX6_guessesOn_143 : decode cX6_guessesOn 143 = .ok (.iload 4, 2) := by decide +kernel
theorem dX6_guessesOn_145 : decode cX6_guessesOn 145 = .ok (.iload 5, 2) := by decide +kernel
theorem dX6_guessesOn_147 : decode cX6_guessesOn 147 = .ok (.ishr, 1) := by decide +kernel
theorem dX6_guessesOn_148 : decode cX6_guessesOn 148 = .ok (.iconst 1, 1) := by decide +kernel
theorem dX6_guessesOn_149 : decode cX6_guessesOn 149 = .ok (.iand, 1) := by decide +kernel
theorem dX6_guessesOn_150 : decode cX6_guessesOn 150 = .ok (.iconst 1, 1) := by decide +kernel
theorem dX6_guessesOn_151 : decode cX6_guessesOn 151 = .ok (.if_icmp .ne 7, 3) := by decide +kernel
theorem dX6_guessesOn_154 : decode cX6_guessesOn 154 = .ok (.iload_n 1, 1) := by decide +kernel
theorem dX6_guessesOn_155 : decode cX6_guessesOn 155 = .ok (.goto 13, 3) := by decide +kernel
theorem dX6_guessesOn_158 : decode cX6_guessesOn 158 = .ok (.aload_n 0, 1) := by decide +kernel
theorem dX6_guessesOn_159 : decode cX6_guessesOn 159 = .ok (.getfield 7, 3) := by decide +kernel
theorem dX6_guessesOn_162 : decode cX6_guessesOn 162 = .ok (.bipush 41, 2) := by decide +kernel
theorem dX6_guessesOn_164 : decode cX6_guessesOn 164 = .ok (.iload 5, 2) := by decide +kernel
theorem dX6_guessesOn_166 : decode cX6_guessesOn 166 = .ok (.iadd, 1) := by decide +kernel
theorem dX6_guessesOn_167 : decode cX6_guessesOn 167 = .ok (.iaload, 1) := by decide +kernel
theorem dX6_guessesOn_168 : decode cX6_guessesOn 168 = .ok (.iastore, 1) := by decide +kernel
theorem dX6_guessesOn_169 : decode cX6_guessesOn 169 = .ok (.iinc 5 1, 3) := by decide +kernel
theorem dX6_guessesOn_172 : decode cX6_guessesOn 172 = .ok (.goto (-49), 3) := by decide +kernel
theorem dX6_guessesOn_175 : decode cX6_guessesOn 175 = .ok (.aload_n 0, 1) := by decide +kernel
theorem dX6_guessesOn_176 : decode cX6_guessesOn 176 = .ok (.invokevirtual 136, 3) := by decide +kernel
theorem dX6_guessesOn_179 : decode cX6_guessesOn 179 = .ok (.ifCond .ne 8, 3) := by decide +kernel
theorem dX6_guessesOn_182 : decode cX6_guessesOn 182 = .ok (.aload_n 0, 1) := by decide +kernel
theorem dX6_guessesOn_183 : decode cX6_guessesOn 183 = .ok (.iconst 2, 1) := by decide +kernel
theorem dX6_guessesOn_184 : decode cX6_guessesOn 184 = .ok (.invokevirtual 122, 3) := by decide +kernel
theorem dX6_guessesOn_187 : decode cX6_guessesOn 187 = .ok (.aload_n 0, 1) := by decide +kernel
theorem dX6_guessesOn_188 : decode cX6_guessesOn 188 = .ok (.getfield 31, 3) := by decide +kernel
theorem dX6_guessesOn_191 : decode cX6_guessesOn 191 = .ok (.iload_n 2, 1) := by decide +kernel
theorem dX6_guessesOn_192 : decode cX6_guessesOn 192 = .ok (.iaload, 1) := by decide +kernel
theorem dX6_guessesOn_193 : decode cX6_guessesOn 193 = .ok (.ireturn, 1) := by decide +kernel
set_option maxRecDepth 20000 in
theorem ggX6_guess_X6_isLetter : GoodIn wsX6_guess wsX6_isLetter := goodIn_r _ [4, 5, 6, 3, 7] (by decide +kernel) (by decide +kernel)
set_option maxRecDepth 20000 in
theorem gX6_guess_X6_isLetter : GoodIn wsX6_guess (va_wsS RX6 51 yX6_isLetter wsX6_isLetter) := goodIn_app (goodIn_of _ (by decide +kernel)) ggX6_guess_X6_isLetter
set_option maxRecDepth 20000 in
theorem ggX6_guess_X6_runs : GoodIn wsX6_guess wsX6_runs := goodIn_r _ [11, 12, 80, 81, 82, 83, 84, 85, 86, 87, 88, 89, 90, 91] (by decide +kernel) (by decide +kernel)
set_option maxRecDepth 20000 in
theorem gX6_guess_X6_runs : GoodIn wsX6_guess (wsV RX6 70 RX6 yX6_runs wsX6_runs) := goodIn_app (goodIn_of _ (by decide +kernel)) ggX6_guess_X6_runs
set_option maxRecDepth 20000 in
theorem ggX6_guess_X6_isGuessed : GoodIn wsX6_guess wsX6_isGuessed := goodIn_r _ [16, 12, 80, 81, 82, 83, 84, 85, 86, 87, 88, 89, 90, 91] (by decide +kernel) (by decide +kernel)
set_option maxRecDepth 20000 in
theorem gX6_guess_X6_isGuessed : GoodIn wsX6_guess (wsV RX6 139 RX6 yX6_isGuessed wsX6_isGuessed) := goodIn_app (goodIn_of _ (by decide +kernel)) ggX6_guess_X6_isGuessed
set_option maxRecDepth 20000 in
theorem ggX6_guess_X6_saves : GoodIn wsX6_guess wsX6_saves := goodIn_r _ [20, 21, 22, 12, 80, 81, 82, 83, 84, 85, 86, 87, 88, 89, 90, 91] (by decide +kernel) (by decide +kernel)
set_option maxRecDepth 20000 in
theorem gX6_guess_X6_saves : GoodIn wsX6_guess (wsV RX6 98 RX6 yX6_saves wsX6_saves) := goodIn_app (goodIn_of _ (by decide +kernel)) ggX6_guess_X6_saves
set_option maxRecDepth 20000 in
theorem ggX6_guess_X6_guessesOn : GoodIn wsX6_guess wsX6_guessesOn := goodIn_r _ [26, 27, 28, 12, 29, 30, 31, 32, 33, 3, 34, 35, 36, 37, 38, 39, 40, 41, 42, 43, 44, 45, 46, 47, 48, 49, 50, 51, 52, 53, 54, 55, 56, 57, 58, 59, 60, 61, 62, 63, 64, 65, 66, 67, 68, 69, 70, 71, 72, 73, 74, 75, 76, 77, 78, 79, 80, 81, 82, 83, 84, 85, 86, 87, 88, 89, 90, 91] (by decide +kernel) (by decide +kernel)
set_option maxRecDepth 20000 in
theorem gX6_guess_X6_guessesOn : GoodIn wsX6_guess (wsV RX6 142 RX6 yX6_guessesOn wsX6_guessesOn) := goodIn_app (goodIn_of _ (by decide +kernel)) ggX6_guess_X6_guessesOn
theorem dX6_guess_0 : decode cX6_guess 0 = .ok (.iload_n 1, 1) := by decide +kernel
theorem dX6_guess_1 : decode cX6_guess 1 = .ok (.invokestatic 51, 3) := by decide +kernel
theorem dX6_guess_4 : decode cX6_guess 4 = .ok (.ifCond .ne 6, 3) := by decide +kernel
theorem dX6_guess_7 : decode cX6_guess 7 = .ok (.bipush (-2), 2) := by decide +kernel
theorem dX6_guess_9 : decode cX6_guess 9 = .ok (.ireturn, 1) := by decide +kernel
theorem dX6_guess_10 : decode cX6_guess 10 = .ok (.aload_n 0, 1) := by decide +kernel
theorem dX6_guess_11 : decode cX6_guess 11 = .ok (.invokevirtual 70, 3) := by decide +kernel
theorem dX6_guess_14 : decode cX6_guess 14 = .ok (.ifCond .ne 6, 3) := by decide +kernel
theorem dX6_guess_17 : decode cX6_guess 17 = .ok (.bipush (-3), 2) := by decide +kernel
theorem dX6_guess_19 : decode cX6_guess 19 = .ok (.ireturn, 1) := by decide +kernel
theorem dX6_guess_20 : decode cX6_guess 20 = .ok (.aload_n 0, 1) := by decide +kernel
theorem dX6_guess_21 : decode cX6_guess 21 = .ok (.iload_n 1, 1) := by decide +kernel
theorem dX6_guess_22 : decode cX6_guess 22 = .ok (.invokevirtual 139, 3) := by decide +kernel
theorem dX6_guess_25 : decode cX6_guess 25 = .ok (.ifCond .eq 6, 3) := by decide +kernel
theorem dX6_guess_28 : decode cX6_guess 28 = .ok (.bipush (-6), 2) := by decide +kernel
theorem dX6_guess_30 : decode cX6_guess 30 = .ok (.ireturn, 1) := by decide +kernel
theorem dX6_guess_31 : decode cX6_guess 31 = .ok (.aload_n 0, 1) := by decide +kernel
theorem dX6_guess_32 : decode cX6_guess 32 = .ok (.invokevirtual 98, 3) := by decide +kernel
theorem dX6_guess_35 : decode cX6_guess 35 = .ok (.aload_n 0, 1) := by decide +kernel
theorem dX6_guess_36 : decode cX6_guess 36 = .ok (.iload_n 1, 1) := by decide +kernel
theorem dX6_guess_37 : decode cX6_guess 37 = .ok (.invokevirtual 142, 3) := by decide +kernel
theorem dX6_guess_40 : decode cX6_guess 40 = .ok (.ireturn, 1) := by decide +kernel
set_option maxRecDepth 20000 in
theorem ggX6_guessWord_X6_error : GoodIn wsX6_guessWord wsX6_error := goodIn_r _ [8, 1, 3, 9, 10, 7, 11, 12, 13, 14, 60, 61, 62, 63, 64, 65, 66, 67, 68, 69, 70, 71] (by decide +kernel) (by decide +kernel)
set_option maxRecDepth 20000 in
theorem gX6_guessWord_X6_error : GoodIn wsX6_guessWord (wsV RX6 55 RX6 yX6_error wsX6_error) := goodIn_app (goodIn_of _ (by decide +kernel)) ggX6_guessWord_X6_error
set_option maxRecDepth 20000 in
theorem ggX6_guessWord_X6_endOf : GoodIn wsX6_guessWord wsX6_endOf := goodIn_r _ [18, 1, 3, 60, 61, 62, 63, 64, 65, 66, 67, 68, 69, 70, 71] (by decide +kernel) (by decide +kernel)
set_option maxRecDepth 20000 in
theorem gX6_guessWord_X6_endOf : GoodIn wsX6_guessWord (wsV RX6 77 RX6 yX6_endOf wsX6_endOf) := goodIn_app (goodIn_of _ (by decide +kernel)) ggX6_guessWord_X6_endOf
set_option maxRecDepth 20000 in
theorem ggX6_guessWord_X6_runs : GoodIn wsX6_guessWord wsX6_runs := goodIn_r _ [22, 2, 60, 61, 62, 63, 64, 65, 66, 67, 68, 69, 70, 71] (by decide +kernel) (by decide +kernel)
set_option maxRecDepth 20000 in
theorem gX6_guessWord_X6_runs : GoodIn wsX6_guessWord (wsV RX6 70 RX6 yX6_runs wsX6_runs) := goodIn_app (goodIn_of _ (by decide +kernel)) ggX6_guessWord_X6_runs
set_option maxRecDepth 20000 in
theorem ggX6_guessWord_X6_saves : GoodIn wsX6_guessWord wsX6_saves := goodIn_r _ [26, 27, 28, 2, 60, 61, 62, 63, 64, 65, 66, 67, 68, 69, 70, 71] (by decide +kernel) (by decide +kernel)
set_option maxRecDepth 20000 in
theorem gX6_guessWord_X6_saves : GoodIn wsX6_guessWord (wsV RX6 98 RX6 yX6_saves wsX6_saves) := goodIn_app (goodIn_of _ (by decide +kernel)) ggX6_guessWord_X6_saves
set_option maxRecDepth 20000 in
theorem ggX6_guessWord_X6_placeFor : GoodIn wsX6_guessWord wsX6_placeFor := goodIn_r _ [32, 2, 33, 34, 35, 7, 36, 3, 37, 38, 39, 40, 60, 61, 62, 63, 64, 65, 66, 67, 68, 69, 70, 71] (by decide +kernel) (by decide +kernel)
set_option maxRecDepth 20000 in
theorem gX6_guessWord_X6_placeFor : GoodIn wsX6_guessWord (wsV RX6 67 RX6 yX6_placeFor wsX6_placeFor) := goodIn_app (goodIn_of _ (by decide +kernel)) ggX6_guessWord_X6_placeFor
set_option maxRecDepth 20000 in
theorem ggX6_guessWord_X6_isIn : GoodIn wsX6_guessWord wsX6_isIn := goodIn_r _ [44, 2, 29, 30, 31, 7, 32, 33, 34, 35, 36, 3, 37, 38, 39, 40, 60, 61, 62, 63, 64, 65, 66, 67, 68, 69, 70, 71] (by decide +kernel) (by decide +kernel)
set_option maxRecDepth 20000 in
theorem gX6_guessWord_X6_isIn : GoodIn wsX6_guessWord (wsV RX6 81 RX6 yX6_isIn wsX6_isIn) := goodIn_app (goodIn_of _ (by decide +kernel)) ggX6_guessWord_X6_isIn
set_option maxRecDepth 20000 in
theorem ggX6_guessWord_X6_isCandidate : GoodIn wsX6_guessWord wsX6_isCandidate := goodIn_r _ [48, 2, 60, 61, 62, 63, 64, 65, 66, 67, 68, 69, 70, 71] (by decide +kernel) (by decide +kernel)
set_option maxRecDepth 20000 in
theorem gX6_guessWord_X6_isCandidate : GoodIn wsX6_guessWord (wsV RX6 101 RX6 yX6_isCandidate wsX6_isCandidate) := goodIn_app (goodIn_of _ (by decide +kernel)) ggX6_guessWord_X6_isCandidate
set_option maxRecDepth 20000 in
theorem ggX6_guessWord_X6_bits : GoodIn wsX6_guessWord wsX6_bits := goodIn_r _ [51] (by decide +kernel) (by decide +kernel)
set_option maxRecDepth 20000 in
theorem gX6_guessWord_X6_bits : GoodIn wsX6_guessWord (va_wsS RX6 113 yX6_bits wsX6_bits) := goodIn_app (goodIn_of _ (by decide +kernel)) ggX6_guessWord_X6_bits
set_option maxRecDepth 20000 in
theorem ggX6_guessWord_X6_ends : GoodIn wsX6_guessWord wsX6_ends := goodIn_r _ [55, 2, 60, 61, 62, 63, 64, 65, 66, 67, 68, 69, 70, 71] (by decide +kernel) (by decide +kernel)
set_option maxRecDepth 20000 in
theorem gX6_guessWord_X6_ends : GoodIn wsX6_guessWord (wsV RX6 122 RX6 yX6_ends wsX6_ends) := goodIn_app (goodIn_of _ (by decide +kernel)) ggX6_guessWord_X6_ends
set_option maxRecDepth 20000 in
theorem ggX6_guessWord_X6_misses : GoodIn wsX6_guessWord wsX6_misses := goodIn_r _ [59, 2, 52, 53, 54, 7, 55, 60, 61, 62, 63, 64, 65, 66, 67, 68, 69, 70, 71] (by decide +kernel) (by decide +kernel)
set_option maxRecDepth 20000 in
theorem gX6_guessWord_X6_misses : GoodIn wsX6_guessWord (wsV RX6 132 RX6 yX6_misses wsX6_misses) := goodIn_app (goodIn_of _ (by decide +kernel)) ggX6_guessWord_X6_misses
theorem dX6_guessWord_0 : decode cX6_guessWord 0 = .ok (.aload_n 0, 1) := by decide +kernel
theorem dX6_guessWord_1 : decode cX6_guessWord 1 = .ok (.invokevirtual 55, 3) := by decide +kernel
theorem dX6_guessWord_4 : decode cX6_guessWord 4 = .ok (.bipush (-6), 2) := by decide +kernel
theorem dX6_guessWord_6 : decode cX6_guessWord 6 = .ok (.if_icmp .ne 15, 3) := by decide +kernel
theorem dX6_guessWord_9 : decode cX6_guessWord 9 = .ok (.aload_n 0, 1) := by decide +kernel
theorem dX6_guessWord_10 : decode cX6_guessWord 10 = .ok (.iconst 0, 1) := by decide +kernel
theorem dX6_guessWord_11 : decode cX6_guessWord 11 = .ok (.invokevirtual 77, 3) := by decide +kernel
theorem dX6_guessWord_14 : decode cX6_guessWord 14 = .ok (.aload_n 0, 1) := by decide +kernel
theorem dX6_guessWord_15 : decode cX6_guessWord 15 = .ok (.getfield 48, 3) := by decide +kernel
theorem dX6_guessWord_18 : decode cX6_guessWord 18 = .ok (.if_icmp .eq 6, 3) := by decide +kernel
theorem dX6_guessWord_21 : decode cX6_guessWord 21 = .ok (.bipush (-5), 2) := by decide +kernel
theorem dX6_guessWord_23 : decode cX6_guessWord 23 = .ok (.ireturn, 1) := by decide +kernel
theorem dX6_guessWord_24 : decode cX6_guessWord 24 = .ok (.aload_n 0, 1) := by decide +kernel
theorem dX6_guessWord_25 : decode cX6_guessWord 25 = .ok (.invokevirtual 70, 3) := by decide +kernel
theorem dX6_guessWord_28 : decode cX6_guessWord 28 = .ok (.ifCond .eq 16, 3) := by decide +kernel
theorem dX6_guessWord_31 : decode cX6_guessWord 31 = .ok (.aload_n 0, 1) := by decide +kernel
theorem dX6_guessWord_32 : decode cX6_guessWord 32 = .ok (.getfield 48, 3) := by decide +kernel
theorem dX6_guessWord_35 : decode cX6_guessWord 35 = .ok (.aload_n 0, 1) := by decide +kernel
theorem dX6_guessWord_36 : decode cX6_guessWord 36 = .ok (.getfield 7, 3) := by decide +kernel
theorem dX6_guessWord_39 : decode cX6_guessWord 39 = .ok (.iconst 3, 1) := by decide +kernel
theorem dX6_guessWord_40 : decode cX6_guessWord 40 = .ok (.iaload, 1) := by decide +kernel
theorem dX6_guessWord_41 : decode cX6_guessWord 41 = .ok (.if_icmp .eq 6, 3) := by decide +kernel
theorem dX6_guessWord_44 : decode cX6_guessWord 44 = .ok (.bipush (-3), 2) := by decide +kernel
theorem dX6_guessWord_46 : decode cX6_guessWord 46 = .ok (.ireturn, 1) := by decide +kernel
theorem dX6_guessWord_47 : decode cX6_guessWord 47 = .ok (.aload_n 0, 1) := by decide +kernel
theorem dX6_guessWord_48 : decode cX6_guessWord 48 = .ok (.invokevirtual 98, 3) := by decide +kernel
theorem dX6_guessWord_51 : decode cX6_guessWord 51 = .ok (.aload_n 0, 1) := by decide +kernel
theorem dX6_guessWord_52 : decode cX6_guessWord 52 = .ok (.iconst 0, 1) := by decide +kernel
theorem dX6_guessWord_53 : decode cX6_guessWord 53 = .ok (.aload_n 0, 1) := by decide +kernel
theorem dX6_guessWord_54 : decode cX6_guessWord 54 = .ok (.getfield 48, 3) := by decide +kernel
theorem dX6_guessWord_57 : decode cX6_guessWord 57 = .ok (.invokevirtual 67, 3) := by decide +kernel
theorem dX6_guessWord_60 : decode cX6_guessWord 60 = .ok (.istore_n 1, 1) := by decide +kernel
theorem dX6_guessWord_61 : decode cX6_guessWord 61 = .ok (.aload_n 0, 1) := by decide +kernel
theorem dX6_guessWord_62 : decode cX6_guessWord 62 = .ok (.iconst 0, 1) := by decide +kernel
theorem dX6_guessWord_63 : decode cX6_guessWord 63 = .ok (.aload_n 0, 1) := by decide +kernel
theorem dX6_guessWord_64 : decode cX6_guessWord 64 = .ok (.getfield 48, 3) := by decide +kernel
theorem dX6_guessWord_67 : decode cX6_guessWord 67 = .ok (.invokevirtual 81, 3) := by decide +kernel
theorem dX6_guessWord_70 : decode cX6_guessWord 70 = .ok (.ifCond .eq 15, 3) := by decide +kernel
theorem dX6_guessWord_73 : decode cX6_guessWord 73 = .ok (.aload_n 0, 1) := by decide +kernel
theorem dX6_guessWord_74 : decode cX6_guessWord 74 = .ok (.iload_n 1, 1) := by decide +kernel
theorem dX6_guessWord_75 : decode cX6_guessWord 75 = .ok (.invokevirtual 101, 3) := by decide +kernel
theorem dX6_guessWord_78 : decode cX6_guessWord 78 = .ok (.ifCond .eq 7, 3) := by decide +kernel
theorem dX6_guessWord_81 : decode cX6_guessWord 81 = .ok (.iconst 1, 1) := by decide +kernel
theorem dX6_guessWord_82 : decode cX6_guessWord 82 = .ok (.goto 4, 3) := by decide +kernel
theorem dX6_guessWord_85 : decode cX6_guessWord 85 = .ok (.iconst 0, 1) := by decide +kernel
theorem dX6_guessWord_86 : decode cX6_guessWord 86 = .ok (.istore_n 2, 1) := by decide +kernel
theorem dX6_guessWord_87 : decode cX6_guessWord 87 = .ok (.aload_n 0, 1) := by decide +kernel
theorem dX6_guessWord_88 : decode cX6_guessWord 88 = .ok (.getfield 7, 3) := by decide +kernel
theorem dX6_guessWord_91 : decode cX6_guessWord 91 = .ok (.bipush 12, 2) := by decide +kernel
theorem dX6_guessWord_93 : decode cX6_guessWord 93 = .ok (.dup2, 1) := by decide +kernel
theorem dX6_guessWord_94 : decode cX6_guessWord 94 = .ok (.iaload, 1) := by decide +kernel
theorem dX6_guessWord_95 : decode cX6_guessWord 95 = .ok (.iconst 1, 1) := by decide +kernel
theorem dX6_guessWord_96 : decode cX6_guessWord 96 = .ok (.iadd, 1) := by decide +kernel
theorem dX6_guessWord_97 : decode cX6_guessWord 97 = .ok (.iastore, 1) := by decide +kernel
theorem dX6_guessWord_98 : decode cX6_guessWord 98 = .ok (.iload_n 2, 1) := by decide +kernel
theorem dX6_guessWord_99 : decode cX6_guessWord 99 = .ok (.ifCond .eq 56, 3) := by decide +kernel
theorem dX6_guessWord_102 : decode cX6_guessWord 102 = .ok (.aload_n 0, 1) := by decide +kernel
theorem dX6_guessWord_103 : decode cX6_guessWord 103 = .ok (.getfield 7, 3) := by decide +kernel
theorem dX6_guessWord_106 : decode cX6_guessWord 106 = .ok (.bipush 7, 2) := by decide +kernel
theorem dX6_guessWord_108 : decode cX6_guessWord 108 = .ok (.iaload, 1) := by decide +kernel
theorem dX6_guessWord_109 : decode cX6_guessWord 109 = .ok (.invokestatic 113, 3) := by decide +kernel
theorem dX6_guessWord_112 : decode cX6_guessWord 112 = .ok (.iconst 1, 1) := by decide +kernel
theorem dX6_guessWord_113 : decode cX6_guessWord 113 = .ok (.if_icmp .ne 42, 3) := by decide +kernel
theorem dX6_guessWord_116 : decode cX6_guessWord 116 = .ok (.iconst 0, 1) := by decide +kernel
theorem dX6_guessWord_117 : decode cX6_guessWord 117 = .ok (.istore_n 3, 1) := by decide +kernel
theorem dX6_guessWord_118 : decode cX6_guessWord 118 = .ok (.iload_n 3, 1) := by decide +kernel
theorem dX6_guessWord_119 : decode cX6_guessWord 119 = .ok (.aload_n 0, 1) := by decide +kernel
theorem dX6_guessWord_120 : decode cX6_guessWord 120 = .ok (.getfield 48, 3) := by decide +kernel
theorem dX6_guessWord_123 : decode cX6_guessWord 123 = .ok (.if_icmp .ge 24, 3) := by decide +kernel
theorem dX6_guessWord_126 : decode cX6_guessWord 126 = .ok (.aload_n 0, 1) := by decide +kernel
theorem dX6_guessWord_127 : decode cX6_guessWord 127 = .ok (.getfield 7, 3) := by decide +kernel
theorem dX6_guessWord_130 : decode cX6_guessWord 130 = .ok (.bipush 41, 2) := by decide +kernel
theorem dX6_guessWord_132 : decode cX6_guessWord 132 = .ok (.iload_n 3, 1) := by decide +kernel
theorem dX6_guessWord_133 : decode cX6_guessWord 133 = .ok (.iadd, 1) := by decide +kernel
theorem dX6_guessWord_134 : decode cX6_guessWord 134 = .ok (.aload_n 0, 1) := by decide +kernel
theorem dX6_guessWord_135 : decode cX6_guessWord 135 = .ok (.getfield 19, 3) := by decide +kernel
theorem dX6_guessWord_138 : decode cX6_guessWord 138 = .ok (.iload_n 3, 1) := by decide +kernel
theorem dX6_guessWord_139 : decode cX6_guessWord 139 = .ok (.iaload, 1) := by decide +kernel
theorem dX6_guessWord_140 : decode cX6_guessWord 140 = .ok (.iastore, 1) := by decide +kernel
theorem dX6_guessWord_141 : decode cX6_guessWord 141 = .ok (.iinc 3 1, 3) := by decide +kernel
theorem dX6_guessWord_144 : decode cX6_guessWord 144 = .ok (.goto (-26), 3) := by decide +kernel
theorem dX6_guessWord_147 : decode cX6_guessWord 147 = .ok (.aload_n 0, 1) := by decide +kernel
theorem dX6_guessWord_148 : decode cX6_guessWord 148 = .ok (.iconst 2, 1) := by decide +kernel
theorem dX6_guessWord_149 : decode cX6_guessWord 149 = .ok (.invokevirtual 122, 3) := by decide +kernel
theorem dX6_guessWord_152 : decode cX6_guessWord 152 = .ok (.goto 31, 3) := by decide +kernel
theorem dX6_guessWord_155 : decode cX6_guessWord 155 = .ok (.aload_n 0, 1) := by decide +kernel
theorem dX6_guessWord_156 : decode cX6_guessWord 156 = .ok (.getfield 7, 3) := by decide +kernel
theorem dX6_guessWord_159 : decode cX6_guessWord 159 = .ok (.bipush 7, 2) := by decide +kernel
theorem dX6_guessWord_161 : decode cX6_guessWord 161 = .ok (.dup2, 1) := by decide +kernel
theorem dX6_guessWord_162 : decode cX6_guessWord 162 = .ok (.iaload, 1) := by decide +kernel
theorem dX6_guessWord_163 : decode cX6_guessWord 163 = .ok (.iload_n 2, 1) := by decide +kernel
theorem dX6_guessWord_164 : decode cX6_guessWord 164 = .ok (.ifCond .eq 11, 3) := by decide +kernel
theorem dX6_guessWord_167 : decode cX6_guessWord 167 = .ok (.iconst 1, 1) := by decide +kernel
theorem dX6_guessWord_168 : decode cX6_guessWord 168 = .ok (.iload_n 1, 1) := by decide +kernel
theorem dX6_guessWord_169 : decode cX6_guessWord 169 = .ok (.ishl, 1) := by decide +kernel
theorem dX6_guessWord_170 : decode cX6_guessWord 170 = .ok (.iconst (-1), 1) := by decide +kernel
theorem dX6_guessWord_171 : decode cX6_guessWord 171 = .ok (.ixor, 1) := by decide +kernel
theorem dX6_guessWord_172 : decode cX6_guessWord 172 = .ok (.goto 4, 3) := by decide +kernel
theorem dX6_guessWord_175 : decode cX6_guessWord 175 = .ok (.iconst (-1), 1) := by decide +kernel
theorem dX6_guessWord_176 : decode cX6_guessWord 176 = .ok (.iand, 1) := by decide +kernel
theorem dX6_guessWord_177 : decode cX6_guessWord 177 = .ok (.iastore, 1) := by decide +kernel
theorem dX6_guessWord_178 : decode cX6_guessWord 178 = .ok (.aload_n 0, 1) := by decide +kernel
theorem dX6_guessWord_179 : decode cX6_guessWord 179 = .ok (.iload_n 2, 1) := by decide +kernel
theorem dX6_guessWord_180 : decode cX6_guessWord 180 = .ok (.invokevirtual 132, 3) := by decide +kernel
theorem dX6_guessWord_183 : decode cX6_guessWord 183 = .ok (.aload_n 0, 1) := by decide +kernel
theorem dX6_guessWord_184 : decode cX6_guessWord 184 = .ok (.iconst 0, 1) := by decide +kernel
theorem dX6_guessWord_185 : decode cX6_guessWord 185 = .ok (.putfield 48, 3) := by decide +kernel
theorem dX6_guessWord_188 : decode cX6_guessWord 188 = .ok (.aload_n 0, 1) := by decide +kernel
theorem dX6_guessWord_189 : decode cX6_guessWord 189 = .ok (.getfield 7, 3) := by decide +kernel
theorem dX6_guessWord_192 : decode cX6_guessWord 192 = .ok (.iconst 2, 1) := by decide +kernel
theorem dX6_guessWord_193 : decode cX6_guessWord 193 = .ok (.iaload, 1) := by decide +kernel
theorem dX6_guessWord_194 : decode cX6_guessWord 194 = .ok (.iconst 2, 1) := by decide +kernel
theorem dX6_guessWord_195 : decode cX6_guessWord 195 = .ok (.if_icmp .ne 7, 3) := by decide +kernel
theorem dX6_guessWord_198 : decode cX6_guessWord 198 = .ok (.iconst 1, 1) := by decide +kernel
theorem dX6_guessWord_199 : decode cX6_guessWord 199 = .ok (.goto 4, 3) := by decide +kernel
theorem dX6_guessWord_202 : decode cX6_guessWord 202 = .ok (.iconst 0, 1) := by decide +kernel
theorem dX6_guessWord_203 : decode cX6_guessWord 203 = .ok (.ireturn, 1) := by decide +kernel
set_option maxRecDepth 20000 in
theorem ggX6_giveUp_X6_runs : GoodIn wsX6_giveUp wsX6_runs := goodIn_r _ [6, 1, 20, 21, 22, 23, 24, 25, 26, 27, 28, 29, 30, 31] (by decide +kernel) (by decide +kernel)
set_option maxRecDepth 20000 in
theorem gX6_giveUp_X6_runs : GoodIn wsX6_giveUp (wsV RX6 70 RX6 yX6_runs wsX6_runs) := goodIn_app (goodIn_of _ (by decide +kernel)) ggX6_giveUp_X6_runs
set_option maxRecDepth 20000 in
theorem ggX6_giveUp_X6_saves : GoodIn wsX6_giveUp wsX6_saves := goodIn_r _ [10, 11, 12, 1, 20, 21, 22, 23, 24, 25, 26, 27, 28, 29, 30, 31] (by decide +kernel) (by decide +kernel)
set_option maxRecDepth 20000 in
theorem gX6_giveUp_X6_saves : GoodIn wsX6_giveUp (wsV RX6 98 RX6 yX6_saves wsX6_saves) := goodIn_app (goodIn_of _ (by decide +kernel)) ggX6_giveUp_X6_saves
set_option maxRecDepth 20000 in
theorem ggX6_giveUp_X6_ends : GoodIn wsX6_giveUp wsX6_ends := goodIn_r _ [16, 1, 20, 21, 22, 23, 24, 25, 26, 27, 28, 29, 30, 31] (by decide +kernel) (by decide +kernel)
set_option maxRecDepth 20000 in
theorem gX6_giveUp_X6_ends : GoodIn wsX6_giveUp (wsV RX6 122 RX6 yX6_ends wsX6_ends) := goodIn_app (goodIn_of _ (by decide +kernel)) ggX6_giveUp_X6_ends
set_option maxRecDepth 20000 in
theorem ggX6_giveUp_X6_lowest : GoodIn wsX6_giveUp wsX6_lowest := goodIn_r _ [19] (by decide +kernel) (by decide +kernel)
set_option maxRecDepth 20000 in
theorem gX6_giveUp_X6_lowest : GoodIn wsX6_giveUp (va_wsS RX6 145 yX6_lowest wsX6_lowest) := goodIn_app (goodIn_of _ (by decide +kernel)) ggX6_giveUp_X6_lowest
theorem dX6_giveUp_0 : decode cX6_giveUp 0 = .ok (.aload_n 0, 1) := by decide +kernel
theorem dX6_giveUp_1 : decode cX6_giveUp 1 = .ok (.invokevirtual 70, 3) := by decide +kernel
theorem dX6_giveUp_4 : decode cX6_giveUp 4 = .ok (.ifCond .ne 6, 3) := by decide +kernel
theorem dX6_giveUp_7 : decode cX6_giveUp 7 = .ok (.bipush (-3), 2) := by decide +kernel
theorem dX6_giveUp_9 : decode cX6_giveUp 9 = .ok (.ireturn, 1) := by decide +kernel
theorem dX6_giveUp_10 : decode cX6_giveUp 10 = .ok (.aload_n 0, 1) := by decide +kernel
theorem dX6_giveUp_11 : decode cX6_giveUp 11 = .ok (.invokevirtual 98, 3) := by decide +kernel
theorem dX6_giveUp_14 : decode cX6_giveUp 14 = .ok (.aload_n 0, 1) := by decide +kernel
theorem dX6_giveUp_15 : decode cX6_giveUp 15 = .ok (.iconst 3, 1) := by decide +kernel
theorem dX6_giveUp_16 : decode cX6_giveUp 16 = .ok (.invokevirtual 122, 3) := by decide +kernel
theorem dX6_giveUp_19 : decode cX6_giveUp 19 = .ok (.aload_n 0, 1) := by decide +kernel
theorem dX6_giveUp_20 : decode cX6_giveUp 20 = .ok (.getfield 7, 3) := by decide +kernel
theorem dX6_giveUp_23 : decode cX6_giveUp 23 = .ok (.bipush 7, 2) := by decide +kernel
theorem dX6_giveUp_25 : decode cX6_giveUp 25 = .ok (.iaload, 1) := by decide +kernel
theorem dX6_giveUp_26 : decode cX6_giveUp 26 = .ok (.invokestatic 145, 3) := by decide +kernel
theorem dX6_giveUp_29 : decode cX6_giveUp 29 = .ok (.ireturn, 1) := by decide +kernel
theorem dX6_status_0 : decode cX6_status 0 = .ok (.aload_n 0, 1) := by decide +kernel
theorem dX6_status_1 : decode cX6_status 1 = .ok (.getfield 7, 3) := by decide +kernel
theorem dX6_status_4 : decode cX6_status 4 = .ok (.iconst 2, 1) := by decide +kernel
theorem dX6_status_5 : decode cX6_status 5 = .ok (.iaload, 1) := by decide +kernel
theorem dX6_status_6 : decode cX6_status 6 = .ok (.ireturn, 1) := by decide +kernel
theorem dX6_lives_0 : decode cX6_lives 0 = .ok (.aload_n 0, 1) := by decide +kernel
theorem dX6_lives_1 : decode cX6_lives 1 = .ok (.getfield 7, 3) := by decide +kernel
theorem dX6_lives_4 : decode cX6_lives 4 = .ok (.iconst 4, 1) := by decide +kernel
theorem dX6_lives_5 : decode cX6_lives 5 = .ok (.iaload, 1) := by decide +kernel
theorem dX6_lives_6 : decode cX6_lives 6 = .ok (.ireturn, 1) := by decide +kernel
set_option maxRecDepth 20000 in
theorem ggX6_shown_X6_in : GoodIn wsX6_shown wsX6_in := goodIn_r _ [5] (by decide +kernel) (by decide +kernel)
set_option maxRecDepth 20000 in
theorem gX6_shown_X6_in : GoodIn wsX6_shown (va_wsS RX6 41 yX6_in wsX6_in) := goodIn_app (goodIn_of _ (by decide +kernel)) ggX6_shown_X6_in
theorem dX6_shown_0 : decode cX6_shown 0 = .ok (.iload_n 1, 1) := by decide +kernel
theorem dX6_shown_1 : decode cX6_shown 1 = .ok (.iconst 0, 1) := by decide +kernel
theorem dX6_shown_2 : decode cX6_shown 2 = .ok (.aload_n 0, 1) := by decide +kernel
theorem dX6_shown_3 : decode cX6_shown 3 = .ok (.getfield 7, 3) := by decide +kernel
theorem dX6_shown_6 : decode cX6_shown 6 = .ok (.iconst 3, 1) := by decide +kernel
theorem dX6_shown_7 : decode cX6_shown 7 = .ok (.iaload, 1) := by decide +kernel
theorem dX6_shown_8 : decode cX6_shown 8 = .ok (.iconst 1, 1) := by decide +kernel
theorem dX6_shown_9 : decode cX6_shown 9 = .ok (.isub, 1) := by decide +kernel
theorem dX6_shown_10 : decode cX6_shown 10 = .ok (.invokestatic 41, 3) := by decide +kernel
theorem dX6_shown_13 : decode cX6_shown 13 = .ok (.ifCond .ne 5, 3) := by decide +kernel
theorem dX6_shown_16 : decode cX6_shown 16 = .ok (.iconst (-1), 1) := by decide +kernel
theorem dX6_shown_17 : decode cX6_shown 17 = .ok (.ireturn, 1) := by decide +kernel
theorem dX6_shown_18 : decode cX6_shown 18 = .ok (.aload_n 0, 1) := by decide +kernel
theorem dX6_shown_19 : decode cX6_shown 19 = .ok (.getfield 7, 3) := by decide +kernel
theorem dX6_shown_22 : decode cX6_shown 22 = .ok (.bipush 41, 2) := by decide +kernel
theorem dX6_shown_24 : decode cX6_shown 24 = .ok (.iload_n 1, 1) := by decide +kernel
theorem dX6_shown_25 : decode cX6_shown 25 = .ok (.iadd, 1) := by decide +kernel
theorem dX6_shown_26 : decode cX6_shown 26 = .ok (.iaload, 1) := by decide +kernel
theorem dX6_shown_27 : decode cX6_shown 27 = .ok (.ifCond .ne 8, 3) := by decide +kernel
theorem dX6_shown_30 : decode cX6_shown 30 = .ok (.bipush (-6), 2) := by decide +kernel
theorem dX6_shown_32 : decode cX6_shown 32 = .ok (.goto 12, 3) := by decide +kernel
theorem dX6_shown_35 : decode cX6_shown 35 = .ok (.aload_n 0, 1) := by decide +kernel
theorem dX6_shown_36 : decode cX6_shown 36 = .ok (.getfield 7, 3) := by decide +kernel
theorem dX6_shown_39 : decode cX6_shown 39 = .ok (.bipush 41, 2) := by decide +kernel
theorem dX6_shown_41 : decode cX6_shown 41 = .ok (.iload_n 1, 1) := by decide +kernel
theorem dX6_shown_42 : decode cX6_shown 42 = .ok (.iadd, 1) := by decide +kernel
theorem dX6_shown_43 : decode cX6_shown 43 = .ok (.iaload, 1) := by decide +kernel
theorem dX6_shown_44 : decode cX6_shown 44 = .ok (.ireturn, 1) := by decide +kernel
set_option maxRecDepth 20000 in
theorem ggX6_candidates_X6_bits : GoodIn wsX6_candidates wsX6_bits := goodIn_r _ [5] (by decide +kernel) (by decide +kernel)
set_option maxRecDepth 20000 in
theorem gX6_candidates_X6_bits : GoodIn wsX6_candidates (va_wsS RX6 113 yX6_bits wsX6_bits) := goodIn_app (goodIn_of _ (by decide +kernel)) ggX6_candidates_X6_bits
theorem dX6_candidates_0 : decode cX6_candidates 0 = .ok (.aload_n 0, 1) := by decide +kernel
theorem dX6_candidates_1 : decode cX6_candidates 1 = .ok (.getfield 7, 3) := by decide +kernel
theorem dX6_candidates_4 : decode cX6_candidates 4 = .ok (.bipush 7, 2) := by decide +kernel
theorem dX6_candidates_6 : decode cX6_candidates 6 = .ok (.iaload, 1) := by decide +kernel
theorem dX6_candidates_7 : decode cX6_candidates 7 = .ok (.invokestatic 113, 3) := by decide +kernel
theorem dX6_candidates_10 : decode cX6_candidates 10 = .ok (.ireturn, 1) := by decide +kernel
set_option maxRecDepth 20000 in
theorem ggX6_candidate_X6_isCandidate : GoodIn wsX6_candidate wsX6_isCandidate := goodIn_r _ [6, 1, 7, 8, 9, 10, 11, 12, 13, 14, 15, 16, 17, 18] (by decide +kernel) (by decide +kernel)
set_option maxRecDepth 20000 in
theorem gX6_candidate_X6_isCandidate : GoodIn wsX6_candidate (wsV RX6 101 RX6 yX6_isCandidate wsX6_isCandidate) := goodIn_app (goodIn_of _ (by decide +kernel)) ggX6_candidate_X6_isCandidate
theorem dX6_candidate_0 : decode cX6_candidate 0 = .ok (.iload_n 1, 1) := by decide +kernel
theorem dX6_candidate_1 : decode cX6_candidate 1 = .ok (.istore_n 2, 1) := by decide +kernel
theorem dX6_candidate_2 : decode cX6_candidate 2 = .ok (.iconst 0, 1) := by decide +kernel
theorem dX6_candidate_3 : decode cX6_candidate 3 = .ok (.istore_n 3, 1) := by decide +kernel
theorem dX6_candidate_4 : decode cX6_candidate 4 = .ok (.iload_n 3, 1) := by decide +kernel
theorem dX6_candidate_5 : decode cX6_candidate 5 = .ok (.aload_n 0, 1) := by decide +kernel
theorem dX6_candidate_6 : decode cX6_candidate 6 = .ok (.getfield 7, 3) := by decide +kernel
theorem dX6_candidate_9 : decode cX6_candidate 9 = .ok (.iconst 0, 1) := by decide +kernel
theorem dX6_candidate_10 : decode cX6_candidate 10 = .ok (.iaload, 1) := by decide +kernel
theorem dX6_candidate_11 : decode cX6_candidate 11 = .ok (.if_icmp .ge 30, 3) := by decide +kernel
theorem dX6_candidate_14 : decode cX6_candidate 14 = .ok (.iload_n 1, 1) := by decide +kernel
theorem dX6_candidate_15 : decode cX6_candidate 15 = .ok (.ifCond .lt 26, 3) := by decide +kernel
theorem dX6_candidate_18 : decode cX6_candidate 18 = .ok (.aload_n 0, 1) := by decide +kernel
theorem dX6_candidate_19 : decode cX6_candidate 19 = .ok (.iload_n 3, 1) := by decide +kernel
theorem dX6_candidate_20 : decode cX6_candidate 20 = .ok (.invokevirtual 101, 3) := by decide +kernel
theorem dX6_candidate_23 : decode cX6_candidate 23 = .ok (.ifCond .eq 12, 3) := by decide +kernel
theorem dX6_candidate_26 : decode cX6_candidate 26 = .ok (.iload_n 2, 1) := by decide +kernel
theorem dX6_candidate_27 : decode cX6_candidate 27 = .ok (.ifCond .ne 5, 3) := by decide +kernel
theorem dX6_candidate_30 : decode cX6_candidate 30 = .ok (.iload_n 3, 1) := by decide +kernel
theorem dX6_candidate_31 : decode cX6_candidate 31 = .ok (.ireturn, 1) := by decide +kernel
theorem dX6_candidate_32 : decode cX6_candidate 32 = .ok (.iinc 2 (-1), 3) := by decide +kernel
theorem dX6_candidate_35 : decode cX6_candidate 35 = .ok (.iinc 3 1, 3) := by decide +kernel
theorem dX6_candidate_38 : decode cX6_candidate 38 = .ok (.goto (-34), 3) := by decide +kernel
theorem dX6_candidate_41 : decode cX6_candidate 41 = .ok (.iconst (-1), 1) := by decide +kernel
theorem dX6_candidate_42 : decode cX6_candidate 42 = .ok (.ireturn, 1) := by decide +kernel
theorem dX6_guesses_0 : decode cX6_guesses 0 = .ok (.aload_n 0, 1) := by decide +kernel
theorem dX6_guesses_1 : decode cX6_guesses 1 = .ok (.getfield 7, 3) := by decide +kernel
theorem dX6_guesses_4 : decode cX6_guesses 4 = .ok (.bipush 6, 2) := by decide +kernel
theorem dX6_guesses_6 : decode cX6_guesses 6 = .ok (.iaload, 1) := by decide +kernel
theorem dX6_guesses_7 : decode cX6_guesses 7 = .ok (.ireturn, 1) := by decide +kernel
set_option maxRecDepth 20000 in
theorem ggX6_guessAt_X6_in : GoodIn wsX6_guessAt wsX6_in := goodIn_r _ [5] (by decide +kernel) (by decide +kernel)
set_option maxRecDepth 20000 in
theorem gX6_guessAt_X6_in : GoodIn wsX6_guessAt (va_wsS RX6 41 yX6_in wsX6_in) := goodIn_app (goodIn_of _ (by decide +kernel)) ggX6_guessAt_X6_in
theorem dX6_guessAt_0 : decode cX6_guessAt 0 = .ok (.iload_n 1, 1) := by decide +kernel
theorem dX6_guessAt_1 : decode cX6_guessAt 1 = .ok (.iconst 0, 1) := by decide +kernel
theorem dX6_guessAt_2 : decode cX6_guessAt 2 = .ok (.aload_n 0, 1) := by decide +kernel
theorem dX6_guessAt_3 : decode cX6_guessAt 3 = .ok (.getfield 7, 3) := by decide +kernel
theorem dX6_guessAt_6 : decode cX6_guessAt 6 = .ok (.bipush 6, 2) := by decide +kernel
theorem dX6_guessAt_8 : decode cX6_guessAt 8 = .ok (.iaload, 1) := by decide +kernel
theorem dX6_guessAt_9 : decode cX6_guessAt 9 = .ok (.iconst 1, 1) := by decide +kernel
theorem dX6_guessAt_10 : decode cX6_guessAt 10 = .ok (.isub, 1) := by decide +kernel
theorem dX6_guessAt_11 : decode cX6_guessAt 11 = .ok (.invokestatic 41, 3) := by decide +kernel
theorem dX6_guessAt_14 : decode cX6_guessAt 14 = .ok (.ifCond .eq 15, 3) := by decide +kernel
theorem dX6_guessAt_17 : decode cX6_guessAt 17 = .ok (.aload_n 0, 1) := by decide +kernel
theorem dX6_guessAt_18 : decode cX6_guessAt 18 = .ok (.getfield 7, 3) := by decide +kernel
theorem dX6_guessAt_21 : decode cX6_guessAt 21 = .ok (.bipush 15, 2) := by decide +kernel
theorem dX6_guessAt_23 : decode cX6_guessAt 23 = .ok (.iload_n 1, 1) := by decide +kernel
theorem dX6_guessAt_24 : decode cX6_guessAt 24 = .ok (.iadd, 1) := by decide +kernel
theorem dX6_guessAt_25 : decode cX6_guessAt 25 = .ok (.iaload, 1) := by decide +kernel
theorem dX6_guessAt_26 : decode cX6_guessAt 26 = .ok (.goto 4, 3) := by decide +kernel
theorem dX6_guessAt_29 : decode cX6_guessAt 29 = .ok (.iconst (-1), 1) := by decide +kernel
theorem dX6_guessAt_30 : decode cX6_guessAt 30 = .ok (.ireturn, 1) := by decide +kernel
set_option maxRecDepth 20000 in
theorem ggX6_bar_X6_isLetter : GoodIn wsX6_bar wsX6_isLetter := goodIn_r _ [4, 5, 6, 3, 7] (by decide +kernel) (by decide +kernel)
set_option maxRecDepth 20000 in
theorem gX6_bar_X6_isLetter : GoodIn wsX6_bar (va_wsS RX6 51 yX6_isLetter wsX6_isLetter) := goodIn_app (goodIn_of _ (by decide +kernel)) ggX6_bar_X6_isLetter
set_option maxRecDepth 20000 in
theorem ggX6_bar_X6_runs : GoodIn wsX6_bar wsX6_runs := goodIn_r _ [11, 12, 17, 18, 19, 20, 21, 22, 23, 24, 25, 26, 27, 28] (by decide +kernel) (by decide +kernel)
set_option maxRecDepth 20000 in
theorem gX6_bar_X6_runs : GoodIn wsX6_bar (wsV RX6 70 RX6 yX6_runs wsX6_runs) := goodIn_app (goodIn_of _ (by decide +kernel)) ggX6_bar_X6_runs
set_option maxRecDepth 20000 in
theorem ggX6_bar_X6_isGuessed : GoodIn wsX6_bar wsX6_isGuessed := goodIn_r _ [16, 12, 17, 18, 19, 20, 21, 22, 23, 24, 25, 26, 27, 28] (by decide +kernel) (by decide +kernel)
set_option maxRecDepth 20000 in
theorem gX6_bar_X6_isGuessed : GoodIn wsX6_bar (wsV RX6 139 RX6 yX6_isGuessed wsX6_isGuessed) := goodIn_app (goodIn_of _ (by decide +kernel)) ggX6_bar_X6_isGuessed
theorem dX6_bar_0 : decode cX6_bar 0 = .ok (.iload_n 1, 1) := by decide +kernel
theorem dX6_bar_1 : decode cX6_bar 1 = .ok (.invokestatic 51, 3) := by decide +kernel
theorem dX6_bar_4 : decode cX6_bar 4 = .ok (.ifCond .ne 8, 3) := by decide +kernel
theorem dX6_bar_7 : decode cX6_bar 7 = .ok (.bipush (-2), 2) := by decide +kernel
theorem dX6_bar_9 : decode cX6_bar 9 = .ok (.goto 24, 3) := by decide +kernel
theorem dX6_bar_12 : decode cX6_bar 12 = .ok (.aload_n 0, 1) := by decide +kernel
theorem dX6_bar_13 : decode cX6_bar 13 = .ok (.invokevirtual 70, 3) := by decide +kernel
theorem dX6_bar_16 : decode cX6_bar 16 = .ok (.ifCond .eq 11, 3) := by decide +kernel
theorem dX6_bar_19 : decode cX6_bar 19 = .ok (.aload_n 0, 1) := by decide +kernel
theorem dX6_bar_20 : decode cX6_bar 20 = .ok (.iload_n 1, 1) := by decide +kernel
theorem dX6_bar_21 : decode cX6_bar 21 = .ok (.invokevirtual 139, 3) := by decide +kernel
theorem dX6_bar_24 : decode cX6_bar 24 = .ok (.ifCond .eq 8, 3) := by decide +kernel
theorem dX6_bar_27 : decode cX6_bar 27 = .ok (.bipush (-3), 2) := by decide +kernel
theorem dX6_bar_29 : decode cX6_bar 29 = .ok (.goto 4, 3) := by decide +kernel
theorem dX6_bar_32 : decode cX6_bar 32 = .ok (.iconst 0, 1) := by decide +kernel
theorem dX6_bar_33 : decode cX6_bar 33 = .ok (.ireturn, 1) := by decide +kernel
set_option maxRecDepth 20000 in
theorem ggX6_families_X6_bar : GoodIn wsX6_families wsX6_bar := goodIn_r _ [6, 7, 8, 5, 9, 10, 11, 12, 13, 14, 15, 16, 17, 18, 19, 20, 21, 54, 55, 56, 57, 58, 59, 60, 61, 62, 63, 64, 65] (by decide +kernel) (by decide +kernel)
set_option maxRecDepth 20000 in
theorem gX6_families_X6_bar : GoodIn wsX6_families (wsV RX6 148 RX6 yX6_bar wsX6_bar) := goodIn_app (goodIn_of _ (by decide +kernel)) ggX6_families_X6_bar
set_option maxRecDepth 20000 in
theorem ggX6_families_X6_laysFamilies : GoodIn wsX6_families wsX6_laysFamilies := goodIn_r _ [25, 1, 17, 26, 27, 28, 29, 30, 31, 32, 33, 5, 34, 35, 36, 37, 38, 39, 40, 41, 42, 43, 44, 45, 46, 47, 48, 49, 50, 51, 52, 53, 54, 55, 56, 57, 58, 59, 60, 61, 62, 63, 64, 65] (by decide +kernel) (by decide +kernel)
set_option maxRecDepth 20000 in
theorem gX6_families_X6_laysFamilies : GoodIn wsX6_families (wsV RX6 126 RX6 yX6_laysFamilies wsX6_laysFamilies) := goodIn_app (goodIn_of _ (by decide +kernel)) ggX6_families_X6_laysFamilies
theorem dX6_families_0 : decode cX6_families 0 = .ok (.aload_n 0, 1) := by decide +kernel
theorem dX6_families_1 : decode cX6_families 1 = .ok (.iload_n 1, 1) := by decide +kernel
theorem dX6_families_2 : decode cX6_families 2 = .ok (.invokevirtual 148, 3) := by decide +kernel
theorem dX6_families_5 : decode cX6_families 5 = .ok (.ifCond .eq 9, 3) := by decide +kernel
theorem dX6_families_8 : decode cX6_families 8 = .ok (.aload_n 0, 1) := by decide +kernel
theorem dX6_families_9 : decode cX6_families 9 = .ok (.iload_n 1, 1) := by decide +kernel
theorem dX6_families_10 : decode cX6_families 10 = .ok (.invokevirtual 148, 3) := by decide +kernel
theorem dX6_families_13 : decode cX6_families 13 = .ok (.ireturn, 1) := by decide +kernel
theorem dX6_families_14 : decode cX6_families 14 = .ok (.aload_n 0, 1) := by decide +kernel
theorem dX6_families_15 : decode cX6_families 15 = .ok (.iload_n 1, 1) := by decide +kernel
theorem dX6_families_16 : decode cX6_families 16 = .ok (.invokevirtual 126, 3) := by decide +kernel
theorem dX6_families_19 : decode cX6_families 19 = .ok (.aload_n 0, 1) := by decide +kernel
theorem dX6_families_20 : decode cX6_families 20 = .ok (.getfield 37, 3) := by decide +kernel
theorem dX6_families_23 : decode cX6_families 23 = .ok (.ireturn, 1) := by decide +kernel
set_option maxRecDepth 20000 in
theorem ggX6_family_X6_bar : GoodIn wsX6_family wsX6_bar := goodIn_r _ [10, 11, 12, 9, 13, 14, 15, 16, 17, 18, 19, 20, 21, 22, 23, 24, 25, 65, 66, 67, 68, 69, 70, 71, 72, 73, 74, 75, 76] (by decide +kernel) (by decide +kernel)
set_option maxRecDepth 20000 in
theorem gX6_family_X6_bar : GoodIn wsX6_family (wsV RX6 148 RX6 yX6_bar wsX6_bar) := goodIn_app (goodIn_of _ (by decide +kernel)) ggX6_family_X6_bar
set_option maxRecDepth 20000 in
theorem ggX6_family_X6_laysFamilies : GoodIn wsX6_family wsX6_laysFamilies := goodIn_r _ [29, 1, 21, 3, 4, 5, 2, 30, 31, 32, 33, 9, 34, 35, 36, 37, 38, 39, 40, 41, 42, 43, 44, 45, 46, 47, 48, 49, 50, 51, 52, 53, 65, 66, 67, 68, 69, 70, 71, 72, 73, 74, 75, 76] (by decide +kernel) (by decide +kernel)
set_option maxRecDepth 20000 in
theorem gX6_family_X6_laysFamilies : GoodIn wsX6_family (wsV RX6 126 RX6 yX6_laysFamilies wsX6_laysFamilies) := goodIn_app (goodIn_of _ (by decide +kernel)) ggX6_family_X6_laysFamilies
set_option maxRecDepth 20000 in
theorem ggX6_family_X6_in : GoodIn wsX6_family wsX6_in := goodIn_r _ [16] (by decide +kernel) (by decide +kernel)
set_option maxRecDepth 20000 in
theorem gX6_family_X6_in : GoodIn wsX6_family (va_wsS RX6 41 yX6_in wsX6_in) := goodIn_app (goodIn_of _ (by decide +kernel)) ggX6_family_X6_in
set_option maxRecDepth 20000 in
theorem ggX6_family_X6_ranked : GoodIn wsX6_family wsX6_ranked := goodIn_r _ [57, 1, 58, 59, 60, 9, 61, 21, 3, 5, 2, 30, 65, 66, 67, 68, 69, 70, 71, 72, 73, 74, 75, 76] (by decide +kernel) (by decide +kernel)
set_option maxRecDepth 20000 in
theorem gX6_family_X6_ranked : GoodIn wsX6_family (wsV RX6 129 RX6 yX6_ranked wsX6_ranked) := goodIn_app (goodIn_of _ (by decide +kernel)) ggX6_family_X6_ranked
set_option maxRecDepth 20000 in
theorem ggX6_family_X6_lowest : GoodIn wsX6_family wsX6_lowest := goodIn_r _ [64] (by decide +kernel) (by decide +kernel)
set_option maxRecDepth 20000 in
theorem gX6_family_X6_lowest : GoodIn wsX6_family (va_wsS RX6 145 yX6_lowest wsX6_lowest) := goodIn_app (goodIn_of _ (by decide +kernel)) ggX6_family_X6_lowest
theorem dX6_family_0 : decode cX6_family 0 = .ok (.aload_n 0, 1) := by decide +kernel
theorem dX6_family_1 : decode cX6_family 1 = .ok (.iload_n 1, 1) := by decide +kernel
theorem dX6_family_2 : decode cX6_family 2 = .ok (.invokevirtual 148, 3) := by decide +kernel
theorem dX6_family_5 : decode cX6_family 5 = .ok (.ifCond .eq 9, 3) := by decide +kernel
theorem dX6_family_8 : decode cX6_family 8 = .ok (.aload_n 0, 1) := by decide +kernel
theorem dX6_family_9 : decode cX6_family 9 = .ok (.iload_n 1, 1) := by decide +kernel
theorem dX6_family_10 : decode cX6_family 10 = .ok (.invokevirtual 148, 3) := by decide +kernel
theorem dX6_family_13 : decode cX6_family 13 = .ok (.ireturn, 1) := by decide +kernel
theorem dX6_family_14 : decode cX6_family 14 = .ok (.aload_n 0, 1) := by decide +kernel
theorem dX6_family_15 : decode cX6_family 15 = .ok (.iload_n 1, 1) := by decide +kernel
theorem dX6_family_16 : decode cX6_family 16 = .ok (.invokevirtual 126, 3) := by decide +kernel
theorem dX6_family_19 : decode cX6_family 19 = .ok (.iload_n 2, 1) := by decide +kernel
theorem dX6_family_20 : decode cX6_family 20 = .ok (.iconst 0, 1) := by decide +kernel
theorem dX6_family_21 : decode cX6_family 21 = .ok (.aload_n 0, 1) := by decide +kernel
theorem dX6_family_22 : decode cX6_family 22 = .ok (.getfield 37, 3) := by decide +kernel
theorem dX6_family_25 : decode cX6_family 25 = .ok (.iconst 1, 1) := by decide +kernel
theorem dX6_family_26 : decode cX6_family 26 = .ok (.isub, 1) := by decide +kernel
theorem dX6_family_27 : decode cX6_family 27 = .ok (.invokestatic 41, 3) := by decide +kernel
theorem dX6_family_30 : decode cX6_family 30 = .ok (.ifCond .ne 5, 3) := by decide +kernel
theorem dX6_family_33 : decode cX6_family 33 = .ok (.iconst (-1), 1) := by decide +kernel
theorem dX6_family_34 : decode cX6_family 34 = .ok (.ireturn, 1) := by decide +kernel
theorem dX6_family_35 : decode cX6_family 35 = .ok (.aload_n 0, 1) := by decide +kernel
theorem dX6_family_36 : decode cX6_family 36 = .ok (.iload_n 2, 1) := by decide +kernel
theorem dX6_family_37 : decode cX6_family 37 = .ok (.invokevirtual 129, 3) := by decide +kernel
theorem dX6_family_40 : decode cX6_family 40 = .ok (.istore 4, 2) := by decide +kernel
theorem dX6_family_42 : decode cX6_family 42 = .ok (.iload_n 3, 1) := by decide +kernel
theorem dX6_family_43 : decode cX6_family 43 = .ok (.tableswitch 64 0 3 #[29, 37, 45, 56], 29) := by decide +kernel
theorem dX6_family_72 : decode cX6_family 72 = .ok (.aload_n 0, 1) := by decide +kernel
theorem dX6_family_73 : decode cX6_family 73 = .ok (.getfield 28, 3) := by decide +kernel
theorem dX6_family_76 : decode cX6_family 76 = .ok (.iload 4, 2) := by decide +kernel
theorem dX6_family_78 : decode cX6_family 78 = .ok (.iaload, 1) := by decide +kernel
theorem dX6_family_79 : decode cX6_family 79 = .ok (.ireturn, 1) := by decide +kernel
theorem dX6_family_80 : decode cX6_family 80 = .ok (.aload_n 0, 1) := by decide +kernel
theorem dX6_family_81 : decode cX6_family 81 = .ok (.getfield 22, 3) := by decide +kernel
theorem dX6_family_84 : decode cX6_family 84 = .ok (.iload 4, 2) := by decide +kernel
theorem dX6_family_86 : decode cX6_family 86 = .ok (.iaload, 1) := by decide +kernel
theorem dX6_family_87 : decode cX6_family 87 = .ok (.ireturn, 1) := by decide +kernel
theorem dX6_family_88 : decode cX6_family 88 = .ok (.aload_n 0, 1) := by decide +kernel
theorem dX6_family_89 : decode cX6_family 89 = .ok (.getfield 25, 3) := by decide +kernel
theorem dX6_family_92 : decode cX6_family 92 = .ok (.iload 4, 2) := by decide +kernel
theorem dX6_family_94 : decode cX6_family 94 = .ok (.iaload, 1) := by decide +kernel
theorem dX6_family_95 : decode cX6_family 95 = .ok (.invokestatic 145, 3) := by decide +kernel
theorem dX6_family_98 : decode cX6_family 98 = .ok (.ireturn, 1) := by decide +kernel
theorem dX6_family_99 : decode cX6_family 99 = .ok (.aload_n 0, 1) := by decide +kernel
theorem dX6_family_100 : decode cX6_family 100 = .ok (.getfield 34, 3) := by decide +kernel
theorem dX6_family_103 : decode cX6_family 103 = .ok (.iload 4, 2) := by decide +kernel
theorem dX6_family_105 : decode cX6_family 105 = .ok (.iaload, 1) := by decide +kernel
theorem dX6_family_106 : decode cX6_family 106 = .ok (.ireturn, 1) := by decide +kernel
theorem dX6_family_107 : decode cX6_family 107 = .ok (.bipush (-2), 2) := by decide +kernel
theorem dX6_family_109 : decode cX6_family 109 = .ok (.ireturn, 1) := by decide +kernel
set_option maxRecDepth 20000 in
theorem ggX6_spread_X6_bar : GoodIn wsX6_spread wsX6_bar := goodIn_r _ [8, 9, 10, 7, 11, 12, 13, 14, 15, 16, 17, 18, 3, 19, 20, 21, 22, 54, 55, 56, 57, 58, 59, 60, 61, 62, 63, 64, 65] (by decide +kernel) (by decide +kernel)
set_option maxRecDepth 20000 in
theorem gX6_spread_X6_bar : GoodIn wsX6_spread (wsV RX6 148 RX6 yX6_bar wsX6_bar) := goodIn_app (goodIn_of _ (by decide +kernel)) ggX6_spread_X6_bar
set_option maxRecDepth 20000 in
theorem ggX6_spread_X6_laysFamilies : GoodIn wsX6_spread wsX6_laysFamilies := goodIn_r _ [26, 1, 3, 27, 28, 29, 2, 30, 31, 32, 33, 7, 34, 35, 36, 37, 38, 39, 40, 41, 42, 43, 44, 45, 46, 47, 48, 49, 50, 51, 52, 53, 54, 55, 56, 57, 58, 59, 60, 61, 62, 63, 64, 65] (by decide +kernel) (by decide +kernel)
set_option maxRecDepth 20000 in
theorem gX6_spread_X6_laysFamilies : GoodIn wsX6_spread (wsV RX6 126 RX6 yX6_laysFamilies wsX6_laysFamilies) := goodIn_app (goodIn_of _ (by decide +kernel)) ggX6_spread_X6_laysFamilies
set_option maxRecDepth 20000 in
theorem ggX6_spread_X6_bits : GoodIn wsX6_spread wsX6_bits := goodIn_r _ [53] (by decide +kernel) (by decide +kernel)
set_option maxRecDepth 20000 in
theorem gX6_spread_X6_bits : GoodIn wsX6_spread (va_wsS RX6 113 yX6_bits wsX6_bits) := goodIn_app (goodIn_of _ (by decide +kernel)) ggX6_spread_X6_bits
theorem dX6_spread_0 : decode cX6_spread 0 = .ok (.aload_n 0, 1) := by decide +kernel
theorem dX6_spread_1 : decode cX6_spread 1 = .ok (.iload_n 1, 1) := by decide +kernel
theorem dX6_spread_2 : decode cX6_spread 2 = .ok (.invokevirtual 148, 3) := by decide +kernel
theorem dX6_spread_5 : decode cX6_spread 5 = .ok (.ifCond .eq 9, 3) := by decide +kernel
theorem dX6_spread_8 : decode cX6_spread 8 = .ok (.aload_n 0, 1) := by decide +kernel
theorem dX6_spread_9 : decode cX6_spread 9 = .ok (.iload_n 1, 1) := by decide +kernel
theorem dX6_spread_10 : decode cX6_spread 10 = .ok (.invokevirtual 148, 3) := by decide +kernel
theorem dX6_spread_13 : decode cX6_spread 13 = .ok (.ireturn, 1) := by decide +kernel
theorem dX6_spread_14 : decode cX6_spread 14 = .ok (.aload_n 0, 1) := by decide +kernel
theorem dX6_spread_15 : decode cX6_spread 15 = .ok (.iload_n 1, 1) := by decide +kernel
theorem dX6_spread_16 : decode cX6_spread 16 = .ok (.invokevirtual 126, 3) := by decide +kernel
theorem dX6_spread_19 : decode cX6_spread 19 = .ok (.iconst 0, 1) := by decide +kernel
theorem dX6_spread_20 : decode cX6_spread 20 = .ok (.istore_n 2, 1) := by decide +kernel
theorem dX6_spread_21 : decode cX6_spread 21 = .ok (.iconst 0, 1) := by decide +kernel
theorem dX6_spread_22 : decode cX6_spread 22 = .ok (.istore_n 3, 1) := by decide +kernel
theorem dX6_spread_23 : decode cX6_spread 23 = .ok (.iload_n 3, 1) := by decide +kernel
theorem dX6_spread_24 : decode cX6_spread 24 = .ok (.aload_n 0, 1) := by decide +kernel
theorem dX6_spread_25 : decode cX6_spread 25 = .ok (.getfield 37, 3) := by decide +kernel
theorem dX6_spread_28 : decode cX6_spread 28 = .ok (.if_icmp .ge 25, 3) := by decide +kernel
theorem dX6_spread_31 : decode cX6_spread 31 = .ok (.iload_n 2, 1) := by decide +kernel
theorem dX6_spread_32 : decode cX6_spread 32 = .ok (.aload_n 0, 1) := by decide +kernel
theorem dX6_spread_33 : decode cX6_spread 33 = .ok (.getfield 28, 3) := by decide +kernel
theorem dX6_spread_36 : decode cX6_spread 36 = .ok (.iload_n 3, 1) := by decide +kernel
theorem dX6_spread_37 : decode cX6_spread 37 = .ok (.iaload, 1) := by decide +kernel
theorem dX6_spread_38 : decode cX6_spread 38 = .ok (.aload_n 0, 1) := by decide +kernel
theorem dX6_spread_39 : decode cX6_spread 39 = .ok (.getfield 28, 3) := by decide +kernel
theorem dX6_spread_42 : decode cX6_spread 42 = .ok (.iload_n 3, 1) := by decide +kernel
theorem dX6_spread_43 : decode cX6_spread 43 = .ok (.iaload, 1) := by decide +kernel
theorem dX6_spread_44 : decode cX6_spread 44 = .ok (.imul, 1) := by decide +kernel
theorem dX6_spread_45 : decode cX6_spread 45 = .ok (.iadd, 1) := by decide +kernel
theorem dX6_spread_46 : decode cX6_spread 46 = .ok (.istore_n 2, 1) := by decide +kernel
theorem dX6_spread_47 : decode cX6_spread 47 = .ok (.iinc 3 1, 3) := by decide +kernel
theorem dX6_spread_50 : decode cX6_spread 50 = .ok (.goto (-27), 3) := by decide +kernel
theorem dX6_spread_53 : decode cX6_spread 53 = .ok (.sipush 1000, 3) := by decide +kernel
theorem dX6_spread_56 : decode cX6_spread 56 = .ok (.iload_n 2, 1) := by decide +kernel
theorem dX6_spread_57 : decode cX6_spread 57 = .ok (.imul, 1) := by decide +kernel
theorem dX6_spread_58 : decode cX6_spread 58 = .ok (.aload_n 0, 1) := by decide +kernel
theorem dX6_spread_59 : decode cX6_spread 59 = .ok (.getfield 7, 3) := by decide +kernel
theorem dX6_spread_62 : decode cX6_spread 62 = .ok (.bipush 7, 2) := by decide +kernel
theorem dX6_spread_64 : decode cX6_spread 64 = .ok (.iaload, 1) := by decide +kernel
theorem dX6_spread_65 : decode cX6_spread 65 = .ok (.invokestatic 113, 3) := by decide +kernel
theorem dX6_spread_68 : decode cX6_spread 68 = .ok (.idiv, 1) := by decide +kernel
theorem dX6_spread_69 : decode cX6_spread 69 = .ok (.ireturn, 1) := by decide +kernel
set_option maxRecDepth 20000 in
theorem ggX6_having_X6_isLetter : GoodIn wsX6_having wsX6_isLetter := goodIn_r _ [5, 6, 7, 4, 8] (by decide +kernel) (by decide +kernel)
set_option maxRecDepth 20000 in
theorem gX6_having_X6_isLetter : GoodIn wsX6_having (va_wsS RX6 51 yX6_isLetter wsX6_isLetter) := goodIn_app (goodIn_of _ (by decide +kernel)) ggX6_having_X6_isLetter
set_option maxRecDepth 20000 in
theorem ggX6_having_X6_isCandidate : GoodIn wsX6_having wsX6_isCandidate := goodIn_r _ [12, 1, 21, 22, 23, 24, 25, 26, 27, 28, 29, 30, 31, 32] (by decide +kernel) (by decide +kernel)
set_option maxRecDepth 20000 in
theorem gX6_having_X6_isCandidate : GoodIn wsX6_having (wsV RX6 101 RX6 yX6_isCandidate wsX6_isCandidate) := goodIn_app (goodIn_of _ (by decide +kernel)) ggX6_having_X6_isCandidate
set_option maxRecDepth 20000 in
theorem ggX6_having_X6_maskOf : GoodIn wsX6_having wsX6_maskOf := goodIn_r _ [16, 1, 17, 18, 19, 4, 20, 21, 22, 23, 24, 25, 26, 27, 28, 29, 30, 31, 32] (by decide +kernel) (by decide +kernel)
set_option maxRecDepth 20000 in
theorem gX6_having_X6_maskOf : GoodIn wsX6_having (wsV RX6 104 RX6 yX6_maskOf wsX6_maskOf) := goodIn_app (goodIn_of _ (by decide +kernel)) ggX6_having_X6_maskOf
theorem dX6_having_0 : decode cX6_having 0 = .ok (.iload_n 1, 1) := by decide +kernel
theorem dX6_having_1 : decode cX6_having 1 = .ok (.invokestatic 51, 3) := by decide +kernel
theorem dX6_having_4 : decode cX6_having 4 = .ok (.ifCond .ne 6, 3) := by decide +kernel
theorem dX6_having_7 : decode cX6_having 7 = .ok (.bipush (-2), 2) := by decide +kernel
theorem dX6_having_9 : decode cX6_having 9 = .ok (.ireturn, 1) := by decide +kernel
theorem dX6_having_10 : decode cX6_having 10 = .ok (.aload_n 0, 1) := by decide +kernel
theorem dX6_having_11 : decode cX6_having 11 = .ok (.getfield 7, 3) := by decide +kernel
theorem dX6_having_14 : decode cX6_having 14 = .ok (.iconst 2, 1) := by decide +kernel
theorem dX6_having_15 : decode cX6_having 15 = .ok (.iaload, 1) := by decide +kernel
theorem dX6_having_16 : decode cX6_having 16 = .ok (.ifCond .ne 6, 3) := by decide +kernel
theorem dX6_having_19 : decode cX6_having 19 = .ok (.bipush (-3), 2) := by decide +kernel
theorem dX6_having_21 : decode cX6_having 21 = .ok (.ireturn, 1) := by decide +kernel
theorem dX6_having_22 : decode cX6_having 22 = .ok (.iconst 0, 1) := by decide +kernel
theorem dX6_having_23 : decode cX6_having 23 = .ok (.istore_n 2, 1) := by decide +kernel
theorem dX6_having_24 : decode cX6_having 24 = .ok (.iconst 0, 1) := by decide +kernel
theorem dX6_having_25 : decode cX6_having 25 = .ok (.istore_n 3, 1) := by decide +kernel
theorem dX6_having_26 : decode cX6_having 26 = .ok (.iload_n 3, 1) := by decide +kernel
theorem dX6_having_27 : decode cX6_having 27 = .ok (.aload_n 0, 1) := by decide +kernel
theorem dX6_having_28 : decode cX6_having 28 = .ok (.getfield 7, 3) := by decide +kernel
theorem dX6_having_31 : decode cX6_having 31 = .ok (.iconst 0, 1) := by decide +kernel
theorem dX6_having_32 : decode cX6_having 32 = .ok (.iaload, 1) := by decide +kernel
theorem dX6_having_33 : decode cX6_having 33 = .ok (.if_icmp .ge 34, 3) := by decide +kernel
theorem dX6_having_36 : decode cX6_having 36 = .ok (.iload_n 2, 1) := by decide +kernel
theorem dX6_having_37 : decode cX6_having 37 = .ok (.aload_n 0, 1) := by decide +kernel
theorem dX6_having_38 : decode cX6_having 38 = .ok (.iload_n 3, 1) := by decide +kernel
theorem dX6_having_39 : decode cX6_having 39 = .ok (.invokevirtual 101, 3) := by decide +kernel
theorem dX6_having_42 : decode cX6_having 42 = .ok (.ifCond .eq 16, 3) := by decide +kernel
theorem dX6_having_45 : decode cX6_having 45 = .ok (.aload_n 0, 1) := by decide +kernel
theorem dX6_having_46 : decode cX6_having 46 = .ok (.iload_n 3, 1) := by decide +kernel
theorem dX6_having_47 : decode cX6_having 47 = .ok (.iload_n 1, 1) := by decide +kernel
theorem dX6_having_48 : decode cX6_having 48 = .ok (.invokevirtual 104, 3) := by decide +kernel
theorem dX6_having_51 : decode cX6_having 51 = .ok (.ifCond .eq 7, 3) := by decide +kernel
theorem dX6_having_54 : decode cX6_having 54 = .ok (.iconst 1, 1) := by decide +kernel
theorem dX6_having_55 : decode cX6_having 55 = .ok (.goto 4, 3) := by decide +kernel
theorem dX6_having_58 : decode cX6_having 58 = .ok (.iconst 0, 1) := by decide +kernel
theorem dX6_having_59 : decode cX6_having 59 = .ok (.iadd, 1) := by decide +kernel
theorem dX6_having_60 : decode cX6_having 60 = .ok (.istore_n 2, 1) := by decide +kernel
theorem dX6_having_61 : decode cX6_having 61 = .ok (.iinc 3 1, 3) := by decide +kernel
theorem dX6_having_64 : decode cX6_having 64 = .ok (.goto (-38), 3) := by decide +kernel
theorem dX6_having_67 : decode cX6_having 67 = .ok (.iload_n 2, 1) := by decide +kernel
theorem dX6_having_68 : decode cX6_having 68 = .ok (.ireturn, 1) := by decide +kernel
set_option maxRecDepth 20000 in
theorem ggX6_sure_X6_isCandidate : GoodIn wsX6_sure wsX6_isCandidate := goodIn_r _ [7, 1, 16, 17, 18, 19, 20, 21, 22, 23, 24, 25, 26, 27] (by decide +kernel) (by decide +kernel)
set_option maxRecDepth 20000 in
theorem gX6_sure_X6_isCandidate : GoodIn wsX6_sure (wsV RX6 101 RX6 yX6_isCandidate wsX6_isCandidate) := goodIn_app (goodIn_of _ (by decide +kernel)) ggX6_sure_X6_isCandidate
set_option maxRecDepth 20000 in
theorem ggX6_sure_X6_lettersOf : GoodIn wsX6_sure wsX6_lettersOf := goodIn_r _ [11, 1, 12, 13, 14, 6, 15, 16, 17, 18, 19, 20, 21, 22, 23, 24, 25, 26, 27] (by decide +kernel) (by decide +kernel)
set_option maxRecDepth 20000 in
theorem gX6_sure_X6_lettersOf : GoodIn wsX6_sure (wsV RX6 110 RX6 yX6_lettersOf wsX6_lettersOf) := goodIn_app (goodIn_of _ (by decide +kernel)) ggX6_sure_X6_lettersOf
theorem dX6_sure_0 : decode cX6_sure 0 = .ok (.aload_n 0, 1) := by decide +kernel
theorem dX6_sure_1 : decode cX6_sure 1 = .ok (.getfield 7, 3) := by decide +kernel
theorem dX6_sure_4 : decode cX6_sure 4 = .ok (.iconst 5, 1) := by decide +kernel
theorem dX6_sure_5 : decode cX6_sure 5 = .ok (.iaload, 1) := by decide +kernel
theorem dX6_sure_6 : decode cX6_sure 6 = .ok (.iconst (-1), 1) := by decide +kernel
theorem dX6_sure_7 : decode cX6_sure 7 = .ok (.ixor, 1) := by decide +kernel
theorem dX6_sure_8 : decode cX6_sure 8 = .ok (.ldc 151, 2) := by decide +kernel
theorem dX6_sure_10 : decode cX6_sure 10 = .ok (.iand, 1) := by decide +kernel
theorem dX6_sure_11 : decode cX6_sure 11 = .ok (.istore_n 1, 1) := by decide +kernel
theorem dX6_sure_12 : decode cX6_sure 12 = .ok (.iconst 0, 1) := by decide +kernel
theorem dX6_sure_13 : decode cX6_sure 13 = .ok (.istore_n 2, 1) := by decide +kernel
theorem dX6_sure_14 : decode cX6_sure 14 = .ok (.iload_n 2, 1) := by decide +kernel
theorem dX6_sure_15 : decode cX6_sure 15 = .ok (.aload_n 0, 1) := by decide +kernel
theorem dX6_sure_16 : decode cX6_sure 16 = .ok (.getfield 7, 3) := by decide +kernel
theorem dX6_sure_19 : decode cX6_sure 19 = .ok (.iconst 0, 1) := by decide +kernel
theorem dX6_sure_20 : decode cX6_sure 20 = .ok (.iaload, 1) := by decide +kernel
theorem dX6_sure_21 : decode cX6_sure 21 = .ok (.if_icmp .ge 29, 3) := by decide +kernel
theorem dX6_sure_24 : decode cX6_sure 24 = .ok (.iload_n 1, 1) := by decide +kernel
theorem dX6_sure_25 : decode cX6_sure 25 = .ok (.aload_n 0, 1) := by decide +kernel
theorem dX6_sure_26 : decode cX6_sure 26 = .ok (.iload_n 2, 1) := by decide +kernel
theorem dX6_sure_27 : decode cX6_sure 27 = .ok (.invokevirtual 101, 3) := by decide +kernel
theorem dX6_sure_30 : decode cX6_sure 30 = .ok (.ifCond .eq 11, 3) := by decide +kernel
theorem dX6_sure_33 : decode cX6_sure 33 = .ok (.aload_n 0, 1) := by decide +kernel
theorem dX6_sure_34 : decode cX6_sure 34 = .ok (.iload_n 2, 1) := by decide +kernel
theorem dX6_sure_35 : decode cX6_sure 35 = .ok (.invokevirtual 110, 3) := by decide +kernel
theorem dX6_sure_38 : decode cX6_sure 38 = .ok (.goto 4, 3) := by decide +kernel
theorem dX6_sure_41 : decode cX6_sure 41 = .ok (.iconst (-1), 1) := by decide +kernel
theorem dX6_sure_42 : decode cX6_sure 42 = .ok (.iand, 1) := by decide +kernel
theorem dX6_sure_43 : decode cX6_sure 43 = .ok (.istore_n 1, 1) := by decide +kernel
theorem dX6_sure_44 : decode cX6_sure 44 = .ok (.iinc 2 1, 3) := by decide +kernel
theorem dX6_sure_47 : decode cX6_sure 47 = .ok (.goto (-33), 3) := by decide +kernel
theorem dX6_sure_50 : decode cX6_sure 50 = .ok (.iload_n 1, 1) := by decide +kernel
theorem dX6_sure_51 : decode cX6_sure 51 = .ok (.ireturn, 1) := by decide +kernel
set_option maxRecDepth 20000 in
theorem ggX6_sureLetters_X6_runs : GoodIn wsX6_sureLetters wsX6_runs := goodIn_r _ [5, 6, 24, 25, 26, 27, 28, 29, 30, 31, 32, 33, 34, 35] (by decide +kernel) (by decide +kernel)
set_option maxRecDepth 20000 in
theorem gX6_sureLetters_X6_runs : GoodIn wsX6_sureLetters (wsV RX6 70 RX6 yX6_runs wsX6_runs) := goodIn_app (goodIn_of _ (by decide +kernel)) ggX6_sureLetters_X6_runs
set_option maxRecDepth 20000 in
theorem ggX6_sureLetters_X6_sure : GoodIn wsX6_sureLetters wsX6_sure := goodIn_r _ [10, 6, 11, 12, 13, 14, 4, 15, 16, 17, 18, 19, 20, 21, 22, 23, 24, 25, 26, 27, 28, 29, 30, 31, 32, 33, 34, 35] (by decide +kernel) (by decide +kernel)
set_option maxRecDepth 20000 in
theorem gX6_sureLetters_X6_sure : GoodIn wsX6_sureLetters (wsV RX6 152 RX6 yX6_sure wsX6_sure) := goodIn_app (goodIn_of _ (by decide +kernel)) ggX6_sureLetters_X6_sure
theorem dX6_sureLetters_0 : decode cX6_sureLetters 0 = .ok (.aload_n 0, 1) := by decide +kernel
theorem dX6_sureLetters_1 : decode cX6_sureLetters 1 = .ok (.invokevirtual 70, 3) := by decide +kernel
theorem dX6_sureLetters_4 : decode cX6_sureLetters 4 = .ok (.ifCond .eq 10, 3) := by decide +kernel
theorem dX6_sureLetters_7 : decode cX6_sureLetters 7 = .ok (.aload_n 0, 1) := by decide +kernel
theorem dX6_sureLetters_8 : decode cX6_sureLetters 8 = .ok (.invokevirtual 152, 3) := by decide +kernel
theorem dX6_sureLetters_11 : decode cX6_sureLetters 11 = .ok (.goto 5, 3) := by decide +kernel
theorem dX6_sureLetters_14 : decode cX6_sureLetters 14 = .ok (.bipush (-3), 2) := by decide +kernel
theorem dX6_sureLetters_16 : decode cX6_sureLetters 16 = .ok (.ireturn, 1) := by decide +kernel
set_option maxRecDepth 20000 in
theorem ggX6_best_X6_isGuessed : GoodIn wsX6_best wsX6_isGuessed := goodIn_r _ [7, 8, 48, 49, 50, 51, 52, 53, 54, 55, 56, 57, 58, 59] (by decide +kernel) (by decide +kernel)
set_option maxRecDepth 20000 in
theorem gX6_best_X6_isGuessed : GoodIn wsX6_best (wsV RX6 139 RX6 yX6_isGuessed wsX6_isGuessed) := goodIn_app (goodIn_of _ (by decide +kernel)) ggX6_best_X6_isGuessed
set_option maxRecDepth 20000 in
theorem ggX6_best_X6_laysFamilies : GoodIn wsX6_best wsX6_laysFamilies := goodIn_r _ [12, 13, 8, 14, 15, 16, 1, 2, 17, 18, 19, 6, 20, 21, 22, 23, 24, 25, 26, 27, 28, 29, 30, 31, 32, 33, 34, 35, 36, 37, 38, 39, 48, 49, 50, 51, 52, 53, 54, 55, 56, 57, 58, 59] (by decide +kernel) (by decide +kernel)
set_option maxRecDepth 20000 in
theorem gX6_best_X6_laysFamilies : GoodIn wsX6_best (wsV RX6 126 RX6 yX6_laysFamilies wsX6_laysFamilies) := goodIn_app (goodIn_of _ (by decide +kernel)) ggX6_best_X6_laysFamilies
set_option maxRecDepth 20000 in
theorem ggX6_best_X6_ranked : GoodIn wsX6_best wsX6_ranked := goodIn_r _ [43, 13, 44, 45, 46, 6, 47, 8, 14, 16, 1, 2, 48, 49, 50, 51, 52, 53, 54, 55, 56, 57, 58, 59] (by decide +kernel) (by decide +kernel)
set_option maxRecDepth 20000 in
theorem gX6_best_X6_ranked : GoodIn wsX6_best (wsV RX6 129 RX6 yX6_ranked wsX6_ranked) := goodIn_app (goodIn_of _ (by decide +kernel)) ggX6_best_X6_ranked
theorem dX6_best_0 : decode cX6_best 0 = .ok (.bipush (-6), 2) := by decide +kernel
theorem dX6_best_2 : decode cX6_best 2 = .ok (.istore_n 1, 1) := by decide +kernel
theorem dX6_best_3 : decode cX6_best 3 = .ok (.iconst 0, 1) := by decide +kernel
theorem dX6_best_4 : decode cX6_best 4 = .ok (.istore_n 2, 1) := by decide +kernel
theorem dX6_best_5 : decode cX6_best 5 = .ok (.iconst 0, 1) := by decide +kernel
theorem dX6_best_6 : decode cX6_best 6 = .ok (.istore_n 3, 1) := by decide +kernel
theorem dX6_best_7 : decode cX6_best 7 = .ok (.bipush 97, 2) := by decide +kernel
theorem dX6_best_9 : decode cX6_best 9 = .ok (.istore 4, 2) := by decide +kernel
theorem dX6_best_11 : decode cX6_best 11 = .ok (.iload 4, 2) := by decide +kernel
theorem dX6_best_13 : decode cX6_best 13 = .ok (.bipush 122, 2) := by decide +kernel
theorem dX6_best_15 : decode cX6_best 15 = .ok (.if_icmp .gt 89, 3) := by decide +kernel
theorem dX6_best_18 : decode cX6_best 18 = .ok (.aload_n 0, 1) := by decide +kernel
theorem dX6_best_19 : decode cX6_best 19 = .ok (.iload 4, 2) := by decide +kernel
theorem dX6_best_21 : decode cX6_best 21 = .ok (.invokevirtual 139, 3) := by decide +kernel
theorem dX6_best_24 : decode cX6_best 24 = .ok (.ifCond .ne 74, 3) := by decide +kernel
theorem dX6_best_27 : decode cX6_best 27 = .ok (.aload_n 0, 1) := by decide +kernel
theorem dX6_best_28 : decode cX6_best 28 = .ok (.iload 4, 2) := by decide +kernel
theorem dX6_best_30 : decode cX6_best 30 = .ok (.invokevirtual 126, 3) := by decide +kernel
theorem dX6_best_33 : decode cX6_best 33 = .ok (.aload_n 0, 1) := by decide +kernel
theorem dX6_best_34 : decode cX6_best 34 = .ok (.iconst 0, 1) := by decide +kernel
theorem dX6_best_35 : decode cX6_best 35 = .ok (.invokevirtual 129, 3) := by decide +kernel
theorem dX6_best_38 : decode cX6_best 38 = .ok (.istore 5, 2) := by decide +kernel
theorem dX6_best_40 : decode cX6_best 40 = .ok (.iload_n 1, 1) := by decide +kernel
theorem dX6_best_41 : decode cX6_best 41 = .ok (.bipush (-6), 2) := by decide +kernel
theorem dX6_best_43 : decode cX6_best 43 = .ok (.if_icmp .eq 36, 3) := by decide +kernel
theorem dX6_best_46 : decode cX6_best 46 = .ok (.aload_n 0, 1) := by decide +kernel
theorem dX6_best_47 : decode cX6_best 47 = .ok (.getfield 28, 3) := by decide +kernel
theorem dX6_best_50 : decode cX6_best 50 = .ok (.iload 5, 2) := by decide +kernel
theorem dX6_best_52 : decode cX6_best 52 = .ok (.iaload, 1) := by decide +kernel
theorem dX6_best_53 : decode cX6_best 53 = .ok (.iload_n 2, 1) := by decide +kernel
theorem dX6_best_54 : decode cX6_best 54 = .ok (.if_icmp .lt 25, 3) := by decide +kernel
theorem dX6_best_57 : decode cX6_best 57 = .ok (.aload_n 0, 1) := by decide +kernel
theorem dX6_best_58 : decode cX6_best 58 = .ok (.getfield 28, 3) := by decide +kernel
theorem dX6_best_61 : decode cX6_best 61 = .ok (.iload 5, 2) := by decide +kernel
theorem dX6_best_63 : decode cX6_best 63 = .ok (.iaload, 1) := by decide +kernel
theorem dX6_best_64 : decode cX6_best 64 = .ok (.iload_n 2, 1) := by decide +kernel
theorem dX6_best_65 : decode cX6_best 65 = .ok (.if_icmp .ne 33, 3) := by decide +kernel
theorem dX6_best_68 : decode cX6_best 68 = .ok (.aload_n 0, 1) := by decide +kernel
theorem dX6_best_69 : decode cX6_best 69 = .ok (.getfield 31, 3) := by decide +kernel
theorem dX6_best_72 : decode cX6_best 72 = .ok (.iload 5, 2) := by decide +kernel
theorem dX6_best_74 : decode cX6_best 74 = .ok (.iaload, 1) := by decide +kernel
theorem dX6_best_75 : decode cX6_best 75 = .ok (.iload_n 3, 1) := by decide +kernel
theorem dX6_best_76 : decode cX6_best 76 = .ok (.if_icmp .le 22, 3) := by decide +kernel
theorem dX6_best_79 : decode cX6_best 79 = .ok (.iload 4, 2) := by decide +kernel
theorem dX6_best_81 : decode cX6_best 81 = .ok (.istore_n 1, 1) := by decide +kernel
theorem dX6_best_82 : decode cX6_best 82 = .ok (.aload_n 0, 1) := by decide +kernel
theorem dX6_best_83 : decode cX6_best 83 = .ok (.getfield 28, 3) := by decide +kernel
theorem dX6_best_86 : decode cX6_best 86 = .ok (.iload 5, 2) := by decide +kernel
theorem dX6_best_88 : decode cX6_best 88 = .ok (.iaload, 1) := by decide +kernel
theorem dX6_best_89 : decode cX6_best 89 = .ok (.istore_n 2, 1) := by decide +kernel
theorem dX6_best_90 : decode cX6_best 90 = .ok (.aload_n 0, 1) := by decide +kernel
theorem dX6_best_91 : decode cX6_best 91 = .ok (.getfield 31, 3) := by decide +kernel
theorem dX6_best_94 : decode cX6_best 94 = .ok (.iload 5, 2) := by decide +kernel
theorem dX6_best_96 : decode cX6_best 96 = .ok (.iaload, 1) := by decide +kernel
theorem dX6_best_97 : decode cX6_best 97 = .ok (.istore_n 3, 1) := by decide +kernel
theorem dX6_best_98 : decode cX6_best 98 = .ok (.iinc 4 1, 3) := by decide +kernel
theorem dX6_best_101 : decode cX6_best 101 = .ok (.goto (-90), 3) := by decide +kernel
theorem dX6_best_104 : decode cX6_best 104 = .ok (.iload_n 1, 1) := by decide +kernel
theorem dX6_best_105 : decode cX6_best 105 = .ok (.ireturn, 1) := by decide +kernel
set_option maxRecDepth 20000 in
theorem ggX6_bestGuess_X6_runs : GoodIn wsX6_bestGuess wsX6_runs := goodIn_r _ [5, 6, 56, 57, 58, 59, 60, 61, 62, 63, 64, 65, 66, 67] (by decide +kernel) (by decide +kernel)
set_option maxRecDepth 20000 in
theorem gX6_bestGuess_X6_runs : GoodIn wsX6_bestGuess (wsV RX6 70 RX6 yX6_runs wsX6_runs) := goodIn_app (goodIn_of _ (by decide +kernel)) ggX6_bestGuess_X6_runs
set_option maxRecDepth 20000 in
theorem ggX6_bestGuess_X6_best : GoodIn wsX6_bestGuess wsX6_best := goodIn_r _ [10, 11, 12, 13, 14, 15, 4, 16, 6, 17, 18, 19, 20, 21, 22, 23, 24, 25, 26, 27, 28, 29, 30, 31, 32, 33, 34, 35, 36, 37, 38, 39, 40, 41, 42, 43, 44, 45, 46, 47, 48, 49, 50, 51, 52, 53, 54, 55, 56, 57, 58, 59, 60, 61, 62, 63, 64, 65, 66, 67] (by decide +kernel) (by decide +kernel)
set_option maxRecDepth 20000 in
theorem gX6_bestGuess_X6_best : GoodIn wsX6_bestGuess (wsV RX6 155 RX6 yX6_best wsX6_best) := goodIn_app (goodIn_of _ (by decide +kernel)) ggX6_bestGuess_X6_best
theorem dX6_bestGuess_0 : decode cX6_bestGuess 0 = .ok (.aload_n 0, 1) := by decide +kernel
theorem dX6_bestGuess_1 : decode cX6_bestGuess 1 = .ok (.invokevirtual 70, 3) := by decide +kernel
theorem dX6_bestGuess_4 : decode cX6_bestGuess 4 = .ok (.ifCond .eq 10, 3) := by decide +kernel
theorem dX6_bestGuess_7 : decode cX6_bestGuess 7 = .ok (.aload_n 0, 1) := by decide +kernel
theorem dX6_bestGuess_8 : decode cX6_bestGuess 8 = .ok (.invokevirtual 155, 3) := by decide +kernel
theorem dX6_bestGuess_11 : decode cX6_bestGuess 11 = .ok (.goto 5, 3) := by decide +kernel
theorem dX6_bestGuess_14 : decode cX6_bestGuess 14 = .ok (.bipush (-3), 2) := by decide +kernel
theorem dX6_bestGuess_16 : decode cX6_bestGuess 16 = .ok (.ireturn, 1) := by decide +kernel
set_option maxRecDepth 20000 in
theorem ggX6_missesAhead_X6_runs : GoodIn wsX6_missesAhead wsX6_runs := goodIn_r _ [7, 1, 81, 82, 83, 84, 85, 86, 87, 88, 89, 90, 91, 92] (by decide +kernel) (by decide +kernel)
set_option maxRecDepth 20000 in
theorem gX6_missesAhead_X6_runs : GoodIn wsX6_missesAhead (wsV RX6 70 RX6 yX6_runs wsX6_runs) := goodIn_app (goodIn_of _ (by decide +kernel)) ggX6_missesAhead_X6_runs
set_option maxRecDepth 20000 in
theorem ggX6_missesAhead_X6_putAside : GoodIn wsX6_missesAhead wsX6_putAside := goodIn_r _ [11, 2, 1, 81, 82, 83, 84, 85, 86, 87, 88, 89, 90, 91, 92] (by decide +kernel) (by decide +kernel)
set_option maxRecDepth 20000 in
theorem gX6_missesAhead_X6_putAside : GoodIn wsX6_missesAhead (wsV RX6 74 RX6 yX6_putAside wsX6_putAside) := goodIn_app (goodIn_of _ (by decide +kernel)) ggX6_missesAhead_X6_putAside
set_option maxRecDepth 20000 in
theorem ggX6_missesAhead_X6_best : GoodIn wsX6_missesAhead wsX6_best := goodIn_r _ [15, 16, 17, 18, 19, 20, 6, 21, 1, 22, 23, 24, 25, 26, 27, 28, 29, 30, 31, 32, 33, 34, 35, 36, 37, 38, 39, 40, 41, 42, 43, 44, 45, 46, 47, 48, 49, 50, 51, 52, 53, 54, 55, 56, 57, 58, 59, 60, 81, 82, 83, 84, 85, 86, 87, 88, 89, 90, 91, 92] (by decide +kernel) (by decide +kernel)
set_option maxRecDepth 20000 in
theorem gX6_missesAhead_X6_best : GoodIn wsX6_missesAhead (wsV RX6 155 RX6 yX6_best wsX6_best) := goodIn_app (goodIn_of _ (by decide +kernel)) ggX6_missesAhead_X6_best
set_option maxRecDepth 20000 in
theorem ggX6_missesAhead_X6_guessesOn : GoodIn wsX6_missesAhead wsX6_guessesOn := goodIn_r _ [64, 26, 27, 1, 28, 17, 22, 23, 24, 6, 25, 29, 16, 30, 31, 32, 33, 34, 35, 36, 37, 38, 39, 40, 41, 42, 43, 44, 45, 46, 47, 48, 49, 50, 51, 52, 53, 54, 55, 56, 57, 58, 59, 60, 65, 66, 67, 68, 69, 70, 71, 72, 73, 74, 75, 76, 81, 82, 83, 84, 85, 86, 87, 88, 89, 90, 91, 92] (by decide +kernel) (by decide +kernel)
set_option maxRecDepth 20000 in
theorem gX6_missesAhead_X6_guessesOn : GoodIn wsX6_missesAhead (wsV RX6 142 RX6 yX6_guessesOn wsX6_guessesOn) := goodIn_app (goodIn_of _ (by decide +kernel)) ggX6_missesAhead_X6_guessesOn
set_option maxRecDepth 20000 in
theorem ggX6_missesAhead_X6_putBack : GoodIn wsX6_missesAhead wsX6_putBack := goodIn_r _ [80, 1, 2, 81, 82, 83, 84, 85, 86, 87, 88, 89, 90, 91, 92] (by decide +kernel) (by decide +kernel)
set_option maxRecDepth 20000 in
theorem gX6_missesAhead_X6_putBack : GoodIn wsX6_missesAhead (wsV RX6 89 RX6 yX6_putBack wsX6_putBack) := goodIn_app (goodIn_of _ (by decide +kernel)) ggX6_missesAhead_X6_putBack
theorem dX6_missesAhead_0 : decode cX6_missesAhead 0 = .ok (.aload_n 0, 1) := by decide +kernel
theorem dX6_missesAhead_1 : decode cX6_missesAhead 1 = .ok (.invokevirtual 70, 3) := by decide +kernel
theorem dX6_missesAhead_4 : decode cX6_missesAhead 4 = .ok (.ifCond .ne 6, 3) := by decide +kernel
theorem dX6_missesAhead_7 : decode cX6_missesAhead 7 = .ok (.bipush (-3), 2) := by decide +kernel
theorem dX6_missesAhead_9 : decode cX6_missesAhead 9 = .ok (.ireturn, 1) := by decide +kernel
theorem dX6_missesAhead_10 : decode cX6_missesAhead 10 = .ok (.aload_n 0, 1) := by decide +kernel
theorem dX6_missesAhead_11 : decode cX6_missesAhead 11 = .ok (.invokevirtual 74, 3) := by decide +kernel
theorem dX6_missesAhead_14 : decode cX6_missesAhead 14 = .ok (.aload_n 0, 1) := by decide +kernel
theorem dX6_missesAhead_15 : decode cX6_missesAhead 15 = .ok (.invokevirtual 155, 3) := by decide +kernel
theorem dX6_missesAhead_18 : decode cX6_missesAhead 18 = .ok (.istore_n 1, 1) := by decide +kernel
theorem dX6_missesAhead_19 : decode cX6_missesAhead 19 = .ok (.aload_n 0, 1) := by decide +kernel
theorem dX6_missesAhead_20 : decode cX6_missesAhead 20 = .ok (.invokevirtual 70, 3) := by decide +kernel
theorem dX6_missesAhead_23 : decode cX6_missesAhead 23 = .ok (.ifCond .eq 23, 3) := by decide +kernel
theorem dX6_missesAhead_26 : decode cX6_missesAhead 26 = .ok (.iload_n 1, 1) := by decide +kernel
theorem dX6_missesAhead_27 : decode cX6_missesAhead 27 = .ok (.bipush (-6), 2) := by decide +kernel
theorem dX6_missesAhead_29 : decode cX6_missesAhead 29 = .ok (.if_icmp .eq 17, 3) := by decide +kernel
theorem dX6_missesAhead_32 : decode cX6_missesAhead 32 = .ok (.aload_n 0, 1) := by decide +kernel
theorem dX6_missesAhead_33 : decode cX6_missesAhead 33 = .ok (.iload_n 1, 1) := by decide +kernel
theorem dX6_missesAhead_34 : decode cX6_missesAhead 34 = .ok (.invokevirtual 142, 3) := by decide +kernel
theorem dX6_missesAhead_37 : decode cX6_missesAhead 37 = .ok (.istore_n 2, 1) := by decide +kernel
theorem dX6_missesAhead_38 : decode cX6_missesAhead 38 = .ok (.aload_n 0, 1) := by decide +kernel
theorem dX6_missesAhead_39 : decode cX6_missesAhead 39 = .ok (.invokevirtual 155, 3) := by decide +kernel
theorem dX6_missesAhead_42 : decode cX6_missesAhead 42 = .ok (.istore_n 1, 1) := by decide +kernel
theorem dX6_missesAhead_43 : decode cX6_missesAhead 43 = .ok (.goto (-24), 3) := by decide +kernel
theorem dX6_missesAhead_46 : decode cX6_missesAhead 46 = .ok (.aload_n 0, 1) := by decide +kernel
theorem dX6_missesAhead_47 : decode cX6_missesAhead 47 = .ok (.getfield 7, 3) := by decide +kernel
theorem dX6_missesAhead_50 : decode cX6_missesAhead 50 = .ok (.bipush 13, 2) := by decide +kernel
theorem dX6_missesAhead_52 : decode cX6_missesAhead 52 = .ok (.iaload, 1) := by decide +kernel
theorem dX6_missesAhead_53 : decode cX6_missesAhead 53 = .ok (.aload_n 0, 1) := by decide +kernel
theorem dX6_missesAhead_54 : decode cX6_missesAhead 54 = .ok (.getfield 13, 3) := by decide +kernel
theorem dX6_missesAhead_57 : decode cX6_missesAhead 57 = .ok (.bipush 13, 2) := by decide +kernel
theorem dX6_missesAhead_59 : decode cX6_missesAhead 59 = .ok (.iaload, 1) := by decide +kernel
theorem dX6_missesAhead_60 : decode cX6_missesAhead 60 = .ok (.isub, 1) := by decide +kernel
theorem dX6_missesAhead_61 : decode cX6_missesAhead 61 = .ok (.istore_n 2, 1) := by decide +kernel
theorem dX6_missesAhead_62 : decode cX6_missesAhead 62 = .ok (.aload_n 0, 1) := by decide +kernel
theorem dX6_missesAhead_63 : decode cX6_missesAhead 63 = .ok (.invokevirtual 89, 3) := by decide +kernel
theorem dX6_missesAhead_66 : decode cX6_missesAhead 66 = .ok (.iload_n 2, 1) := by decide +kernel
theorem dX6_missesAhead_67 : decode cX6_missesAhead 67 = .ok (.ireturn, 1) := by decide +kernel
set_option maxRecDepth 20000 in
theorem ggX6_total_X6_in : GoodIn wsX6_total wsX6_in := goodIn_r _ [5] (by decide +kernel) (by decide +kernel)
set_option maxRecDepth 20000 in
theorem gX6_total_X6_in : GoodIn wsX6_total (va_wsS RX6 41 yX6_in wsX6_in) := goodIn_app (goodIn_of _ (by decide +kernel)) ggX6_total_X6_in
theorem dX6_total_0 : decode cX6_total 0 = .ok (.iload_n 1, 1) := by decide +kernel
theorem dX6_total_1 : decode cX6_total 1 = .ok (.iconst 0, 1) := by decide +kernel
theorem dX6_total_2 : decode cX6_total 2 = .ok (.bipush 6, 2) := by decide +kernel
theorem dX6_total_4 : decode cX6_total 4 = .ok (.invokestatic 41, 3) := by decide +kernel
theorem dX6_total_7 : decode cX6_total 7 = .ok (.ifCond .eq 15, 3) := by decide +kernel
theorem dX6_total_10 : decode cX6_total 10 = .ok (.aload_n 0, 1) := by decide +kernel
theorem dX6_total_11 : decode cX6_total 11 = .ok (.getfield 7, 3) := by decide +kernel
theorem dX6_total_14 : decode cX6_total 14 = .ok (.bipush 8, 2) := by decide +kernel
theorem dX6_total_16 : decode cX6_total 16 = .ok (.iload_n 1, 1) := by decide +kernel
theorem dX6_total_17 : decode cX6_total 17 = .ok (.iadd, 1) := by decide +kernel
theorem dX6_total_18 : decode cX6_total 18 = .ok (.iaload, 1) := by decide +kernel
theorem dX6_total_19 : decode cX6_total 19 = .ok (.goto 5, 3) := by decide +kernel
theorem dX6_total_22 : decode cX6_total 22 = .ok (.bipush (-2), 2) := by decide +kernel
theorem dX6_total_24 : decode cX6_total 24 = .ok (.ireturn, 1) := by decide +kernel
theorem dX6_undo_0 : decode cX6_undo 0 = .ok (.aload_n 0, 1) := by decide +kernel
theorem dX6_undo_1 : decode cX6_undo 1 = .ok (.getfield 45, 3) := by decide +kernel
theorem dX6_undo_4 : decode cX6_undo 4 = .ok (.ifCond .ne 6, 3) := by decide +kernel
theorem dX6_undo_7 : decode cX6_undo 7 = .ok (.bipush (-3), 2) := by decide +kernel
theorem dX6_undo_9 : decode cX6_undo 9 = .ok (.ireturn, 1) := by decide +kernel
theorem dX6_undo_10 : decode cX6_undo 10 = .ok (.aload_n 0, 1) := by decide +kernel
theorem dX6_undo_11 : decode cX6_undo 11 = .ok (.dup, 1) := by decide +kernel
theorem dX6_undo_12 : decode cX6_undo 12 = .ok (.getfield 45, 3) := by decide +kernel
theorem dX6_undo_15 : decode cX6_undo 15 = .ok (.iconst 1, 1) := by decide +kernel
theorem dX6_undo_16 : decode cX6_undo 16 = .ok (.isub, 1) := by decide +kernel
theorem dX6_undo_17 : decode cX6_undo 17 = .ok (.putfield 45, 3) := by decide +kernel
theorem dX6_undo_20 : decode cX6_undo 20 = .ok (.iconst 0, 1) := by decide +kernel
theorem dX6_undo_21 : decode cX6_undo 21 = .ok (.istore_n 1, 1) := by decide +kernel
theorem dX6_undo_22 : decode cX6_undo 22 = .ok (.iload_n 1, 1) := by decide +kernel
theorem dX6_undo_23 : decode cX6_undo 23 = .ok (.sipush 319, 3) := by decide +kernel
theorem dX6_undo_26 : decode cX6_undo 26 = .ok (.if_icmp .ge 30, 3) := by decide +kernel
theorem dX6_undo_29 : decode cX6_undo 29 = .ok (.aload_n 0, 1) := by decide +kernel
theorem dX6_undo_30 : decode cX6_undo 30 = .ok (.getfield 7, 3) := by decide +kernel
theorem dX6_undo_33 : decode cX6_undo 33 = .ok (.iload_n 1, 1) := by decide +kernel
theorem dX6_undo_34 : decode cX6_undo 34 = .ok (.aload_n 0, 1) := by decide +kernel
theorem dX6_undo_35 : decode cX6_undo 35 = .ok (.getfield 16, 3) := by decide +kernel
theorem dX6_undo_38 : decode cX6_undo 38 = .ok (.sipush 319, 3) := by decide +kernel
theorem dX6_undo_41 : decode cX6_undo 41 = .ok (.aload_n 0, 1) := by decide +kernel
theorem dX6_undo_42 : decode cX6_undo 42 = .ok (.getfield 45, 3) := by decide +kernel
theorem dX6_undo_45 : decode cX6_undo 45 = .ok (.imul, 1) := by decide +kernel
theorem dX6_undo_46 : decode cX6_undo 46 = .ok (.iload_n 1, 1) := by decide +kernel
theorem dX6_undo_47 : decode cX6_undo 47 = .ok (.iadd, 1) := by decide +kernel
theorem dX6_undo_48 : decode cX6_undo 48 = .ok (.iaload, 1) := by decide +kernel
theorem dX6_undo_49 : decode cX6_undo 49 = .ok (.iastore, 1) := by decide +kernel
theorem dX6_undo_50 : decode cX6_undo 50 = .ok (.iinc 1 1, 3) := by decide +kernel
theorem dX6_undo_53 : decode cX6_undo 53 = .ok (.goto (-31), 3) := by decide +kernel
theorem dX6_undo_56 : decode cX6_undo 56 = .ok (.aload_n 0, 1) := by decide +kernel
theorem dX6_undo_57 : decode cX6_undo 57 = .ok (.getfield 45, 3) := by decide +kernel
theorem dX6_undo_60 : decode cX6_undo 60 = .ok (.ireturn, 1) := by decide +kernel
set_option maxRecDepth 20000 in
theorem ggX6_digest_X6_letter : GoodIn wsX6_digest wsX6_letter := goodIn_r _ [8, 2, 74, 75, 76, 77, 78, 79, 80, 81, 82, 83, 84, 85] (by decide +kernel) (by decide +kernel)
set_option maxRecDepth 20000 in
theorem gX6_digest_X6_letter : GoodIn wsX6_digest (wsV RX6 59 RX6 yX6_letter wsX6_letter) := goodIn_app (goodIn_of _ (by decide +kernel)) ggX6_digest_X6_letter
set_option maxRecDepth 20000 in
theorem ggX6_digest_X6_shown : GoodIn wsX6_digest wsX6_shown := goodIn_r _ [12, 2, 13, 14, 7, 15, 74, 75, 76, 77, 78, 79, 80, 81, 82, 83, 84, 85] (by decide +kernel) (by decide +kernel)
set_option maxRecDepth 20000 in
theorem gX6_digest_X6_shown : GoodIn wsX6_digest (wsV RX6 162 RX6 yX6_shown wsX6_shown) := goodIn_app (goodIn_of _ (by decide +kernel)) ggX6_digest_X6_shown
set_option maxRecDepth 20000 in
theorem ggX6_digest_X6_candidates : GoodIn wsX6_digest wsX6_candidates := goodIn_r _ [19, 2, 20, 21, 7, 22, 74, 75, 76, 77, 78, 79, 80, 81, 82, 83, 84, 85] (by decide +kernel) (by decide +kernel)
set_option maxRecDepth 20000 in
theorem gX6_digest_X6_candidates : GoodIn wsX6_digest (wsV RX6 165 RX6 yX6_candidates wsX6_candidates) := goodIn_app (goodIn_of _ (by decide +kernel)) ggX6_digest_X6_candidates
set_option maxRecDepth 20000 in
theorem ggX6_digest_X6_isCandidate : GoodIn wsX6_digest wsX6_isCandidate := goodIn_r _ [26, 2, 74, 75, 76, 77, 78, 79, 80, 81, 82, 83, 84, 85] (by decide +kernel) (by decide +kernel)
set_option maxRecDepth 20000 in
theorem gX6_digest_X6_isCandidate : GoodIn wsX6_digest (wsV RX6 101 RX6 yX6_isCandidate wsX6_isCandidate) := goodIn_app (goodIn_of _ (by decide +kernel)) ggX6_digest_X6_isCandidate
set_option maxRecDepth 20000 in
theorem ggX6_digest_X6_runs : GoodIn wsX6_digest wsX6_runs := goodIn_r _ [30, 2, 74, 75, 76, 77, 78, 79, 80, 81, 82, 83, 84, 85] (by decide +kernel) (by decide +kernel)
set_option maxRecDepth 20000 in
theorem gX6_digest_X6_runs : GoodIn wsX6_digest (wsV RX6 70 RX6 yX6_runs wsX6_runs) := goodIn_app (goodIn_of _ (by decide +kernel)) ggX6_digest_X6_runs
set_option maxRecDepth 20000 in
theorem ggX6_digest_X6_sure : GoodIn wsX6_digest wsX6_sure := goodIn_r _ [34, 2, 35, 23, 24, 25, 7, 26, 36, 37, 38, 39, 4, 5, 6, 8, 74, 75, 76, 77, 78, 79, 80, 81, 82, 83, 84, 85] (by decide +kernel) (by decide +kernel)
set_option maxRecDepth 20000 in
theorem gX6_digest_X6_sure : GoodIn wsX6_digest (wsV RX6 152 RX6 yX6_sure wsX6_sure) := goodIn_app (goodIn_of _ (by decide +kernel)) ggX6_digest_X6_sure
set_option maxRecDepth 20000 in
theorem ggX6_digest_X6_best : GoodIn wsX6_digest wsX6_best := goodIn_r _ [43, 44, 45, 46, 47, 48, 7, 49, 2, 50, 51, 52, 53, 54, 55, 56, 57, 23, 24, 25, 26, 58, 59, 60, 61, 4, 5, 6, 8, 62, 63, 64, 65, 36, 37, 38, 39, 20, 21, 22, 66, 67, 68, 69, 70, 71, 72, 73, 74, 75, 76, 77, 78, 79, 80, 81, 82, 83, 84, 85] (by decide +kernel) (by decide +kernel)
set_option maxRecDepth 20000 in
theorem gX6_digest_X6_best : GoodIn wsX6_digest (wsV RX6 155 RX6 yX6_best wsX6_best) := goodIn_app (goodIn_of _ (by decide +kernel)) ggX6_digest_X6_best
theorem dX6_digest_0 : decode cX6_digest 0 = .ok (.ldc2_w 158, 3) := by decide +kernel
theorem dX6_digest_3 : decode cX6_digest 3 = .ok (.aload_n 0, 1) := by decide +kernel
theorem dX6_digest_4 : decode cX6_digest 4 = .ok (.getfield 7, 3) := by decide +kernel
theorem dX6_digest_7 : decode cX6_digest 7 = .ok (.iconst 0, 1) := by decide +kernel
theorem dX6_digest_8 : decode cX6_digest 8 = .ok (.iaload, 1) := by decide +kernel
theorem dX6_digest_9 : decode cX6_digest 9 = .ok (.i2l, 1) := by decide +kernel
theorem dX6_digest_10 : decode cX6_digest 10 = .ok (.ladd, 1) := by decide +kernel
theorem dX6_digest_11 : decode cX6_digest 11 = .ok (.lstore_n 1, 1) := by decide +kernel
theorem dX6_digest_12 : decode cX6_digest 12 = .ok (.iconst 0, 1) := by decide +kernel
theorem dX6_digest_13 : decode cX6_digest 13 = .ok (.istore_n 3, 1) := by decide +kernel
theorem dX6_digest_14 : decode cX6_digest 14 = .ok (.iload_n 3, 1) := by decide +kernel
theorem dX6_digest_15 : decode cX6_digest 15 = .ok (.aload_n 0, 1) := by decide +kernel
theorem dX6_digest_16 : decode cX6_digest 16 = .ok (.getfield 7, 3) := by decide +kernel
theorem dX6_digest_19 : decode cX6_digest 19 = .ok (.iconst 0, 1) := by decide +kernel
theorem dX6_digest_20 : decode cX6_digest 20 = .ok (.iaload, 1) := by decide +kernel
theorem dX6_digest_21 : decode cX6_digest 21 = .ok (.if_icmp .ge 64, 3) := by decide +kernel
theorem dX6_digest_24 : decode cX6_digest 24 = .ok (.ldc2_w 160, 3) := by decide +kernel
theorem dX6_digest_27 : decode cX6_digest 27 = .ok (.lload_n 1, 1) := by decide +kernel
theorem dX6_digest_28 : decode cX6_digest 28 = .ok (.lmul, 1) := by decide +kernel
theorem dX6_digest_29 : decode cX6_digest 29 = .ok (.aload_n 0, 1) := by decide +kernel
theorem dX6_digest_30 : decode cX6_digest 30 = .ok (.getfield 7, 3) := by decide +kernel
theorem dX6_digest_33 : decode cX6_digest 33 = .ok (.bipush 49, 2) := by decide +kernel
theorem dX6_digest_35 : decode cX6_digest 35 = .ok (.iload_n 3, 1) := by decide +kernel
theorem dX6_digest_36 : decode cX6_digest 36 = .ok (.iadd, 1) := by decide +kernel
theorem dX6_digest_37 : decode cX6_digest 37 = .ok (.iaload, 1) := by decide +kernel
theorem dX6_digest_38 : decode cX6_digest 38 = .ok (.i2l, 1) := by decide +kernel
theorem dX6_digest_39 : decode cX6_digest 39 = .ok (.ladd, 1) := by decide +kernel
theorem dX6_digest_40 : decode cX6_digest 40 = .ok (.lstore_n 1, 1) := by decide +kernel
theorem dX6_digest_41 : decode cX6_digest 41 = .ok (.iconst 0, 1) := by decide +kernel
theorem dX6_digest_42 : decode cX6_digest 42 = .ok (.istore 4, 2) := by decide +kernel
theorem dX6_digest_44 : decode cX6_digest 44 = .ok (.iload 4, 2) := by decide +kernel
theorem dX6_digest_46 : decode cX6_digest 46 = .ok (.aload_n 0, 1) := by decide +kernel
theorem dX6_digest_47 : decode cX6_digest 47 = .ok (.getfield 7, 3) := by decide +kernel
theorem dX6_digest_50 : decode cX6_digest 50 = .ok (.bipush 49, 2) := by decide +kernel
theorem dX6_digest_52 : decode cX6_digest 52 = .ok (.iload_n 3, 1) := by decide +kernel
theorem dX6_digest_53 : decode cX6_digest 53 = .ok (.iadd, 1) := by decide +kernel
theorem dX6_digest_54 : decode cX6_digest 54 = .ok (.iaload, 1) := by decide +kernel
theorem dX6_digest_55 : decode cX6_digest 55 = .ok (.if_icmp .ge 24, 3) := by decide +kernel
theorem dX6_digest_58 : decode cX6_digest 58 = .ok (.ldc2_w 160, 3) := by decide +kernel
theorem dX6_digest_61 : decode cX6_digest 61 = .ok (.lload_n 1, 1) := by decide +kernel
theorem dX6_digest_62 : decode cX6_digest 62 = .ok (.lmul, 1) := by decide +kernel
theorem dX6_digest_63 : decode cX6_digest 63 = .ok (.aload_n 0, 1) := by decide +kernel
theorem dX6_digest_64 : decode cX6_digest 64 = .ok (.iload_n 3, 1) := by decide +kernel
theorem dX6_digest_65 : decode cX6_digest 65 = .ok (.iload 4, 2) := by decide +kernel
theorem dX6_digest_67 : decode cX6_digest 67 = .ok (.invokevirtual 59, 3) := by decide +kernel
theorem dX6_digest_70 : decode cX6_digest 70 = .ok (.i2l, 1) := by decide +kernel
theorem dX6_digest_71 : decode cX6_digest 71 = .ok (.ladd, 1) := by decide +kernel
theorem dX6_digest_72 : decode cX6_digest 72 = .ok (.lstore_n 1, 1) := by decide +kernel
theorem dX6_digest_73 : decode cX6_digest 73 = .ok (.iinc 4 1, 3) := by decide +kernel
theorem dX6_digest_76 : decode cX6_digest 76 = .ok (.goto (-32), 3) := by decide +kernel
theorem dX6_digest_79 : decode cX6_digest 79 = .ok (.iinc 3 1, 3) := by decide +kernel
theorem dX6_digest_82 : decode cX6_digest 82 = .ok (.goto (-68), 3) := by decide +kernel
theorem dX6_digest_85 : decode cX6_digest 85 = .ok (.ldc2_w 160, 3) := by decide +kernel
theorem dX6_digest_88 : decode cX6_digest 88 = .ok (.lload_n 1, 1) := by decide +kernel
theorem dX6_digest_89 : decode cX6_digest 89 = .ok (.lmul, 1) := by decide +kernel
theorem dX6_digest_90 : decode cX6_digest 90 = .ok (.aload_n 0, 1) := by decide +kernel
theorem dX6_digest_91 : decode cX6_digest 91 = .ok (.getfield 7, 3) := by decide +kernel
theorem dX6_digest_94 : decode cX6_digest 94 = .ok (.iconst 2, 1) := by decide +kernel
theorem dX6_digest_95 : decode cX6_digest 95 = .ok (.iaload, 1) := by decide +kernel
theorem dX6_digest_96 : decode cX6_digest 96 = .ok (.i2l, 1) := by decide +kernel
theorem dX6_digest_97 : decode cX6_digest 97 = .ok (.ladd, 1) := by decide +kernel
theorem dX6_digest_98 : decode cX6_digest 98 = .ok (.lstore_n 1, 1) := by decide +kernel
theorem dX6_digest_99 : decode cX6_digest 99 = .ok (.ldc2_w 160, 3) := by decide +kernel
theorem dX6_digest_102 : decode cX6_digest 102 = .ok (.lload_n 1, 1) := by decide +kernel
theorem dX6_digest_103 : decode cX6_digest 103 = .ok (.lmul, 1) := by decide +kernel
theorem dX6_digest_104 : decode cX6_digest 104 = .ok (.aload_n 0, 1) := by decide +kernel
theorem dX6_digest_105 : decode cX6_digest 105 = .ok (.getfield 7, 3) := by decide +kernel
theorem dX6_digest_108 : decode cX6_digest 108 = .ok (.iconst 4, 1) := by decide +kernel
theorem dX6_digest_109 : decode cX6_digest 109 = .ok (.iaload, 1) := by decide +kernel
theorem dX6_digest_110 : decode cX6_digest 110 = .ok (.i2l, 1) := by decide +kernel
theorem dX6_digest_111 : decode cX6_digest 111 = .ok (.ladd, 1) := by decide +kernel
theorem dX6_digest_112 : decode cX6_digest 112 = .ok (.lstore_n 1, 1) := by decide +kernel
theorem dX6_digest_113 : decode cX6_digest 113 = .ok (.iconst 0, 1) := by decide +kernel
theorem dX6_digest_114 : decode cX6_digest 114 = .ok (.istore_n 3, 1) := by decide +kernel
theorem dX6_digest_115 : decode cX6_digest 115 = .ok (.iload_n 3, 1) := by decide +kernel
theorem dX6_digest_116 : decode cX6_digest 116 = .ok (.aload_n 0, 1) := by decide +kernel
theorem dX6_digest_117 : decode cX6_digest 117 = .ok (.getfield 7, 3) := by decide +kernel
theorem dX6_digest_120 : decode cX6_digest 120 = .ok (.iconst 3, 1) := by decide +kernel
theorem dX6_digest_121 : decode cX6_digest 121 = .ok (.iaload, 1) := by decide +kernel
theorem dX6_digest_122 : decode cX6_digest 122 = .ok (.if_icmp .ge 22, 3) := by decide +kernel
theorem dX6_digest_125 : decode cX6_digest 125 = .ok (.ldc2_w 160, 3) := by decide +kernel
theorem dX6_digest_128 : decode cX6_digest 128 = .ok (.lload_n 1, 1) := by decide +kernel
theorem dX6_digest_129 : decode cX6_digest 129 = .ok (.lmul, 1) := by decide +kernel
theorem dX6_digest_130 : decode cX6_digest 130 = .ok (.aload_n 0, 1) := by decide +kernel
theorem dX6_digest_131 : decode cX6_digest 131 = .ok (.iload_n 3, 1) := by decide +kernel
theorem dX6_digest_132 : decode cX6_digest 132 = .ok (.invokevirtual 162, 3) := by decide +kernel
theorem dX6_digest_135 : decode cX6_digest 135 = .ok (.i2l, 1) := by decide +kernel
theorem dX6_digest_136 : decode cX6_digest 136 = .ok (.ladd, 1) := by decide +kernel
theorem dX6_digest_137 : decode cX6_digest 137 = .ok (.lstore_n 1, 1) := by decide +kernel
theorem dX6_digest_138 : decode cX6_digest 138 = .ok (.iinc 3 1, 3) := by decide +kernel
theorem dX6_digest_141 : decode cX6_digest 141 = .ok (.goto (-26), 3) := by decide +kernel
theorem dX6_digest_144 : decode cX6_digest 144 = .ok (.ldc2_w 160, 3) := by decide +kernel
theorem dX6_digest_147 : decode cX6_digest 147 = .ok (.lload_n 1, 1) := by decide +kernel
theorem dX6_digest_148 : decode cX6_digest 148 = .ok (.lmul, 1) := by decide +kernel
theorem dX6_digest_149 : decode cX6_digest 149 = .ok (.aload_n 0, 1) := by decide +kernel
theorem dX6_digest_150 : decode cX6_digest 150 = .ok (.invokevirtual 165, 3) := by decide +kernel
theorem dX6_digest_153 : decode cX6_digest 153 = .ok (.i2l, 1) := by decide +kernel
theorem dX6_digest_154 : decode cX6_digest 154 = .ok (.ladd, 1) := by decide +kernel
theorem dX6_digest_155 : decode cX6_digest 155 = .ok (.lstore_n 1, 1) := by decide +kernel
theorem dX6_digest_156 : decode cX6_digest 156 = .ok (.iconst 0, 1) := by decide +kernel
theorem dX6_digest_157 : decode cX6_digest 157 = .ok (.istore_n 3, 1) := by decide +kernel
theorem dX6_digest_158 : decode cX6_digest 158 = .ok (.iload_n 3, 1) := by decide +kernel
theorem dX6_digest_159 : decode cX6_digest 159 = .ok (.aload_n 0, 1) := by decide +kernel
theorem dX6_digest_160 : decode cX6_digest 160 = .ok (.getfield 7, 3) := by decide +kernel
theorem dX6_digest_163 : decode cX6_digest 163 = .ok (.iconst 0, 1) := by decide +kernel
theorem dX6_digest_164 : decode cX6_digest 164 = .ok (.iaload, 1) := by decide +kernel
theorem dX6_digest_165 : decode cX6_digest 165 = .ok (.if_icmp .ge 30, 3) := by decide +kernel
theorem dX6_digest_168 : decode cX6_digest 168 = .ok (.aload_n 0, 1) := by decide +kernel
theorem dX6_digest_169 : decode cX6_digest 169 = .ok (.iload_n 3, 1) := by decide +kernel
theorem dX6_digest_170 : decode cX6_digest 170 = .ok (.invokevirtual 101, 3) := by decide +kernel
theorem dX6_digest_173 : decode cX6_digest 173 = .ok (.ifCond .eq 14, 3) := by decide +kernel
theorem dX6_digest_176 : decode cX6_digest 176 = .ok (.ldc2_w 160, 3) := by decide +kernel
theorem dX6_digest_179 : decode cX6_digest 179 = .ok (.lload_n 1, 1) := by decide +kernel
theorem dX6_digest_180 : decode cX6_digest 180 = .ok (.lmul, 1) := by decide +kernel
theorem dX6_digest_181 : decode cX6_digest 181 = .ok (.iload_n 3, 1) := by decide +kernel
theorem dX6_digest_182 : decode cX6_digest 182 = .ok (.i2l, 1) := by decide +kernel
theorem dX6_digest_183 : decode cX6_digest 183 = .ok (.ladd, 1) := by decide +kernel
theorem dX6_digest_184 : decode cX6_digest 184 = .ok (.goto 4, 3) := by decide +kernel
theorem dX6_digest_187 : decode cX6_digest 187 = .ok (.lload_n 1, 1) := by decide +kernel
theorem dX6_digest_188 : decode cX6_digest 188 = .ok (.lstore_n 1, 1) := by decide +kernel
theorem dX6_digest_189 : decode cX6_digest 189 = .ok (.iinc 3 1, 3) := by decide +kernel
theorem dX6_digest_192 : decode cX6_digest 192 = .ok (.goto (-34), 3) := by decide +kernel
theorem dX6_digest_195 : decode cX6_digest 195 = .ok (.ldc2_w 160, 3) := by decide +kernel
theorem dX6_digest_198 : decode cX6_digest 198 = .ok (.lload_n 1, 1) := by decide +kernel
theorem dX6_digest_199 : decode cX6_digest 199 = .ok (.lmul, 1) := by decide +kernel
theorem dX6_digest_200 : decode cX6_digest 200 = .ok (.aload_n 0, 1) := by decide +kernel
theorem dX6_digest_201 : decode cX6_digest 201 = .ok (.getfield 7, 3) := by decide +kernel
theorem dX6_digest_204 : decode cX6_digest 204 = .ok (.bipush 6, 2) := by decide +kernel
theorem dX6_digest_206 : decode cX6_digest 206 = .ok (.iaload, 1) := by decide +kernel
theorem dX6_digest_207 : decode cX6_digest 207 = .ok (.i2l, 1) := by decide +kernel
theorem dX6_digest_208 : decode cX6_digest 208 = .ok (.ladd, 1) := by decide +kernel
theorem dX6_digest_209 : decode cX6_digest 209 = .ok (.lstore_n 1, 1) := by decide +kernel
theorem dX6_digest_210 : decode cX6_digest 210 = .ok (.iconst 0, 1) := by decide +kernel
theorem dX6_digest_211 : decode cX6_digest 211 = .ok (.istore_n 3, 1) := by decide +kernel
theorem dX6_digest_212 : decode cX6_digest 212 = .ok (.iload_n 3, 1) := by decide +kernel
theorem dX6_digest_213 : decode cX6_digest 213 = .ok (.aload_n 0, 1) := by decide +kernel
theorem dX6_digest_214 : decode cX6_digest 214 = .ok (.getfield 7, 3) := by decide +kernel
theorem dX6_digest_217 : decode cX6_digest 217 = .ok (.bipush 6, 2) := by decide +kernel
theorem dX6_digest_219 : decode cX6_digest 219 = .ok (.iaload, 1) := by decide +kernel
theorem dX6_digest_220 : decode cX6_digest 220 = .ok (.if_icmp .ge 26, 3) := by decide +kernel
theorem dX6_digest_223 : decode cX6_digest 223 = .ok (.ldc2_w 160, 3) := by decide +kernel
theorem dX6_digest_226 : decode cX6_digest 226 = .ok (.lload_n 1, 1) := by decide +kernel
theorem dX6_digest_227 : decode cX6_digest 227 = .ok (.lmul, 1) := by decide +kernel
theorem dX6_digest_228 : decode cX6_digest 228 = .ok (.aload_n 0, 1) := by decide +kernel
theorem dX6_digest_229 : decode cX6_digest 229 = .ok (.getfield 7, 3) := by decide +kernel
theorem dX6_digest_232 : decode cX6_digest 232 = .ok (.bipush 15, 2) := by decide +kernel
theorem dX6_digest_234 : decode cX6_digest 234 = .ok (.iload_n 3, 1) := by decide +kernel
theorem dX6_digest_235 : decode cX6_digest 235 = .ok (.iadd, 1) := by decide +kernel
theorem dX6_digest_236 : decode cX6_digest 236 = .ok (.iaload, 1) := by decide +kernel
theorem dX6_digest_237 : decode cX6_digest 237 = .ok (.i2l, 1) := by decide +kernel
theorem dX6_digest_238 : decode cX6_digest 238 = .ok (.ladd, 1) := by decide +kernel
theorem dX6_digest_239 : decode cX6_digest 239 = .ok (.lstore_n 1, 1) := by decide +kernel
theorem dX6_digest_240 : decode cX6_digest 240 = .ok (.iinc 3 1, 3) := by decide +kernel
theorem dX6_digest_243 : decode cX6_digest 243 = .ok (.goto (-31), 3) := by decide +kernel
theorem dX6_digest_246 : decode cX6_digest 246 = .ok (.aload_n 0, 1) := by decide +kernel
theorem dX6_digest_247 : decode cX6_digest 247 = .ok (.invokevirtual 70, 3) := by decide +kernel
theorem dX6_digest_250 : decode cX6_digest 250 = .ok (.ifCond .eq 27, 3) := by decide +kernel
theorem dX6_digest_253 : decode cX6_digest 253 = .ok (.ldc2_w 160, 3) := by decide +kernel
theorem dX6_digest_256 : decode cX6_digest 256 = .ok (.lload_n 1, 1) := by decide +kernel
theorem dX6_digest_257 : decode cX6_digest 257 = .ok (.lmul, 1) := by decide +kernel
theorem dX6_digest_258 : decode cX6_digest 258 = .ok (.aload_n 0, 1) := by decide +kernel
theorem dX6_digest_259 : decode cX6_digest 259 = .ok (.invokevirtual 152, 3) := by decide +kernel
theorem dX6_digest_262 : decode cX6_digest 262 = .ok (.i2l, 1) := by decide +kernel
theorem dX6_digest_263 : decode cX6_digest 263 = .ok (.ladd, 1) := by decide +kernel
theorem dX6_digest_264 : decode cX6_digest 264 = .ok (.lstore_n 1, 1) := by decide +kernel
theorem dX6_digest_265 : decode cX6_digest 265 = .ok (.ldc2_w 160, 3) := by decide +kernel
theorem dX6_digest_268 : decode cX6_digest 268 = .ok (.lload_n 1, 1) := by decide +kernel
theorem dX6_digest_269 : decode cX6_digest 269 = .ok (.lmul, 1) := by decide +kernel
theorem dX6_digest_270 : decode cX6_digest 270 = .ok (.aload_n 0, 1) := by decide +kernel
theorem dX6_digest_271 : decode cX6_digest 271 = .ok (.invokevirtual 155, 3) := by decide +kernel
theorem dX6_digest_274 : decode cX6_digest 274 = .ok (.i2l, 1) := by decide +kernel
theorem dX6_digest_275 : decode cX6_digest 275 = .ok (.ladd, 1) := by decide +kernel
theorem dX6_digest_276 : decode cX6_digest 276 = .ok (.lstore_n 1, 1) := by decide +kernel
theorem dX6_digest_277 : decode cX6_digest 277 = .ok (.iconst 0, 1) := by decide +kernel
theorem dX6_digest_278 : decode cX6_digest 278 = .ok (.istore_n 3, 1) := by decide +kernel
theorem dX6_digest_279 : decode cX6_digest 279 = .ok (.iload_n 3, 1) := by decide +kernel
theorem dX6_digest_280 : decode cX6_digest 280 = .ok (.bipush 6, 2) := by decide +kernel
theorem dX6_digest_282 : decode cX6_digest 282 = .ok (.if_icmp .gt 26, 3) := by decide +kernel
theorem dX6_digest_285 : decode cX6_digest 285 = .ok (.ldc2_w 160, 3) := by decide +kernel
theorem dX6_digest_288 : decode cX6_digest 288 = .ok (.lload_n 1, 1) := by decide +kernel
theorem dX6_digest_289 : decode cX6_digest 289 = .ok (.lmul, 1) := by decide +kernel
theorem dX6_digest_290 : decode cX6_digest 290 = .ok (.aload_n 0, 1) := by decide +kernel
theorem dX6_digest_291 : decode cX6_digest 291 = .ok (.getfield 7, 3) := by decide +kernel
theorem dX6_digest_294 : decode cX6_digest 294 = .ok (.bipush 8, 2) := by decide +kernel
theorem dX6_digest_296 : decode cX6_digest 296 = .ok (.iload_n 3, 1) := by decide +kernel
theorem dX6_digest_297 : decode cX6_digest 297 = .ok (.iadd, 1) := by decide +kernel
theorem dX6_digest_298 : decode cX6_digest 298 = .ok (.iaload, 1) := by decide +kernel
theorem dX6_digest_299 : decode cX6_digest 299 = .ok (.i2l, 1) := by decide +kernel
theorem dX6_digest_300 : decode cX6_digest 300 = .ok (.ladd, 1) := by decide +kernel
theorem dX6_digest_301 : decode cX6_digest 301 = .ok (.lstore_n 1, 1) := by decide +kernel
theorem dX6_digest_302 : decode cX6_digest 302 = .ok (.iinc 3 1, 3) := by decide +kernel
theorem dX6_digest_305 : decode cX6_digest 305 = .ok (.goto (-26), 3) := by decide +kernel
theorem dX6_digest_308 : decode cX6_digest 308 = .ok (.lload_n 1, 1) := by decide +kernel
theorem dX6_digest_309 : decode cX6_digest 309 = .ok (.lreturn, 1) := by decide +kernel
theorem dJ6_bitCount_0f7a4_0 : decode cJ6_bitCount_0f7a4 0 = .ok (.iload_n 0, 1) := by decide +kernel
theorem dJ6_bitCount_0f7a4_1 : decode cJ6_bitCount_0f7a4 1 = .ok (.iload_n 0, 1) := by decide +kernel
theorem dJ6_bitCount_0f7a4_2 : decode cJ6_bitCount_0f7a4 2 = .ok (.iconst 1, 1) := by decide +kernel
theorem dJ6_bitCount_0f7a4_3 : decode cJ6_bitCount_0f7a4 3 = .ok (.iushr, 1) := by decide +kernel
theorem dJ6_bitCount_0f7a4_4 : decode cJ6_bitCount_0f7a4 4 = .ok (.ldc_w 265, 3) := by decide +kernel
theorem dJ6_bitCount_0f7a4_7 : decode cJ6_bitCount_0f7a4 7 = .ok (.iand, 1) := by decide +kernel
theorem dJ6_bitCount_0f7a4_8 : decode cJ6_bitCount_0f7a4 8 = .ok (.isub, 1) := by decide +kernel
theorem dJ6_bitCount_0f7a4_9 : decode cJ6_bitCount_0f7a4 9 = .ok (.istore_n 0, 1) := by decide +kernel
theorem dJ6_bitCount_0f7a4_10 : decode cJ6_bitCount_0f7a4 10 = .ok (.iload_n 0, 1) := by decide +kernel
theorem dJ6_bitCount_0f7a4_11 : decode cJ6_bitCount_0f7a4 11 = .ok (.ldc_w 266, 3) := by decide +kernel
theorem dJ6_bitCount_0f7a4_14 : decode cJ6_bitCount_0f7a4 14 = .ok (.iand, 1) := by decide +kernel
theorem dJ6_bitCount_0f7a4_15 : decode cJ6_bitCount_0f7a4 15 = .ok (.iload_n 0, 1) := by decide +kernel
theorem dJ6_bitCount_0f7a4_16 : decode cJ6_bitCount_0f7a4 16 = .ok (.iconst 2, 1) := by decide +kernel
theorem dJ6_bitCount_0f7a4_17 : decode cJ6_bitCount_0f7a4 17 = .ok (.iushr, 1) := by decide +kernel
theorem dJ6_bitCount_0f7a4_18 : decode cJ6_bitCount_0f7a4 18 = .ok (.ldc_w 266, 3) := by decide +kernel
theorem dJ6_bitCount_0f7a4_21 : decode cJ6_bitCount_0f7a4 21 = .ok (.iand, 1) := by decide +kernel
theorem dJ6_bitCount_0f7a4_22 : decode cJ6_bitCount_0f7a4 22 = .ok (.iadd, 1) := by decide +kernel
theorem dJ6_bitCount_0f7a4_23 : decode cJ6_bitCount_0f7a4 23 = .ok (.istore_n 0, 1) := by decide +kernel
theorem dJ6_bitCount_0f7a4_24 : decode cJ6_bitCount_0f7a4 24 = .ok (.iload_n 0, 1) := by decide +kernel
theorem dJ6_bitCount_0f7a4_25 : decode cJ6_bitCount_0f7a4 25 = .ok (.iload_n 0, 1) := by decide +kernel
theorem dJ6_bitCount_0f7a4_26 : decode cJ6_bitCount_0f7a4 26 = .ok (.iconst 4, 1) := by decide +kernel
theorem dJ6_bitCount_0f7a4_27 : decode cJ6_bitCount_0f7a4 27 = .ok (.iushr, 1) := by decide +kernel
theorem dJ6_bitCount_0f7a4_28 : decode cJ6_bitCount_0f7a4 28 = .ok (.iadd, 1) := by decide +kernel
theorem dJ6_bitCount_0f7a4_29 : decode cJ6_bitCount_0f7a4 29 = .ok (.ldc_w 267, 3) := by decide +kernel
theorem dJ6_bitCount_0f7a4_32 : decode cJ6_bitCount_0f7a4 32 = .ok (.iand, 1) := by decide +kernel
theorem dJ6_bitCount_0f7a4_33 : decode cJ6_bitCount_0f7a4 33 = .ok (.istore_n 0, 1) := by decide +kernel
theorem dJ6_bitCount_0f7a4_34 : decode cJ6_bitCount_0f7a4 34 = .ok (.iload_n 0, 1) := by decide +kernel
theorem dJ6_bitCount_0f7a4_35 : decode cJ6_bitCount_0f7a4 35 = .ok (.iload_n 0, 1) := by decide +kernel
theorem dJ6_bitCount_0f7a4_36 : decode cJ6_bitCount_0f7a4 36 = .ok (.bipush 8, 2) := by decide +kernel
theorem dJ6_bitCount_0f7a4_38 : decode cJ6_bitCount_0f7a4 38 = .ok (.iushr, 1) := by decide +kernel
theorem dJ6_bitCount_0f7a4_39 : decode cJ6_bitCount_0f7a4 39 = .ok (.iadd, 1) := by decide +kernel
theorem dJ6_bitCount_0f7a4_40 : decode cJ6_bitCount_0f7a4 40 = .ok (.istore_n 0, 1) := by decide +kernel
theorem dJ6_bitCount_0f7a4_41 : decode cJ6_bitCount_0f7a4 41 = .ok (.iload_n 0, 1) := by decide +kernel
theorem dJ6_bitCount_0f7a4_42 : decode cJ6_bitCount_0f7a4 42 = .ok (.iload_n 0, 1) := by decide +kernel
theorem dJ6_bitCount_0f7a4_43 : decode cJ6_bitCount_0f7a4 43 = .ok (.bipush 16, 2) := by decide +kernel
theorem dJ6_bitCount_0f7a4_45 : decode cJ6_bitCount_0f7a4 45 = .ok (.iushr, 1) := by decide +kernel
theorem dJ6_bitCount_0f7a4_46 : decode cJ6_bitCount_0f7a4 46 = .ok (.iadd, 1) := by decide +kernel
theorem dJ6_bitCount_0f7a4_47 : decode cJ6_bitCount_0f7a4 47 = .ok (.istore_n 0, 1) := by decide +kernel
theorem dJ6_bitCount_0f7a4_48 : decode cJ6_bitCount_0f7a4 48 = .ok (.iload_n 0, 1) := by decide +kernel
theorem dJ6_bitCount_0f7a4_49 : decode cJ6_bitCount_0f7a4 49 = .ok (.bipush 63, 2) := by decide +kernel
theorem dJ6_bitCount_0f7a4_51 : decode cJ6_bitCount_0f7a4 51 = .ok (.iand, 1) := by decide +kernel
theorem dJ6_bitCount_0f7a4_52 : decode cJ6_bitCount_0f7a4 52 = .ok (.ireturn, 1) := by decide +kernel
theorem dJ9_min_7cf53_0 : decode cJ9_min_7cf53 0 = .ok (.iload_n 0, 1) := by decide +kernel
theorem dJ9_min_7cf53_1 : decode cJ9_min_7cf53 1 = .ok (.iload_n 1, 1) := by decide +kernel
theorem dJ9_min_7cf53_2 : decode cJ9_min_7cf53 2 = .ok (.if_icmp .gt 7, 3) := by decide +kernel
theorem dJ9_min_7cf53_5 : decode cJ9_min_7cf53 5 = .ok (.iload_n 0, 1) := by decide +kernel
theorem dJ9_min_7cf53_6 : decode cJ9_min_7cf53 6 = .ok (.goto 4, 3) := by decide +kernel
theorem dJ9_min_7cf53_9 : decode cJ9_min_7cf53 9 = .ok (.iload_n 1, 1) := by decide +kernel
theorem dJ9_min_7cf53_10 : decode cJ9_min_7cf53 10 = .ok (.ireturn, 1) := by decide +kernel
