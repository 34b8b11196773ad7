theorem dL_cell_0 : decode cL_cell 0 = .ok (.iload_n 1, 1) := by decide +kernel
theorem dL_cell_1 : decode cL_cell 1 = .ok (.aload_n 0, 1) := by decide +kernel
theorem dL_cell_2 : decode cL_cell 2 = .ok (.arraylength, 1) := by decide +kernel
theorem dL_cell_3 : decode cL_cell 3 = .ok (.if_icmp .ge 9, 3) := by decide +kernel
theorem dL_cell_6 : decode cL_cell 6 = .ok (.aload_n 0, 1) := by decide +kernel
theorem dL_cell_7 : decode cL_cell 7 = .ok (.iload_n 1, 1) := by decide +kernel
theorem dL_cell_8 : decode cL_cell 8 = .ok (.iaload, 1) := by decide +kernel
theorem dL_cell_9 : decode cL_cell 9 = .ok (.goto 13, 3) := by decide +kernel
theorem dL_cell_12 : decode cL_cell 12 = .ok (.ldc 7, 2) := by decide +kernel
theorem dL_cell_14 : decode cL_cell 14 = .ok (.iload_n 1, 1) := by decide +kernel
theorem dL_cell_15 : decode cL_cell 15 = .ok (.bipush 7, 2) := by decide +kernel
theorem dL_cell_17 : decode cL_cell 17 = .ok (.iadd, 1) := by decide +kernel
theorem dL_cell_18 : decode cL_cell 18 = .ok (.imul, 1) := by decide +kernel
theorem dL_cell_19 : decode cL_cell 19 = .ok (.bipush 29, 2) := by decide +kernel
theorem dL_cell_21 : decode cL_cell 21 = .ok (.iadd, 1) := by decide +kernel
theorem dL_cell_22 : decode cL_cell 22 = .ok (.ldc 8, 2) := by decide +kernel
theorem dL_cell_24 : decode cL_cell 24 = .ok (.iand, 1) := by decide +kernel
theorem dL_cell_25 : decode cL_cell 25 = .ok (.ireturn, 1) := by decide +kernel
theorem dL_letter_0 : decode cL_letter 0 = .ok (.iload_n 0, 1) := by decide +kernel
theorem dL_letter_1 : decode cL_letter 1 = .ok (.bipush 25, 2) := by decide +kernel
theorem dL_letter_3 : decode cL_letter 3 = .ok (.iconst 5, 1) := by decide +kernel
theorem dL_letter_4 : decode cL_letter 4 = .ok (.iload_n 1, 1) := by decide +kernel
theorem dL_letter_5 : decode cL_letter 5 = .ok (.imul, 1) := by decide +kernel
theorem dL_letter_6 : decode cL_letter 6 = .ok (.isub, 1) := by decide +kernel
theorem dL_letter_7 : decode cL_letter 7 = .ok (.ishr, 1) := by decide +kernel
theorem dL_letter_8 : decode cL_letter 8 = .ok (.bipush 31, 2) := by decide +kernel
theorem dL_letter_10 : decode cL_letter 10 = .ok (.iand, 1) := by decide +kernel
theorem dL_letter_11 : decode cL_letter 11 = .ok (.ireturn, 1) := by decide +kernel
set_option maxRecDepth 20000 in
theorem ggL_length_L_letter : GoodIn wsL_length wsL_letter := goodIn_r _ [4] (by decide +kernel) (by decide +kernel)
set_option maxRecDepth 20000 in
theorem gL_length_L_letter : GoodIn wsL_length (va_wsS RL 9 yL_letter wsL_letter) := goodIn_app (goodIn_of _ (by decide +kernel)) ggL_length_L_letter
theorem dL_length_0 : decode cL_length 0 = .ok (.iconst 0, 1) := by decide +kernel
theorem dL_length_1 : decode cL_length 1 = .ok (.istore_n 1, 1) := by decide +kernel
theorem dL_length_2 : decode cL_length 2 = .ok (.iload_n 1, 1) := by decide +kernel
theorem dL_length_3 : decode cL_length 3 = .ok (.bipush 6, 2) := by decide +kernel
theorem dL_length_5 : decode cL_length 5 = .ok (.if_icmp .ge 17, 3) := by decide +kernel
theorem dL_length_8 : decode cL_length 8 = .ok (.iload_n 0, 1) := by decide +kernel
theorem dL_length_9 : decode cL_length 9 = .ok (.iload_n 1, 1) := by decide +kernel
theorem dL_length_10 : decode cL_length 10 = .ok (.invokestatic 9, 3) := by decide +kernel
theorem dL_length_13 : decode cL_length 13 = .ok (.ifCond .le 9, 3) := by decide +kernel
theorem dL_length_16 : decode cL_length 16 = .ok (.iinc 1 1, 3) := by decide +kernel
theorem dL_length_19 : decode cL_length 19 = .ok (.goto (-17), 3) := by decide +kernel
theorem dL_length_22 : decode cL_length 22 = .ok (.iload_n 1, 1) := by decide +kernel
theorem dL_length_23 : decode cL_length 23 = .ok (.ireturn, 1) := by decide +kernel
theorem dL_word_0 : decode cL_word 0 = .ok (.iload_n 0, 1) := by decide +kernel
theorem dL_word_1 : decode cL_word 1 = .ok (.bipush 7, 2) := by decide +kernel
theorem dL_word_3 : decode cL_word 3 = .ok (.irem, 1) := by decide +kernel
theorem dL_word_4 : decode cL_word 4 = .ok (.ifCond .ne 14, 3) := by decide +kernel
theorem dL_word_7 : decode cL_word 7 = .ok (.iconst 2, 1) := by decide +kernel
theorem dL_word_8 : decode cL_word 8 = .ok (.iload_n 0, 1) := by decide +kernel
theorem dL_word_9 : decode cL_word 9 = .ok (.bipush 7, 2) := by decide +kernel
theorem dL_word_11 : decode cL_word 11 = .ok (.idiv, 1) := by decide +kernel
theorem dL_word_12 : decode cL_word 12 = .ok (.iconst 5, 1) := by decide +kernel
theorem dL_word_13 : decode cL_word 13 = .ok (.irem, 1) := by decide +kernel
theorem dL_word_14 : decode cL_word 14 = .ok (.iadd, 1) := by decide +kernel
theorem dL_word_15 : decode cL_word 15 = .ok (.goto 4, 3) := by decide +kernel
theorem dL_word_18 : decode cL_word 18 = .ok (.iconst 4, 1) := by decide +kernel
theorem dL_word_19 : decode cL_word 19 = .ok (.istore_n 1, 1) := by decide +kernel
theorem dL_word_20 : decode cL_word 20 = .ok (.iconst 2, 1) := by decide +kernel
theorem dL_word_21 : decode cL_word 21 = .ok (.iload_n 0, 1) := by decide +kernel
theorem dL_word_22 : decode cL_word 22 = .ok (.bipush 49, 2) := by decide +kernel
theorem dL_word_24 : decode cL_word 24 = .ok (.idiv, 1) := by decide +kernel
theorem dL_word_25 : decode cL_word 25 = .ok (.iconst 4, 1) := by decide +kernel
theorem dL_word_26 : decode cL_word 26 = .ok (.irem, 1) := by decide +kernel
theorem dL_word_27 : decode cL_word 27 = .ok (.iadd, 1) := by decide +kernel
theorem dL_word_28 : decode cL_word 28 = .ok (.istore_n 2, 1) := by decide +kernel
theorem dL_word_29 : decode cL_word 29 = .ok (.iconst 0, 1) := by decide +kernel
theorem dL_word_30 : decode cL_word 30 = .ok (.istore_n 3, 1) := by decide +kernel
theorem dL_word_31 : decode cL_word 31 = .ok (.iconst 0, 1) := by decide +kernel
theorem dL_word_32 : decode cL_word 32 = .ok (.istore 4, 2) := by decide +kernel
theorem dL_word_34 : decode cL_word 34 = .ok (.iload 4, 2) := by decide +kernel
theorem dL_word_36 : decode cL_word 36 = .ok (.iload_n 1, 1) := by decide +kernel
theorem dL_word_37 : decode cL_word 37 = .ok (.if_icmp .ge 30, 3) := by decide +kernel
theorem dL_word_40 : decode cL_word 40 = .ok (.iload_n 3, 1) := by decide +kernel
theorem dL_word_41 : decode cL_word 41 = .ok (.iconst 1, 1) := by decide +kernel
theorem dL_word_42 : decode cL_word 42 = .ok (.iload_n 0, 1) := by decide +kernel
theorem dL_word_43 : decode cL_word 43 = .ok (.iconst 3, 1) := by decide +kernel
theorem dL_word_44 : decode cL_word 44 = .ok (.iload 4, 2) := by decide +kernel
theorem dL_word_46 : decode cL_word 46 = .ok (.imul, 1) := by decide +kernel
theorem dL_word_47 : decode cL_word 47 = .ok (.ishr, 1) := by decide +kernel
theorem dL_word_48 : decode cL_word 48 = .ok (.iload_n 2, 1) := by decide +kernel
theorem dL_word_49 : decode cL_word 49 = .ok (.irem, 1) := by decide +kernel
theorem dL_word_50 : decode cL_word 50 = .ok (.iadd, 1) := by decide +kernel
theorem dL_word_51 : decode cL_word 51 = .ok (.bipush 25, 2) := by decide +kernel
theorem dL_word_53 : decode cL_word 53 = .ok (.iconst 5, 1) := by decide +kernel
theorem dL_word_54 : decode cL_word 54 = .ok (.iload 4, 2) := by decide +kernel
theorem dL_word_56 : decode cL_word 56 = .ok (.imul, 1) := by decide +kernel
theorem dL_word_57 : decode cL_word 57 = .ok (.isub, 1) := by decide +kernel
theorem dL_word_58 : decode cL_word 58 = .ok (.ishl, 1) := by decide +kernel
theorem dL_word_59 : decode cL_word 59 = .ok (.ior, 1) := by decide +kernel
theorem dL_word_60 : decode cL_word 60 = .ok (.istore_n 3, 1) := by decide +kernel
theorem dL_word_61 : decode cL_word 61 = .ok (.iinc 4 1, 3) := by decide +kernel
theorem dL_word_64 : decode cL_word 64 = .ok (.goto (-30), 3) := by decide +kernel
theorem dL_word_67 : decode cL_word 67 = .ok (.iload_n 3, 1) := by decide +kernel
theorem dL_word_68 : decode cL_word 68 = .ok (.ireturn, 1) := by decide +kernel
set_option maxRecDepth 20000 in
theorem ggL_types_L_length : GoodIn wsL_types wsL_length := goodIn_r _ [4, 5, 6, 3, 7] (by decide +kernel) (by decide +kernel)
set_option maxRecDepth 20000 in
theorem gL_types_L_length : GoodIn wsL_types (va_wsS RL 15 yL_length wsL_length) := goodIn_app (goodIn_of _ (by decide +kernel)) ggL_types_L_length
set_option maxRecDepth 20000 in
theorem ggL_types_L_letter : GoodIn wsL_types wsL_letter := goodIn_r _ [7] (by decide +kernel) (by decide +kernel)
set_option maxRecDepth 20000 in
theorem gL_types_L_letter : GoodIn wsL_types (va_wsS RL 9 yL_letter wsL_letter) := goodIn_app (goodIn_of _ (by decide +kernel)) ggL_types_L_letter
set_option maxRecDepth 20000 in
theorem ggL_types_X5_type : GoodIn wsL_types wsX5_type := goodIn_r _ [12, 13, 14, 15, 16, 17, 18, 19, 20, 21, 22, 23, 24, 25, 26, 27, 28] (by decide +kernel) (by decide +kernel)
set_option maxRecDepth 20000 in
theorem gL_types_X5_type : GoodIn wsL_types (wsV RL 19 RX5 yX5_type wsX5_type) := goodIn_app (goodIn_of _ (by decide +kernel)) ggL_types_X5_type
theorem dL_types_0 : decode cL_types 0 = .ok (.iconst 0, 1) := by decide +kernel
theorem dL_types_1 : decode cL_types 1 = .ok (.istore_n 2, 1) := by decide +kernel
theorem dL_types_2 : decode cL_types 2 = .ok (.iconst 0, 1) := by decide +kernel
theorem dL_types_3 : decode cL_types 3 = .ok (.istore_n 3, 1) := by decide +kernel
theorem dL_types_4 : decode cL_types 4 = .ok (.iload_n 3, 1) := by decide +kernel
theorem dL_types_5 : decode cL_types 5 = .ok (.iload_n 1, 1) := by decide +kernel
theorem dL_types_6 : decode cL_types 6 = .ok (.invokestatic 15, 3) := by decide +kernel
theorem dL_types_9 : decode cL_types 9 = .ok (.if_icmp .ge 22, 3) := by decide +kernel
theorem dL_types_12 : decode cL_types 12 = .ok (.aload_n 0, 1) := by decide +kernel
theorem dL_types_13 : decode cL_types 13 = .ok (.bipush 96, 2) := by decide +kernel
theorem dL_types_15 : decode cL_types 15 = .ok (.iload_n 1, 1) := by decide +kernel
theorem dL_types_16 : decode cL_types 16 = .ok (.iload_n 3, 1) := by decide +kernel
theorem dL_types_17 : decode cL_types 17 = .ok (.invokestatic 9, 3) := by decide +kernel
theorem dL_types_20 : decode cL_types 20 = .ok (.iadd, 1) := by decide +kernel
theorem dL_types_21 : decode cL_types 21 = .ok (.invokevirtual 19, 3) := by decide +kernel
theorem dL_types_24 : decode cL_types 24 = .ok (.istore_n 2, 1) := by decide +kernel
theorem dL_types_25 : decode cL_types 25 = .ok (.iinc 3 1, 3) := by decide +kernel
theorem dL_types_28 : decode cL_types 28 = .ok (.goto (-24), 3) := by decide +kernel
theorem dL_types_31 : decode cL_types 31 = .ok (.iload_n 2, 1) := by decide +kernel
theorem dL_types_32 : decode cL_types 32 = .ok (.ireturn, 1) := by decide +kernel
set_option maxRecDepth 20000 in
theorem ggL_acts_X5_words : GoodIn wsL_acts wsX5_words := goodIn_r _ [5, 6, 318, 319, 320, 321, 322, 323, 324, 325, 326, 327, 328, 329, 330, 331, 332, 333, 334] (by decide +kernel) (by decide +kernel)
set_option maxRecDepth 20000 in
theorem gL_acts_X5_words : GoodIn wsL_acts (wsV RL 24 RX5 yX5_words wsX5_words) := goodIn_app (goodIn_of _ (by decide +kernel)) ggL_acts_X5_words
set_option maxRecDepth 20000 in
theorem ggL_acts_X5_clearText : GoodIn wsL_acts wsX5_clearText := goodIn_r _ [10, 11, 12, 13, 14, 15, 16, 17, 318, 319, 320, 321, 322, 335, 336, 337] (by decide +kernel) (by decide +kernel)
set_option maxRecDepth 20000 in
theorem gL_acts_X5_clearText : GoodIn wsL_acts (wsV RL 28 RX5 yX5_clearText wsX5_clearText) := goodIn_app (goodIn_of _ (by decide +kernel)) ggL_acts_X5_clearText
set_option maxRecDepth 20000 in
theorem ggL_acts_L_word : GoodIn wsL_acts wsL_word := goodIn_r _ [21] (by decide +kernel) (by decide +kernel)
set_option maxRecDepth 20000 in
theorem gL_acts_L_word : GoodIn wsL_acts (va_wsS RL 31 yL_word wsL_word) := goodIn_app (goodIn_of _ (by decide +kernel)) ggL_acts_L_word
set_option maxRecDepth 20000 in
theorem ggL_acts_L_types : GoodIn wsL_acts wsL_types := goodIn_r _ [24, 25, 26, 20, 27, 28, 29, 30, 31, 32, 33, 4, 34, 11, 35, 36, 37, 15, 38, 17, 39, 318, 319, 320, 321, 322, 335, 336, 337] (by decide +kernel) (by decide +kernel)
set_option maxRecDepth 20000 in
theorem gL_acts_L_types : GoodIn wsL_acts (va_wsS RL 34 yL_types wsL_types) := goodIn_app (goodIn_of _ (by decide +kernel)) ggL_acts_L_types
set_option maxRecDepth 20000 in
theorem ggL_acts_X5_type : GoodIn wsL_acts wsX5_type := goodIn_r _ [34, 11, 35, 36, 37, 15, 38, 17, 39, 318, 319, 320, 321, 322, 335, 336, 337] (by decide +kernel) (by decide +kernel)
set_option maxRecDepth 20000 in
theorem gL_acts_X5_type : GoodIn wsL_acts (wsV RL 19 RX5 yX5_type wsX5_type) := goodIn_app (goodIn_of _ (by decide +kernel)) ggL_acts_X5_type
set_option maxRecDepth 20000 in
theorem ggL_acts_X5_addWords : GoodIn wsL_acts wsX5_addWords := goodIn_r _ [43, 11, 6, 44, 45, 46, 47, 48, 15, 49, 17, 50, 51, 52, 53, 39, 54, 4, 55, 56, 57, 58, 59, 60, 61, 62, 63, 64, 65, 66, 67, 68, 69, 70, 71, 72, 73, 74, 75, 76, 77, 78, 79, 80, 81, 82, 83, 84, 85, 86, 87, 88, 89, 90, 91, 92, 93, 94, 95, 96, 97, 98, 99, 100, 101, 102, 103, 104, 105, 106, 107, 108, 109, 110, 111, 112, 113, 114, 115, 116, 117, 118, 119, 120, 121, 122, 123, 124, 125, 126, 127, 128, 129, 130, 131, 132, 133, 134, 135, 136, 137, 138, 139, 140, 141, 142, 143, 144, 145, 146, 147, 148, 149, 150, 12, 13, 14, 16, 318, 319, 320, 321, 322, 323, 324, 325, 326, 327, 328, 329, 330, 331, 332, 333, 334, 335, 336, 337, 338, 339, 340] (by decide +kernel) (by decide +kernel)
set_option maxRecDepth 20000 in
theorem gL_acts_X5_addWords : GoodIn wsL_acts (wsV RL 38 RX5 yX5_addWords wsX5_addWords) := goodIn_app (goodIn_of _ (by decide +kernel)) ggL_acts_X5_addWords
set_option maxRecDepth 20000 in
theorem ggL_acts_X5_removeWord : GoodIn wsL_acts wsX5_removeWord := goodIn_r _ [154, 6, 45, 155, 118, 119, 59, 120, 73, 56, 57, 58, 60, 61, 125, 126, 127, 128, 129, 130, 131, 132, 133, 134, 135, 136, 137, 138, 139, 140, 141, 142, 143, 144, 66, 145, 71, 72, 146, 63, 64, 65, 67, 68, 69, 70, 74, 75, 76, 77, 78, 79, 80, 156, 157, 158, 159, 117, 147, 148, 149, 150, 318, 319, 320, 321, 322, 323, 324, 325, 326, 327, 328, 329, 330, 331, 332, 333, 334, 338, 339, 340] (by decide +kernel) (by decide +kernel)
set_option maxRecDepth 20000 in
theorem gL_acts_X5_removeWord : GoodIn wsL_acts (wsV RL 41 RX5 yX5_removeWord wsX5_removeWord) := goodIn_app (goodIn_of _ (by decide +kernel)) ggL_acts_X5_removeWord
set_option maxRecDepth 20000 in
theorem ggL_acts_X5_setPolicy : GoodIn wsL_acts wsX5_setPolicy := goodIn_r _ [163, 6, 45, 125, 126, 127, 128, 129, 130, 131, 132, 133, 59, 134, 135, 136, 137, 138, 139, 140, 141, 142, 143, 144, 66, 145, 71, 72, 146, 63, 64, 65, 67, 68, 69, 70, 73, 74, 61, 75, 76, 77, 78, 79, 80, 318, 319, 320, 321, 322, 323, 324, 325, 326, 327, 328, 329, 330, 331, 332, 333, 334, 338, 339, 340] (by decide +kernel) (by decide +kernel)
set_option maxRecDepth 20000 in
theorem gL_acts_X5_setPolicy : GoodIn wsL_acts (wsV RL 44 RX5 yX5_setPolicy wsX5_setPolicy) := goodIn_app (goodIn_of _ (by decide +kernel)) ggL_acts_X5_setPolicy
set_option maxRecDepth 20000 in
theorem ggL_acts_X5_giveUp : GoodIn wsL_acts wsX5_giveUp := goodIn_r _ [167, 6, 45, 56, 57, 58, 59, 60, 61, 125, 126, 127, 128, 129, 130, 131, 132, 133, 134, 135, 136, 137, 138, 139, 140, 141, 142, 143, 144, 66, 145, 71, 72, 146, 63, 64, 65, 67, 68, 69, 70, 73, 74, 75, 76, 77, 78, 79, 80, 168, 169, 170, 171, 172, 173, 174, 175, 176, 177, 4, 178, 318, 319, 320, 321, 322, 323, 324, 325, 326, 327, 328, 329, 330, 331, 332, 333, 334, 338, 339, 340] (by decide +kernel) (by decide +kernel)
set_option maxRecDepth 20000 in
theorem gL_acts_X5_giveUp : GoodIn wsL_acts (wsV RL 47 RX5 yX5_giveUp wsX5_giveUp) := goodIn_app (goodIn_of _ (by decide +kernel)) ggL_acts_X5_giveUp
set_option maxRecDepth 20000 in
theorem ggL_acts_X5_undo : GoodIn wsL_acts wsX5_undo := goodIn_r _ [182, 45, 6, 183, 184, 185, 128, 186, 130, 134, 131, 146, 63, 64, 59, 65, 66, 67, 68, 69, 70, 71, 72, 73, 74, 61, 75, 76, 77, 78, 79, 80, 318, 319, 320, 321, 322, 338, 339, 340, 323, 324, 325, 326, 327, 328, 329, 330, 331, 332, 333, 334] (by decide +kernel) (by decide +kernel)
set_option maxRecDepth 20000 in
theorem gL_acts_X5_undo : GoodIn wsL_acts (wsV RL 50 RX5 yX5_undo wsX5_undo) := goodIn_app (goodIn_of _ (by decide +kernel)) ggL_acts_X5_undo
set_option maxRecDepth 20000 in
theorem ggL_acts_X5_letterOf : GoodIn wsL_acts wsX5_letterOf := goodIn_r _ [190, 6, 191, 114, 115, 59, 116, 66, 117, 118, 119, 120, 73, 192, 193, 96, 194, 98, 99, 100, 318, 319, 320, 321, 322, 323, 324, 325, 326, 327, 328, 329, 330, 331, 332, 333, 334] (by decide +kernel) (by decide +kernel)
set_option maxRecDepth 20000 in
theorem gL_acts_X5_letterOf : GoodIn wsL_acts (wsV RL 53 RX5 yX5_letterOf wsX5_letterOf) := goodIn_app (goodIn_of _ (by decide +kernel)) ggL_acts_X5_letterOf
set_option maxRecDepth 20000 in
theorem ggL_acts_X5_guessWord : GoodIn wsL_acts wsX5_guessWord := goodIn_r _ [198, 11, 6, 45, 46, 47, 48, 15, 49, 17, 50, 51, 52, 53, 39, 54, 4, 55, 85, 86, 87, 88, 89, 90, 91, 92, 93, 94, 95, 96, 97, 98, 99, 100, 101, 102, 103, 104, 56, 57, 58, 59, 60, 61, 199, 200, 201, 202, 193, 194, 125, 126, 127, 128, 129, 130, 131, 132, 133, 134, 135, 136, 137, 138, 139, 140, 141, 142, 143, 144, 66, 145, 71, 72, 146, 63, 64, 65, 67, 68, 69, 70, 73, 74, 75, 76, 77, 78, 79, 80, 203, 204, 205, 206, 172, 173, 174, 175, 109, 110, 111, 112, 113, 114, 115, 116, 117, 118, 119, 120, 207, 208, 209, 210, 211, 212, 213, 214, 215, 216, 217, 218, 219, 169, 170, 171, 12, 13, 14, 16, 318, 319, 320, 321, 322, 323, 324, 325, 326, 327, 328, 329, 330, 331, 332, 333, 334, 335, 336, 337, 338, 339, 340] (by decide +kernel) (by decide +kernel)
set_option maxRecDepth 20000 in
theorem gL_acts_X5_guessWord : GoodIn wsL_acts (wsV RL 56 RX5 yX5_guessWord wsX5_guessWord) := goodIn_app (goodIn_of _ (by decide +kernel)) ggL_acts_X5_guessWord
set_option maxRecDepth 20000 in
theorem ggL_acts_X5_start : GoodIn wsL_acts wsX5_start := goodIn_r _ [223, 6, 45, 224, 225, 226, 59, 227, 73, 113, 114, 115, 116, 66, 117, 118, 119, 120, 228, 200, 96, 201, 202, 193, 194, 98, 99, 100, 125, 126, 127, 128, 129, 130, 131, 132, 133, 134, 135, 136, 137, 138, 139, 140, 141, 142, 143, 144, 145, 71, 72, 146, 63, 64, 65, 67, 68, 69, 70, 74, 61, 75, 76, 77, 78, 79, 80, 229, 230, 231, 232, 233, 148, 149, 150, 172, 173, 174, 175, 234, 235, 236, 237, 238, 239, 240, 318, 319, 320, 321, 322, 323, 324, 325, 326, 327, 328, 329, 330, 331, 332, 333, 334, 338, 339, 340] (by decide +kernel) (by decide +kernel)
set_option maxRecDepth 20000 in
theorem gL_acts_X5_start : GoodIn wsL_acts (wsV RL 59 RX5 yX5_start wsX5_start) := goodIn_app (goodIn_of _ (by decide +kernel)) ggL_acts_X5_start
set_option maxRecDepth 20000 in
theorem ggL_acts_X5_guess : GoodIn wsL_acts wsX5_guess := goodIn_r _ [244, 6, 45, 245, 54, 4, 55, 56, 57, 58, 59, 60, 61, 246, 247, 248, 249, 78, 250, 251, 125, 126, 127, 128, 129, 130, 131, 132, 133, 134, 135, 136, 137, 138, 139, 140, 141, 142, 143, 144, 66, 145, 71, 72, 146, 63, 64, 65, 67, 68, 69, 70, 73, 74, 75, 76, 77, 79, 80, 252, 253, 254, 255, 256, 257, 258, 259, 260, 261, 262, 263, 264, 208, 209, 210, 117, 118, 119, 120, 265, 114, 115, 116, 266, 267, 96, 268, 202, 193, 194, 98, 99, 100, 269, 270, 271, 272, 273, 274, 275, 276, 277, 278, 279, 280, 281, 282, 283, 284, 285, 286, 287, 288, 289, 290, 291, 292, 293, 294, 295, 296, 297, 298, 299, 235, 236, 237, 238, 239, 240, 300, 301, 302, 303, 304, 305, 306, 307, 308, 309, 310, 311, 312, 313, 314, 315, 316, 172, 173, 174, 175, 215, 216, 217, 218, 219, 169, 170, 171, 317, 95, 97, 228, 200, 201, 211, 212, 213, 214, 234, 318, 319, 320, 321, 322, 323, 324, 325, 326, 327, 328, 329, 330, 331, 332, 333, 334, 338, 339, 340, 341, 342, 343, 344, 345] (by decide +kernel) (by decide +kernel)
set_option maxRecDepth 20000 in
theorem gL_acts_X5_guess : GoodIn wsL_acts (wsV RL 62 RX5 yX5_guess wsX5_guess) := goodIn_app (goodIn_of _ (by decide +kernel)) ggL_acts_X5_guess
theorem dL_acts_0 : decode cL_acts 0 = .ok (.iload_n 1, 1) := by decide +kernel
theorem dL_acts_1 : decode cL_acts 1 = .ok (.bipush 16, 2) := by decide +kernel
theorem dL_acts_3 : decode cL_acts 3 = .ok (.idiv, 1) := by decide +kernel
theorem dL_acts_4 : decode cL_acts 4 = .ok (.istore_n 2, 1) := by decide +kernel
theorem dL_acts_5 : decode cL_acts 5 = .ok (.aload_n 0, 1) := by decide +kernel
theorem dL_acts_6 : decode cL_acts 6 = .ok (.invokevirtual 24, 3) := by decide +kernel
theorem dL_acts_9 : decode cL_acts 9 = .ok (.istore_n 3, 1) := by decide +kernel
theorem dL_acts_10 : decode cL_acts 10 = .ok (.iload_n 3, 1) := by decide +kernel
theorem dL_acts_11 : decode cL_acts 11 = .ok (.iconst 3, 1) := by decide +kernel
theorem dL_acts_12 : decode cL_acts 12 = .ok (.if_icmp .ge 7, 3) := by decide +kernel
theorem dL_acts_15 : decode cL_acts 15 = .ok (.iconst 0, 1) := by decide +kernel
theorem dL_acts_16 : decode cL_acts 16 = .ok (.goto 7, 3) := by decide +kernel
theorem dL_acts_19 : decode cL_acts 19 = .ok (.iload_n 1, 1) := by decide +kernel
theorem dL_acts_20 : decode cL_acts 20 = .ok (.bipush 16, 2) := by decide +kernel
theorem dL_acts_22 : decode cL_acts 22 = .ok (.irem, 1) := by decide +kernel
theorem dL_acts_23 : decode cL_acts 23 = .ok (.tableswitch 229 0 7 #[45, 45, 100, 108, 116, 134, 198, 198], 45) := by decide +kernel
theorem dL_acts_68 : decode cL_acts 68 = .ok (.aload_n 0, 1) := by decide +kernel
theorem dL_acts_69 : decode cL_acts 69 = .ok (.invokevirtual 28, 3) := by decide +kernel
theorem dL_acts_72 : decode cL_acts 72 = .ok (.istore 4, 2) := by decide +kernel
theorem dL_acts_74 : decode cL_acts 74 = .ok (.aload_n 0, 1) := by decide +kernel
theorem dL_acts_75 : decode cL_acts 75 = .ok (.iload_n 2, 1) := by decide +kernel
theorem dL_acts_76 : decode cL_acts 76 = .ok (.invokestatic 31, 3) := by decide +kernel
theorem dL_acts_79 : decode cL_acts 79 = .ok (.invokestatic 34, 3) := by decide +kernel
theorem dL_acts_82 : decode cL_acts 82 = .ok (.istore 4, 2) := by decide +kernel
theorem dL_acts_84 : decode cL_acts 84 = .ok (.aload_n 0, 1) := by decide +kernel
theorem dL_acts_85 : decode cL_acts 85 = .ok (.bipush 44, 2) := by decide +kernel
theorem dL_acts_87 : decode cL_acts 87 = .ok (.invokevirtual 19, 3) := by decide +kernel
theorem dL_acts_90 : decode cL_acts 90 = .ok (.istore 4, 2) := by decide +kernel
theorem dL_acts_92 : decode cL_acts 92 = .ok (.aload_n 0, 1) := by decide +kernel
theorem dL_acts_93 : decode cL_acts 93 = .ok (.iload_n 2, 1) := by decide +kernel
theorem dL_acts_94 : decode cL_acts 94 = .ok (.iconst 3, 1) := by decide +kernel
theorem dL_acts_95 : decode cL_acts 95 = .ok (.idiv, 1) := by decide +kernel
theorem dL_acts_96 : decode cL_acts 96 = .ok (.bipush 77, 2) := by decide +kernel
theorem dL_acts_98 : decode cL_acts 98 = .ok (.iadd, 1) := by decide +kernel
theorem dL_acts_99 : decode cL_acts 99 = .ok (.invokestatic 31, 3) := by decide +kernel
theorem dL_acts_102 : decode cL_acts 102 = .ok (.invokestatic 34, 3) := by decide +kernel
theorem dL_acts_105 : decode cL_acts 105 = .ok (.istore 4, 2) := by decide +kernel
theorem dL_acts_107 : decode cL_acts 107 = .ok (.iload 4, 2) := by decide +kernel
theorem dL_acts_109 : decode cL_acts 109 = .ok (.iconst 1, 1) := by decide +kernel
theorem dL_acts_110 : decode cL_acts 110 = .ok (.if_icmp .ge 8, 3) := by decide +kernel
theorem dL_acts_113 : decode cL_acts 113 = .ok (.bipush (-9), 2) := by decide +kernel
theorem dL_acts_115 : decode cL_acts 115 = .ok (.goto 7, 3) := by decide +kernel
theorem dL_acts_118 : decode cL_acts 118 = .ok (.aload_n 0, 1) := by decide +kernel
theorem dL_acts_119 : decode cL_acts 119 = .ok (.invokevirtual 38, 3) := by decide +kernel
theorem dL_acts_122 : decode cL_acts 122 = .ok (.ireturn, 1) := by decide +kernel
theorem dL_acts_123 : decode cL_acts 123 = .ok (.aload_n 0, 1) := by decide +kernel
theorem dL_acts_124 : decode cL_acts 124 = .ok (.iload_n 2, 1) := by decide +kernel
theorem dL_acts_125 : decode cL_acts 125 = .ok (.iload_n 3, 1) := by decide +kernel
theorem dL_acts_126 : decode cL_acts 126 = .ok (.irem, 1) := by decide +kernel
theorem dL_acts_127 : decode cL_acts 127 = .ok (.invokevirtual 41, 3) := by decide +kernel
theorem dL_acts_130 : decode cL_acts 130 = .ok (.ireturn, 1) := by decide +kernel
theorem dL_acts_131 : decode cL_acts 131 = .ok (.aload_n 0, 1) := by decide +kernel
theorem dL_acts_132 : decode cL_acts 132 = .ok (.iload_n 2, 1) := by decide +kernel
theorem dL_acts_133 : decode cL_acts 133 = .ok (.iconst 3, 1) := by decide +kernel
theorem dL_acts_134 : decode cL_acts 134 = .ok (.irem, 1) := by decide +kernel
theorem dL_acts_135 : decode cL_acts 135 = .ok (.invokevirtual 44, 3) := by decide +kernel
theorem dL_acts_138 : decode cL_acts 138 = .ok (.ireturn, 1) := by decide +kernel
theorem dL_acts_139 : decode cL_acts 139 = .ok (.iload_n 2, 1) := by decide +kernel
theorem dL_acts_140 : decode cL_acts 140 = .ok (.iconst 4, 1) := by decide +kernel
theorem dL_acts_141 : decode cL_acts 141 = .ok (.irem, 1) := by decide +kernel
theorem dL_acts_142 : decode cL_acts 142 = .ok (.ifCond .ne 10, 3) := by decide +kernel
theorem dL_acts_145 : decode cL_acts 145 = .ok (.aload_n 0, 1) := by decide +kernel
theorem dL_acts_146 : decode cL_acts 146 = .ok (.invokevirtual 47, 3) := by decide +kernel
theorem dL_acts_149 : decode cL_acts 149 = .ok (.goto 7, 3) := by decide +kernel
theorem dL_acts_152 : decode cL_acts 152 = .ok (.aload_n 0, 1) := by decide +kernel
theorem dL_acts_153 : decode cL_acts 153 = .ok (.invokevirtual 50, 3) := by decide +kernel
theorem dL_acts_156 : decode cL_acts 156 = .ok (.ireturn, 1) := by decide +kernel
theorem dL_acts_157 : decode cL_acts 157 = .ok (.aload_n 0, 1) := by decide +kernel
theorem dL_acts_158 : decode cL_acts 158 = .ok (.invokevirtual 28, 3) := by decide +kernel
theorem dL_acts_161 : decode cL_acts 161 = .ok (.istore 4, 2) := by decide +kernel
theorem dL_acts_163 : decode cL_acts 163 = .ok (.iconst 0, 1) := by decide +kernel
theorem dL_acts_164 : decode cL_acts 164 = .ok (.istore 5, 2) := by decide +kernel
theorem dL_acts_166 : decode cL_acts 166 = .ok (.iload 5, 2) := by decide +kernel
theorem dL_acts_168 : decode cL_acts 168 = .ok (.bipush 8, 2) := by decide +kernel
theorem dL_acts_170 : decode cL_acts 170 = .ok (.if_icmp .ge 36, 3) := by decide +kernel
theorem dL_acts_173 : decode cL_acts 173 = .ok (.aload_n 0, 1) := by decide +kernel
theorem dL_acts_174 : decode cL_acts 174 = .ok (.iload_n 2, 1) := by decide +kernel
theorem dL_acts_175 : decode cL_acts 175 = .ok (.iload_n 3, 1) := by decide +kernel
theorem dL_acts_176 : decode cL_acts 176 = .ok (.irem, 1) := by decide +kernel
theorem dL_acts_177 : decode cL_acts 177 = .ok (.iload 5, 2) := by decide +kernel
theorem dL_acts_179 : decode cL_acts 179 = .ok (.invokevirtual 53, 3) := by decide +kernel
theorem dL_acts_182 : decode cL_acts 182 = .ok (.ifCond .le 24, 3) := by decide +kernel
theorem dL_acts_185 : decode cL_acts 185 = .ok (.aload_n 0, 1) := by decide +kernel
theorem dL_acts_186 : decode cL_acts 186 = .ok (.aload_n 0, 1) := by decide +kernel
theorem dL_acts_187 : decode cL_acts 187 = .ok (.iload_n 2, 1) := by decide +kernel
theorem dL_acts_188 : decode cL_acts 188 = .ok (.iload_n 3, 1) := by decide +kernel
theorem dL_acts_189 : decode cL_acts 189 = .ok (.irem, 1) := by decide +kernel
theorem dL_acts_190 : decode cL_acts 190 = .ok (.iload 5, 2) := by decide +kernel
theorem dL_acts_192 : decode cL_acts 192 = .ok (.invokevirtual 53, 3) := by decide +kernel
theorem dL_acts_195 : decode cL_acts 195 = .ok (.invokevirtual 19, 3) := by decide +kernel
theorem dL_acts_198 : decode cL_acts 198 = .ok (.istore 4, 2) := by decide +kernel
theorem dL_acts_200 : decode cL_acts 200 = .ok (.iinc 5 1, 3) := by decide +kernel
theorem dL_acts_203 : decode cL_acts 203 = .ok (.goto (-37), 3) := by decide +kernel
theorem dL_acts_206 : decode cL_acts 206 = .ok (.iload 4, 2) := by decide +kernel
theorem dL_acts_208 : decode cL_acts 208 = .ok (.ifCond .ge 8, 3) := by decide +kernel
theorem dL_acts_211 : decode cL_acts 211 = .ok (.bipush (-9), 2) := by decide +kernel
theorem dL_acts_213 : decode cL_acts 213 = .ok (.goto 7, 3) := by decide +kernel
theorem dL_acts_216 : decode cL_acts 216 = .ok (.aload_n 0, 1) := by decide +kernel
theorem dL_acts_217 : decode cL_acts 217 = .ok (.invokevirtual 56, 3) := by decide +kernel
theorem dL_acts_220 : decode cL_acts 220 = .ok (.ireturn, 1) := by decide +kernel
theorem dL_acts_221 : decode cL_acts 221 = .ok (.aload_n 0, 1) := by decide +kernel
theorem dL_acts_222 : decode cL_acts 222 = .ok (.iload_n 2, 1) := by decide +kernel
theorem dL_acts_223 : decode cL_acts 223 = .ok (.iconst 5, 1) := by decide +kernel
theorem dL_acts_224 : decode cL_acts 224 = .ok (.irem, 1) := by decide +kernel
theorem dL_acts_225 : decode cL_acts 225 = .ok (.ifCond .ne 13, 3) := by decide +kernel
theorem dL_acts_228 : decode cL_acts 228 = .ok (.iconst 2, 1) := by decide +kernel
theorem dL_acts_229 : decode cL_acts 229 = .ok (.iload_n 2, 1) := by decide +kernel
theorem dL_acts_230 : decode cL_acts 230 = .ok (.iconst 5, 1) := by decide +kernel
theorem dL_acts_231 : decode cL_acts 231 = .ok (.idiv, 1) := by decide +kernel
theorem dL_acts_232 : decode cL_acts 232 = .ok (.iconst 5, 1) := by decide +kernel
theorem dL_acts_233 : decode cL_acts 233 = .ok (.irem, 1) := by decide +kernel
theorem dL_acts_234 : decode cL_acts 234 = .ok (.iadd, 1) := by decide +kernel
theorem dL_acts_235 : decode cL_acts 235 = .ok (.goto 4, 3) := by decide +kernel
theorem dL_acts_238 : decode cL_acts 238 = .ok (.iconst 4, 1) := by decide +kernel
theorem dL_acts_239 : decode cL_acts 239 = .ok (.iconst 1, 1) := by decide +kernel
theorem dL_acts_240 : decode cL_acts 240 = .ok (.iload_n 2, 1) := by decide +kernel
theorem dL_acts_241 : decode cL_acts 241 = .ok (.bipush 25, 2) := by decide +kernel
theorem dL_acts_243 : decode cL_acts 243 = .ok (.idiv, 1) := by decide +kernel
theorem dL_acts_244 : decode cL_acts 244 = .ok (.bipush 6, 2) := by decide +kernel
theorem dL_acts_246 : decode cL_acts 246 = .ok (.irem, 1) := by decide +kernel
theorem dL_acts_247 : decode cL_acts 247 = .ok (.iadd, 1) := by decide +kernel
theorem dL_acts_248 : decode cL_acts 248 = .ok (.invokevirtual 59, 3) := by decide +kernel
theorem dL_acts_251 : decode cL_acts 251 = .ok (.ireturn, 1) := by decide +kernel
theorem dL_acts_252 : decode cL_acts 252 = .ok (.aload_n 0, 1) := by decide +kernel
theorem dL_acts_253 : decode cL_acts 253 = .ok (.bipush 97, 2) := by decide +kernel
theorem dL_acts_255 : decode cL_acts 255 = .ok (.iload_n 2, 1) := by decide +kernel
theorem dL_acts_256 : decode cL_acts 256 = .ok (.bipush 6, 2) := by decide +kernel
theorem dL_acts_258 : decode cL_acts 258 = .ok (.irem, 1) := by decide +kernel
theorem dL_acts_259 : decode cL_acts 259 = .ok (.iadd, 1) := by decide +kernel
theorem dL_acts_260 : decode cL_acts 260 = .ok (.invokevirtual 62, 3) := by decide +kernel
theorem dL_acts_263 : decode cL_acts 263 = .ok (.ireturn, 1) := by decide +kernel
set_option maxRecDepth 20000 in
theorem ggL_isWord_X5_letterOf : GoodIn wsL_isWord wsX5_letterOf := goodIn_r _ [5, 6, 7, 8, 9, 10, 11, 12, 13, 14, 15, 16, 17, 18, 19, 20, 21, 22, 23, 24, 25, 26, 27, 28, 29, 30, 31, 32, 33, 34, 35, 36, 37, 38, 39, 40, 41] (by decide +kernel) (by decide +kernel)
set_option maxRecDepth 20000 in
theorem gL_isWord_X5_letterOf : GoodIn wsL_isWord (wsV RL 53 RX5 yX5_letterOf wsX5_letterOf) := goodIn_app (goodIn_of _ (by decide +kernel)) ggL_isWord_X5_letterOf
theorem dL_isWord_0 : decode cL_isWord 0 = .ok (.iconst 0, 1) := by decide +kernel
theorem dL_isWord_1 : decode cL_isWord 1 = .ok (.istore_n 2, 1) := by decide +kernel
theorem dL_isWord_2 : decode cL_isWord 2 = .ok (.iconst 0, 1) := by decide +kernel
theorem dL_isWord_3 : decode cL_isWord 3 = .ok (.istore_n 3, 1) := by decide +kernel
theorem dL_isWord_4 : decode cL_isWord 4 = .ok (.iconst 0, 1) := by decide +kernel
theorem dL_isWord_5 : decode cL_isWord 5 = .ok (.istore 4, 2) := by decide +kernel
theorem dL_isWord_7 : decode cL_isWord 7 = .ok (.iload 4, 2) := by decide +kernel
theorem dL_isWord_9 : decode cL_isWord 9 = .ok (.bipush 9, 2) := by decide +kernel
theorem dL_isWord_11 : decode cL_isWord 11 = .ok (.if_icmp .ge 149, 3) := by decide +kernel
theorem dL_isWord_14 : decode cL_isWord 14 = .ok (.aload_n 0, 1) := by decide +kernel
theorem dL_isWord_15 : decode cL_isWord 15 = .ok (.iload_n 1, 1) := by decide +kernel
theorem dL_isWord_16 : decode cL_isWord 16 = .ok (.iload 4, 2) := by decide +kernel
theorem dL_isWord_18 : decode cL_isWord 18 = .ok (.invokevirtual 53, 3) := by decide +kernel
theorem dL_isWord_21 : decode cL_isWord 21 = .ok (.istore 5, 2) := by decide +kernel
theorem dL_isWord_23 : decode cL_isWord 23 = .ok (.iload 5, 2) := by decide +kernel
theorem dL_isWord_25 : decode cL_isWord 25 = .ok (.iconst (-1), 1) := by decide +kernel
theorem dL_isWord_26 : decode cL_isWord 26 = .ok (.if_icmp .ne 17, 3) := by decide +kernel
theorem dL_isWord_29 : decode cL_isWord 29 = .ok (.iload 4, 2) := by decide +kernel
theorem dL_isWord_31 : decode cL_isWord 31 = .ok (.iconst 1, 1) := by decide +kernel
theorem dL_isWord_32 : decode cL_isWord 32 = .ok (.if_icmp .le 7, 3) := by decide +kernel
theorem dL_isWord_35 : decode cL_isWord 35 = .ok (.iconst 1, 1) := by decide +kernel
theorem dL_isWord_36 : decode cL_isWord 36 = .ok (.goto 39, 3) := by decide +kernel
theorem dL_isWord_39 : decode cL_isWord 39 = .ok (.iconst 0, 1) := by decide +kernel
theorem dL_isWord_40 : decode cL_isWord 40 = .ok (.goto 35, 3) := by decide +kernel
theorem dL_isWord_43 : decode cL_isWord 43 = .ok (.iload 5, 2) := by decide +kernel
theorem dL_isWord_45 : decode cL_isWord 45 = .ok (.bipush 96, 2) := by decide +kernel
theorem dL_isWord_47 : decode cL_isWord 47 = .ok (.if_icmp .le 27, 3) := by decide +kernel
theorem dL_isWord_50 : decode cL_isWord 50 = .ok (.iload 5, 2) := by decide +kernel
theorem dL_isWord_52 : decode cL_isWord 52 = .ok (.bipush 123, 2) := by decide +kernel
theorem dL_isWord_54 : decode cL_isWord 54 = .ok (.if_icmp .ge 20, 3) := by decide +kernel
theorem dL_isWord_57 : decode cL_isWord 57 = .ok (.iload_n 3, 1) := by decide +kernel
theorem dL_isWord_58 : decode cL_isWord 58 = .ok (.iload 4, 2) := by decide +kernel
theorem dL_isWord_60 : decode cL_isWord 60 = .ok (.if_icmp .ne 14, 3) := by decide +kernel
theorem dL_isWord_63 : decode cL_isWord 63 = .ok (.iload 4, 2) := by decide +kernel
theorem dL_isWord_65 : decode cL_isWord 65 = .ok (.bipush 8, 2) := by decide +kernel
theorem dL_isWord_67 : decode cL_isWord 67 = .ok (.if_icmp .ge 7, 3) := by decide +kernel
theorem dL_isWord_70 : decode cL_isWord 70 = .ok (.iconst 1, 1) := by decide +kernel
theorem dL_isWord_71 : decode cL_isWord 71 = .ok (.goto 4, 3) := by decide +kernel
theorem dL_isWord_74 : decode cL_isWord 74 = .ok (.iconst 0, 1) := by decide +kernel
theorem dL_isWord_75 : decode cL_isWord 75 = .ok (.istore 6, 2) := by decide +kernel
theorem dL_isWord_77 : decode cL_isWord 77 = .ok (.iload 6, 2) := by decide +kernel
theorem dL_isWord_79 : decode cL_isWord 79 = .ok (.ifCond .ne 5, 3) := by decide +kernel
theorem dL_isWord_82 : decode cL_isWord 82 = .ok (.iconst 0, 1) := by decide +kernel
theorem dL_isWord_83 : decode cL_isWord 83 = .ok (.ireturn, 1) := by decide +kernel
theorem dL_isWord_84 : decode cL_isWord 84 = .ok (.iload_n 3, 1) := by decide +kernel
theorem dL_isWord_85 : decode cL_isWord 85 = .ok (.iload 5, 2) := by decide +kernel
theorem dL_isWord_87 : decode cL_isWord 87 = .ok (.iconst (-1), 1) := by decide +kernel
theorem dL_isWord_88 : decode cL_isWord 88 = .ok (.if_icmp .ne 7, 3) := by decide +kernel
theorem dL_isWord_91 : decode cL_isWord 91 = .ok (.iconst 0, 1) := by decide +kernel
theorem dL_isWord_92 : decode cL_isWord 92 = .ok (.goto 4, 3) := by decide +kernel
theorem dL_isWord_95 : decode cL_isWord 95 = .ok (.iconst 1, 1) := by decide +kernel
theorem dL_isWord_96 : decode cL_isWord 96 = .ok (.iadd, 1) := by decide +kernel
theorem dL_isWord_97 : decode cL_isWord 97 = .ok (.istore_n 3, 1) := by decide +kernel
theorem dL_isWord_98 : decode cL_isWord 98 = .ok (.iload_n 1, 1) := by decide +kernel
theorem dL_isWord_99 : decode cL_isWord 99 = .ok (.ifCond .ne 8, 3) := by decide +kernel
theorem dL_isWord_102 : decode cL_isWord 102 = .ok (.bipush (-2), 2) := by decide +kernel
theorem dL_isWord_104 : decode cL_isWord 104 = .ok (.goto 12, 3) := by decide +kernel
theorem dL_isWord_107 : decode cL_isWord 107 = .ok (.aload_n 0, 1) := by decide +kernel
theorem dL_isWord_108 : decode cL_isWord 108 = .ok (.iload_n 1, 1) := by decide +kernel
theorem dL_isWord_109 : decode cL_isWord 109 = .ok (.iconst 1, 1) := by decide +kernel
theorem dL_isWord_110 : decode cL_isWord 110 = .ok (.isub, 1) := by decide +kernel
theorem dL_isWord_111 : decode cL_isWord 111 = .ok (.iload 4, 2) := by decide +kernel
theorem dL_isWord_113 : decode cL_isWord 113 = .ok (.invokevirtual 53, 3) := by decide +kernel
theorem dL_isWord_116 : decode cL_isWord 116 = .ok (.istore 7, 2) := by decide +kernel
theorem dL_isWord_118 : decode cL_isWord 118 = .ok (.iload_n 2, 1) := by decide +kernel
theorem dL_isWord_119 : decode cL_isWord 119 = .ok (.ifCond .ne 7, 3) := by decide +kernel
theorem dL_isWord_122 : decode cL_isWord 122 = .ok (.iload_n 1, 1) := by decide +kernel
theorem dL_isWord_123 : decode cL_isWord 123 = .ok (.ifCond .ne 7, 3) := by decide +kernel
theorem dL_isWord_126 : decode cL_isWord 126 = .ok (.iload_n 2, 1) := by decide +kernel
theorem dL_isWord_127 : decode cL_isWord 127 = .ok (.goto 26, 3) := by decide +kernel
theorem dL_isWord_130 : decode cL_isWord 130 = .ok (.iload 7, 2) := by decide +kernel
theorem dL_isWord_132 : decode cL_isWord 132 = .ok (.iload 5, 2) := by decide +kernel
theorem dL_isWord_134 : decode cL_isWord 134 = .ok (.if_icmp .ge 7, 3) := by decide +kernel
theorem dL_isWord_137 : decode cL_isWord 137 = .ok (.iconst 1, 1) := by decide +kernel
theorem dL_isWord_138 : decode cL_isWord 138 = .ok (.goto 15, 3) := by decide +kernel
theorem dL_isWord_141 : decode cL_isWord 141 = .ok (.iload 7, 2) := by decide +kernel
theorem dL_isWord_143 : decode cL_isWord 143 = .ok (.iload 5, 2) := by decide +kernel
theorem dL_isWord_145 : decode cL_isWord 145 = .ok (.if_icmp .le 7, 3) := by decide +kernel
theorem dL_isWord_148 : decode cL_isWord 148 = .ok (.iconst (-1), 1) := by decide +kernel
theorem dL_isWord_149 : decode cL_isWord 149 = .ok (.goto 4, 3) := by decide +kernel
theorem dL_isWord_152 : decode cL_isWord 152 = .ok (.iconst 0, 1) := by decide +kernel
theorem dL_isWord_153 : decode cL_isWord 153 = .ok (.istore_n 2, 1) := by decide +kernel
theorem dL_isWord_154 : decode cL_isWord 154 = .ok (.iinc 4 1, 3) := by decide +kernel
theorem dL_isWord_157 : decode cL_isWord 157 = .ok (.goto (-150), 3) := by decide +kernel
theorem dL_isWord_160 : decode cL_isWord 160 = .ok (.iload_n 1, 1) := by decide +kernel
theorem dL_isWord_161 : decode cL_isWord 161 = .ok (.ifCond .eq 8, 3) := by decide +kernel
theorem dL_isWord_164 : decode cL_isWord 164 = .ok (.iload_n 2, 1) := by decide +kernel
theorem dL_isWord_165 : decode cL_isWord 165 = .ok (.iconst 1, 1) := by decide +kernel
theorem dL_isWord_166 : decode cL_isWord 166 = .ok (.if_icmp .ne 7, 3) := by decide +kernel
theorem dL_isWord_169 : decode cL_isWord 169 = .ok (.iconst 1, 1) := by decide +kernel
theorem dL_isWord_170 : decode cL_isWord 170 = .ok (.goto 4, 3) := by decide +kernel
theorem dL_isWord_173 : decode cL_isWord 173 = .ok (.iconst 0, 1) := by decide +kernel
theorem dL_isWord_174 : decode cL_isWord 174 = .ok (.ireturn, 1) := by decide +kernel
set_option maxRecDepth 20000 in
theorem ggL_doesAgree_X5_letterOf : GoodIn wsL_doesAgree wsX5_letterOf := goodIn_r _ [5, 6, 7, 8, 9, 10, 11, 12, 13, 14, 15, 16, 17, 18, 19, 20, 21, 22, 23, 24, 43, 44, 45, 46, 47, 48, 49, 50, 51, 52, 53, 54, 55, 56, 57, 58, 59] (by decide +kernel) (by decide +kernel)
set_option maxRecDepth 20000 in
theorem gL_doesAgree_X5_letterOf : GoodIn wsL_doesAgree (wsV RL 53 RX5 yX5_letterOf wsX5_letterOf) := goodIn_app (goodIn_of _ (by decide +kernel)) ggL_doesAgree_X5_letterOf
set_option maxRecDepth 20000 in
theorem ggL_doesAgree_X5_guesses : GoodIn wsL_doesAgree wsX5_guesses := goodIn_r _ [28, 6, 43, 44, 45, 46, 47, 48, 49, 50, 51, 52, 53, 54, 55, 56, 57, 58, 59] (by decide +kernel) (by decide +kernel)
set_option maxRecDepth 20000 in
theorem gL_doesAgree_X5_guesses : GoodIn wsL_doesAgree (wsV RL 65 RX5 yX5_guesses wsX5_guesses) := goodIn_app (goodIn_of _ (by decide +kernel)) ggL_doesAgree_X5_guesses
set_option maxRecDepth 20000 in
theorem ggL_doesAgree_X5_guessAt : GoodIn wsL_doesAgree wsX5_guessAt := goodIn_r _ [32, 6, 33, 34, 35, 10, 36, 37, 38, 43, 44, 45, 46, 47, 48, 49, 50, 51, 52, 53, 54, 55, 56, 57, 58, 59] (by decide +kernel) (by decide +kernel)
set_option maxRecDepth 20000 in
theorem gL_doesAgree_X5_guessAt : GoodIn wsL_doesAgree (wsV RL 68 RX5 yX5_guessAt wsX5_guessAt) := goodIn_app (goodIn_of _ (by decide +kernel)) ggL_doesAgree_X5_guessAt
set_option maxRecDepth 20000 in
theorem ggL_doesAgree_X5_shown : GoodIn wsL_doesAgree wsX5_shown := goodIn_r _ [42, 6, 18, 19, 20, 21, 22, 23, 24, 43, 44, 45, 46, 47, 48, 49, 50, 51, 52, 53, 54, 55, 56, 57, 58, 59] (by decide +kernel) (by decide +kernel)
set_option maxRecDepth 20000 in
theorem gL_doesAgree_X5_shown : GoodIn wsL_doesAgree (wsV RL 71 RX5 yX5_shown wsX5_shown) := goodIn_app (goodIn_of _ (by decide +kernel)) ggL_doesAgree_X5_shown
theorem dL_doesAgree_0 : decode cL_doesAgree 0 = .ok (.iconst 0, 1) := by decide +kernel
theorem dL_doesAgree_1 : decode cL_doesAgree 1 = .ok (.istore_n 3, 1) := by decide +kernel
theorem dL_doesAgree_2 : decode cL_doesAgree 2 = .ok (.iload_n 3, 1) := by decide +kernel
theorem dL_doesAgree_3 : decode cL_doesAgree 3 = .ok (.iload_n 2, 1) := by decide +kernel
theorem dL_doesAgree_4 : decode cL_doesAgree 4 = .ok (.if_icmp .ge 98, 3) := by decide +kernel
theorem dL_doesAgree_7 : decode cL_doesAgree 7 = .ok (.aload_n 0, 1) := by decide +kernel
theorem dL_doesAgree_8 : decode cL_doesAgree 8 = .ok (.iload_n 1, 1) := by decide +kernel
theorem dL_doesAgree_9 : decode cL_doesAgree 9 = .ok (.iload_n 3, 1) := by decide +kernel
theorem dL_doesAgree_10 : decode cL_doesAgree 10 = .ok (.invokevirtual 53, 3) := by decide +kernel
theorem dL_doesAgree_13 : decode cL_doesAgree 13 = .ok (.istore 4, 2) := by decide +kernel
theorem dL_doesAgree_15 : decode cL_doesAgree 15 = .ok (.iconst 0, 1) := by decide +kernel
theorem dL_doesAgree_16 : decode cL_doesAgree 16 = .ok (.istore 5, 2) := by decide +kernel
theorem dL_doesAgree_18 : decode cL_doesAgree 18 = .ok (.iconst 0, 1) := by decide +kernel
theorem dL_doesAgree_19 : decode cL_doesAgree 19 = .ok (.istore 6, 2) := by decide +kernel
theorem dL_doesAgree_21 : decode cL_doesAgree 21 = .ok (.iload 6, 2) := by decide +kernel
theorem dL_doesAgree_23 : decode cL_doesAgree 23 = .ok (.aload_n 0, 1) := by decide +kernel
theorem dL_doesAgree_24 : decode cL_doesAgree 24 = .ok (.invokevirtual 65, 3) := by decide +kernel
theorem dL_doesAgree_27 : decode cL_doesAgree 27 = .ok (.if_icmp .ge 39, 3) := by decide +kernel
theorem dL_doesAgree_30 : decode cL_doesAgree 30 = .ok (.iload 6, 2) := by decide +kernel
theorem dL_doesAgree_32 : decode cL_doesAgree 32 = .ok (.bipush 26, 2) := by decide +kernel
theorem dL_doesAgree_34 : decode cL_doesAgree 34 = .ok (.if_icmp .ge 32, 3) := by decide +kernel
theorem dL_doesAgree_37 : decode cL_doesAgree 37 = .ok (.iload 5, 2) := by decide +kernel
theorem dL_doesAgree_39 : decode cL_doesAgree 39 = .ok (.ifCond .ne 14, 3) := by decide +kernel
theorem dL_doesAgree_42 : decode cL_doesAgree 42 = .ok (.aload_n 0, 1) := by decide +kernel
theorem dL_doesAgree_43 : decode cL_doesAgree 43 = .ok (.iload 6, 2) := by decide +kernel
theorem dL_doesAgree_45 : decode cL_doesAgree 45 = .ok (.invokevirtual 68, 3) := by decide +kernel
theorem dL_doesAgree_48 : decode cL_doesAgree 48 = .ok (.iload 4, 2) := by decide +kernel
theorem dL_doesAgree_50 : decode cL_doesAgree 50 = .ok (.if_icmp .ne 7, 3) := by decide +kernel
theorem dL_doesAgree_53 : decode cL_doesAgree 53 = .ok (.iconst 1, 1) := by decide +kernel
theorem dL_doesAgree_54 : decode cL_doesAgree 54 = .ok (.goto 4, 3) := by decide +kernel
theorem dL_doesAgree_57 : decode cL_doesAgree 57 = .ok (.iconst 0, 1) := by decide +kernel
theorem dL_doesAgree_58 : decode cL_doesAgree 58 = .ok (.istore 5, 2) := by decide +kernel
theorem dL_doesAgree_60 : decode cL_doesAgree 60 = .ok (.iinc 6 1, 3) := by decide +kernel
theorem dL_doesAgree_63 : decode cL_doesAgree 63 = .ok (.goto (-42), 3) := by decide +kernel
theorem dL_doesAgree_66 : decode cL_doesAgree 66 = .ok (.aload_n 0, 1) := by decide +kernel
theorem dL_doesAgree_67 : decode cL_doesAgree 67 = .ok (.iload_n 3, 1) := by decide +kernel
theorem dL_doesAgree_68 : decode cL_doesAgree 68 = .ok (.invokevirtual 71, 3) := by decide +kernel
theorem dL_doesAgree_71 : decode cL_doesAgree 71 = .ok (.bipush (-6), 2) := by decide +kernel
theorem dL_doesAgree_73 : decode cL_doesAgree 73 = .ok (.if_icmp .ne 11, 3) := by decide +kernel
theorem dL_doesAgree_76 : decode cL_doesAgree 76 = .ok (.iload 5, 2) := by decide +kernel
theorem dL_doesAgree_78 : decode cL_doesAgree 78 = .ok (.ifCond .eq 18, 3) := by decide +kernel
theorem dL_doesAgree_81 : decode cL_doesAgree 81 = .ok (.goto 13, 3) := by decide +kernel
theorem dL_doesAgree_84 : decode cL_doesAgree 84 = .ok (.aload_n 0, 1) := by decide +kernel
theorem dL_doesAgree_85 : decode cL_doesAgree 85 = .ok (.iload_n 3, 1) := by decide +kernel
theorem dL_doesAgree_86 : decode cL_doesAgree 86 = .ok (.invokevirtual 71, 3) := by decide +kernel
theorem dL_doesAgree_89 : decode cL_doesAgree 89 = .ok (.iload 4, 2) := by decide +kernel
theorem dL_doesAgree_91 : decode cL_doesAgree 91 = .ok (.if_icmp .eq 5, 3) := by decide +kernel
theorem dL_doesAgree_94 : decode cL_doesAgree 94 = .ok (.iconst 0, 1) := by decide +kernel
theorem dL_doesAgree_95 : decode cL_doesAgree 95 = .ok (.ireturn, 1) := by decide +kernel
theorem dL_doesAgree_96 : decode cL_doesAgree 96 = .ok (.iinc 3 1, 3) := by decide +kernel
theorem dL_doesAgree_99 : decode cL_doesAgree 99 = .ok (.goto (-97), 3) := by decide +kernel
theorem dL_doesAgree_102 : decode cL_doesAgree 102 = .ok (.aload_n 0, 1) := by decide +kernel
theorem dL_doesAgree_103 : decode cL_doesAgree 103 = .ok (.iload_n 1, 1) := by decide +kernel
theorem dL_doesAgree_104 : decode cL_doesAgree 104 = .ok (.iload_n 2, 1) := by decide +kernel
theorem dL_doesAgree_105 : decode cL_doesAgree 105 = .ok (.invokevirtual 53, 3) := by decide +kernel
theorem dL_doesAgree_108 : decode cL_doesAgree 108 = .ok (.iconst (-1), 1) := by decide +kernel
theorem dL_doesAgree_109 : decode cL_doesAgree 109 = .ok (.if_icmp .ne 7, 3) := by decide +kernel
theorem dL_doesAgree_112 : decode cL_doesAgree 112 = .ok (.iconst 1, 1) := by decide +kernel
theorem dL_doesAgree_113 : decode cL_doesAgree 113 = .ok (.goto 4, 3) := by decide +kernel
theorem dL_doesAgree_116 : decode cL_doesAgree 116 = .ok (.iconst 0, 1) := by decide +kernel
theorem dL_doesAgree_117 : decode cL_doesAgree 117 = .ok (.ireturn, 1) := by decide +kernel
set_option maxRecDepth 20000 in
theorem ggL_hangs_X5_words : GoodIn wsL_hangs wsX5_words := goodIn_r _ [5, 6, 260, 261, 262, 263, 264, 265, 266, 267, 268, 269, 270, 271, 272, 273, 274, 275, 276] (by decide +kernel) (by decide +kernel)
set_option maxRecDepth 20000 in
theorem gL_hangs_X5_words : GoodIn wsL_hangs (wsV RL 24 RX5 yX5_words wsX5_words) := goodIn_app (goodIn_of _ (by decide +kernel)) ggL_hangs_X5_words
set_option maxRecDepth 20000 in
theorem ggL_hangs_X5_status : GoodIn wsL_hangs wsX5_status := goodIn_r _ [10, 6, 260, 261, 262, 263, 264, 265, 266, 267, 268, 269, 270, 271, 272, 273, 274, 275, 276] (by decide +kernel) (by decide +kernel)
set_option maxRecDepth 20000 in
theorem gL_hangs_X5_status : GoodIn wsL_hangs (wsV RL 74 RX5 yX5_status wsX5_status) := goodIn_app (goodIn_of _ (by decide +kernel)) ggL_hangs_X5_status
set_option maxRecDepth 20000 in
theorem ggL_hangs_X5_candidates : GoodIn wsL_hangs wsX5_candidates := goodIn_r _ [14, 6, 15, 16, 17, 18, 19, 20, 21, 260, 261, 262, 263, 264, 265, 266, 267, 268, 269, 270, 271, 272, 273, 274, 275, 276] (by decide +kernel) (by decide +kernel)
set_option maxRecDepth 20000 in
theorem gL_hangs_X5_candidates : GoodIn wsL_hangs (wsV RL 77 RX5 yX5_candidates wsX5_candidates) := goodIn_app (goodIn_of _ (by decide +kernel)) ggL_hangs_X5_candidates
set_option maxRecDepth 20000 in
theorem ggL_hangs_X5_guesses : GoodIn wsL_hangs wsX5_guesses := goodIn_r _ [25, 6, 260, 261, 262, 263, 264, 265, 266, 267, 268, 269, 270, 271, 272, 273, 274, 275, 276] (by decide +kernel) (by decide +kernel)
set_option maxRecDepth 20000 in
theorem gL_hangs_X5_guesses : GoodIn wsL_hangs (wsV RL 65 RX5 yX5_guesses wsX5_guesses) := goodIn_app (goodIn_of _ (by decide +kernel)) ggL_hangs_X5_guesses
set_option maxRecDepth 20000 in
theorem ggL_hangs_X5_lives : GoodIn wsL_hangs wsX5_lives := goodIn_r _ [29, 6, 260, 261, 262, 263, 264, 265, 266, 267, 268, 269, 270, 271, 272, 273, 274, 275, 276] (by decide +kernel) (by decide +kernel)
set_option maxRecDepth 20000 in
theorem gL_hangs_X5_lives : GoodIn wsL_hangs (wsV RL 80 RX5 yX5_lives wsX5_lives) := goodIn_app (goodIn_of _ (by decide +kernel)) ggL_hangs_X5_lives
set_option maxRecDepth 20000 in
theorem ggL_hangs_X5_letterOf : GoodIn wsL_hangs wsX5_letterOf := goodIn_r _ [33, 6, 34, 35, 36, 37, 38, 39, 40, 41, 42, 43, 44, 45, 46, 47, 48, 49, 50, 51, 260, 261, 262, 263, 264, 265, 266, 267, 268, 269, 270, 271, 272, 273, 274, 275, 276] (by decide +kernel) (by decide +kernel)
set_option maxRecDepth 20000 in
theorem gL_hangs_X5_letterOf : GoodIn wsL_hangs (wsV RL 53 RX5 yX5_letterOf wsX5_letterOf) := goodIn_app (goodIn_of _ (by decide +kernel)) ggL_hangs_X5_letterOf
set_option maxRecDepth 20000 in
theorem ggL_hangs_X5_candidate : GoodIn wsL_hangs wsX5_candidate := goodIn_r _ [55, 6, 56, 57, 4, 58, 260, 261, 262, 263, 264, 265, 266, 267, 268, 269, 270, 271, 272, 273, 274, 275, 276] (by decide +kernel) (by decide +kernel)
set_option maxRecDepth 20000 in
theorem gL_hangs_X5_candidate : GoodIn wsL_hangs (wsV RL 83 RX5 yX5_candidate wsX5_candidate) := goodIn_app (goodIn_of _ (by decide +kernel)) ggL_hangs_X5_candidate
set_option maxRecDepth 20000 in
theorem ggL_hangs_X5_guessAt : GoodIn wsL_hangs wsX5_guessAt := goodIn_r _ [62, 6, 63, 64, 65, 37, 66, 67, 68, 260, 261, 262, 263, 264, 265, 266, 267, 268, 269, 270, 271, 272, 273, 274, 275, 276] (by decide +kernel) (by decide +kernel)
set_option maxRecDepth 20000 in
theorem gL_hangs_X5_guessAt : GoodIn wsL_hangs (wsV RL 68 RX5 yX5_guessAt wsX5_guessAt) := goodIn_app (goodIn_of _ (by decide +kernel)) ggL_hangs_X5_guessAt
set_option maxRecDepth 20000 in
theorem ggL_hangs_X5_shown : GoodIn wsL_hangs wsX5_shown := goodIn_r _ [72, 6, 45, 46, 47, 48, 49, 50, 51, 260, 261, 262, 263, 264, 265, 266, 267, 268, 269, 270, 271, 272, 273, 274, 275, 276] (by decide +kernel) (by decide +kernel)
set_option maxRecDepth 20000 in
theorem gL_hangs_X5_shown : GoodIn wsL_hangs (wsV RL 71 RX5 yX5_shown wsX5_shown) := goodIn_app (goodIn_of _ (by decide +kernel)) ggL_hangs_X5_shown
set_option maxRecDepth 20000 in
theorem ggL_hangs_L_isWord : GoodIn wsL_hangs wsL_isWord := goodIn_r _ [76, 30, 31, 32, 4, 33, 6, 34, 35, 36, 37, 38, 39, 40, 41, 42, 43, 44, 45, 46, 47, 48, 49, 50, 51, 260, 261, 262, 263, 264, 265, 266, 267, 268, 269, 270, 271, 272, 273, 274, 275, 276] (by decide +kernel) (by decide +kernel)
set_option maxRecDepth 20000 in
theorem gL_hangs_L_isWord : GoodIn wsL_hangs (va_wsS RL 86 yL_isWord wsL_isWord) := goodIn_app (goodIn_of _ (by decide +kernel)) ggL_hangs_L_isWord
set_option maxRecDepth 20000 in
theorem ggL_hangs_L_doesAgree : GoodIn wsL_hangs wsL_doesAgree := goodIn_r _ [79, 30, 31, 32, 4, 33, 6, 34, 35, 36, 37, 38, 39, 40, 41, 42, 43, 44, 45, 46, 47, 48, 49, 50, 51, 22, 23, 24, 25, 59, 60, 61, 62, 63, 64, 65, 66, 67, 68, 69, 70, 71, 72, 260, 261, 262, 263, 264, 265, 266, 267, 268, 269, 270, 271, 272, 273, 274, 275, 276] (by decide +kernel) (by decide +kernel)
set_option maxRecDepth 20000 in
theorem gL_hangs_L_doesAgree : GoodIn wsL_hangs (va_wsS RL 90 yL_doesAgree wsL_doesAgree) := goodIn_app (goodIn_of _ (by decide +kernel)) ggL_hangs_L_doesAgree
set_option maxRecDepth 20000 in
theorem ggL_hangs_X5_having : GoodIn wsL_hangs wsX5_having := goodIn_r _ [83, 6, 84, 85, 4, 86, 87, 88, 89, 37, 90, 44, 91, 92, 93, 94, 95, 40, 41, 42, 43, 96, 35, 36, 38, 39, 97, 98, 47, 99, 100, 46, 48, 49, 50, 51, 260, 261, 262, 263, 264, 265, 266, 267, 268, 269, 270, 271, 272, 273, 274, 275, 276] (by decide +kernel) (by decide +kernel)
set_option maxRecDepth 20000 in
theorem gL_hangs_X5_having : GoodIn wsL_hangs (wsV RL 94 RX5 yX5_having wsX5_having) := goodIn_app (goodIn_of _ (by decide +kernel)) ggL_hangs_X5_having
set_option maxRecDepth 20000 in
theorem ggL_hangs_X5_bestGuess : GoodIn wsL_hangs wsX5_bestGuess := goodIn_r _ [104, 6, 105, 106, 107, 37, 108, 109, 110, 111, 112, 4, 113, 114, 115, 116, 117, 118, 119, 120, 121, 84, 85, 86, 122, 123, 124, 125, 126, 127, 128, 129, 92, 93, 94, 95, 40, 41, 42, 43, 44, 130, 35, 36, 38, 39, 131, 98, 47, 99, 100, 46, 48, 49, 50, 51, 132, 133, 134, 135, 136, 137, 138, 139, 140, 141, 142, 143, 144, 145, 146, 147, 148, 149, 150, 151, 152, 153, 154, 155, 156, 157, 158, 159, 160, 161, 162, 16, 17, 18, 19, 20, 21, 163, 164, 165, 166, 167, 168, 15, 260, 261, 262, 263, 264, 265, 266, 267, 268, 269, 270, 271, 272, 273, 274, 275, 276, 277, 278, 279, 280, 281] (by decide +kernel) (by decide +kernel)
set_option maxRecDepth 20000 in
theorem gL_hangs_X5_bestGuess : GoodIn wsL_hangs (wsV RL 97 RX5 yX5_bestGuess wsX5_bestGuess) := goodIn_app (goodIn_of _ (by decide +kernel)) ggL_hangs_X5_bestGuess
set_option maxRecDepth 20000 in
theorem ggL_hangs_X5_missesAhead : GoodIn wsL_hangs wsX5_missesAhead := goodIn_r _ [172, 6, 173, 105, 106, 107, 37, 108, 109, 174, 175, 176, 177, 39, 178, 179, 180, 181, 68, 182, 44, 183, 184, 185, 95, 119, 67, 186, 110, 111, 112, 4, 113, 114, 115, 116, 117, 118, 120, 121, 84, 85, 86, 122, 123, 124, 125, 126, 127, 128, 129, 92, 93, 94, 40, 41, 42, 43, 130, 35, 36, 38, 131, 98, 47, 99, 100, 46, 48, 49, 50, 51, 132, 133, 134, 135, 136, 137, 138, 139, 140, 141, 142, 143, 144, 145, 146, 147, 148, 149, 150, 151, 152, 153, 154, 155, 156, 157, 158, 159, 160, 161, 162, 16, 17, 18, 19, 20, 21, 163, 164, 165, 166, 167, 168, 15, 187, 188, 189, 190, 191, 192, 193, 194, 195, 196, 197, 198, 199, 200, 201, 202, 203, 204, 205, 206, 207, 208, 209, 210, 211, 212, 213, 214, 215, 216, 217, 218, 219, 220, 221, 222, 223, 224, 225, 226, 227, 228, 260, 261, 262, 263, 264, 265, 266, 267, 268, 269, 270, 271, 272, 273, 274, 275, 276, 277, 278, 279, 280, 281] (by decide +kernel) (by decide +kernel)
set_option maxRecDepth 20000 in
theorem gL_hangs_X5_missesAhead : GoodIn wsL_hangs (wsV RL 100 RX5 yX5_missesAhead wsX5_missesAhead) := goodIn_app (goodIn_of _ (by decide +kernel)) ggL_hangs_X5_missesAhead
set_option maxRecDepth 20000 in
theorem ggL_hangs_X5_sureLetters : GoodIn wsL_hangs wsX5_sureLetters := goodIn_r _ [232, 6, 105, 106, 107, 37, 108, 109, 233, 234, 235, 236, 237, 44, 91, 92, 93, 94, 95, 40, 41, 42, 43, 96, 35, 36, 38, 39, 238, 133, 47, 134, 100, 46, 48, 49, 50, 51, 120, 4, 121, 84, 85, 86, 260, 261, 262, 263, 264, 265, 266, 267, 268, 269, 270, 271, 272, 273, 274, 275, 276] (by decide +kernel) (by decide +kernel)
set_option maxRecDepth 20000 in
theorem gL_hangs_X5_sureLetters : GoodIn wsL_hangs (wsV RL 103 RX5 yX5_sureLetters wsX5_sureLetters) := goodIn_app (goodIn_of _ (by decide +kernel)) ggL_hangs_X5_sureLetters
set_option maxRecDepth 20000 in
theorem ggL_hangs_X5_families : GoodIn wsL_hangs wsX5_families := goodIn_r _ [242, 114, 6, 243, 244, 245, 4, 246, 84, 85, 86, 105, 106, 107, 37, 108, 109, 115, 116, 117, 118, 119, 120, 121, 122, 123, 124, 125, 126, 127, 128, 129, 92, 93, 94, 95, 40, 41, 42, 43, 44, 130, 35, 36, 38, 39, 131, 98, 47, 99, 100, 46, 48, 49, 50, 51, 132, 133, 134, 135, 136, 137, 138, 139, 140, 141, 142, 143, 144, 145, 146, 147, 148, 149, 260, 261, 262, 263, 264, 277, 278, 279, 280, 281, 265, 266, 267, 268, 269, 270, 271, 272, 273, 274, 275, 276] (by decide +kernel) (by decide +kernel)
set_option maxRecDepth 20000 in
theorem gL_hangs_X5_families : GoodIn wsL_hangs (wsV RL 106 RX5 yX5_families wsX5_families) := goodIn_app (goodIn_of _ (by decide +kernel)) ggL_hangs_X5_families
set_option maxRecDepth 20000 in
theorem ggL_hangs_X5_spread : GoodIn wsL_hangs wsX5_spread := goodIn_r _ [250, 114, 6, 243, 244, 245, 4, 246, 84, 85, 86, 105, 106, 107, 37, 108, 109, 115, 116, 117, 118, 119, 120, 121, 122, 123, 124, 125, 126, 127, 128, 129, 92, 93, 94, 95, 40, 41, 42, 43, 44, 130, 35, 36, 38, 39, 131, 98, 47, 99, 100, 46, 48, 49, 50, 51, 132, 133, 134, 135, 136, 137, 138, 139, 140, 141, 142, 143, 144, 145, 146, 147, 148, 149, 251, 12, 13, 14, 15, 16, 17, 18, 19, 20, 21, 252, 253, 254, 255, 163, 164, 165, 166, 162, 260, 261, 262, 263, 264, 265, 266, 267, 268, 269, 270, 271, 272, 273, 274, 275, 276, 277, 278, 279, 280, 281] (by decide +kernel) (by decide +kernel)
set_option maxRecDepth 20000 in
theorem gL_hangs_X5_spread : GoodIn wsL_hangs (wsV RL 109 RX5 yX5_spread wsX5_spread) := goodIn_app (goodIn_of _ (by decide +kernel)) ggL_hangs_X5_spread
set_option maxRecDepth 20000 in
theorem ggL_hangs_X5_total : GoodIn wsL_hangs wsX5_total := goodIn_r _ [259, 6, 225, 226, 227, 37, 228, 182, 260, 261, 262, 263, 264, 265, 266, 267, 268, 269, 270, 271, 272, 273, 274, 275, 276] (by decide +kernel) (by decide +kernel)
set_option maxRecDepth 20000 in
theorem gL_hangs_X5_total : GoodIn wsL_hangs (wsV RL 112 RX5 yX5_total wsX5_total) := goodIn_app (goodIn_of _ (by decide +kernel)) ggL_hangs_X5_total
theorem dL_hangs_0 : decode cL_hangs 0 = .ok (.aload_n 0, 1) := by decide +kernel
theorem dL_hangs_1 : decode cL_hangs 1 = .ok (.invokevirtual 24, 3) := by decide +kernel
theorem dL_hangs_4 : decode cL_hangs 4 = .ok (.istore_n 1, 1) := by decide +kernel
theorem dL_hangs_5 : decode cL_hangs 5 = .ok (.aload_n 0, 1) := by decide +kernel
theorem dL_hangs_6 : decode cL_hangs 6 = .ok (.invokevirtual 74, 3) := by decide +kernel
theorem dL_hangs_9 : decode cL_hangs 9 = .ok (.istore_n 2, 1) := by decide +kernel
theorem dL_hangs_10 : decode cL_hangs 10 = .ok (.aload_n 0, 1) := by decide +kernel
theorem dL_hangs_11 : decode cL_hangs 11 = .ok (.invokevirtual 77, 3) := by decide +kernel
theorem dL_hangs_14 : decode cL_hangs 14 = .ok (.istore_n 3, 1) := by decide +kernel
theorem dL_hangs_15 : decode cL_hangs 15 = .ok (.iload_n 1, 1) := by decide +kernel
theorem dL_hangs_16 : decode cL_hangs 16 = .ok (.ifCond .lt 141, 3) := by decide +kernel
theorem dL_hangs_19 : decode cL_hangs 19 = .ok (.iload_n 1, 1) := by decide +kernel
theorem dL_hangs_20 : decode cL_hangs 20 = .ok (.bipush 31, 2) := by decide +kernel
theorem dL_hangs_22 : decode cL_hangs 22 = .ok (.if_icmp .ge 135, 3) := by decide +kernel
theorem dL_hangs_25 : decode cL_hangs 25 = .ok (.iload_n 2, 1) := by decide +kernel
theorem dL_hangs_26 : decode cL_hangs 26 = .ok (.ifCond .lt 131, 3) := by decide +kernel
theorem dL_hangs_29 : decode cL_hangs 29 = .ok (.iload_n 2, 1) := by decide +kernel
theorem dL_hangs_30 : decode cL_hangs 30 = .ok (.iconst 4, 1) := by decide +kernel
theorem dL_hangs_31 : decode cL_hangs 31 = .ok (.if_icmp .ge 126, 3) := by decide +kernel
theorem dL_hangs_34 : decode cL_hangs 34 = .ok (.iload_n 3, 1) := by decide +kernel
theorem dL_hangs_35 : decode cL_hangs 35 = .ok (.ifCond .lt 122, 3) := by decide +kernel
theorem dL_hangs_38 : decode cL_hangs 38 = .ok (.iload_n 3, 1) := by decide +kernel
theorem dL_hangs_39 : decode cL_hangs 39 = .ok (.iload_n 1, 1) := by decide +kernel
theorem dL_hangs_40 : decode cL_hangs 40 = .ok (.if_icmp .gt 117, 3) := by decide +kernel
theorem dL_hangs_43 : decode cL_hangs 43 = .ok (.aload_n 0, 1) := by decide +kernel
theorem dL_hangs_44 : decode cL_hangs 44 = .ok (.invokevirtual 65, 3) := by decide +kernel
theorem dL_hangs_47 : decode cL_hangs 47 = .ok (.ifCond .lt 110, 3) := by decide +kernel
theorem dL_hangs_50 : decode cL_hangs 50 = .ok (.aload_n 0, 1) := by decide +kernel
theorem dL_hangs_51 : decode cL_hangs 51 = .ok (.invokevirtual 65, 3) := by decide +kernel
theorem dL_hangs_54 : decode cL_hangs 54 = .ok (.bipush 27, 2) := by decide +kernel
theorem dL_hangs_56 : decode cL_hangs 56 = .ok (.if_icmp .ge 101, 3) := by decide +kernel
theorem dL_hangs_59 : decode cL_hangs 59 = .ok (.aload_n 0, 1) := by decide +kernel
theorem dL_hangs_60 : decode cL_hangs 60 = .ok (.invokevirtual 80, 3) := by decide +kernel
theorem dL_hangs_63 : decode cL_hangs 63 = .ok (.ifCond .lt 94, 3) := by decide +kernel
theorem dL_hangs_66 : decode cL_hangs 66 = .ok (.aload_n 0, 1) := by decide +kernel
theorem dL_hangs_67 : decode cL_hangs 67 = .ok (.invokevirtual 80, 3) := by decide +kernel
theorem dL_hangs_70 : decode cL_hangs 70 = .ok (.bipush 21, 2) := by decide +kernel
theorem dL_hangs_72 : decode cL_hangs 72 = .ok (.if_icmp .ge 85, 3) := by decide +kernel
theorem dL_hangs_75 : decode cL_hangs 75 = .ok (.aload_n 0, 1) := by decide +kernel
theorem dL_hangs_76 : decode cL_hangs 76 = .ok (.iload_n 1, 1) := by decide +kernel
theorem dL_hangs_77 : decode cL_hangs 77 = .ok (.iconst 0, 1) := by decide +kernel
theorem dL_hangs_78 : decode cL_hangs 78 = .ok (.invokevirtual 53, 3) := by decide +kernel
theorem dL_hangs_81 : decode cL_hangs 81 = .ok (.iconst (-1), 1) := by decide +kernel
theorem dL_hangs_82 : decode cL_hangs 82 = .ok (.if_icmp .ne 75, 3) := by decide +kernel
theorem dL_hangs_85 : decode cL_hangs 85 = .ok (.aload_n 0, 1) := by decide +kernel
theorem dL_hangs_86 : decode cL_hangs 86 = .ok (.iconst (-1), 1) := by decide +kernel
theorem dL_hangs_87 : decode cL_hangs 87 = .ok (.iconst 0, 1) := by decide +kernel
theorem dL_hangs_88 : decode cL_hangs 88 = .ok (.invokevirtual 53, 3) := by decide +kernel
theorem dL_hangs_91 : decode cL_hangs 91 = .ok (.iconst (-1), 1) := by decide +kernel
theorem dL_hangs_92 : decode cL_hangs 92 = .ok (.if_icmp .ne 65, 3) := by decide +kernel
theorem dL_hangs_95 : decode cL_hangs 95 = .ok (.aload_n 0, 1) := by decide +kernel
theorem dL_hangs_96 : decode cL_hangs 96 = .ok (.iload_n 3, 1) := by decide +kernel
theorem dL_hangs_97 : decode cL_hangs 97 = .ok (.invokevirtual 83, 3) := by decide +kernel
theorem dL_hangs_100 : decode cL_hangs 100 = .ok (.iconst (-1), 1) := by decide +kernel
theorem dL_hangs_101 : decode cL_hangs 101 = .ok (.if_icmp .ne 56, 3) := by decide +kernel
theorem dL_hangs_104 : decode cL_hangs 104 = .ok (.aload_n 0, 1) := by decide +kernel
theorem dL_hangs_105 : decode cL_hangs 105 = .ok (.iconst (-1), 1) := by decide +kernel
theorem dL_hangs_106 : decode cL_hangs 106 = .ok (.invokevirtual 83, 3) := by decide +kernel
theorem dL_hangs_109 : decode cL_hangs 109 = .ok (.iconst (-1), 1) := by decide +kernel
theorem dL_hangs_110 : decode cL_hangs 110 = .ok (.if_icmp .ne 47, 3) := by decide +kernel
theorem dL_hangs_113 : decode cL_hangs 113 = .ok (.aload_n 0, 1) := by decide +kernel
theorem dL_hangs_114 : decode cL_hangs 114 = .ok (.aload_n 0, 1) := by decide +kernel
theorem dL_hangs_115 : decode cL_hangs 115 = .ok (.invokevirtual 65, 3) := by decide +kernel
theorem dL_hangs_118 : decode cL_hangs 118 = .ok (.invokevirtual 68, 3) := by decide +kernel
theorem dL_hangs_121 : decode cL_hangs 121 = .ok (.iconst (-1), 1) := by decide +kernel
theorem dL_hangs_122 : decode cL_hangs 122 = .ok (.if_icmp .ne 35, 3) := by decide +kernel
theorem dL_hangs_125 : decode cL_hangs 125 = .ok (.aload_n 0, 1) := by decide +kernel
theorem dL_hangs_126 : decode cL_hangs 126 = .ok (.iconst (-1), 1) := by decide +kernel
theorem dL_hangs_127 : decode cL_hangs 127 = .ok (.invokevirtual 68, 3) := by decide +kernel
theorem dL_hangs_130 : decode cL_hangs 130 = .ok (.iconst (-1), 1) := by decide +kernel
theorem dL_hangs_131 : decode cL_hangs 131 = .ok (.if_icmp .ne 26, 3) := by decide +kernel
theorem dL_hangs_134 : decode cL_hangs 134 = .ok (.aload_n 0, 1) := by decide +kernel
theorem dL_hangs_135 : decode cL_hangs 135 = .ok (.iconst (-1), 1) := by decide +kernel
theorem dL_hangs_136 : decode cL_hangs 136 = .ok (.invokevirtual 71, 3) := by decide +kernel
theorem dL_hangs_139 : decode cL_hangs 139 = .ok (.iconst (-1), 1) := by decide +kernel
theorem dL_hangs_140 : decode cL_hangs 140 = .ok (.if_icmp .ne 17, 3) := by decide +kernel
theorem dL_hangs_143 : decode cL_hangs 143 = .ok (.aload_n 0, 1) := by decide +kernel
theorem dL_hangs_144 : decode cL_hangs 144 = .ok (.bipush 8, 2) := by decide +kernel
theorem dL_hangs_146 : decode cL_hangs 146 = .ok (.invokevirtual 71, 3) := by decide +kernel
theorem dL_hangs_149 : decode cL_hangs 149 = .ok (.iconst (-1), 1) := by decide +kernel
theorem dL_hangs_150 : decode cL_hangs 150 = .ok (.if_icmp .ne 7, 3) := by decide +kernel
theorem dL_hangs_153 : decode cL_hangs 153 = .ok (.iconst 1, 1) := by decide +kernel
theorem dL_hangs_154 : decode cL_hangs 154 = .ok (.goto 4, 3) := by decide +kernel
theorem dL_hangs_157 : decode cL_hangs 157 = .ok (.iconst 0, 1) := by decide +kernel
theorem dL_hangs_158 : decode cL_hangs 158 = .ok (.istore 4, 2) := by decide +kernel
theorem dL_hangs_160 : decode cL_hangs 160 = .ok (.iconst 0, 1) := by decide +kernel
theorem dL_hangs_161 : decode cL_hangs 161 = .ok (.istore 5, 2) := by decide +kernel
theorem dL_hangs_163 : decode cL_hangs 163 = .ok (.iload 5, 2) := by decide +kernel
theorem dL_hangs_165 : decode cL_hangs 165 = .ok (.iload_n 1, 1) := by decide +kernel
theorem dL_hangs_166 : decode cL_hangs 166 = .ok (.if_icmp .ge 22, 3) := by decide +kernel
theorem dL_hangs_169 : decode cL_hangs 169 = .ok (.iload 4, 2) := by decide +kernel
theorem dL_hangs_171 : decode cL_hangs 171 = .ok (.ifCond .eq 17, 3) := by decide +kernel
theorem dL_hangs_174 : decode cL_hangs 174 = .ok (.aload_n 0, 1) := by decide +kernel
theorem dL_hangs_175 : decode cL_hangs 175 = .ok (.iload 5, 2) := by decide +kernel
theorem dL_hangs_177 : decode cL_hangs 177 = .ok (.invokestatic 86, 3) := by decide +kernel
theorem dL_hangs_180 : decode cL_hangs 180 = .ok (.istore 4, 2) := by decide +kernel
theorem dL_hangs_182 : decode cL_hangs 182 = .ok (.iinc 5 1, 3) := by decide +kernel
theorem dL_hangs_185 : decode cL_hangs 185 = .ok (.goto (-22), 3) := by decide +kernel
theorem dL_hangs_188 : decode cL_hangs 188 = .ok (.iconst 0, 1) := by decide +kernel
theorem dL_hangs_189 : decode cL_hangs 189 = .ok (.istore 5, 2) := by decide +kernel
theorem dL_hangs_191 : decode cL_hangs 191 = .ok (.iload 5, 2) := by decide +kernel
theorem dL_hangs_193 : decode cL_hangs 193 = .ok (.bipush 8, 2) := by decide +kernel
theorem dL_hangs_195 : decode cL_hangs 195 = .ok (.if_icmp .ge 19, 3) := by decide +kernel
theorem dL_hangs_198 : decode cL_hangs 198 = .ok (.aload_n 0, 1) := by decide +kernel
theorem dL_hangs_199 : decode cL_hangs 199 = .ok (.iload 5, 2) := by decide +kernel
theorem dL_hangs_201 : decode cL_hangs 201 = .ok (.invokevirtual 71, 3) := by decide +kernel
theorem dL_hangs_204 : decode cL_hangs 204 = .ok (.iconst (-1), 1) := by decide +kernel
theorem dL_hangs_205 : decode cL_hangs 205 = .ok (.if_icmp .eq 9, 3) := by decide +kernel
theorem dL_hangs_208 : decode cL_hangs 208 = .ok (.iinc 5 1, 3) := by decide +kernel
theorem dL_hangs_211 : decode cL_hangs 211 = .ok (.goto (-20), 3) := by decide +kernel
theorem dL_hangs_214 : decode cL_hangs 214 = .ok (.iconst 0, 1) := by decide +kernel
theorem dL_hangs_215 : decode cL_hangs 215 = .ok (.istore 6, 2) := by decide +kernel
theorem dL_hangs_217 : decode cL_hangs 217 = .ok (.iconst 0, 1) := by decide +kernel
theorem dL_hangs_218 : decode cL_hangs 218 = .ok (.istore 7, 2) := by decide +kernel
theorem dL_hangs_220 : decode cL_hangs 220 = .ok (.iload 7, 2) := by decide +kernel
theorem dL_hangs_222 : decode cL_hangs 222 = .ok (.aload_n 0, 1) := by decide +kernel
theorem dL_hangs_223 : decode cL_hangs 223 = .ok (.invokevirtual 65, 3) := by decide +kernel
theorem dL_hangs_226 : decode cL_hangs 226 = .ok (.if_icmp .ge 72, 3) := by decide +kernel
theorem dL_hangs_229 : decode cL_hangs 229 = .ok (.iload 4, 2) := by decide +kernel
theorem dL_hangs_231 : decode cL_hangs 231 = .ok (.ifCond .eq 67, 3) := by decide +kernel
theorem dL_hangs_234 : decode cL_hangs 234 = .ok (.aload_n 0, 1) := by decide +kernel
theorem dL_hangs_235 : decode cL_hangs 235 = .ok (.iload 7, 2) := by decide +kernel
theorem dL_hangs_237 : decode cL_hangs 237 = .ok (.invokevirtual 68, 3) := by decide +kernel
theorem dL_hangs_240 : decode cL_hangs 240 = .ok (.bipush 97, 2) := by decide +kernel
theorem dL_hangs_242 : decode cL_hangs 242 = .ok (.isub, 1) := by decide +kernel
theorem dL_hangs_243 : decode cL_hangs 243 = .ok (.istore 8, 2) := by decide +kernel
theorem dL_hangs_245 : decode cL_hangs 245 = .ok (.iload 8, 2) := by decide +kernel
theorem dL_hangs_247 : decode cL_hangs 247 = .ok (.ifCond .lt 24, 3) := by decide +kernel
theorem dL_hangs_250 : decode cL_hangs 250 = .ok (.iload 8, 2) := by decide +kernel
theorem dL_hangs_252 : decode cL_hangs 252 = .ok (.bipush 26, 2) := by decide +kernel
theorem dL_hangs_254 : decode cL_hangs 254 = .ok (.if_icmp .ge 17, 3) := by decide +kernel
theorem dL_hangs_257 : decode cL_hangs 257 = .ok (.iload 6, 2) := by decide +kernel
theorem dL_hangs_259 : decode cL_hangs 259 = .ok (.iload 8, 2) := by decide +kernel
theorem dL_hangs_261 : decode cL_hangs 261 = .ok (.ishr, 1) := by decide +kernel
theorem dL_hangs_262 : decode cL_hangs 262 = .ok (.iconst 1, 1) := by decide +kernel
theorem dL_hangs_263 : decode cL_hangs 263 = .ok (.iand, 1) := by decide +kernel
theorem dL_hangs_264 : decode cL_hangs 264 = .ok (.ifCond .ne 7, 3) := by decide +kernel
theorem dL_hangs_267 : decode cL_hangs 267 = .ok (.iconst 1, 1) := by decide +kernel
theorem dL_hangs_268 : decode cL_hangs 268 = .ok (.goto 4, 3) := by decide +kernel
theorem dL_hangs_271 : decode cL_hangs 271 = .ok (.iconst 0, 1) := by decide +kernel
theorem dL_hangs_272 : decode cL_hangs 272 = .ok (.istore 4, 2) := by decide +kernel
theorem dL_hangs_274 : decode cL_hangs 274 = .ok (.iload 6, 2) := by decide +kernel
theorem dL_hangs_276 : decode cL_hangs 276 = .ok (.iload 4, 2) := by decide +kernel
theorem dL_hangs_278 : decode cL_hangs 278 = .ok (.ifCond .eq 10, 3) := by decide +kernel
theorem dL_hangs_281 : decode cL_hangs 281 = .ok (.iconst 1, 1) := by decide +kernel
theorem dL_hangs_282 : decode cL_hangs 282 = .ok (.iload 8, 2) := by decide +kernel
theorem dL_hangs_284 : decode cL_hangs 284 = .ok (.ishl, 1) := by decide +kernel
theorem dL_hangs_285 : decode cL_hangs 285 = .ok (.goto 4, 3) := by decide +kernel
theorem dL_hangs_288 : decode cL_hangs 288 = .ok (.iconst 0, 1) := by decide +kernel
theorem dL_hangs_289 : decode cL_hangs 289 = .ok (.ior, 1) := by decide +kernel
theorem dL_hangs_290 : decode cL_hangs 290 = .ok (.istore 6, 2) := by decide +kernel
theorem dL_hangs_292 : decode cL_hangs 292 = .ok (.iinc 7 1, 3) := by decide +kernel
theorem dL_hangs_295 : decode cL_hangs 295 = .ok (.goto (-75), 3) := by decide +kernel
theorem dL_hangs_298 : decode cL_hangs 298 = .ok (.iconst (-1), 1) := by decide +kernel
theorem dL_hangs_299 : decode cL_hangs 299 = .ok (.istore 7, 2) := by decide +kernel
theorem dL_hangs_301 : decode cL_hangs 301 = .ok (.iconst 0, 1) := by decide +kernel
theorem dL_hangs_302 : decode cL_hangs 302 = .ok (.istore 8, 2) := by decide +kernel
theorem dL_hangs_304 : decode cL_hangs 304 = .ok (.iload 8, 2) := by decide +kernel
theorem dL_hangs_306 : decode cL_hangs 306 = .ok (.iload_n 3, 1) := by decide +kernel
theorem dL_hangs_307 : decode cL_hangs 307 = .ok (.if_icmp .ge 65, 3) := by decide +kernel
theorem dL_hangs_310 : decode cL_hangs 310 = .ok (.iload 4, 2) := by decide +kernel
theorem dL_hangs_312 : decode cL_hangs 312 = .ok (.ifCond .eq 60, 3) := by decide +kernel
theorem dL_hangs_315 : decode cL_hangs 315 = .ok (.aload_n 0, 1) := by decide +kernel
theorem dL_hangs_316 : decode cL_hangs 316 = .ok (.iload 8, 2) := by decide +kernel
theorem dL_hangs_318 : decode cL_hangs 318 = .ok (.invokevirtual 83, 3) := by decide +kernel
theorem dL_hangs_321 : decode cL_hangs 321 = .ok (.iload 7, 2) := by decide +kernel
theorem dL_hangs_323 : decode cL_hangs 323 = .ok (.if_icmp .le 32, 3) := by decide +kernel
theorem dL_hangs_326 : decode cL_hangs 326 = .ok (.aload_n 0, 1) := by decide +kernel
theorem dL_hangs_327 : decode cL_hangs 327 = .ok (.iload 8, 2) := by decide +kernel
theorem dL_hangs_329 : decode cL_hangs 329 = .ok (.invokevirtual 83, 3) := by decide +kernel
theorem dL_hangs_332 : decode cL_hangs 332 = .ok (.iload_n 1, 1) := by decide +kernel
theorem dL_hangs_333 : decode cL_hangs 333 = .ok (.if_icmp .ge 22, 3) := by decide +kernel
theorem dL_hangs_336 : decode cL_hangs 336 = .ok (.aload_n 0, 1) := by decide +kernel
theorem dL_hangs_337 : decode cL_hangs 337 = .ok (.aload_n 0, 1) := by decide +kernel
theorem dL_hangs_338 : decode cL_hangs 338 = .ok (.iload 8, 2) := by decide +kernel
theorem dL_hangs_340 : decode cL_hangs 340 = .ok (.invokevirtual 83, 3) := by decide +kernel
theorem dL_hangs_343 : decode cL_hangs 343 = .ok (.iload 5, 2) := by decide +kernel
theorem dL_hangs_345 : decode cL_hangs 345 = .ok (.invokestatic 90, 3) := by decide +kernel
theorem dL_hangs_348 : decode cL_hangs 348 = .ok (.ifCond .eq 7, 3) := by decide +kernel
theorem dL_hangs_351 : decode cL_hangs 351 = .ok (.iconst 1, 1) := by decide +kernel
theorem dL_hangs_352 : decode cL_hangs 352 = .ok (.goto 4, 3) := by decide +kernel
theorem dL_hangs_355 : decode cL_hangs 355 = .ok (.iconst 0, 1) := by decide +kernel
theorem dL_hangs_356 : decode cL_hangs 356 = .ok (.istore 4, 2) := by decide +kernel
theorem dL_hangs_358 : decode cL_hangs 358 = .ok (.aload_n 0, 1) := by decide +kernel
theorem dL_hangs_359 : decode cL_hangs 359 = .ok (.iload 8, 2) := by decide +kernel
theorem dL_hangs_361 : decode cL_hangs 361 = .ok (.invokevirtual 83, 3) := by decide +kernel
theorem dL_hangs_364 : decode cL_hangs 364 = .ok (.istore 7, 2) := by decide +kernel
theorem dL_hangs_366 : decode cL_hangs 366 = .ok (.iinc 8 1, 3) := by decide +kernel
theorem dL_hangs_369 : decode cL_hangs 369 = .ok (.goto (-65), 3) := by decide +kernel
theorem dL_hangs_372 : decode cL_hangs 372 = .ok (.iload_n 2, 1) := by decide +kernel
theorem dL_hangs_373 : decode cL_hangs 373 = .ok (.iconst 1, 1) := by decide +kernel
theorem dL_hangs_374 : decode cL_hangs 374 = .ok (.if_icmp .ne 7, 3) := by decide +kernel
theorem dL_hangs_377 : decode cL_hangs 377 = .ok (.iconst 1, 1) := by decide +kernel
theorem dL_hangs_378 : decode cL_hangs 378 = .ok (.goto 4, 3) := by decide +kernel
theorem dL_hangs_381 : decode cL_hangs 381 = .ok (.iconst 0, 1) := by decide +kernel
theorem dL_hangs_382 : decode cL_hangs 382 = .ok (.istore 8, 2) := by decide +kernel
theorem dL_hangs_384 : decode cL_hangs 384 = .ok (.iload 4, 2) := by decide +kernel
theorem dL_hangs_386 : decode cL_hangs 386 = .ok (.ifCond .eq 177, 3) := by decide +kernel
theorem dL_hangs_389 : decode cL_hangs 389 = .ok (.iload_n 2, 1) := by decide +kernel
theorem dL_hangs_390 : decode cL_hangs 390 = .ok (.ifCond .ne 40, 3) := by decide +kernel
theorem dL_hangs_393 : decode cL_hangs 393 = .ok (.iload 5, 2) := by decide +kernel
theorem dL_hangs_395 : decode cL_hangs 395 = .ok (.ifCond .ne 168, 3) := by decide +kernel
theorem dL_hangs_398 : decode cL_hangs 398 = .ok (.iload_n 3, 1) := by decide +kernel
theorem dL_hangs_399 : decode cL_hangs 399 = .ok (.ifCond .ne 164, 3) := by decide +kernel
theorem dL_hangs_402 : decode cL_hangs 402 = .ok (.aload_n 0, 1) := by decide +kernel
theorem dL_hangs_403 : decode cL_hangs 403 = .ok (.invokevirtual 65, 3) := by decide +kernel
theorem dL_hangs_406 : decode cL_hangs 406 = .ok (.ifCond .ne 157, 3) := by decide +kernel
theorem dL_hangs_409 : decode cL_hangs 409 = .ok (.aload_n 0, 1) := by decide +kernel
theorem dL_hangs_410 : decode cL_hangs 410 = .ok (.invokevirtual 80, 3) := by decide +kernel
theorem dL_hangs_413 : decode cL_hangs 413 = .ok (.ifCond .ne 150, 3) := by decide +kernel
theorem dL_hangs_416 : decode cL_hangs 416 = .ok (.aload_n 0, 1) := by decide +kernel
theorem dL_hangs_417 : decode cL_hangs 417 = .ok (.bipush 97, 2) := by decide +kernel
theorem dL_hangs_419 : decode cL_hangs 419 = .ok (.invokevirtual 94, 3) := by decide +kernel
theorem dL_hangs_422 : decode cL_hangs 422 = .ok (.bipush (-3), 2) := by decide +kernel
theorem dL_hangs_424 : decode cL_hangs 424 = .ok (.if_icmp .ne 139, 3) := by decide +kernel
theorem dL_hangs_427 : decode cL_hangs 427 = .ok (.goto 22, 3) := by decide +kernel
theorem dL_hangs_430 : decode cL_hangs 430 = .ok (.iload 5, 2) := by decide +kernel
theorem dL_hangs_432 : decode cL_hangs 432 = .ok (.iconst 1, 1) := by decide +kernel
theorem dL_hangs_433 : decode cL_hangs 433 = .ok (.if_icmp .le 130, 3) := by decide +kernel
theorem dL_hangs_436 : decode cL_hangs 436 = .ok (.iload_n 3, 1) := by decide +kernel
theorem dL_hangs_437 : decode cL_hangs 437 = .ok (.ifCond .le 126, 3) := by decide +kernel
theorem dL_hangs_440 : decode cL_hangs 440 = .ok (.aload_n 0, 1) := by decide +kernel
theorem dL_hangs_441 : decode cL_hangs 441 = .ok (.bipush 97, 2) := by decide +kernel
theorem dL_hangs_443 : decode cL_hangs 443 = .ok (.invokevirtual 94, 3) := by decide +kernel
theorem dL_hangs_446 : decode cL_hangs 446 = .ok (.ifCond .lt 117, 3) := by decide +kernel
theorem dL_hangs_449 : decode cL_hangs 449 = .ok (.iload_n 2, 1) := by decide +kernel
theorem dL_hangs_450 : decode cL_hangs 450 = .ok (.iconst 1, 1) := by decide +kernel
theorem dL_hangs_451 : decode cL_hangs 451 = .ok (.if_icmp .ne 44, 3) := by decide +kernel
theorem dL_hangs_454 : decode cL_hangs 454 = .ok (.aload_n 0, 1) := by decide +kernel
theorem dL_hangs_455 : decode cL_hangs 455 = .ok (.invokevirtual 80, 3) := by decide +kernel
theorem dL_hangs_458 : decode cL_hangs 458 = .ok (.ifCond .le 105, 3) := by decide +kernel
theorem dL_hangs_461 : decode cL_hangs 461 = .ok (.aload_n 0, 1) := by decide +kernel
theorem dL_hangs_462 : decode cL_hangs 462 = .ok (.invokevirtual 97, 3) := by decide +kernel
theorem dL_hangs_465 : decode cL_hangs 465 = .ok (.bipush 96, 2) := by decide +kernel
theorem dL_hangs_467 : decode cL_hangs 467 = .ok (.if_icmp .le 96, 3) := by decide +kernel
theorem dL_hangs_470 : decode cL_hangs 470 = .ok (.aload_n 0, 1) := by decide +kernel
theorem dL_hangs_471 : decode cL_hangs 471 = .ok (.invokevirtual 100, 3) := by decide +kernel
theorem dL_hangs_474 : decode cL_hangs 474 = .ok (.aload_n 0, 1) := by decide +kernel
theorem dL_hangs_475 : decode cL_hangs 475 = .ok (.invokevirtual 80, 3) := by decide +kernel
theorem dL_hangs_478 : decode cL_hangs 478 = .ok (.if_icmp .gt 85, 3) := by decide +kernel
theorem dL_hangs_481 : decode cL_hangs 481 = .ok (.aload_n 0, 1) := by decide +kernel
theorem dL_hangs_482 : decode cL_hangs 482 = .ok (.invokevirtual 100, 3) := by decide +kernel
theorem dL_hangs_485 : decode cL_hangs 485 = .ok (.ifCond .lt 78, 3) := by decide +kernel
theorem dL_hangs_488 : decode cL_hangs 488 = .ok (.aload_n 0, 1) := by decide +kernel
theorem dL_hangs_489 : decode cL_hangs 489 = .ok (.invokevirtual 103, 3) := by decide +kernel
theorem dL_hangs_492 : decode cL_hangs 492 = .ok (.ifCond .lt 71, 3) := by decide +kernel
theorem dL_hangs_495 : decode cL_hangs 495 = .ok (.iload_n 2, 1) := by decide +kernel
theorem dL_hangs_496 : decode cL_hangs 496 = .ok (.iconst 1, 1) := by decide +kernel
theorem dL_hangs_497 : decode cL_hangs 497 = .ok (.if_icmp .eq 52, 3) := by decide +kernel
theorem dL_hangs_500 : decode cL_hangs 500 = .ok (.aload_n 0, 1) := by decide +kernel
theorem dL_hangs_501 : decode cL_hangs 501 = .ok (.invokevirtual 97, 3) := by decide +kernel
theorem dL_hangs_504 : decode cL_hangs 504 = .ok (.bipush (-3), 2) := by decide +kernel
theorem dL_hangs_506 : decode cL_hangs 506 = .ok (.if_icmp .ne 57, 3) := by decide +kernel
theorem dL_hangs_509 : decode cL_hangs 509 = .ok (.aload_n 0, 1) := by decide +kernel
theorem dL_hangs_510 : decode cL_hangs 510 = .ok (.invokevirtual 100, 3) := by decide +kernel
theorem dL_hangs_513 : decode cL_hangs 513 = .ok (.bipush (-3), 2) := by decide +kernel
theorem dL_hangs_515 : decode cL_hangs 515 = .ok (.if_icmp .ne 48, 3) := by decide +kernel
theorem dL_hangs_518 : decode cL_hangs 518 = .ok (.aload_n 0, 1) := by decide +kernel
theorem dL_hangs_519 : decode cL_hangs 519 = .ok (.invokevirtual 103, 3) := by decide +kernel
theorem dL_hangs_522 : decode cL_hangs 522 = .ok (.bipush (-3), 2) := by decide +kernel
theorem dL_hangs_524 : decode cL_hangs 524 = .ok (.if_icmp .ne 39, 3) := by decide +kernel
theorem dL_hangs_527 : decode cL_hangs 527 = .ok (.aload_n 0, 1) := by decide +kernel
theorem dL_hangs_528 : decode cL_hangs 528 = .ok (.bipush 100, 2) := by decide +kernel
theorem dL_hangs_530 : decode cL_hangs 530 = .ok (.invokevirtual 106, 3) := by decide +kernel
theorem dL_hangs_533 : decode cL_hangs 533 = .ok (.bipush (-3), 2) := by decide +kernel
theorem dL_hangs_535 : decode cL_hangs 535 = .ok (.if_icmp .ne 28, 3) := by decide +kernel
theorem dL_hangs_538 : decode cL_hangs 538 = .ok (.aload_n 0, 1) := by decide +kernel
theorem dL_hangs_539 : decode cL_hangs 539 = .ok (.bipush 100, 2) := by decide +kernel
theorem dL_hangs_541 : decode cL_hangs 541 = .ok (.invokevirtual 109, 3) := by decide +kernel
theorem dL_hangs_544 : decode cL_hangs 544 = .ok (.bipush (-3), 2) := by decide +kernel
theorem dL_hangs_546 : decode cL_hangs 546 = .ok (.if_icmp .ne 17, 3) := by decide +kernel
theorem dL_hangs_549 : decode cL_hangs 549 = .ok (.iload_n 2, 1) := by decide +kernel
theorem dL_hangs_550 : decode cL_hangs 550 = .ok (.iconst 2, 1) := by decide +kernel
theorem dL_hangs_551 : decode cL_hangs 551 = .ok (.if_icmp .ne 8, 3) := by decide +kernel
theorem dL_hangs_554 : decode cL_hangs 554 = .ok (.iload_n 3, 1) := by decide +kernel
theorem dL_hangs_555 : decode cL_hangs 555 = .ok (.iconst 1, 1) := by decide +kernel
theorem dL_hangs_556 : decode cL_hangs 556 = .ok (.if_icmp .ne 7, 3) := by decide +kernel
theorem dL_hangs_559 : decode cL_hangs 559 = .ok (.iconst 1, 1) := by decide +kernel
theorem dL_hangs_560 : decode cL_hangs 560 = .ok (.goto 4, 3) := by decide +kernel
theorem dL_hangs_563 : decode cL_hangs 563 = .ok (.iconst 0, 1) := by decide +kernel
theorem dL_hangs_564 : decode cL_hangs 564 = .ok (.istore 4, 2) := by decide +kernel
theorem dL_hangs_566 : decode cL_hangs 566 = .ok (.iload 4, 2) := by decide +kernel
theorem dL_hangs_568 : decode cL_hangs 568 = .ok (.ifCond .eq 74, 3) := by decide +kernel
theorem dL_hangs_571 : decode cL_hangs 571 = .ok (.aload_n 0, 1) := by decide +kernel
theorem dL_hangs_572 : decode cL_hangs 572 = .ok (.iconst 0, 1) := by decide +kernel
theorem dL_hangs_573 : decode cL_hangs 573 = .ok (.invokevirtual 112, 3) := by decide +kernel
theorem dL_hangs_576 : decode cL_hangs 576 = .ok (.aload_n 0, 1) := by decide +kernel
theorem dL_hangs_577 : decode cL_hangs 577 = .ok (.iconst 1, 1) := by decide +kernel
theorem dL_hangs_578 : decode cL_hangs 578 = .ok (.invokevirtual 112, 3) := by decide +kernel
theorem dL_hangs_581 : decode cL_hangs 581 = .ok (.aload_n 0, 1) := by decide +kernel
theorem dL_hangs_582 : decode cL_hangs 582 = .ok (.iconst 2, 1) := by decide +kernel
theorem dL_hangs_583 : decode cL_hangs 583 = .ok (.invokevirtual 112, 3) := by decide +kernel
theorem dL_hangs_586 : decode cL_hangs 586 = .ok (.iadd, 1) := by decide +kernel
theorem dL_hangs_587 : decode cL_hangs 587 = .ok (.iload 8, 2) := by decide +kernel
theorem dL_hangs_589 : decode cL_hangs 589 = .ok (.iadd, 1) := by decide +kernel
theorem dL_hangs_590 : decode cL_hangs 590 = .ok (.if_icmp .lt 52, 3) := by decide +kernel
theorem dL_hangs_593 : decode cL_hangs 593 = .ok (.aload_n 0, 1) := by decide +kernel
theorem dL_hangs_594 : decode cL_hangs 594 = .ok (.iconst 3, 1) := by decide +kernel
theorem dL_hangs_595 : decode cL_hangs 595 = .ok (.invokevirtual 112, 3) := by decide +kernel
theorem dL_hangs_598 : decode cL_hangs 598 = .ok (.aload_n 0, 1) := by decide +kernel
theorem dL_hangs_599 : decode cL_hangs 599 = .ok (.invokevirtual 65, 3) := by decide +kernel
theorem dL_hangs_602 : decode cL_hangs 602 = .ok (.if_icmp .lt 40, 3) := by decide +kernel
theorem dL_hangs_605 : decode cL_hangs 605 = .ok (.aload_n 0, 1) := by decide +kernel
theorem dL_hangs_606 : decode cL_hangs 606 = .ok (.iconst 5, 1) := by decide +kernel
theorem dL_hangs_607 : decode cL_hangs 607 = .ok (.invokevirtual 112, 3) := by decide +kernel
theorem dL_hangs_610 : decode cL_hangs 610 = .ok (.aload_n 0, 1) := by decide +kernel
theorem dL_hangs_611 : decode cL_hangs 611 = .ok (.bipush 6, 2) := by decide +kernel
theorem dL_hangs_613 : decode cL_hangs 613 = .ok (.invokevirtual 112, 3) := by decide +kernel
theorem dL_hangs_616 : decode cL_hangs 616 = .ok (.if_icmp .lt 26, 3) := by decide +kernel
theorem dL_hangs_619 : decode cL_hangs 619 = .ok (.aload_n 0, 1) := by decide +kernel
theorem dL_hangs_620 : decode cL_hangs 620 = .ok (.iconst 5, 1) := by decide +kernel
theorem dL_hangs_621 : decode cL_hangs 621 = .ok (.invokevirtual 112, 3) := by decide +kernel
theorem dL_hangs_624 : decode cL_hangs 624 = .ok (.aload_n 0, 1) := by decide +kernel
theorem dL_hangs_625 : decode cL_hangs 625 = .ok (.iconst 3, 1) := by decide +kernel
theorem dL_hangs_626 : decode cL_hangs 626 = .ok (.invokevirtual 112, 3) := by decide +kernel
theorem dL_hangs_629 : decode cL_hangs 629 = .ok (.aload_n 0, 1) := by decide +kernel
theorem dL_hangs_630 : decode cL_hangs 630 = .ok (.iconst 4, 1) := by decide +kernel
theorem dL_hangs_631 : decode cL_hangs 631 = .ok (.invokevirtual 112, 3) := by decide +kernel
theorem dL_hangs_634 : decode cL_hangs 634 = .ok (.iadd, 1) := by decide +kernel
theorem dL_hangs_635 : decode cL_hangs 635 = .ok (.if_icmp .gt 7, 3) := by decide +kernel
theorem dL_hangs_638 : decode cL_hangs 638 = .ok (.iconst 1, 1) := by decide +kernel
theorem dL_hangs_639 : decode cL_hangs 639 = .ok (.goto 4, 3) := by decide +kernel
theorem dL_hangs_642 : decode cL_hangs 642 = .ok (.iconst 0, 1) := by decide +kernel
theorem dL_hangs_643 : decode cL_hangs 643 = .ok (.ireturn, 1) := by decide +kernel
set_option maxRecDepth 20000 in
theorem ggL_refuses_X5_words : GoodIn wsL_refuses wsX5_words := goodIn_r _ [5, 6, 304, 305, 306, 307, 308, 309, 310, 311, 312, 313, 314, 315, 316, 317, 318, 319, 320] (by decide +kernel) (by decide +kernel)
set_option maxRecDepth 20000 in
theorem gL_refuses_X5_words : GoodIn wsL_refuses (wsV RL 24 RX5 yX5_words wsX5_words) := goodIn_app (goodIn_of _ (by decide +kernel)) ggL_refuses_X5_words
set_option maxRecDepth 20000 in
theorem ggL_refuses_X5_removeWord : GoodIn wsL_refuses wsX5_removeWord := goodIn_r _ [10, 6, 11, 12, 13, 14, 15, 16, 17, 18, 19, 20, 21, 22, 23, 24, 25, 26, 27, 28, 29, 30, 31, 32, 33, 34, 35, 36, 37, 38, 39, 40, 41, 42, 43, 44, 45, 46, 47, 48, 49, 50, 51, 52, 53, 54, 55, 56, 57, 58, 59, 60, 61, 62, 63, 64, 65, 66, 67, 68, 69, 70, 304, 305, 306, 307, 308, 309, 310, 311, 312, 313, 314, 315, 316, 317, 318, 319, 320, 321, 322, 323] (by decide +kernel) (by decide +kernel)
set_option maxRecDepth 20000 in
theorem gL_refuses_X5_removeWord : GoodIn wsL_refuses (wsV RL 41 RX5 yX5_removeWord wsX5_removeWord) := goodIn_app (goodIn_of _ (by decide +kernel)) ggL_refuses_X5_removeWord
set_option maxRecDepth 20000 in
theorem ggL_refuses_X5_letterOf : GoodIn wsL_refuses wsX5_letterOf := goodIn_r _ [74, 6, 75, 76, 77, 15, 78, 43, 66, 13, 14, 16, 17, 79, 80, 81, 82, 83, 84, 85, 304, 305, 306, 307, 308, 309, 310, 311, 312, 313, 314, 315, 316, 317, 318, 319, 320] (by decide +kernel) (by decide +kernel)
set_option maxRecDepth 20000 in
theorem gL_refuses_X5_letterOf : GoodIn wsL_refuses (wsV RL 53 RX5 yX5_letterOf wsX5_letterOf) := goodIn_app (goodIn_of _ (by decide +kernel)) ggL_refuses_X5_letterOf
set_option maxRecDepth 20000 in
theorem ggL_refuses_X5_setPolicy : GoodIn wsL_refuses wsX5_setPolicy := goodIn_r _ [89, 6, 11, 23, 24, 25, 26, 27, 28, 29, 30, 31, 15, 32, 33, 34, 35, 36, 37, 38, 39, 40, 41, 42, 43, 44, 45, 46, 47, 48, 49, 50, 51, 52, 53, 54, 17, 55, 22, 56, 57, 58, 59, 60, 61, 304, 305, 306, 307, 308, 309, 310, 311, 312, 313, 314, 315, 316, 317, 318, 319, 320, 321, 322, 323] (by decide +kernel) (by decide +kernel)
set_option maxRecDepth 20000 in
theorem gL_refuses_X5_setPolicy : GoodIn wsL_refuses (wsV RL 44 RX5 yX5_setPolicy wsX5_setPolicy) := goodIn_app (goodIn_of _ (by decide +kernel)) ggL_refuses_X5_setPolicy
set_option maxRecDepth 20000 in
theorem ggL_refuses_X5_start : GoodIn wsL_refuses wsX5_start := goodIn_r _ [93, 6, 11, 94, 95, 96, 15, 97, 17, 98, 76, 77, 78, 43, 66, 13, 14, 16, 99, 100, 81, 101, 102, 80, 82, 83, 84, 85, 23, 24, 25, 26, 27, 28, 29, 30, 31, 32, 33, 34, 35, 36, 37, 38, 39, 40, 41, 42, 44, 45, 46, 47, 48, 49, 50, 51, 52, 53, 54, 55, 22, 56, 57, 58, 59, 60, 61, 103, 104, 105, 106, 107, 68, 69, 70, 108, 109, 110, 111, 112, 113, 114, 115, 116, 117, 118, 304, 305, 306, 307, 308, 309, 310, 311, 312, 313, 314, 315, 316, 317, 318, 319, 320, 321, 322, 323] (by decide +kernel) (by decide +kernel)
set_option maxRecDepth 20000 in
theorem gL_refuses_X5_start : GoodIn wsL_refuses (wsV RL 59 RX5 yX5_start wsX5_start) := goodIn_app (goodIn_of _ (by decide +kernel)) ggL_refuses_X5_start
set_option maxRecDepth 20000 in
theorem ggL_refuses_X5_guess : GoodIn wsL_refuses wsX5_guess := goodIn_r _ [122, 6, 11, 123, 124, 4, 125, 18, 19, 20, 15, 21, 22, 126, 127, 128, 129, 59, 130, 131, 23, 24, 25, 26, 27, 28, 29, 30, 31, 32, 33, 34, 35, 36, 37, 38, 39, 40, 41, 42, 43, 44, 45, 46, 47, 48, 49, 50, 51, 52, 53, 54, 17, 55, 56, 57, 58, 60, 61, 132, 133, 134, 135, 136, 137, 138, 139, 140, 141, 142, 143, 144, 145, 146, 147, 66, 13, 14, 16, 148, 76, 77, 78, 149, 150, 81, 151, 102, 80, 82, 83, 84, 85, 152, 153, 154, 155, 156, 157, 158, 159, 160, 161, 162, 163, 164, 165, 166, 167, 168, 169, 170, 171, 172, 173, 174, 175, 176, 177, 178, 179, 180, 181, 182, 113, 114, 115, 116, 117, 118, 183, 184, 185, 186, 187, 188, 189, 190, 191, 192, 193, 194, 195, 196, 197, 198, 199, 108, 109, 110, 111, 200, 201, 202, 203, 204, 205, 206, 207, 208, 209, 210, 99, 100, 101, 211, 212, 213, 214, 112, 304, 305, 306, 307, 308, 309, 310, 311, 312, 313, 314, 315, 316, 317, 318, 319, 320, 321, 322, 323, 324, 325, 326, 327, 328] (by decide +kernel) (by decide +kernel)
set_option maxRecDepth 20000 in
theorem gL_refuses_X5_guess : GoodIn wsL_refuses (wsV RL 62 RX5 yX5_guess wsX5_guess) := goodIn_app (goodIn_of _ (by decide +kernel)) ggL_refuses_X5_guess
set_option maxRecDepth 20000 in
theorem ggL_refuses_X5_families : GoodIn wsL_refuses wsX5_families := goodIn_r _ [218, 136, 6, 219, 220, 221, 4, 222, 123, 124, 125, 18, 19, 20, 15, 21, 22, 126, 127, 128, 129, 59, 130, 131, 137, 138, 139, 140, 141, 142, 143, 144, 145, 146, 147, 58, 66, 13, 14, 16, 17, 148, 76, 77, 78, 43, 149, 150, 81, 151, 102, 80, 82, 83, 84, 85, 152, 153, 154, 155, 156, 157, 158, 159, 160, 161, 162, 163, 164, 165, 166, 167, 168, 169, 304, 305, 306, 307, 308, 324, 325, 326, 327, 328, 309, 310, 311, 312, 313, 314, 315, 316, 317, 318, 319, 320] (by decide +kernel) (by decide +kernel)
set_option maxRecDepth 20000 in
theorem gL_refuses_X5_families : GoodIn wsL_refuses (wsV RL 106 RX5 yX5_families wsX5_families) := goodIn_app (goodIn_of _ (by decide +kernel)) ggL_refuses_X5_families
set_option maxRecDepth 20000 in
theorem ggL_refuses_X5_family : GoodIn wsL_refuses wsX5_family := goodIn_r _ [226, 136, 6, 219, 220, 221, 4, 222, 123, 124, 125, 18, 19, 20, 15, 21, 22, 126, 127, 128, 129, 59, 130, 131, 137, 138, 139, 140, 141, 142, 143, 144, 145, 146, 147, 58, 66, 13, 14, 16, 17, 148, 76, 77, 78, 43, 149, 150, 81, 151, 102, 80, 82, 83, 84, 85, 152, 153, 154, 155, 156, 157, 158, 159, 160, 161, 162, 163, 164, 165, 166, 167, 168, 169, 227, 228, 229, 230, 231, 232, 233, 234, 174, 175, 176, 177, 178, 179, 180, 181, 182, 113, 114, 115, 116, 117, 118, 183, 184, 185, 186, 235, 236, 187, 188, 189, 190, 191, 237, 238, 239, 240, 304, 305, 306, 307, 308, 309, 310, 311, 312, 313, 314, 315, 316, 317, 318, 319, 320, 324, 325, 326, 327, 328] (by decide +kernel) (by decide +kernel)
set_option maxRecDepth 20000 in
theorem gL_refuses_X5_family : GoodIn wsL_refuses (wsV RL 115 RX5 yX5_family wsX5_family) := goodIn_app (goodIn_of _ (by decide +kernel)) ggL_refuses_X5_family
set_option maxRecDepth 20000 in
theorem ggL_refuses_X5_spread : GoodIn wsL_refuses wsX5_spread := goodIn_r _ [244, 136, 6, 219, 220, 221, 4, 222, 123, 124, 125, 18, 19, 20, 15, 21, 22, 126, 127, 128, 129, 59, 130, 131, 137, 138, 139, 140, 141, 142, 143, 144, 145, 146, 147, 58, 66, 13, 14, 16, 17, 148, 76, 77, 78, 43, 149, 150, 81, 151, 102, 80, 82, 83, 84, 85, 152, 153, 154, 155, 156, 157, 158, 159, 160, 161, 162, 163, 164, 165, 166, 167, 168, 169, 245, 246, 247, 248, 112, 113, 114, 115, 116, 117, 118, 249, 250, 251, 252, 183, 184, 185, 186, 182, 304, 305, 306, 307, 308, 309, 310, 311, 312, 313, 314, 315, 316, 317, 318, 319, 320, 324, 325, 326, 327, 328] (by decide +kernel) (by decide +kernel)
set_option maxRecDepth 20000 in
theorem gL_refuses_X5_spread : GoodIn wsL_refuses (wsV RL 109 RX5 yX5_spread wsX5_spread) := goodIn_app (goodIn_of _ (by decide +kernel)) ggL_refuses_X5_spread
set_option maxRecDepth 20000 in
theorem ggL_refuses_X5_having : GoodIn wsL_refuses wsX5_having := goodIn_r _ [256, 6, 123, 124, 4, 125, 257, 258, 259, 15, 260, 17, 261, 145, 146, 147, 58, 66, 13, 14, 16, 98, 76, 77, 78, 43, 262, 150, 81, 151, 102, 80, 82, 83, 84, 85, 304, 305, 306, 307, 308, 309, 310, 311, 312, 313, 314, 315, 316, 317, 318, 319, 320] (by decide +kernel) (by decide +kernel)
set_option maxRecDepth 20000 in
theorem gL_refuses_X5_having : GoodIn wsL_refuses (wsV RL 94 RX5 yX5_having wsX5_having) := goodIn_app (goodIn_of _ (by decide +kernel)) ggL_refuses_X5_having
set_option maxRecDepth 20000 in
theorem ggL_refuses_X5_total : GoodIn wsL_refuses wsX5_total := goodIn_r _ [266, 6, 267, 268, 269, 15, 270, 46, 304, 305, 306, 307, 308, 309, 310, 311, 312, 313, 314, 315, 316, 317, 318, 319, 320] (by decide +kernel) (by decide +kernel)
set_option maxRecDepth 20000 in
theorem gL_refuses_X5_total : GoodIn wsL_refuses (wsV RL 112 RX5 yX5_total wsX5_total) := goodIn_app (goodIn_of _ (by decide +kernel)) ggL_refuses_X5_total
set_option maxRecDepth 20000 in
theorem ggL_refuses_X5_type : GoodIn wsL_refuses wsX5_type := goodIn_r _ [274, 275, 276, 277, 278, 279, 280, 281, 282, 304, 305, 306, 307, 308, 329, 330, 331] (by decide +kernel) (by decide +kernel)
set_option maxRecDepth 20000 in
theorem gL_refuses_X5_type : GoodIn wsL_refuses (wsV RL 19 RX5 yX5_type wsX5_type) := goodIn_app (goodIn_of _ (by decide +kernel)) ggL_refuses_X5_type
set_option maxRecDepth 20000 in
theorem ggL_refuses_X5_status : GoodIn wsL_refuses wsX5_status := goodIn_r _ [286, 6, 304, 305, 306, 307, 308, 309, 310, 311, 312, 313, 314, 315, 316, 317, 318, 319, 320] (by decide +kernel) (by decide +kernel)
set_option maxRecDepth 20000 in
theorem gL_refuses_X5_status : GoodIn wsL_refuses (wsV RL 74 RX5 yX5_status wsX5_status) := goodIn_app (goodIn_of _ (by decide +kernel)) ggL_refuses_X5_status
set_option maxRecDepth 20000 in
theorem ggL_refuses_X5_giveUp : GoodIn wsL_refuses wsX5_giveUp := goodIn_r _ [290, 6, 11, 18, 19, 20, 15, 21, 22, 23, 24, 25, 26, 27, 28, 29, 30, 31, 32, 33, 34, 35, 36, 37, 38, 39, 40, 41, 42, 43, 44, 45, 46, 47, 48, 49, 50, 51, 52, 53, 54, 17, 55, 56, 57, 58, 59, 60, 61, 291, 205, 206, 207, 108, 109, 110, 111, 237, 238, 4, 239, 304, 305, 306, 307, 308, 309, 310, 311, 312, 313, 314, 315, 316, 317, 318, 319, 320, 321, 322, 323] (by decide +kernel) (by decide +kernel)
set_option maxRecDepth 20000 in
theorem gL_refuses_X5_giveUp : GoodIn wsL_refuses (wsV RL 47 RX5 yX5_giveUp wsX5_giveUp) := goodIn_app (goodIn_of _ (by decide +kernel)) ggL_refuses_X5_giveUp
set_option maxRecDepth 20000 in
theorem ggL_refuses_X5_guesses : GoodIn wsL_refuses wsX5_guesses := goodIn_r _ [295, 6, 304, 305, 306, 307, 308, 309, 310, 311, 312, 313, 314, 315, 316, 317, 318, 319, 320] (by decide +kernel) (by decide +kernel)
set_option maxRecDepth 20000 in
theorem gL_refuses_X5_guesses : GoodIn wsL_refuses (wsV RL 65 RX5 yX5_guesses wsX5_guesses) := goodIn_app (goodIn_of _ (by decide +kernel)) ggL_refuses_X5_guesses
set_option maxRecDepth 20000 in
theorem ggL_refuses_X5_guessAt : GoodIn wsL_refuses wsX5_guessAt := goodIn_r _ [299, 6, 300, 301, 302, 15, 303, 60, 45, 304, 305, 306, 307, 308, 309, 310, 311, 312, 313, 314, 315, 316, 317, 318, 319, 320] (by decide +kernel) (by decide +kernel)
set_option maxRecDepth 20000 in
theorem gL_refuses_X5_guessAt : GoodIn wsL_refuses (wsV RL 68 RX5 yX5_guessAt wsX5_guessAt) := goodIn_app (goodIn_of _ (by decide +kernel)) ggL_refuses_X5_guessAt
theorem dL_refuses_0 : decode cL_refuses 0 = .ok (.aload_n 0, 1) := by decide +kernel
theorem dL_refuses_1 : decode cL_refuses 1 = .ok (.invokevirtual 24, 3) := by decide +kernel
theorem dL_refuses_4 : decode cL_refuses 4 = .ok (.istore_n 2, 1) := by decide +kernel
theorem dL_refuses_5 : decode cL_refuses 5 = .ok (.aload_n 0, 1) := by decide +kernel
theorem dL_refuses_6 : decode cL_refuses 6 = .ok (.iload_n 2, 1) := by decide +kernel
theorem dL_refuses_7 : decode cL_refuses 7 = .ok (.iload_n 1, 1) := by decide +kernel
theorem dL_refuses_8 : decode cL_refuses 8 = .ok (.iadd, 1) := by decide +kernel
theorem dL_refuses_9 : decode cL_refuses 9 = .ok (.invokevirtual 41, 3) := by decide +kernel
theorem dL_refuses_12 : decode cL_refuses 12 = .ok (.iconst (-1), 1) := by decide +kernel
theorem dL_refuses_13 : decode cL_refuses 13 = .ok (.if_icmp .ne 243, 3) := by decide +kernel
theorem dL_refuses_16 : decode cL_refuses 16 = .ok (.aload_n 0, 1) := by decide +kernel
theorem dL_refuses_17 : decode cL_refuses 17 = .ok (.iconst (-1), 1) := by decide +kernel
theorem dL_refuses_18 : decode cL_refuses 18 = .ok (.iload_n 1, 1) := by decide +kernel
theorem dL_refuses_19 : decode cL_refuses 19 = .ok (.isub, 1) := by decide +kernel
theorem dL_refuses_20 : decode cL_refuses 20 = .ok (.invokevirtual 41, 3) := by decide +kernel
theorem dL_refuses_23 : decode cL_refuses 23 = .ok (.iconst (-1), 1) := by decide +kernel
theorem dL_refuses_24 : decode cL_refuses 24 = .ok (.if_icmp .ne 232, 3) := by decide +kernel
theorem dL_refuses_27 : decode cL_refuses 27 = .ok (.aload_n 0, 1) := by decide +kernel
theorem dL_refuses_28 : decode cL_refuses 28 = .ok (.iload_n 2, 1) := by decide +kernel
theorem dL_refuses_29 : decode cL_refuses 29 = .ok (.iload_n 1, 1) := by decide +kernel
theorem dL_refuses_30 : decode cL_refuses 30 = .ok (.iadd, 1) := by decide +kernel
theorem dL_refuses_31 : decode cL_refuses 31 = .ok (.iconst 0, 1) := by decide +kernel
theorem dL_refuses_32 : decode cL_refuses 32 = .ok (.invokevirtual 53, 3) := by decide +kernel
theorem dL_refuses_35 : decode cL_refuses 35 = .ok (.iconst (-1), 1) := by decide +kernel
theorem dL_refuses_36 : decode cL_refuses 36 = .ok (.if_icmp .ne 220, 3) := by decide +kernel
theorem dL_refuses_39 : decode cL_refuses 39 = .ok (.aload_n 0, 1) := by decide +kernel
theorem dL_refuses_40 : decode cL_refuses 40 = .ok (.iconst 0, 1) := by decide +kernel
theorem dL_refuses_41 : decode cL_refuses 41 = .ok (.iconst (-1), 1) := by decide +kernel
theorem dL_refuses_42 : decode cL_refuses 42 = .ok (.iload_n 1, 1) := by decide +kernel
theorem dL_refuses_43 : decode cL_refuses 43 = .ok (.isub, 1) := by decide +kernel
theorem dL_refuses_44 : decode cL_refuses 44 = .ok (.invokevirtual 53, 3) := by decide +kernel
theorem dL_refuses_47 : decode cL_refuses 47 = .ok (.iconst (-1), 1) := by decide +kernel
theorem dL_refuses_48 : decode cL_refuses 48 = .ok (.if_icmp .ne 208, 3) := by decide +kernel
theorem dL_refuses_51 : decode cL_refuses 51 = .ok (.aload_n 0, 1) := by decide +kernel
theorem dL_refuses_52 : decode cL_refuses 52 = .ok (.iconst 3, 1) := by decide +kernel
theorem dL_refuses_53 : decode cL_refuses 53 = .ok (.iload_n 1, 1) := by decide +kernel
theorem dL_refuses_54 : decode cL_refuses 54 = .ok (.iadd, 1) := by decide +kernel
theorem dL_refuses_55 : decode cL_refuses 55 = .ok (.invokevirtual 44, 3) := by decide +kernel
theorem dL_refuses_58 : decode cL_refuses 58 = .ok (.bipush (-2), 2) := by decide +kernel
theorem dL_refuses_60 : decode cL_refuses 60 = .ok (.if_icmp .ne 196, 3) := by decide +kernel
theorem dL_refuses_63 : decode cL_refuses 63 = .ok (.aload_n 0, 1) := by decide +kernel
theorem dL_refuses_64 : decode cL_refuses 64 = .ok (.iconst (-1), 1) := by decide +kernel
theorem dL_refuses_65 : decode cL_refuses 65 = .ok (.iload_n 1, 1) := by decide +kernel
theorem dL_refuses_66 : decode cL_refuses 66 = .ok (.isub, 1) := by decide +kernel
theorem dL_refuses_67 : decode cL_refuses 67 = .ok (.invokevirtual 44, 3) := by decide +kernel
theorem dL_refuses_70 : decode cL_refuses 70 = .ok (.bipush (-2), 2) := by decide +kernel
theorem dL_refuses_72 : decode cL_refuses 72 = .ok (.if_icmp .ne 184, 3) := by decide +kernel
theorem dL_refuses_75 : decode cL_refuses 75 = .ok (.aload_n 0, 1) := by decide +kernel
theorem dL_refuses_76 : decode cL_refuses 76 = .ok (.bipush 9, 2) := by decide +kernel
theorem dL_refuses_78 : decode cL_refuses 78 = .ok (.iload_n 1, 1) := by decide +kernel
theorem dL_refuses_79 : decode cL_refuses 79 = .ok (.iadd, 1) := by decide +kernel
theorem dL_refuses_80 : decode cL_refuses 80 = .ok (.iconst 1, 1) := by decide +kernel
theorem dL_refuses_81 : decode cL_refuses 81 = .ok (.invokevirtual 59, 3) := by decide +kernel
theorem dL_refuses_84 : decode cL_refuses 84 = .ok (.bipush (-2), 2) := by decide +kernel
theorem dL_refuses_86 : decode cL_refuses 86 = .ok (.if_icmp .ne 170, 3) := by decide +kernel
theorem dL_refuses_89 : decode cL_refuses 89 = .ok (.aload_n 0, 1) := by decide +kernel
theorem dL_refuses_90 : decode cL_refuses 90 = .ok (.iconst 1, 1) := by decide +kernel
theorem dL_refuses_91 : decode cL_refuses 91 = .ok (.iconst 1, 1) := by decide +kernel
theorem dL_refuses_92 : decode cL_refuses 92 = .ok (.invokevirtual 59, 3) := by decide +kernel
theorem dL_refuses_95 : decode cL_refuses 95 = .ok (.bipush (-2), 2) := by decide +kernel
theorem dL_refuses_97 : decode cL_refuses 97 = .ok (.if_icmp .ne 159, 3) := by decide +kernel
theorem dL_refuses_100 : decode cL_refuses 100 = .ok (.aload_n 0, 1) := by decide +kernel
theorem dL_refuses_101 : decode cL_refuses 101 = .ok (.iconst 4, 1) := by decide +kernel
theorem dL_refuses_102 : decode cL_refuses 102 = .ok (.iconst 0, 1) := by decide +kernel
theorem dL_refuses_103 : decode cL_refuses 103 = .ok (.invokevirtual 59, 3) := by decide +kernel
theorem dL_refuses_106 : decode cL_refuses 106 = .ok (.bipush (-2), 2) := by decide +kernel
theorem dL_refuses_108 : decode cL_refuses 108 = .ok (.if_icmp .ne 148, 3) := by decide +kernel
theorem dL_refuses_111 : decode cL_refuses 111 = .ok (.aload_n 0, 1) := by decide +kernel
theorem dL_refuses_112 : decode cL_refuses 112 = .ok (.iconst 4, 1) := by decide +kernel
theorem dL_refuses_113 : decode cL_refuses 113 = .ok (.bipush 21, 2) := by decide +kernel
theorem dL_refuses_115 : decode cL_refuses 115 = .ok (.iload_n 1, 1) := by decide +kernel
theorem dL_refuses_116 : decode cL_refuses 116 = .ok (.iadd, 1) := by decide +kernel
theorem dL_refuses_117 : decode cL_refuses 117 = .ok (.invokevirtual 59, 3) := by decide +kernel
theorem dL_refuses_120 : decode cL_refuses 120 = .ok (.bipush (-2), 2) := by decide +kernel
theorem dL_refuses_122 : decode cL_refuses 122 = .ok (.if_icmp .ne 134, 3) := by decide +kernel
theorem dL_refuses_125 : decode cL_refuses 125 = .ok (.aload_n 0, 1) := by decide +kernel
theorem dL_refuses_126 : decode cL_refuses 126 = .ok (.bipush 123, 2) := by decide +kernel
theorem dL_refuses_128 : decode cL_refuses 128 = .ok (.iload_n 1, 1) := by decide +kernel
theorem dL_refuses_129 : decode cL_refuses 129 = .ok (.iadd, 1) := by decide +kernel
theorem dL_refuses_130 : decode cL_refuses 130 = .ok (.invokevirtual 62, 3) := by decide +kernel
theorem dL_refuses_133 : decode cL_refuses 133 = .ok (.bipush (-2), 2) := by decide +kernel
theorem dL_refuses_135 : decode cL_refuses 135 = .ok (.if_icmp .ne 121, 3) := by decide +kernel
theorem dL_refuses_138 : decode cL_refuses 138 = .ok (.aload_n 0, 1) := by decide +kernel
theorem dL_refuses_139 : decode cL_refuses 139 = .ok (.bipush 96, 2) := by decide +kernel
theorem dL_refuses_141 : decode cL_refuses 141 = .ok (.iload_n 1, 1) := by decide +kernel
theorem dL_refuses_142 : decode cL_refuses 142 = .ok (.isub, 1) := by decide +kernel
theorem dL_refuses_143 : decode cL_refuses 143 = .ok (.invokevirtual 62, 3) := by decide +kernel
theorem dL_refuses_146 : decode cL_refuses 146 = .ok (.bipush (-2), 2) := by decide +kernel
theorem dL_refuses_148 : decode cL_refuses 148 = .ok (.if_icmp .ne 108, 3) := by decide +kernel
theorem dL_refuses_151 : decode cL_refuses 151 = .ok (.aload_n 0, 1) := by decide +kernel
theorem dL_refuses_152 : decode cL_refuses 152 = .ok (.bipush 96, 2) := by decide +kernel
theorem dL_refuses_154 : decode cL_refuses 154 = .ok (.iload_n 1, 1) := by decide +kernel
theorem dL_refuses_155 : decode cL_refuses 155 = .ok (.isub, 1) := by decide +kernel
theorem dL_refuses_156 : decode cL_refuses 156 = .ok (.invokevirtual 106, 3) := by decide +kernel
theorem dL_refuses_159 : decode cL_refuses 159 = .ok (.bipush (-2), 2) := by decide +kernel
theorem dL_refuses_161 : decode cL_refuses 161 = .ok (.if_icmp .ne 95, 3) := by decide +kernel
theorem dL_refuses_164 : decode cL_refuses 164 = .ok (.aload_n 0, 1) := by decide +kernel
theorem dL_refuses_165 : decode cL_refuses 165 = .ok (.bipush 123, 2) := by decide +kernel
theorem dL_refuses_167 : decode cL_refuses 167 = .ok (.iload_n 1, 1) := by decide +kernel
theorem dL_refuses_168 : decode cL_refuses 168 = .ok (.iadd, 1) := by decide +kernel
theorem dL_refuses_169 : decode cL_refuses 169 = .ok (.iconst 0, 1) := by decide +kernel
theorem dL_refuses_170 : decode cL_refuses 170 = .ok (.iconst 0, 1) := by decide +kernel
theorem dL_refuses_171 : decode cL_refuses 171 = .ok (.invokevirtual 115, 3) := by decide +kernel
theorem dL_refuses_174 : decode cL_refuses 174 = .ok (.bipush (-2), 2) := by decide +kernel
theorem dL_refuses_176 : decode cL_refuses 176 = .ok (.if_icmp .ne 80, 3) := by decide +kernel
theorem dL_refuses_179 : decode cL_refuses 179 = .ok (.aload_n 0, 1) := by decide +kernel
theorem dL_refuses_180 : decode cL_refuses 180 = .ok (.bipush 96, 2) := by decide +kernel
theorem dL_refuses_182 : decode cL_refuses 182 = .ok (.invokevirtual 109, 3) := by decide +kernel
theorem dL_refuses_185 : decode cL_refuses 185 = .ok (.bipush (-2), 2) := by decide +kernel
theorem dL_refuses_187 : decode cL_refuses 187 = .ok (.if_icmp .ne 69, 3) := by decide +kernel
theorem dL_refuses_190 : decode cL_refuses 190 = .ok (.aload_n 0, 1) := by decide +kernel
theorem dL_refuses_191 : decode cL_refuses 191 = .ok (.bipush 123, 2) := by decide +kernel
theorem dL_refuses_193 : decode cL_refuses 193 = .ok (.invokevirtual 94, 3) := by decide +kernel
theorem dL_refuses_196 : decode cL_refuses 196 = .ok (.bipush (-2), 2) := by decide +kernel
theorem dL_refuses_198 : decode cL_refuses 198 = .ok (.if_icmp .ne 58, 3) := by decide +kernel
theorem dL_refuses_201 : decode cL_refuses 201 = .ok (.aload_n 0, 1) := by decide +kernel
theorem dL_refuses_202 : decode cL_refuses 202 = .ok (.bipush 7, 2) := by decide +kernel
theorem dL_refuses_204 : decode cL_refuses 204 = .ok (.iload_n 1, 1) := by decide +kernel
theorem dL_refuses_205 : decode cL_refuses 205 = .ok (.iadd, 1) := by decide +kernel
theorem dL_refuses_206 : decode cL_refuses 206 = .ok (.invokevirtual 112, 3) := by decide +kernel
theorem dL_refuses_209 : decode cL_refuses 209 = .ok (.bipush (-2), 2) := by decide +kernel
theorem dL_refuses_211 : decode cL_refuses 211 = .ok (.if_icmp .ne 45, 3) := by decide +kernel
theorem dL_refuses_214 : decode cL_refuses 214 = .ok (.aload_n 0, 1) := by decide +kernel
theorem dL_refuses_215 : decode cL_refuses 215 = .ok (.iconst (-1), 1) := by decide +kernel
theorem dL_refuses_216 : decode cL_refuses 216 = .ok (.iload_n 1, 1) := by decide +kernel
theorem dL_refuses_217 : decode cL_refuses 217 = .ok (.isub, 1) := by decide +kernel
theorem dL_refuses_218 : decode cL_refuses 218 = .ok (.invokevirtual 112, 3) := by decide +kernel
theorem dL_refuses_221 : decode cL_refuses 221 = .ok (.bipush (-2), 2) := by decide +kernel
theorem dL_refuses_223 : decode cL_refuses 223 = .ok (.if_icmp .ne 33, 3) := by decide +kernel
theorem dL_refuses_226 : decode cL_refuses 226 = .ok (.aload_n 0, 1) := by decide +kernel
theorem dL_refuses_227 : decode cL_refuses 227 = .ok (.bipush 32, 2) := by decide +kernel
theorem dL_refuses_229 : decode cL_refuses 229 = .ok (.iload_n 1, 1) := by decide +kernel
theorem dL_refuses_230 : decode cL_refuses 230 = .ok (.isub, 1) := by decide +kernel
theorem dL_refuses_231 : decode cL_refuses 231 = .ok (.invokevirtual 19, 3) := by decide +kernel
theorem dL_refuses_234 : decode cL_refuses 234 = .ok (.bipush (-2), 2) := by decide +kernel
theorem dL_refuses_236 : decode cL_refuses 236 = .ok (.if_icmp .ne 20, 3) := by decide +kernel
theorem dL_refuses_239 : decode cL_refuses 239 = .ok (.aload_n 0, 1) := by decide +kernel
theorem dL_refuses_240 : decode cL_refuses 240 = .ok (.bipush 127, 2) := by decide +kernel
theorem dL_refuses_242 : decode cL_refuses 242 = .ok (.iload_n 1, 1) := by decide +kernel
theorem dL_refuses_243 : decode cL_refuses 243 = .ok (.iadd, 1) := by decide +kernel
theorem dL_refuses_244 : decode cL_refuses 244 = .ok (.invokevirtual 19, 3) := by decide +kernel
theorem dL_refuses_247 : decode cL_refuses 247 = .ok (.bipush (-2), 2) := by decide +kernel
theorem dL_refuses_249 : decode cL_refuses 249 = .ok (.if_icmp .ne 7, 3) := by decide +kernel
theorem dL_refuses_252 : decode cL_refuses 252 = .ok (.iconst 1, 1) := by decide +kernel
theorem dL_refuses_253 : decode cL_refuses 253 = .ok (.goto 4, 3) := by decide +kernel
theorem dL_refuses_256 : decode cL_refuses 256 = .ok (.iconst 0, 1) := by decide +kernel
theorem dL_refuses_257 : decode cL_refuses 257 = .ok (.istore_n 3, 1) := by decide +kernel
theorem dL_refuses_258 : decode cL_refuses 258 = .ok (.iload_n 3, 1) := by decide +kernel
theorem dL_refuses_259 : decode cL_refuses 259 = .ok (.ifCond .eq 78, 3) := by decide +kernel
theorem dL_refuses_262 : decode cL_refuses 262 = .ok (.aload_n 0, 1) := by decide +kernel
theorem dL_refuses_263 : decode cL_refuses 263 = .ok (.invokevirtual 74, 3) := by decide +kernel
theorem dL_refuses_266 : decode cL_refuses 266 = .ok (.iconst 1, 1) := by decide +kernel
theorem dL_refuses_267 : decode cL_refuses 267 = .ok (.if_icmp .eq 37, 3) := by decide +kernel
theorem dL_refuses_270 : decode cL_refuses 270 = .ok (.aload_n 0, 1) := by decide +kernel
theorem dL_refuses_271 : decode cL_refuses 271 = .ok (.bipush 97, 2) := by decide +kernel
theorem dL_refuses_273 : decode cL_refuses 273 = .ok (.invokevirtual 62, 3) := by decide +kernel
theorem dL_refuses_276 : decode cL_refuses 276 = .ok (.bipush (-3), 2) := by decide +kernel
theorem dL_refuses_278 : decode cL_refuses 278 = .ok (.if_icmp .ne 59, 3) := by decide +kernel
theorem dL_refuses_281 : decode cL_refuses 281 = .ok (.aload_n 0, 1) := by decide +kernel
theorem dL_refuses_282 : decode cL_refuses 282 = .ok (.invokevirtual 47, 3) := by decide +kernel
theorem dL_refuses_285 : decode cL_refuses 285 = .ok (.bipush (-3), 2) := by decide +kernel
theorem dL_refuses_287 : decode cL_refuses 287 = .ok (.if_icmp .ne 50, 3) := by decide +kernel
theorem dL_refuses_290 : decode cL_refuses 290 = .ok (.aload_n 0, 1) := by decide +kernel
theorem dL_refuses_291 : decode cL_refuses 291 = .ok (.bipush 97, 2) := by decide +kernel
theorem dL_refuses_293 : decode cL_refuses 293 = .ok (.iconst (-1), 1) := by decide +kernel
theorem dL_refuses_294 : decode cL_refuses 294 = .ok (.bipush 9, 2) := by decide +kernel
theorem dL_refuses_296 : decode cL_refuses 296 = .ok (.invokevirtual 115, 3) := by decide +kernel
theorem dL_refuses_299 : decode cL_refuses 299 = .ok (.bipush (-3), 2) := by decide +kernel
theorem dL_refuses_301 : decode cL_refuses 301 = .ok (.if_icmp .ne 36, 3) := by decide +kernel
theorem dL_refuses_304 : decode cL_refuses 304 = .ok (.aload_n 0, 1) := by decide +kernel
theorem dL_refuses_305 : decode cL_refuses 305 = .ok (.invokevirtual 65, 3) := by decide +kernel
theorem dL_refuses_308 : decode cL_refuses 308 = .ok (.ifCond .eq 25, 3) := by decide +kernel
theorem dL_refuses_311 : decode cL_refuses 311 = .ok (.aload_n 0, 1) := by decide +kernel
theorem dL_refuses_312 : decode cL_refuses 312 = .ok (.invokevirtual 74, 3) := by decide +kernel
theorem dL_refuses_315 : decode cL_refuses 315 = .ok (.iconst 1, 1) := by decide +kernel
theorem dL_refuses_316 : decode cL_refuses 316 = .ok (.if_icmp .ne 17, 3) := by decide +kernel
theorem dL_refuses_319 : decode cL_refuses 319 = .ok (.aload_n 0, 1) := by decide +kernel
theorem dL_refuses_320 : decode cL_refuses 320 = .ok (.aload_n 0, 1) := by decide +kernel
theorem dL_refuses_321 : decode cL_refuses 321 = .ok (.iconst 0, 1) := by decide +kernel
theorem dL_refuses_322 : decode cL_refuses 322 = .ok (.invokevirtual 68, 3) := by decide +kernel
theorem dL_refuses_325 : decode cL_refuses 325 = .ok (.invokevirtual 62, 3) := by decide +kernel
theorem dL_refuses_328 : decode cL_refuses 328 = .ok (.bipush (-6), 2) := by decide +kernel
theorem dL_refuses_330 : decode cL_refuses 330 = .ok (.if_icmp .ne 7, 3) := by decide +kernel
theorem dL_refuses_333 : decode cL_refuses 333 = .ok (.iconst 1, 1) := by decide +kernel
theorem dL_refuses_334 : decode cL_refuses 334 = .ok (.goto 4, 3) := by decide +kernel
theorem dL_refuses_337 : decode cL_refuses 337 = .ok (.iconst 0, 1) := by decide +kernel
theorem dL_refuses_338 : decode cL_refuses 338 = .ok (.ireturn, 1) := by decide +kernel
set_option maxRecDepth 20000 in
theorem ggL_law_X5_init : GoodIn wsL_law wsX5_init := goodIn_r _ [6, 7, 8, 9, 10, 11, 12, 13, 14, 15, 16, 17, 18, 19, 20, 21, 22, 23, 24, 25, 26, 27, 28, 29, 30, 31, 32, 33, 34, 35, 36, 37, 38, 39, 40, 41, 42, 43, 44, 45, 46, 47, 48, 49, 50, 51, 501, 502, 503, 496, 497, 498, 499, 500, 504, 505, 506, 507, 508, 509, 510, 511, 512, 513, 514, 515, 516, 517, 518, 519, 520, 521, 522, 523] (by decide +kernel) (by decide +kernel)
set_option maxRecDepth 20000 in
theorem gL_law_X5_init : GoodIn wsL_law (wsX5_init) := ggL_law_X5_init
set_option maxRecDepth 20000 in
theorem ggL_law_X5_undo : GoodIn wsL_law wsX5_undo := goodIn_r _ [55, 21, 17, 56, 57, 58, 20, 59, 60, 61, 45, 62, 63, 64, 16, 65, 37, 66, 67, 68, 69, 39, 40, 70, 71, 72, 73, 74, 75, 76, 77, 78, 496, 497, 498, 499, 500, 516, 517, 518, 504, 505, 506, 507, 508, 509, 510, 511, 512, 513, 514, 515] (by decide +kernel) (by decide +kernel)
set_option maxRecDepth 20000 in
theorem gL_law_X5_undo : GoodIn wsL_law (wsV RL 50 RX5 yX5_undo wsX5_undo) := goodIn_app (goodIn_of _ (by decide +kernel)) ggL_law_X5_undo
set_option maxRecDepth 20000 in
theorem ggL_law_X5_status : GoodIn wsL_law wsX5_status := goodIn_r _ [82, 17, 496, 497, 498, 499, 500, 504, 505, 506, 507, 508, 509, 510, 511, 512, 513, 514, 515] (by decide +kernel) (by decide +kernel)
set_option maxRecDepth 20000 in
theorem gL_law_X5_status : GoodIn wsL_law (wsV RL 74 RX5 yX5_status wsX5_status) := goodIn_app (goodIn_of _ (by decide +kernel)) ggL_law_X5_status
set_option maxRecDepth 20000 in
theorem ggL_law_X5_addWords : GoodIn wsL_law wsX5_addWords := goodIn_r _ [86, 13, 17, 22, 21, 87, 88, 89, 12, 90, 91, 92, 93, 94, 95, 31, 96, 2, 97, 98, 99, 100, 16, 101, 72, 102, 63, 64, 65, 37, 66, 67, 68, 69, 39, 40, 70, 71, 73, 74, 75, 76, 77, 78, 103, 104, 105, 106, 107, 108, 109, 110, 111, 112, 113, 114, 33, 115, 116, 117, 118, 119, 120, 121, 122, 123, 124, 125, 126, 127, 128, 129, 130, 131, 132, 133, 134, 135, 136, 137, 138, 139, 140, 141, 142, 143, 144, 145, 146, 147, 148, 20, 149, 60, 45, 44, 15, 61, 150, 151, 152, 153, 34, 35, 36, 8, 9, 32, 38, 62, 154, 155, 156, 157, 158, 159, 160, 161, 496, 497, 498, 499, 500, 504, 505, 506, 507, 508, 509, 510, 511, 512, 513, 514, 515, 501, 502, 503, 516, 517, 518] (by decide +kernel) (by decide +kernel)
set_option maxRecDepth 20000 in
theorem gL_law_X5_addWords : GoodIn wsL_law (wsV RL 38 RX5 yX5_addWords wsX5_addWords) := goodIn_app (goodIn_of _ (by decide +kernel)) ggL_law_X5_addWords
set_option maxRecDepth 20000 in
theorem ggL_law_X5_guessWord : GoodIn wsL_law wsX5_guessWord := goodIn_r _ [165, 13, 17, 21, 87, 88, 89, 12, 90, 91, 92, 93, 94, 95, 31, 96, 2, 97, 107, 108, 109, 110, 111, 112, 113, 114, 33, 115, 116, 117, 118, 119, 120, 121, 122, 123, 124, 125, 98, 99, 100, 16, 101, 72, 166, 167, 168, 169, 170, 171, 146, 147, 148, 20, 149, 60, 45, 44, 15, 61, 150, 151, 152, 153, 34, 35, 36, 8, 9, 32, 37, 38, 39, 40, 62, 63, 64, 65, 66, 67, 68, 69, 70, 71, 73, 74, 75, 76, 77, 78, 172, 173, 174, 175, 176, 177, 178, 179, 130, 131, 132, 133, 134, 135, 136, 137, 138, 139, 140, 141, 180, 181, 182, 183, 184, 185, 186, 187, 188, 189, 190, 191, 192, 193, 194, 195, 158, 159, 160, 161, 496, 497, 498, 499, 500, 504, 505, 506, 507, 508, 509, 510, 511, 512, 513, 514, 515, 501, 502, 503, 516, 517, 518] (by decide +kernel) (by decide +kernel)
set_option maxRecDepth 20000 in
theorem gL_law_X5_guessWord : GoodIn wsL_law (wsV RL 56 RX5 yX5_guessWord wsX5_guessWord) := goodIn_app (goodIn_of _ (by decide +kernel)) ggL_law_X5_guessWord
set_option maxRecDepth 20000 in
theorem ggL_law_X5_syntaxError : GoodIn wsL_law wsX5_syntaxError := goodIn_r _ [199, 13, 87, 88, 89, 12, 90, 91, 92, 93, 94, 95, 31, 96, 2, 97, 496, 497, 498, 499, 500, 501, 502, 503] (by decide +kernel) (by decide +kernel)
set_option maxRecDepth 20000 in
theorem gL_law_X5_syntaxError : GoodIn wsL_law (wsV RL 120 RX5 yX5_syntaxError wsX5_syntaxError) := goodIn_app (goodIn_of _ (by decide +kernel)) ggL_law_X5_syntaxError
set_option maxRecDepth 20000 in
theorem ggL_law_X5_clearText : GoodIn wsL_law wsX5_clearText := goodIn_r _ [203, 13, 158, 159, 160, 12, 161, 91, 496, 497, 498, 499, 500, 501, 502, 503] (by decide +kernel) (by decide +kernel)
set_option maxRecDepth 20000 in
theorem gL_law_X5_clearText : GoodIn wsL_law (wsV RL 28 RX5 yX5_clearText wsX5_clearText) := goodIn_app (goodIn_of _ (by decide +kernel)) ggL_law_X5_clearText
set_option maxRecDepth 20000 in
theorem ggL_law_L_hangs : GoodIn wsL_law wsL_hangs := goodIn_r _ [207, 208, 209, 210, 2, 211, 17, 79, 80, 81, 82, 212, 213, 214, 215, 216, 217, 218, 219, 220, 221, 222, 223, 224, 225, 226, 227, 228, 229, 230, 231, 232, 233, 234, 235, 135, 136, 16, 137, 37, 138, 139, 140, 141, 70, 236, 170, 117, 171, 119, 120, 121, 237, 238, 239, 240, 241, 242, 243, 244, 245, 246, 247, 248, 249, 250, 251, 77, 39, 252, 253, 254, 255, 256, 257, 206, 258, 259, 260, 261, 262, 263, 264, 265, 266, 96, 97, 267, 268, 269, 270, 180, 181, 182, 183, 75, 134, 271, 272, 273, 169, 274, 275, 276, 277, 98, 99, 100, 101, 72, 278, 279, 280, 281, 26, 282, 283, 284, 285, 76, 286, 287, 288, 289, 290, 25, 291, 292, 293, 294, 295, 296, 297, 298, 299, 300, 301, 302, 303, 49, 50, 51, 304, 305, 306, 307, 308, 309, 310, 311, 312, 313, 314, 315, 316, 317, 318, 319, 320, 321, 322, 323, 324, 325, 326, 327, 328, 329, 330, 331, 332, 333, 334, 22, 102, 63, 64, 65, 66, 67, 68, 69, 40, 71, 73, 74, 78, 335, 336, 337, 338, 339, 340, 341, 342, 343, 344, 345, 346, 347, 348, 349, 350, 176, 177, 178, 179, 188, 189, 190, 191, 192, 193, 194, 195, 351, 116, 118, 352, 167, 168, 184, 185, 186, 187, 353, 354, 355, 356, 357, 358, 359, 360, 361, 362, 363, 364, 365, 366, 367, 368, 369, 370, 371, 372, 373, 374, 375, 376, 377, 378, 379, 380, 381, 382, 383, 384, 385, 386, 387, 496, 497, 498, 499, 500, 504, 505, 506, 507, 508, 509, 510, 511, 512, 513, 514, 515, 519, 520, 521, 522, 523] rfl (by decide +kernel)
set_option maxRecDepth 20000 in
theorem gL_law_L_hangs : GoodIn wsL_law (va_wsS RL 123 yL_hangs wsL_hangs) := goodIn_app (goodIn_of _ (by decide +kernel)) ggL_law_L_hangs
set_option maxRecDepth 20000 in
theorem ggL_law_L_cell : GoodIn wsL_law wsL_cell := goodIn_r _ [390, 391, 392] (by decide +kernel) (by decide +kernel)
set_option maxRecDepth 20000 in
theorem gL_law_L_cell : GoodIn wsL_law (va_wsS RL 127 yL_cell wsL_cell) := goodIn_app (goodIn_of _ (by decide +kernel)) ggL_law_L_cell
set_option maxRecDepth 20000 in
theorem ggL_law_L_acts : GoodIn wsL_law wsL_acts := goodIn_r _ [395, 208, 209, 210, 2, 211, 17, 200, 201, 202, 203, 13, 158, 159, 160, 12, 161, 91, 396, 397, 206, 398, 399, 400, 401, 402, 403, 404, 405, 406, 407, 408, 409, 410, 411, 412, 413, 414, 415, 31, 83, 84, 85, 86, 22, 21, 87, 88, 89, 90, 92, 93, 94, 95, 96, 97, 98, 99, 100, 16, 101, 72, 102, 63, 64, 65, 37, 66, 67, 68, 69, 39, 40, 70, 71, 73, 74, 75, 76, 77, 78, 103, 104, 105, 106, 107, 108, 109, 110, 111, 112, 113, 114, 33, 115, 116, 117, 118, 119, 120, 121, 122, 123, 124, 125, 126, 127, 128, 129, 130, 131, 132, 133, 134, 135, 136, 137, 138, 139, 140, 141, 142, 143, 144, 145, 146, 147, 148, 20, 149, 60, 45, 44, 15, 61, 150, 151, 152, 153, 34, 35, 36, 8, 9, 32, 38, 62, 154, 155, 156, 157, 416, 417, 418, 419, 420, 421, 422, 423, 424, 425, 426, 427, 428, 429, 430, 431, 432, 433, 193, 194, 195, 176, 177, 178, 179, 241, 242, 243, 52, 53, 54, 55, 56, 57, 58, 59, 231, 232, 233, 234, 235, 236, 170, 171, 162, 163, 164, 165, 166, 167, 168, 169, 172, 173, 174, 175, 180, 181, 182, 183, 184, 185, 186, 187, 188, 189, 190, 191, 192, 434, 435, 436, 437, 438, 439, 440, 441, 352, 442, 443, 444, 445, 446, 216, 217, 218, 219, 220, 221, 222, 447, 448, 449, 450, 266, 282, 283, 284, 285, 286, 287, 335, 336, 337, 338, 26, 288, 289, 290, 25, 291, 292, 293, 294, 295, 296, 272, 273, 297, 298, 299, 300, 301, 302, 303, 49, 50, 51, 304, 305, 306, 307, 308, 309, 310, 311, 312, 313, 314, 315, 316, 317, 318, 319, 320, 321, 322, 323, 324, 325, 326, 327, 328, 330, 339, 340, 341, 342, 343, 344, 345, 346, 347, 348, 349, 350, 351, 496, 497, 498, 499, 500, 504, 505, 506, 507, 508, 509, 510, 511, 512, 513, 514, 515, 501, 502, 503, 516, 517, 518, 519, 520, 521, 522, 523] rfl (by decide +kernel)
set_option maxRecDepth 20000 in
theorem gL_law_L_acts : GoodIn wsL_law (va_wsS RL 131 yL_acts wsL_acts) := goodIn_app (goodIn_of _ (by decide +kernel)) ggL_law_L_acts
set_option maxRecDepth 20000 in
theorem ggL_law_L_refuses : GoodIn wsL_law wsL_refuses := goodIn_r _ [453, 208, 209, 210, 2, 211, 17, 416, 417, 418, 419, 21, 420, 139, 140, 16, 141, 70, 98, 99, 100, 101, 72, 146, 147, 148, 20, 149, 60, 45, 44, 15, 61, 150, 151, 152, 153, 34, 35, 36, 8, 9, 32, 37, 38, 39, 40, 62, 63, 64, 65, 66, 67, 68, 69, 71, 73, 74, 75, 76, 77, 78, 421, 422, 423, 424, 138, 154, 155, 156, 157, 231, 232, 233, 234, 235, 135, 136, 137, 236, 170, 117, 171, 119, 120, 121, 425, 426, 427, 428, 434, 435, 436, 437, 438, 439, 440, 441, 134, 352, 167, 168, 169, 442, 443, 444, 445, 446, 176, 177, 178, 179, 216, 217, 218, 219, 220, 221, 222, 447, 448, 449, 450, 266, 96, 97, 282, 283, 284, 285, 286, 287, 335, 336, 337, 338, 26, 288, 289, 290, 25, 291, 292, 293, 294, 181, 182, 183, 295, 296, 272, 273, 297, 298, 299, 300, 301, 302, 303, 49, 50, 51, 304, 305, 306, 307, 308, 309, 310, 311, 312, 313, 314, 315, 316, 317, 318, 319, 320, 321, 322, 323, 324, 325, 326, 327, 328, 330, 339, 340, 341, 342, 343, 344, 345, 346, 347, 348, 349, 350, 188, 189, 190, 191, 192, 193, 194, 195, 351, 116, 118, 184, 185, 186, 187, 367, 368, 369, 370, 371, 372, 373, 374, 454, 455, 456, 457, 458, 459, 460, 461, 462, 463, 464, 465, 466, 329, 241, 242, 243, 467, 375, 376, 377, 378, 379, 213, 214, 215, 380, 381, 382, 383, 262, 263, 264, 265, 267, 268, 269, 270, 180, 271, 384, 385, 386, 387, 353, 354, 355, 356, 408, 409, 410, 411, 13, 412, 413, 414, 12, 415, 91, 31, 79, 80, 81, 82, 429, 430, 431, 432, 433, 223, 224, 225, 226, 244, 245, 246, 247, 248, 249, 250, 251, 496, 497, 498, 499, 500, 504, 505, 506, 507, 508, 509, 510, 511, 512, 513, 514, 515, 516, 517, 518, 519, 520, 521, 522, 523, 501, 502, 503] rfl (by decide +kernel)
set_option maxRecDepth 20000 in
theorem gL_law_L_refuses : GoodIn wsL_law (va_wsS RL 135 yL_refuses wsL_refuses) := goodIn_app (goodIn_of _ (by decide +kernel)) ggL_law_L_refuses
set_option maxRecDepth 20000 in
theorem ggL_law_X5_digest : GoodIn wsL_law wsX5_digest := goodIn_r _ [471, 472, 17, 473, 474, 475, 2, 476, 477, 209, 210, 211, 478, 479, 480, 481, 235, 135, 136, 16, 137, 37, 138, 139, 140, 141, 70, 166, 167, 117, 168, 169, 170, 171, 119, 120, 121, 482, 232, 233, 234, 236, 483, 484, 485, 486, 487, 80, 81, 82, 488, 228, 229, 230, 489, 253, 254, 255, 379, 213, 214, 215, 216, 217, 218, 219, 220, 221, 222, 490, 238, 239, 240, 241, 242, 243, 491, 224, 225, 226, 492, 245, 246, 247, 248, 249, 250, 251, 77, 39, 98, 99, 100, 101, 72, 493, 358, 359, 360, 361, 362, 363, 364, 365, 180, 181, 182, 183, 75, 134, 366, 298, 299, 286, 287, 266, 96, 97, 494, 275, 276, 277, 278, 279, 280, 281, 26, 282, 283, 284, 285, 76, 288, 289, 290, 25, 291, 292, 293, 294, 295, 296, 272, 273, 297, 300, 301, 302, 303, 49, 50, 51, 304, 305, 306, 307, 308, 309, 310, 311, 312, 313, 314, 315, 316, 317, 318, 319, 320, 321, 322, 323, 324, 325, 326, 327, 328, 329, 330, 495, 385, 386, 387, 353, 354, 355, 356, 40, 496, 497, 498, 499, 500, 504, 505, 506, 507, 508, 509, 510, 511, 512, 513, 514, 515, 519, 520, 521, 522, 523] (by decide +kernel) (by decide +kernel)
set_option maxRecDepth 20000 in
theorem gL_law_X5_digest : GoodIn wsL_law (wsV RL 138 RX5 yX5_digest wsX5_digest) := goodIn_app (goodIn_of _ (by decide +kernel)) ggL_law_X5_digest
set_option maxRecDepth 20000 in
theorem ggL_law_X5_setPolicy : GoodIn wsL_law wsX5_setPolicy := goodIn_r _ [428, 17, 21, 146, 147, 148, 20, 149, 60, 45, 44, 15, 16, 61, 150, 151, 152, 153, 34, 35, 36, 8, 9, 32, 37, 38, 39, 40, 62, 63, 64, 65, 66, 67, 68, 69, 70, 71, 72, 73, 74, 75, 76, 77, 78, 496, 497, 498, 499, 500, 504, 505, 506, 507, 508, 509, 510, 511, 512, 513, 514, 515, 516, 517, 518] (by decide +kernel) (by decide +kernel)
set_option maxRecDepth 20000 in
theorem gL_law_X5_setPolicy : GoodIn wsL_law (wsV RL 44 RX5 yX5_setPolicy wsX5_setPolicy) := goodIn_app (goodIn_of _ (by decide +kernel)) ggL_law_X5_setPolicy
set_option maxRecDepth 20000 in
theorem ggL_law_X5_type : GoodIn wsL_law wsX5_type := goodIn_r _ [411, 13, 412, 413, 414, 12, 415, 91, 31, 496, 497, 498, 499, 500, 501, 502, 503] (by decide +kernel) (by decide +kernel)
set_option maxRecDepth 20000 in
theorem gL_law_X5_type : GoodIn wsL_law (wsV RL 19 RX5 yX5_type wsX5_type) := goodIn_app (goodIn_of _ (by decide +kernel)) ggL_law_X5_type
theorem dL_law_0 : decode cL_law 0 = .ok (.new 20, 3) := by decide +kernel
theorem dL_law_3 : decode cL_law 3 = .ok (.dup, 1) := by decide +kernel
theorem dL_law_4 : decode cL_law 4 = .ok (.invokespecial 119, 3) := by decide +kernel
theorem dL_law_7 : decode cL_law 7 = .ok (.astore_n 1, 1) := by decide +kernel
theorem dL_law_8 : decode cL_law 8 = .ok (.new 20, 3) := by decide +kernel
theorem dL_law_11 : decode cL_law 11 = .ok (.dup, 1) := by decide +kernel
theorem dL_law_12 : decode cL_law 12 = .ok (.invokespecial 119, 3) := by decide +kernel
theorem dL_law_15 : decode cL_law 15 = .ok (.astore_n 2, 1) := by decide +kernel
theorem dL_law_16 : decode cL_law 16 = .ok (.aload_n 1, 1) := by decide +kernel
theorem dL_law_17 : decode cL_law 17 = .ok (.invokevirtual 50, 3) := by decide +kernel
theorem dL_law_20 : decode cL_law 20 = .ok (.bipush (-3), 2) := by decide +kernel
theorem dL_law_22 : decode cL_law 22 = .ok (.if_icmp .ne 53, 3) := by decide +kernel
theorem dL_law_25 : decode cL_law 25 = .ok (.aload_n 1, 1) := by decide +kernel
theorem dL_law_26 : decode cL_law 26 = .ok (.invokevirtual 74, 3) := by decide +kernel
theorem dL_law_29 : decode cL_law 29 = .ok (.ifCond .ne 46, 3) := by decide +kernel
theorem dL_law_32 : decode cL_law 32 = .ok (.aload_n 1, 1) := by decide +kernel
theorem dL_law_33 : decode cL_law 33 = .ok (.invokevirtual 38, 3) := by decide +kernel
theorem dL_law_36 : decode cL_law 36 = .ok (.bipush (-5), 2) := by decide +kernel
theorem dL_law_38 : decode cL_law 38 = .ok (.if_icmp .ne 37, 3) := by decide +kernel
theorem dL_law_41 : decode cL_law 41 = .ok (.aload_n 1, 1) := by decide +kernel
theorem dL_law_42 : decode cL_law 42 = .ok (.invokevirtual 56, 3) := by decide +kernel
theorem dL_law_45 : decode cL_law 45 = .ok (.bipush (-5), 2) := by decide +kernel
theorem dL_law_47 : decode cL_law 47 = .ok (.if_icmp .ne 28, 3) := by decide +kernel
theorem dL_law_50 : decode cL_law 50 = .ok (.aload_n 1, 1) := by decide +kernel
theorem dL_law_51 : decode cL_law 51 = .ok (.invokevirtual 120, 3) := by decide +kernel
theorem dL_law_54 : decode cL_law 54 = .ok (.ifCond .ne 21, 3) := by decide +kernel
theorem dL_law_57 : decode cL_law 57 = .ok (.aload_n 1, 1) := by decide +kernel
theorem dL_law_58 : decode cL_law 58 = .ok (.invokevirtual 28, 3) := by decide +kernel
theorem dL_law_61 : decode cL_law 61 = .ok (.ifCond .ne 14, 3) := by decide +kernel
theorem dL_law_64 : decode cL_law 64 = .ok (.aload_n 1, 1) := by decide +kernel
theorem dL_law_65 : decode cL_law 65 = .ok (.invokestatic 123, 3) := by decide +kernel
theorem dL_law_68 : decode cL_law 68 = .ok (.ifCond .eq 7, 3) := by decide +kernel
theorem dL_law_71 : decode cL_law 71 = .ok (.iconst 1, 1) := by decide +kernel
theorem dL_law_72 : decode cL_law 72 = .ok (.goto 4, 3) := by decide +kernel
theorem dL_law_75 : decode cL_law 75 = .ok (.iconst 0, 1) := by decide +kernel
theorem dL_law_76 : decode cL_law 76 = .ok (.istore_n 3, 1) := by decide +kernel
theorem dL_law_77 : decode cL_law 77 = .ok (.iconst 0, 1) := by decide +kernel
theorem dL_law_78 : decode cL_law 78 = .ok (.istore 4, 2) := by decide +kernel
theorem dL_law_80 : decode cL_law 80 = .ok (.iload 4, 2) := by decide +kernel
theorem dL_law_82 : decode cL_law 82 = .ok (.bipush 48, 2) := by decide +kernel
theorem dL_law_84 : decode cL_law 84 = .ok (.if_icmp .ge 95, 3) := by decide +kernel
theorem dL_law_87 : decode cL_law 87 = .ok (.iload_n 3, 1) := by decide +kernel
theorem dL_law_88 : decode cL_law 88 = .ok (.ifCond .eq 91, 3) := by decide +kernel
theorem dL_law_91 : decode cL_law 91 = .ok (.aload_n 0, 1) := by decide +kernel
theorem dL_law_92 : decode cL_law 92 = .ok (.iload 4, 2) := by decide +kernel
theorem dL_law_94 : decode cL_law 94 = .ok (.invokestatic 127, 3) := by decide +kernel
theorem dL_law_97 : decode cL_law 97 = .ok (.istore 5, 2) := by decide +kernel
theorem dL_law_99 : decode cL_law 99 = .ok (.aload_n 1, 1) := by decide +kernel
theorem dL_law_100 : decode cL_law 100 = .ok (.iload 5, 2) := by decide +kernel
theorem dL_law_102 : decode cL_law 102 = .ok (.invokestatic 131, 3) := by decide +kernel
theorem dL_law_105 : decode cL_law 105 = .ok (.istore 6, 2) := by decide +kernel
theorem dL_law_107 : decode cL_law 107 = .ok (.iload 4, 2) := by decide +kernel
theorem dL_law_109 : decode cL_law 109 = .ok (.iconst 2, 1) := by decide +kernel
theorem dL_law_110 : decode cL_law 110 = .ok (.irem, 1) := by decide +kernel
theorem dL_law_111 : decode cL_law 111 = .ok (.ifCond .gt 15, 3) := by decide +kernel
theorem dL_law_114 : decode cL_law 114 = .ok (.aload_n 2, 1) := by decide +kernel
theorem dL_law_115 : decode cL_law 115 = .ok (.iload 5, 2) := by decide +kernel
theorem dL_law_117 : decode cL_law 117 = .ok (.ldc 134, 2) := by decide +kernel
theorem dL_law_119 : decode cL_law 119 = .ok (.irem, 1) := by decide +kernel
theorem dL_law_120 : decode cL_law 120 = .ok (.invokestatic 135, 3) := by decide +kernel
theorem dL_law_123 : decode cL_law 123 = .ok (.ifCond .eq 48, 3) := by decide +kernel
theorem dL_law_126 : decode cL_law 126 = .ok (.aload_n 2, 1) := by decide +kernel
theorem dL_law_127 : decode cL_law 127 = .ok (.iload 5, 2) := by decide +kernel
theorem dL_law_129 : decode cL_law 129 = .ok (.invokestatic 131, 3) := by decide +kernel
theorem dL_law_132 : decode cL_law 132 = .ok (.iload 6, 2) := by decide +kernel
theorem dL_law_134 : decode cL_law 134 = .ok (.if_icmp .ne 37, 3) := by decide +kernel
theorem dL_law_137 : decode cL_law 137 = .ok (.iload 4, 2) := by decide +kernel
theorem dL_law_139 : decode cL_law 139 = .ok (.iconst 2, 1) := by decide +kernel
theorem dL_law_140 : decode cL_law 140 = .ok (.irem, 1) := by decide +kernel
theorem dL_law_141 : decode cL_law 141 = .ok (.ifCond .ne 7, 3) := by decide +kernel
theorem dL_law_144 : decode cL_law 144 = .ok (.aload_n 1, 1) := by decide +kernel
theorem dL_law_145 : decode cL_law 145 = .ok (.goto 4, 3) := by decide +kernel
theorem dL_law_148 : decode cL_law 148 = .ok (.aload_n 2, 1) := by decide +kernel
theorem dL_law_149 : decode cL_law 149 = .ok (.invokestatic 123, 3) := by decide +kernel
theorem dL_law_152 : decode cL_law 152 = .ok (.ifCond .eq 19, 3) := by decide +kernel
theorem dL_law_155 : decode cL_law 155 = .ok (.aload_n 1, 1) := by decide +kernel
theorem dL_law_156 : decode cL_law 156 = .ok (.invokevirtual 138, 3) := by decide +kernel
theorem dL_law_159 : decode cL_law 159 = .ok (.aload_n 2, 1) := by decide +kernel
theorem dL_law_160 : decode cL_law 160 = .ok (.invokevirtual 138, 3) := by decide +kernel
theorem dL_law_163 : decode cL_law 163 = .ok (.lcmp, 1) := by decide +kernel
theorem dL_law_164 : decode cL_law 164 = .ok (.ifCond .ne 7, 3) := by decide +kernel
theorem dL_law_167 : decode cL_law 167 = .ok (.iconst 1, 1) := by decide +kernel
theorem dL_law_168 : decode cL_law 168 = .ok (.goto 4, 3) := by decide +kernel
theorem dL_law_171 : decode cL_law 171 = .ok (.iconst 0, 1) := by decide +kernel
theorem dL_law_172 : decode cL_law 172 = .ok (.istore_n 3, 1) := by decide +kernel
theorem dL_law_173 : decode cL_law 173 = .ok (.iinc 4 1, 3) := by decide +kernel
theorem dL_law_176 : decode cL_law 176 = .ok (.goto (-96), 3) := by decide +kernel
theorem dL_law_179 : decode cL_law 179 = .ok (.iload_n 3, 1) := by decide +kernel
theorem dL_law_180 : decode cL_law 180 = .ok (.ifCond .ne 5, 3) := by decide +kernel
theorem dL_law_183 : decode cL_law 183 = .ok (.iconst 0, 1) := by decide +kernel
theorem dL_law_184 : decode cL_law 184 = .ok (.ireturn, 1) := by decide +kernel
theorem dL_law_185 : decode cL_law 185 = .ok (.aload_n 1, 1) := by decide +kernel
theorem dL_law_186 : decode cL_law 186 = .ok (.iconst 2, 1) := by decide +kernel
theorem dL_law_187 : decode cL_law 187 = .ok (.invokevirtual 44, 3) := by decide +kernel
theorem dL_law_190 : decode cL_law 190 = .ok (.istore 4, 2) := by decide +kernel
theorem dL_law_192 : decode cL_law 192 = .ok (.aload_n 1, 1) := by decide +kernel
theorem dL_law_193 : decode cL_law 193 = .ok (.invokevirtual 138, 3) := by decide +kernel
theorem dL_law_196 : decode cL_law 196 = .ok (.lstore 5, 2) := by decide +kernel
theorem dL_law_198 : decode cL_law 198 = .ok (.iload 4, 2) := by decide +kernel
theorem dL_law_200 : decode cL_law 200 = .ok (.ifCond .lt 65, 3) := by decide +kernel
theorem dL_law_203 : decode cL_law 203 = .ok (.aload_n 1, 1) := by decide +kernel
theorem dL_law_204 : decode cL_law 204 = .ok (.iload 4, 2) := by decide +kernel
theorem dL_law_206 : decode cL_law 206 = .ok (.invokevirtual 44, 3) := by decide +kernel
theorem dL_law_209 : decode cL_law 209 = .ok (.iconst 2, 1) := by decide +kernel
theorem dL_law_210 : decode cL_law 210 = .ok (.if_icmp .ne 55, 3) := by decide +kernel
theorem dL_law_213 : decode cL_law 213 = .ok (.aload_n 1, 1) := by decide +kernel
theorem dL_law_214 : decode cL_law 214 = .ok (.invokevirtual 138, 3) := by decide +kernel
theorem dL_law_217 : decode cL_law 217 = .ok (.aload_n 2, 1) := by decide +kernel
theorem dL_law_218 : decode cL_law 218 = .ok (.invokevirtual 138, 3) := by decide +kernel
theorem dL_law_221 : decode cL_law 221 = .ok (.lcmp, 1) := by decide +kernel
theorem dL_law_222 : decode cL_law 222 = .ok (.ifCond .ne 43, 3) := by decide +kernel
theorem dL_law_225 : decode cL_law 225 = .ok (.aload_n 1, 1) := by decide +kernel
theorem dL_law_226 : decode cL_law 226 = .ok (.invokevirtual 50, 3) := by decide +kernel
theorem dL_law_229 : decode cL_law 229 = .ok (.ifCond .lt 36, 3) := by decide +kernel
theorem dL_law_232 : decode cL_law 232 = .ok (.aload_n 1, 1) := by decide +kernel
theorem dL_law_233 : decode cL_law 233 = .ok (.invokevirtual 138, 3) := by decide +kernel
theorem dL_law_236 : decode cL_law 236 = .ok (.lload 5, 2) := by decide +kernel
theorem dL_law_238 : decode cL_law 238 = .ok (.lcmp, 1) := by decide +kernel
theorem dL_law_239 : decode cL_law 239 = .ok (.ifCond .ne 26, 3) := by decide +kernel
theorem dL_law_242 : decode cL_law 242 = .ok (.aload_n 1, 1) := by decide +kernel
theorem dL_law_243 : decode cL_law 243 = .ok (.invokevirtual 50, 3) := by decide +kernel
theorem dL_law_246 : decode cL_law 246 = .ok (.ifCond .lt 19, 3) := by decide +kernel
theorem dL_law_249 : decode cL_law 249 = .ok (.aload_n 1, 1) := by decide +kernel
theorem dL_law_250 : decode cL_law 250 = .ok (.invokevirtual 138, 3) := by decide +kernel
theorem dL_law_253 : decode cL_law 253 = .ok (.aload_n 2, 1) := by decide +kernel
theorem dL_law_254 : decode cL_law 254 = .ok (.invokevirtual 138, 3) := by decide +kernel
theorem dL_law_257 : decode cL_law 257 = .ok (.lcmp, 1) := by decide +kernel
theorem dL_law_258 : decode cL_law 258 = .ok (.ifCond .ne 7, 3) := by decide +kernel
theorem dL_law_261 : decode cL_law 261 = .ok (.iconst 1, 1) := by decide +kernel
theorem dL_law_262 : decode cL_law 262 = .ok (.goto 4, 3) := by decide +kernel
theorem dL_law_265 : decode cL_law 265 = .ok (.iconst 0, 1) := by decide +kernel
theorem dL_law_266 : decode cL_law 266 = .ok (.istore_n 3, 1) := by decide +kernel
theorem dL_law_267 : decode cL_law 267 = .ok (.iload_n 3, 1) := by decide +kernel
theorem dL_law_268 : decode cL_law 268 = .ok (.ifCond .eq 44, 3) := by decide +kernel
theorem dL_law_271 : decode cL_law 271 = .ok (.aload_n 1, 1) := by decide +kernel
theorem dL_law_272 : decode cL_law 272 = .ok (.invokevirtual 28, 3) := by decide +kernel
theorem dL_law_275 : decode cL_law 275 = .ok (.ifCond .lt 37, 3) := by decide +kernel
theorem dL_law_278 : decode cL_law 278 = .ok (.aload_n 1, 1) := by decide +kernel
theorem dL_law_279 : decode cL_law 279 = .ok (.bipush 97, 2) := by decide +kernel
theorem dL_law_281 : decode cL_law 281 = .ok (.invokevirtual 19, 3) := by decide +kernel
theorem dL_law_284 : decode cL_law 284 = .ok (.iconst 1, 1) := by decide +kernel
theorem dL_law_285 : decode cL_law 285 = .ok (.if_icmp .ne 27, 3) := by decide +kernel
theorem dL_law_288 : decode cL_law 288 = .ok (.aload_n 1, 1) := by decide +kernel
theorem dL_law_289 : decode cL_law 289 = .ok (.invokevirtual 138, 3) := by decide +kernel
theorem dL_law_292 : decode cL_law 292 = .ok (.aload_n 2, 1) := by decide +kernel
theorem dL_law_293 : decode cL_law 293 = .ok (.invokevirtual 138, 3) := by decide +kernel
theorem dL_law_296 : decode cL_law 296 = .ok (.lcmp, 1) := by decide +kernel
theorem dL_law_297 : decode cL_law 297 = .ok (.ifCond .ne 15, 3) := by decide +kernel
theorem dL_law_300 : decode cL_law 300 = .ok (.aload_n 1, 1) := by decide +kernel
theorem dL_law_301 : decode cL_law 301 = .ok (.invokevirtual 28, 3) := by decide +kernel
theorem dL_law_304 : decode cL_law 304 = .ok (.iconst 1, 1) := by decide +kernel
theorem dL_law_305 : decode cL_law 305 = .ok (.if_icmp .ne 7, 3) := by decide +kernel
theorem dL_law_308 : decode cL_law 308 = .ok (.iconst 1, 1) := by decide +kernel
theorem dL_law_309 : decode cL_law 309 = .ok (.goto 4, 3) := by decide +kernel
theorem dL_law_312 : decode cL_law 312 = .ok (.iconst 0, 1) := by decide +kernel
theorem dL_law_313 : decode cL_law 313 = .ok (.ireturn, 1) := by decide +kernel
abbrev vwCl : List vw_C := [(RX0, TX0, 5), (RX1, TX1, 3), (RX2, TX2, 12), (RX3, TX3, 3), (RX5, TX5, 5)]
