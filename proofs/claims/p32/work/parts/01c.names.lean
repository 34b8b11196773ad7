set_option maxRecDepth 20000 in
theorem ggX5_init_X3_init : GoodIn wsX5_init wsX3_init := goodIn_r _ [22, 23, 2, 3, 24, 25, 26, 27, 46, 47, 48] (by decide +kernel) (by decide +kernel)
set_option maxRecDepth 20000 in
theorem gX5_init_X3_init_n9 : GoodIn wsX5_init (wsX3_init) := ggX5_init_X3_init
set_option maxRecDepth 20000 in
theorem ggX5_init_X2_init : GoodIn wsX5_init wsX2_init := goodIn_r _ [29, 30, 2, 3, 26, 31, 32, 33, 34, 54, 55, 56, 57, 58, 59, 60, 61, 62, 63, 64, 65] (by decide +kernel) (by decide +kernel)
set_option maxRecDepth 20000 in
theorem gX5_init_X2_init_n18 : GoodIn wsX5_init (wsX2_init) := ggX5_init_X2_init
set_option maxRecDepth 20000 in
theorem ggX5_init_X1_init : GoodIn wsX5_init wsX1_init := goodIn_r _ [36, 37, 2, 3, 38, 39, 66, 67, 68] (by decide +kernel) (by decide +kernel)
set_option maxRecDepth 20000 in
theorem gX5_init_X1_init_n25 : GoodIn wsX5_init (wsX1_init) := ggX5_init_X1_init
set_option maxRecDepth 20000 in
theorem ggX5_init_X0_init : GoodIn wsX5_init wsX0_init := goodIn_r _ [41, 42, 2, 3, 32, 43, 44, 45, 69, 70, 71, 72, 73] (by decide +kernel) (by decide +kernel)
set_option maxRecDepth 20000 in
theorem gX5_init_X0_init_n35 : GoodIn wsX5_init (wsX0_init) := ggX5_init_X0_init
theorem dX5_init_0 : decode cX5_init 0 = .ok (.aload_n 0, 1) := by decide +kernel
theorem dX5_init_1 : decode cX5_init 1 = .ok (.invokespecial 1, 3) := by decide +kernel
theorem dX5_init_4 : decode cX5_init 4 = .ok (.aload_n 0, 1) := by decide +kernel
theorem dX5_init_5 : decode cX5_init 5 = .ok (.new 7, 3) := by decide +kernel
theorem dX5_init_8 : decode cX5_init 8 = .ok (.dup, 1) := by decide +kernel
theorem dX5_init_9 : decode cX5_init 9 = .ok (.invokespecial 9, 3) := by decide +kernel
theorem dX5_init_12 : decode cX5_init 12 = .ok (.putfield 10, 3) := by decide +kernel
theorem dX5_init_15 : decode cX5_init 15 = .ok (.aload_n 0, 1) := by decide +kernel
theorem dX5_init_16 : decode cX5_init 16 = .ok (.new 16, 3) := by decide +kernel
theorem dX5_init_19 : decode cX5_init 19 = .ok (.dup, 1) := by decide +kernel
theorem dX5_init_20 : decode cX5_init 20 = .ok (.invokespecial 18, 3) := by decide +kernel
theorem dX5_init_23 : decode cX5_init 23 = .ok (.putfield 19, 3) := by decide +kernel
theorem dX5_init_26 : decode cX5_init 26 = .ok (.aload_n 0, 1) := by decide +kernel
theorem dX5_init_27 : decode cX5_init 27 = .ok (.new 23, 3) := by decide +kernel
theorem dX5_init_30 : decode cX5_init 30 = .ok (.dup, 1) := by decide +kernel
theorem dX5_init_31 : decode cX5_init 31 = .ok (.invokespecial 25, 3) := by decide +kernel
theorem dX5_init_34 : decode cX5_init 34 = .ok (.putfield 26, 3) := by decide +kernel
theorem dX5_init_37 : decode cX5_init 37 = .ok (.aload_n 0, 1) := by decide +kernel
theorem dX5_init_38 : decode cX5_init 38 = .ok (.new 16, 3) := by decide +kernel
theorem dX5_init_41 : decode cX5_init 41 = .ok (.dup, 1) := by decide +kernel
theorem dX5_init_42 : decode cX5_init 42 = .ok (.invokespecial 18, 3) := by decide +kernel
theorem dX5_init_45 : decode cX5_init 45 = .ok (.putfield 30, 3) := by decide +kernel
theorem dX5_init_48 : decode cX5_init 48 = .ok (.aload_n 0, 1) := by decide +kernel
theorem dX5_init_49 : decode cX5_init 49 = .ok (.new 33, 3) := by decide +kernel
theorem dX5_init_52 : decode cX5_init 52 = .ok (.dup, 1) := by decide +kernel
theorem dX5_init_53 : decode cX5_init 53 = .ok (.invokespecial 35, 3) := by decide +kernel
theorem dX5_init_56 : decode cX5_init 56 = .ok (.putfield 36, 3) := by decide +kernel
theorem dX5_init_59 : decode cX5_init 59 = .ok (.return_, 1) := by decide +kernel
set_option maxRecDepth 20000 in
theorem ggX5_type_X3_append : GoodIn wsX5_type wsX3_append := goodIn_r _ [6, 7, 8, 14, 15, 16] (by decide +kernel) (by decide +kernel)
set_option maxRecDepth 20000 in
theorem gX5_type_X3_append : GoodIn wsX5_type (wsV RX5 40 RX3 yX3_append wsX3_append) := goodIn_app (goodIn_of _ (by decide +kernel)) ggX5_type_X3_append
theorem dX5_type_0 : decode cX5_type 0 = .ok (.iload_n 1, 1) := by decide +kernel
theorem dX5_type_1 : decode cX5_type 1 = .ok (.bipush 33, 2) := by decide +kernel
theorem dX5_type_3 : decode cX5_type 3 = .ok (.if_icmp .lt 9, 3) := by decide +kernel
theorem dX5_type_6 : decode cX5_type 6 = .ok (.iload_n 1, 1) := by decide +kernel
theorem dX5_type_7 : decode cX5_type 7 = .ok (.bipush 126, 2) := by decide +kernel
theorem dX5_type_9 : decode cX5_type 9 = .ok (.if_icmp .le 6, 3) := by decide +kernel
theorem dX5_type_12 : decode cX5_type 12 = .ok (.bipush (-2), 2) := by decide +kernel
theorem dX5_type_14 : decode cX5_type 14 = .ok (.ireturn, 1) := by decide +kernel
theorem dX5_type_15 : decode cX5_type 15 = .ok (.aload_n 0, 1) := by decide +kernel
theorem dX5_type_16 : decode cX5_type 16 = .ok (.getfield 10, 3) := by decide +kernel
theorem dX5_type_19 : decode cX5_type 19 = .ok (.iload_n 1, 1) := by decide +kernel
theorem dX5_type_20 : decode cX5_type 20 = .ok (.i2c, 1) := by decide +kernel
theorem dX5_type_21 : decode cX5_type 21 = .ok (.invokevirtual 40, 3) := by decide +kernel
theorem dX5_type_24 : decode cX5_type 24 = .ok (.ifCond .eq 13, 3) := by decide +kernel
theorem dX5_type_27 : decode cX5_type 27 = .ok (.aload_n 0, 1) := by decide +kernel
theorem dX5_type_28 : decode cX5_type 28 = .ok (.getfield 10, 3) := by decide +kernel
theorem dX5_type_31 : decode cX5_type 31 = .ok (.getfield 44, 3) := by decide +kernel
theorem dX5_type_34 : decode cX5_type 34 = .ok (.goto 5, 3) := by decide +kernel
theorem dX5_type_37 : decode cX5_type 37 = .ok (.bipush (-4), 2) := by decide +kernel
theorem dX5_type_39 : decode cX5_type 39 = .ok (.ireturn, 1) := by decide +kernel
set_option maxRecDepth 20000 in
theorem ggX5_clearText_X3_empty : GoodIn wsX5_clearText wsX3_empty := goodIn_r _ [6, 7, 13, 14, 15] (by decide +kernel) (by decide +kernel)
set_option maxRecDepth 20000 in
theorem gX5_clearText_X3_empty : GoodIn wsX5_clearText (wsV RX5 48 RX3 yX3_empty wsX3_empty) := goodIn_app (goodIn_of _ (by decide +kernel)) ggX5_clearText_X3_empty
theorem dX5_clearText_0 : decode cX5_clearText 0 = .ok (.aload_n 0, 1) := by decide +kernel
theorem dX5_clearText_1 : decode cX5_clearText 1 = .ok (.getfield 10, 3) := by decide +kernel
theorem dX5_clearText_4 : decode cX5_clearText 4 = .ok (.getfield 44, 3) := by decide +kernel
theorem dX5_clearText_7 : decode cX5_clearText 7 = .ok (.istore_n 1, 1) := by decide +kernel
theorem dX5_clearText_8 : decode cX5_clearText 8 = .ok (.aload_n 0, 1) := by decide +kernel
theorem dX5_clearText_9 : decode cX5_clearText 9 = .ok (.getfield 10, 3) := by decide +kernel
theorem dX5_clearText_12 : decode cX5_clearText 12 = .ok (.invokevirtual 48, 3) := by decide +kernel
theorem dX5_clearText_15 : decode cX5_clearText 15 = .ok (.iload_n 1, 1) := by decide +kernel
theorem dX5_clearText_16 : decode cX5_clearText 16 = .ok (.ireturn, 1) := by decide +kernel
set_option maxRecDepth 20000 in
theorem ggX5_syntaxError_X3_firstError : GoodIn wsX5_syntaxError wsX3_firstError := goodIn_r _ [6, 7, 8, 9, 10, 5, 11, 12, 13, 14, 15, 21, 22, 23] (by decide +kernel) (by decide +kernel)
set_option maxRecDepth 20000 in
theorem gX5_syntaxError_X3_firstError : GoodIn wsX5_syntaxError (wsV RX5 51 RX3 yX3_firstError wsX3_firstError) := goodIn_app (goodIn_of _ (by decide +kernel)) ggX5_syntaxError_X3_firstError
theorem dX5_syntaxError_0 : decode cX5_syntaxError 0 = .ok (.aload_n 0, 1) := by decide +kernel
theorem dX5_syntaxError_1 : decode cX5_syntaxError 1 = .ok (.getfield 10, 3) := by decide +kernel
theorem dX5_syntaxError_4 : decode cX5_syntaxError 4 = .ok (.invokevirtual 51, 3) := by decide +kernel
theorem dX5_syntaxError_7 : decode cX5_syntaxError 7 = .ok (.ireturn, 1) := by decide +kernel
set_option maxRecDepth 20000 in
theorem ggX5_addWords_X3_firstError : GoodIn wsX5_addWords wsX3_firstError := goodIn_r _ [9, 10, 11, 12, 13, 8, 14, 15, 16, 17, 18, 135, 136, 137] (by decide +kernel) (by decide +kernel)
set_option maxRecDepth 20000 in
theorem gX5_addWords_X3_firstError : GoodIn wsX5_addWords (wsV RX5 51 RX3 yX3_firstError wsX3_firstError) := goodIn_app (goodIn_of _ (by decide +kernel)) ggX5_addWords_X3_firstError
set_option maxRecDepth 20000 in
theorem ggX5_addWords_X2_isRunning : GoodIn wsX5_addWords wsX2_isRunning := goodIn_r _ [23, 24, 123, 124, 125, 126, 127, 128, 129, 130, 131, 132, 133, 134] (by decide +kernel) (by decide +kernel)
set_option maxRecDepth 20000 in
theorem gX5_addWords_X2_isRunning : GoodIn wsX5_addWords (wsV RX5 55 RX2 yX2_isRunning wsX2_isRunning) := goodIn_app (goodIn_of _ (by decide +kernel)) ggX5_addWords_X2_isRunning
set_option maxRecDepth 20000 in
theorem ggX5_addWords_X2_copyFrom : GoodIn wsX5_addWords wsX2_copyFrom := goodIn_r _ [28, 29, 30, 31, 32, 33, 34, 35, 36, 37, 24, 38, 39, 40, 41, 42, 43, 123, 124, 125, 126, 127, 128, 129, 130, 131, 132, 133, 134] (by decide +kernel) (by decide +kernel)
set_option maxRecDepth 20000 in
theorem gX5_addWords_X2_copyFrom : GoodIn wsX5_addWords (wsV RX5 59 RX2 yX2_copyFrom wsX2_copyFrom) := goodIn_app (goodIn_of _ (by decide +kernel)) ggX5_addWords_X2_copyFrom
set_option maxRecDepth 20000 in
theorem ggX5_addWords_X5_addTextTo : GoodIn wsX5_addWords wsX5_addTextTo := goodIn_r _ [47, 1, 48, 49, 50, 8, 51, 10, 11, 12, 13, 14, 15, 52, 53, 54, 55, 56, 57, 58, 59, 60, 16, 17, 18, 61, 62, 63, 64, 65, 66, 67, 68, 69, 70, 22, 71, 72, 73, 74, 75, 36, 76, 77, 78, 79, 29, 80, 81, 82, 83, 84, 85, 86, 87, 118, 119, 120, 121, 122, 135, 136, 137, 123, 124, 125, 126, 127, 128, 129, 130, 131, 132, 133, 134] (by decide +kernel) (by decide +kernel)
set_option maxRecDepth 20000 in
theorem gX5_addWords_X5_addTextTo : GoodIn wsX5_addWords (wsV RX5 63 RX5 yX5_addTextTo wsX5_addTextTo) := goodIn_app (goodIn_of _ (by decide +kernel)) ggX5_addWords_X5_addTextTo
set_option maxRecDepth 20000 in
theorem ggX5_addWords_X1_push : GoodIn wsX5_addWords wsX1_push := goodIn_r _ [92, 93, 94, 95, 96, 22, 97, 98, 99, 100, 101, 102, 103, 104, 105, 106, 107, 29, 108, 34, 35, 109, 26, 27, 28, 30, 31, 32, 33, 36, 37, 24, 38, 39, 40, 41, 42, 43, 138, 139, 140, 123, 124, 125, 126, 127, 128, 129, 130, 131, 132, 133, 134] (by decide +kernel) (by decide +kernel)
set_option maxRecDepth 20000 in
theorem gX5_addWords_X1_push : GoodIn wsX5_addWords (wsV RX5 70 RX1 yX1_push wsX1_push) := goodIn_app (goodIn_of _ (by decide +kernel)) ggX5_addWords_X1_push
set_option maxRecDepth 20000 in
theorem ggX5_addWords_X2_endWithoutGame : GoodIn wsX5_addWords wsX2_endWithoutGame := goodIn_r _ [113, 24, 38, 39, 40, 41, 42, 43, 123, 124, 125, 126, 127, 128, 129, 130, 131, 132, 133, 134] (by decide +kernel) (by decide +kernel)
set_option maxRecDepth 20000 in
theorem gX5_addWords_X2_endWithoutGame : GoodIn wsX5_addWords (wsV RX5 73 RX2 yX2_endWithoutGame wsX2_endWithoutGame) := goodIn_app (goodIn_of _ (by decide +kernel)) ggX5_addWords_X2_endWithoutGame
set_option maxRecDepth 20000 in
theorem ggX5_addWords_X3_empty : GoodIn wsX5_addWords wsX3_empty := goodIn_r _ [117, 10, 135, 136, 137] (by decide +kernel) (by decide +kernel)
set_option maxRecDepth 20000 in
theorem gX5_addWords_X3_empty : GoodIn wsX5_addWords (wsV RX5 48 RX3 yX3_empty wsX3_empty) := goodIn_app (goodIn_of _ (by decide +kernel)) ggX5_addWords_X3_empty
theorem dX5_addWords_0 : decode cX5_addWords 0 = .ok (.aload_n 0, 1) := by decide +kernel
theorem dX5_addWords_1 : decode cX5_addWords 1 = .ok (.getfield 10, 3) := by decide +kernel
theorem dX5_addWords_4 : decode cX5_addWords 4 = .ok (.invokevirtual 51, 3) := by decide +kernel
theorem dX5_addWords_7 : decode cX5_addWords 7 = .ok (.bipush (-6), 2) := by decide +kernel
theorem dX5_addWords_9 : decode cX5_addWords 9 = .ok (.if_icmp .eq 6, 3) := by decide +kernel
theorem dX5_addWords_12 : decode cX5_addWords 12 = .ok (.bipush (-5), 2) := by decide +kernel
theorem dX5_addWords_14 : decode cX5_addWords 14 = .ok (.ireturn, 1) := by decide +kernel
theorem dX5_addWords_15 : decode cX5_addWords 15 = .ok (.aload_n 0, 1) := by decide +kernel
theorem dX5_addWords_16 : decode cX5_addWords 16 = .ok (.getfield 19, 3) := by decide +kernel
theorem dX5_addWords_19 : decode cX5_addWords 19 = .ok (.invokevirtual 55, 3) := by decide +kernel
theorem dX5_addWords_22 : decode cX5_addWords 22 = .ok (.ifCond .eq 6, 3) := by decide +kernel
theorem dX5_addWords_25 : decode cX5_addWords 25 = .ok (.bipush (-3), 2) := by decide +kernel
theorem dX5_addWords_27 : decode cX5_addWords 27 = .ok (.ireturn, 1) := by decide +kernel
theorem dX5_addWords_28 : decode cX5_addWords 28 = .ok (.aload_n 0, 1) := by decide +kernel
theorem dX5_addWords_29 : decode cX5_addWords 29 = .ok (.getfield 30, 3) := by decide +kernel
theorem dX5_addWords_32 : decode cX5_addWords 32 = .ok (.aload_n 0, 1) := by decide +kernel
theorem dX5_addWords_33 : decode cX5_addWords 33 = .ok (.getfield 19, 3) := by decide +kernel
theorem dX5_addWords_36 : decode cX5_addWords 36 = .ok (.invokevirtual 59, 3) := by decide +kernel
theorem dX5_addWords_39 : decode cX5_addWords 39 = .ok (.aload_n 0, 1) := by decide +kernel
theorem dX5_addWords_40 : decode cX5_addWords 40 = .ok (.aload_n 0, 1) := by decide +kernel
theorem dX5_addWords_41 : decode cX5_addWords 41 = .ok (.getfield 30, 3) := by decide +kernel
theorem dX5_addWords_44 : decode cX5_addWords 44 = .ok (.invokevirtual 63, 3) := by decide +kernel
theorem dX5_addWords_47 : decode cX5_addWords 47 = .ok (.ifCond .ne 6, 3) := by decide +kernel
theorem dX5_addWords_50 : decode cX5_addWords 50 = .ok (.bipush (-4), 2) := by decide +kernel
theorem dX5_addWords_52 : decode cX5_addWords 52 = .ok (.ireturn, 1) := by decide +kernel
theorem dX5_addWords_53 : decode cX5_addWords 53 = .ok (.aload_n 0, 1) := by decide +kernel
theorem dX5_addWords_54 : decode cX5_addWords 54 = .ok (.getfield 30, 3) := by decide +kernel
theorem dX5_addWords_57 : decode cX5_addWords 57 = .ok (.getfield 67, 3) := by decide +kernel
theorem dX5_addWords_60 : decode cX5_addWords 60 = .ok (.aload_n 0, 1) := by decide +kernel
theorem dX5_addWords_61 : decode cX5_addWords 61 = .ok (.getfield 19, 3) := by decide +kernel
theorem dX5_addWords_64 : decode cX5_addWords 64 = .ok (.getfield 67, 3) := by decide +kernel
theorem dX5_addWords_67 : decode cX5_addWords 67 = .ok (.isub, 1) := by decide +kernel
theorem dX5_addWords_68 : decode cX5_addWords 68 = .ok (.istore_n 1, 1) := by decide +kernel
theorem dX5_addWords_69 : decode cX5_addWords 69 = .ok (.aload_n 0, 1) := by decide +kernel
theorem dX5_addWords_70 : decode cX5_addWords 70 = .ok (.getfield 26, 3) := by decide +kernel
theorem dX5_addWords_73 : decode cX5_addWords 73 = .ok (.aload_n 0, 1) := by decide +kernel
theorem dX5_addWords_74 : decode cX5_addWords 74 = .ok (.getfield 19, 3) := by decide +kernel
theorem dX5_addWords_77 : decode cX5_addWords 77 = .ok (.invokevirtual 70, 3) := by decide +kernel
theorem dX5_addWords_80 : decode cX5_addWords 80 = .ok (.aload_n 0, 1) := by decide +kernel
theorem dX5_addWords_81 : decode cX5_addWords 81 = .ok (.getfield 30, 3) := by decide +kernel
theorem dX5_addWords_84 : decode cX5_addWords 84 = .ok (.invokevirtual 73, 3) := by decide +kernel
theorem dX5_addWords_87 : decode cX5_addWords 87 = .ok (.aload_n 0, 1) := by decide +kernel
theorem dX5_addWords_88 : decode cX5_addWords 88 = .ok (.getfield 19, 3) := by decide +kernel
theorem dX5_addWords_91 : decode cX5_addWords 91 = .ok (.aload_n 0, 1) := by decide +kernel
theorem dX5_addWords_92 : decode cX5_addWords 92 = .ok (.getfield 30, 3) := by decide +kernel
theorem dX5_addWords_95 : decode cX5_addWords 95 = .ok (.invokevirtual 59, 3) := by decide +kernel
theorem dX5_addWords_98 : decode cX5_addWords 98 = .ok (.aload_n 0, 1) := by decide +kernel
theorem dX5_addWords_99 : decode cX5_addWords 99 = .ok (.getfield 10, 3) := by decide +kernel
theorem dX5_addWords_102 : decode cX5_addWords 102 = .ok (.invokevirtual 48, 3) := by decide +kernel
theorem dX5_addWords_105 : decode cX5_addWords 105 = .ok (.iload_n 1, 1) := by decide +kernel
theorem dX5_addWords_106 : decode cX5_addWords 106 = .ok (.ireturn, 1) := by decide +kernel
set_option maxRecDepth 20000 in
theorem ggX5_removeWord_X2_hasWord : GoodIn wsX5_removeWord wsX2_hasWord := goodIn_r _ [7, 8, 67, 68, 69, 70, 71, 72, 73, 74, 75, 76, 77, 78] (by decide +kernel) (by decide +kernel)
set_option maxRecDepth 20000 in
theorem gX5_removeWord_X2_hasWord : GoodIn wsX5_removeWord (wsV RX5 76 RX2 yX2_hasWord wsX2_hasWord) := goodIn_app (goodIn_of _ (by decide +kernel)) ggX5_removeWord_X2_hasWord
set_option maxRecDepth 20000 in
theorem ggX5_removeWord_X2_isRunning : GoodIn wsX5_removeWord wsX2_isRunning := goodIn_r _ [12, 13, 67, 68, 69, 70, 71, 72, 73, 74, 75, 76, 77, 78] (by decide +kernel) (by decide +kernel)
set_option maxRecDepth 20000 in
theorem gX5_removeWord_X2_isRunning : GoodIn wsX5_removeWord (wsV RX5 55 RX2 yX2_isRunning wsX2_isRunning) := goodIn_app (goodIn_of _ (by decide +kernel)) ggX5_removeWord_X2_isRunning
set_option maxRecDepth 20000 in
theorem ggX5_removeWord_X1_push : GoodIn wsX5_removeWord wsX1_push := goodIn_r _ [18, 19, 20, 21, 22, 6, 23, 24, 25, 26, 27, 28, 29, 30, 31, 32, 33, 34, 35, 36, 37, 38, 39, 40, 41, 42, 43, 44, 45, 8, 46, 13, 47, 48, 49, 50, 51, 52, 79, 80, 81, 67, 68, 69, 70, 71, 72, 73, 74, 75, 76, 77, 78] (by decide +kernel) (by decide +kernel)
set_option maxRecDepth 20000 in
theorem gX5_removeWord_X1_push : GoodIn wsX5_removeWord (wsV RX5 70 RX1 yX1_push wsX1_push) := goodIn_app (goodIn_of _ (by decide +kernel)) ggX5_removeWord_X1_push
set_option maxRecDepth 20000 in
theorem ggX5_removeWord_X2_remove : GoodIn wsX5_removeWord wsX2_remove := goodIn_r _ [56, 34, 8, 57, 4, 5, 6, 7, 67, 68, 69, 70, 71, 72, 73, 74, 75, 76, 77, 78] (by decide +kernel) (by decide +kernel)
set_option maxRecDepth 20000 in
theorem gX5_removeWord_X2_remove : GoodIn wsX5_removeWord (wsV RX5 80 RX2 yX2_remove wsX2_remove) := goodIn_app (goodIn_of _ (by decide +kernel)) ggX5_removeWord_X2_remove
set_option maxRecDepth 20000 in
theorem ggX5_removeWord_X2_endWithoutGame : GoodIn wsX5_removeWord wsX2_endWithoutGame := goodIn_r _ [61, 13, 47, 48, 49, 50, 51, 52, 67, 68, 69, 70, 71, 72, 73, 74, 75, 76, 77, 78] (by decide +kernel) (by decide +kernel)
set_option maxRecDepth 20000 in
theorem gX5_removeWord_X2_endWithoutGame : GoodIn wsX5_removeWord (wsV RX5 73 RX2 yX2_endWithoutGame wsX2_endWithoutGame) := goodIn_app (goodIn_of _ (by decide +kernel)) ggX5_removeWord_X2_endWithoutGame
theorem dX5_removeWord_0 : decode cX5_removeWord 0 = .ok (.aload_n 0, 1) := by decide +kernel
theorem dX5_removeWord_1 : decode cX5_removeWord 1 = .ok (.getfield 19, 3) := by decide +kernel
theorem dX5_removeWord_4 : decode cX5_removeWord 4 = .ok (.iload_n 1, 1) := by decide +kernel
theorem dX5_removeWord_5 : decode cX5_removeWord 5 = .ok (.invokevirtual 76, 3) := by decide +kernel
theorem dX5_removeWord_8 : decode cX5_removeWord 8 = .ok (.ifCond .ne 5, 3) := by decide +kernel
theorem dX5_removeWord_11 : decode cX5_removeWord 11 = .ok (.iconst (-1), 1) := by decide +kernel
theorem dX5_removeWord_12 : decode cX5_removeWord 12 = .ok (.ireturn, 1) := by decide +kernel
theorem dX5_removeWord_13 : decode cX5_removeWord 13 = .ok (.aload_n 0, 1) := by decide +kernel
theorem dX5_removeWord_14 : decode cX5_removeWord 14 = .ok (.getfield 19, 3) := by decide +kernel
theorem dX5_removeWord_17 : decode cX5_removeWord 17 = .ok (.invokevirtual 55, 3) := by decide +kernel
theorem dX5_removeWord_20 : decode cX5_removeWord 20 = .ok (.ifCond .eq 6, 3) := by decide +kernel
theorem dX5_removeWord_23 : decode cX5_removeWord 23 = .ok (.bipush (-3), 2) := by decide +kernel
theorem dX5_removeWord_25 : decode cX5_removeWord 25 = .ok (.ireturn, 1) := by decide +kernel
theorem dX5_removeWord_26 : decode cX5_removeWord 26 = .ok (.aload_n 0, 1) := by decide +kernel
theorem dX5_removeWord_27 : decode cX5_removeWord 27 = .ok (.getfield 26, 3) := by decide +kernel
theorem dX5_removeWord_30 : decode cX5_removeWord 30 = .ok (.aload_n 0, 1) := by decide +kernel
theorem dX5_removeWord_31 : decode cX5_removeWord 31 = .ok (.getfield 19, 3) := by decide +kernel
theorem dX5_removeWord_34 : decode cX5_removeWord 34 = .ok (.invokevirtual 70, 3) := by decide +kernel
theorem dX5_removeWord_37 : decode cX5_removeWord 37 = .ok (.aload_n 0, 1) := by decide +kernel
theorem dX5_removeWord_38 : decode cX5_removeWord 38 = .ok (.getfield 19, 3) := by decide +kernel
theorem dX5_removeWord_41 : decode cX5_removeWord 41 = .ok (.iload_n 1, 1) := by decide +kernel
theorem dX5_removeWord_42 : decode cX5_removeWord 42 = .ok (.invokevirtual 80, 3) := by decide +kernel
theorem dX5_removeWord_45 : decode cX5_removeWord 45 = .ok (.aload_n 0, 1) := by decide +kernel
theorem dX5_removeWord_46 : decode cX5_removeWord 46 = .ok (.getfield 19, 3) := by decide +kernel
theorem dX5_removeWord_49 : decode cX5_removeWord 49 = .ok (.invokevirtual 73, 3) := by decide +kernel
theorem dX5_removeWord_52 : decode cX5_removeWord 52 = .ok (.aload_n 0, 1) := by decide +kernel
theorem dX5_removeWord_53 : decode cX5_removeWord 53 = .ok (.getfield 19, 3) := by decide +kernel
theorem dX5_removeWord_56 : decode cX5_removeWord 56 = .ok (.getfield 67, 3) := by decide +kernel
theorem dX5_removeWord_59 : decode cX5_removeWord 59 = .ok (.ireturn, 1) := by decide +kernel
theorem dX5_words_0 : decode cX5_words 0 = .ok (.aload_n 0, 1) := by decide +kernel
theorem dX5_words_1 : decode cX5_words 1 = .ok (.getfield 19, 3) := by decide +kernel
theorem dX5_words_4 : decode cX5_words 4 = .ok (.getfield 67, 3) := by decide +kernel
theorem dX5_words_7 : decode cX5_words 7 = .ok (.ireturn, 1) := by decide +kernel
set_option maxRecDepth 20000 in
theorem ggX5_letterOf_X2_wordAt : GoodIn wsX5_letterOf wsX2_wordAt := goodIn_r _ [6, 7, 8, 9, 10, 5, 11, 12, 25, 26, 27, 28, 29, 30, 31, 32, 33, 34, 35, 36] (by decide +kernel) (by decide +kernel)
set_option maxRecDepth 20000 in
theorem gX5_letterOf_X2_wordAt : GoodIn wsX5_letterOf (wsV RX5 84 RX2 yX2_wordAt wsX2_wordAt) := goodIn_app (goodIn_of _ (by decide +kernel)) ggX5_letterOf_X2_wordAt
set_option maxRecDepth 20000 in
theorem ggX5_letterOf_X4_letterAt : GoodIn wsX5_letterOf wsX4_letterAt := goodIn_r _ [16, 17, 18, 15, 19] (by decide +kernel) (by decide +kernel)
set_option maxRecDepth 20000 in
theorem gX5_letterOf_X4_letterAt : GoodIn wsX5_letterOf (va_wsS RX5 88 yX4_letterAt wsX4_letterAt) := goodIn_app (goodIn_of _ (by decide +kernel)) ggX5_letterOf_X4_letterAt
theorem dX5_letterOf_0 : decode cX5_letterOf 0 = .ok (.aload_n 0, 1) := by decide +kernel
theorem dX5_letterOf_1 : decode cX5_letterOf 1 = .ok (.getfield 19, 3) := by decide +kernel
theorem dX5_letterOf_4 : decode cX5_letterOf 4 = .ok (.iload_n 1, 1) := by decide +kernel
theorem dX5_letterOf_5 : decode cX5_letterOf 5 = .ok (.invokevirtual 84, 3) := by decide +kernel
theorem dX5_letterOf_8 : decode cX5_letterOf 8 = .ok (.iload_n 2, 1) := by decide +kernel
theorem dX5_letterOf_9 : decode cX5_letterOf 9 = .ok (.invokestatic 88, 3) := by decide +kernel
theorem dX5_letterOf_12 : decode cX5_letterOf 12 = .ok (.istore_n 3, 1) := by decide +kernel
theorem dX5_letterOf_13 : decode cX5_letterOf 13 = .ok (.iload_n 3, 1) := by decide +kernel
theorem dX5_letterOf_14 : decode cX5_letterOf 14 = .ok (.ifCond .ne 7, 3) := by decide +kernel
theorem dX5_letterOf_17 : decode cX5_letterOf 17 = .ok (.iconst (-1), 1) := by decide +kernel
theorem dX5_letterOf_18 : decode cX5_letterOf 18 = .ok (.goto 4, 3) := by decide +kernel
theorem dX5_letterOf_21 : decode cX5_letterOf 21 = .ok (.iload_n 3, 1) := by decide +kernel
theorem dX5_letterOf_22 : decode cX5_letterOf 22 = .ok (.ireturn, 1) := by decide +kernel
set_option maxRecDepth 20000 in
theorem ggX5_setPolicy_X1_push : GoodIn wsX5_setPolicy wsX1_push := goodIn_r _ [7, 8, 9, 10, 11, 12, 13, 14, 15, 16, 17, 18, 19, 20, 21, 22, 23, 24, 25, 26, 27, 28, 29, 30, 31, 32, 33, 34, 35, 36, 37, 38, 39, 40, 41, 42, 43, 44, 62, 63, 64, 50, 51, 52, 53, 54, 55, 56, 57, 58, 59, 60, 61] (by decide +kernel) (by decide +kernel)
set_option maxRecDepth 20000 in
theorem gX5_setPolicy_X1_push : GoodIn wsX5_setPolicy (wsV RX5 70 RX1 yX1_push wsX1_push) := goodIn_app (goodIn_of _ (by decide +kernel)) ggX5_setPolicy_X1_push
theorem dX5_setPolicy_0 : decode cX5_setPolicy 0 = .ok (.iload_n 1, 1) := by decide +kernel
theorem dX5_setPolicy_1 : decode cX5_setPolicy 1 = .ok (.ifCond .lt 8, 3) := by decide +kernel
theorem dX5_setPolicy_4 : decode cX5_setPolicy 4 = .ok (.iload_n 1, 1) := by decide +kernel
theorem dX5_setPolicy_5 : decode cX5_setPolicy 5 = .ok (.iconst 2, 1) := by decide +kernel
theorem dX5_setPolicy_6 : decode cX5_setPolicy 6 = .ok (.if_icmp .le 6, 3) := by decide +kernel
theorem dX5_setPolicy_9 : decode cX5_setPolicy 9 = .ok (.bipush (-2), 2) := by decide +kernel
theorem dX5_setPolicy_11 : decode cX5_setPolicy 11 = .ok (.ireturn, 1) := by decide +kernel
theorem dX5_setPolicy_12 : decode cX5_setPolicy 12 = .ok (.aload_n 0, 1) := by decide +kernel
theorem dX5_setPolicy_13 : decode cX5_setPolicy 13 = .ok (.getfield 19, 3) := by decide +kernel
theorem dX5_setPolicy_16 : decode cX5_setPolicy 16 = .ok (.getfield 94, 3) := by decide +kernel
theorem dX5_setPolicy_19 : decode cX5_setPolicy 19 = .ok (.istore_n 2, 1) := by decide +kernel
theorem dX5_setPolicy_20 : decode cX5_setPolicy 20 = .ok (.aload_n 0, 1) := by decide +kernel
theorem dX5_setPolicy_21 : decode cX5_setPolicy 21 = .ok (.getfield 26, 3) := by decide +kernel
theorem dX5_setPolicy_24 : decode cX5_setPolicy 24 = .ok (.aload_n 0, 1) := by decide +kernel
theorem dX5_setPolicy_25 : decode cX5_setPolicy 25 = .ok (.getfield 19, 3) := by decide +kernel
theorem dX5_setPolicy_28 : decode cX5_setPolicy 28 = .ok (.invokevirtual 70, 3) := by decide +kernel
theorem dX5_setPolicy_31 : decode cX5_setPolicy 31 = .ok (.aload_n 0, 1) := by decide +kernel
theorem dX5_setPolicy_32 : decode cX5_setPolicy 32 = .ok (.getfield 19, 3) := by decide +kernel
theorem dX5_setPolicy_35 : decode cX5_setPolicy 35 = .ok (.iload_n 1, 1) := by decide +kernel
theorem dX5_setPolicy_36 : decode cX5_setPolicy 36 = .ok (.putfield 94, 3) := by decide +kernel
theorem dX5_setPolicy_39 : decode cX5_setPolicy 39 = .ok (.iload_n 2, 1) := by decide +kernel
theorem dX5_setPolicy_40 : decode cX5_setPolicy 40 = .ok (.ireturn, 1) := by decide +kernel
set_option maxRecDepth 20000 in
theorem ggX5_start_X2_wordsOfLength : GoodIn wsX5_start wsX2_wordsOfLength := goodIn_r _ [7, 8, 9, 10, 11, 6, 12, 13, 14, 15, 16, 17, 18, 19, 20, 21, 22, 23, 24, 25, 26, 27, 91, 92, 93, 94, 95, 96, 97, 98, 99, 100, 101, 102] (by decide +kernel) (by decide +kernel)
set_option maxRecDepth 20000 in
theorem gX5_start_X2_wordsOfLength : GoodIn wsX5_start (wsV RX5 97 RX2 yX2_wordsOfLength wsX2_wordsOfLength) := goodIn_app (goodIn_of _ (by decide +kernel)) ggX5_start_X2_wordsOfLength
set_option maxRecDepth 20000 in
theorem ggX5_start_X1_push : GoodIn wsX5_start wsX1_push := goodIn_r _ [32, 33, 34, 35, 36, 6, 37, 38, 39, 40, 41, 42, 43, 44, 45, 46, 47, 13, 48, 49, 50, 51, 52, 53, 54, 55, 56, 57, 58, 8, 59, 60, 61, 62, 63, 64, 65, 66, 103, 104, 105, 91, 92, 93, 94, 95, 96, 97, 98, 99, 100, 101, 102] (by decide +kernel) (by decide +kernel)
set_option maxRecDepth 20000 in
theorem gX5_start_X1_push : GoodIn wsX5_start (wsV RX5 70 RX1 yX1_push wsX1_push) := goodIn_app (goodIn_of _ (by decide +kernel)) ggX5_start_X1_push
set_option maxRecDepth 20000 in
theorem ggX5_start_X2_begin : GoodIn wsX5_start wsX2_begin := goodIn_r _ [70, 60, 61, 62, 63, 71, 72, 73, 6, 74, 64, 65, 66, 75, 76, 77, 78, 50, 91, 92, 93, 94, 95, 96, 97, 98, 99, 100, 101, 102] (by decide +kernel) (by decide +kernel)
set_option maxRecDepth 20000 in
theorem gX5_start_X2_begin : GoodIn wsX5_start (wsV RX5 101 RX2 yX2_begin wsX2_begin) := goodIn_app (goodIn_of _ (by decide +kernel)) ggX5_start_X2_begin
set_option maxRecDepth 20000 in
theorem ggX5_start_J6_bitCount_0f7a4 : GoodIn wsX5_start wsJ6_bitCount_0f7a4 := goodIn_r _ [82, 83, 84, 85] (by decide +kernel) (by decide +kernel)
set_option maxRecDepth 20000 in
theorem gX5_start_J6_bitCount_0f7a4 : GoodIn wsX5_start (va_wsS RX5 105 yJ6_bitCount_0f7a4 wsJ6_bitCount_0f7a4) := goodIn_app (goodIn_of _ (by decide +kernel)) ggX5_start_J6_bitCount_0f7a4
theorem dX5_start_0 : decode cX5_start 0 = .ok (.iload_n 1, 1) := by decide +kernel
theorem dX5_start_1 : decode cX5_start 1 = .ok (.iconst 2, 1) := by decide +kernel
theorem dX5_start_2 : decode cX5_start 2 = .ok (.if_icmp .lt 20, 3) := by decide +kernel
theorem dX5_start_5 : decode cX5_start 5 = .ok (.iload_n 1, 1) := by decide +kernel
theorem dX5_start_6 : decode cX5_start 6 = .ok (.bipush 8, 2) := by decide +kernel
theorem dX5_start_8 : decode cX5_start 8 = .ok (.if_icmp .gt 14, 3) := by decide +kernel
theorem dX5_start_11 : decode cX5_start 11 = .ok (.iload_n 2, 1) := by decide +kernel
theorem dX5_start_12 : decode cX5_start 12 = .ok (.iconst 1, 1) := by decide +kernel
theorem dX5_start_13 : decode cX5_start 13 = .ok (.if_icmp .lt 9, 3) := by decide +kernel
theorem dX5_start_16 : decode cX5_start 16 = .ok (.iload_n 2, 1) := by decide +kernel
theorem dX5_start_17 : decode cX5_start 17 = .ok (.bipush 20, 2) := by decide +kernel
theorem dX5_start_19 : decode cX5_start 19 = .ok (.if_icmp .le 6, 3) := by decide +kernel
theorem dX5_start_22 : decode cX5_start 22 = .ok (.bipush (-2), 2) := by decide +kernel
theorem dX5_start_24 : decode cX5_start 24 = .ok (.ireturn, 1) := by decide +kernel
theorem dX5_start_25 : decode cX5_start 25 = .ok (.aload_n 0, 1) := by decide +kernel
theorem dX5_start_26 : decode cX5_start 26 = .ok (.getfield 19, 3) := by decide +kernel
theorem dX5_start_29 : decode cX5_start 29 = .ok (.iload_n 1, 1) := by decide +kernel
theorem dX5_start_30 : decode cX5_start 30 = .ok (.invokevirtual 97, 3) := by decide +kernel
theorem dX5_start_33 : decode cX5_start 33 = .ok (.istore_n 3, 1) := by decide +kernel
theorem dX5_start_34 : decode cX5_start 34 = .ok (.iload_n 3, 1) := by decide +kernel
theorem dX5_start_35 : decode cX5_start 35 = .ok (.ifCond .ne 6, 3) := by decide +kernel
theorem dX5_start_38 : decode cX5_start 38 = .ok (.bipush (-3), 2) := by decide +kernel
theorem dX5_start_40 : decode cX5_start 40 = .ok (.ireturn, 1) := by decide +kernel
theorem dX5_start_41 : decode cX5_start 41 = .ok (.aload_n 0, 1) := by decide +kernel
theorem dX5_start_42 : decode cX5_start 42 = .ok (.getfield 26, 3) := by decide +kernel
theorem dX5_start_45 : decode cX5_start 45 = .ok (.aload_n 0, 1) := by decide +kernel
theorem dX5_start_46 : decode cX5_start 46 = .ok (.getfield 19, 3) := by decide +kernel
theorem dX5_start_49 : decode cX5_start 49 = .ok (.invokevirtual 70, 3) := by decide +kernel
theorem dX5_start_52 : decode cX5_start 52 = .ok (.aload_n 0, 1) := by decide +kernel
theorem dX5_start_53 : decode cX5_start 53 = .ok (.getfield 19, 3) := by decide +kernel
theorem dX5_start_56 : decode cX5_start 56 = .ok (.iload_n 1, 1) := by decide +kernel
theorem dX5_start_57 : decode cX5_start 57 = .ok (.iload_n 2, 1) := by decide +kernel
theorem dX5_start_58 : decode cX5_start 58 = .ok (.iload_n 3, 1) := by decide +kernel
theorem dX5_start_59 : decode cX5_start 59 = .ok (.invokevirtual 101, 3) := by decide +kernel
theorem dX5_start_62 : decode cX5_start 62 = .ok (.iload_n 3, 1) := by decide +kernel
theorem dX5_start_63 : decode cX5_start 63 = .ok (.invokestatic 105, 3) := by decide +kernel
theorem dX5_start_66 : decode cX5_start 66 = .ok (.ireturn, 1) := by decide +kernel
set_option maxRecDepth 20000 in
theorem ggX5_guess_X5_isLetter : GoodIn wsX5_guess wsX5_isLetter := goodIn_r _ [6] (by decide +kernel) (by decide +kernel)
set_option maxRecDepth 20000 in
theorem gX5_guess_X5_isLetter : GoodIn wsX5_guess (va_wsS RX5 110 yX5_isLetter wsX5_isLetter) := goodIn_app (goodIn_of _ (by decide +kernel)) ggX5_guess_X5_isLetter
set_option maxRecDepth 20000 in
theorem ggX5_guess_X2_isRunning : GoodIn wsX5_guess wsX2_isRunning := goodIn_r _ [11, 12, 175, 176, 177, 178, 179, 180, 181, 182, 183, 184, 185, 186] (by decide +kernel) (by decide +kernel)
set_option maxRecDepth 20000 in
theorem gX5_guess_X2_isRunning : GoodIn wsX5_guess (wsV RX5 55 RX2 yX2_isRunning wsX2_isRunning) := goodIn_app (goodIn_of _ (by decide +kernel)) ggX5_guess_X2_isRunning
set_option maxRecDepth 20000 in
theorem ggX5_guess_X2_wasGuessed : GoodIn wsX5_guess wsX2_wasGuessed := goodIn_r _ [16, 17, 18, 5, 19, 3, 4, 6, 175, 176, 177, 178, 179, 180, 181, 182, 183, 184, 185, 186] (by decide +kernel) (by decide +kernel)
set_option maxRecDepth 20000 in
theorem gX5_guess_X2_wasGuessed : GoodIn wsX5_guess (wsV RX5 113 RX2 yX2_wasGuessed wsX2_wasGuessed) := goodIn_app (goodIn_of _ (by decide +kernel)) ggX5_guess_X2_wasGuessed
set_option maxRecDepth 20000 in
theorem ggX5_guess_X1_push : GoodIn wsX5_guess wsX1_push := goodIn_r _ [24, 25, 26, 27, 28, 10, 29, 30, 31, 32, 33, 34, 35, 36, 37, 38, 39, 40, 41, 42, 43, 44, 45, 46, 47, 48, 49, 50, 51, 52, 53, 12, 54, 55, 56, 17, 57, 58, 187, 188, 189, 175, 176, 177, 178, 179, 180, 181, 182, 183, 184, 185, 186] (by decide +kernel) (by decide +kernel)
set_option maxRecDepth 20000 in
theorem gX5_guess_X1_push : GoodIn wsX5_guess (wsV RX5 70 RX1 yX1_push wsX1_push) := goodIn_app (goodIn_of _ (by decide +kernel)) ggX5_guess_X1_push
set_option maxRecDepth 20000 in
theorem ggX5_guess_X5_play : GoodIn wsX5_guess wsX5_play := goodIn_r _ [62, 63, 64, 65, 66, 67, 68, 69, 70, 18, 5, 19, 3, 4, 6, 71, 72, 73, 10, 74, 56, 75, 76, 77, 78, 52, 79, 80, 81, 82, 40, 83, 84, 85, 86, 87, 88, 89, 90, 91, 92, 93, 94, 95, 96, 97, 98, 99, 100, 101, 102, 103, 104, 105, 106, 107, 108, 109, 110, 111, 112, 113, 114, 115, 116, 117, 118, 119, 120, 121, 122, 123, 124, 125, 126, 127, 128, 129, 130, 131, 132, 133, 134, 135, 136, 137, 138, 139, 140, 141, 142, 54, 58, 143, 144, 145, 146, 57, 42, 17, 147, 148, 149, 150, 43, 151, 152, 153, 154, 55, 155, 156, 157, 158, 12, 159, 160, 161, 162, 163, 164, 165, 166, 167, 168, 169, 170, 171, 172, 173, 174, 190, 191, 192, 193, 194, 175, 176, 177, 178, 179, 180, 181, 182, 183, 184, 185, 186] (by decide +kernel) (by decide +kernel)
set_option maxRecDepth 20000 in
theorem gX5_guess_X5_play : GoodIn wsX5_guess (wsV RX5 116 RX5 yX5_play wsX5_play) := goodIn_app (goodIn_of _ (by decide +kernel)) ggX5_guess_X5_play
theorem dX5_guess_0 : decode cX5_guess 0 = .ok (.iload_n 1, 1) := by decide +kernel
theorem dX5_guess_1 : decode cX5_guess 1 = .ok (.invokestatic 110, 3) := by decide +kernel
theorem dX5_guess_4 : decode cX5_guess 4 = .ok (.ifCond .ne 6, 3) := by decide +kernel
theorem dX5_guess_7 : decode cX5_guess 7 = .ok (.bipush (-2), 2) := by decide +kernel
theorem dX5_guess_9 : decode cX5_guess 9 = .ok (.ireturn, 1) := by decide +kernel
theorem dX5_guess_10 : decode cX5_guess 10 = .ok (.aload_n 0, 1) := by decide +kernel
theorem dX5_guess_11 : decode cX5_guess 11 = .ok (.getfield 19, 3) := by decide +kernel
theorem dX5_guess_14 : decode cX5_guess 14 = .ok (.invokevirtual 55, 3) := by decide +kernel
theorem dX5_guess_17 : decode cX5_guess 17 = .ok (.ifCond .ne 6, 3) := by decide +kernel
theorem dX5_guess_20 : decode cX5_guess 20 = .ok (.bipush (-3), 2) := by decide +kernel
theorem dX5_guess_22 : decode cX5_guess 22 = .ok (.ireturn, 1) := by decide +kernel
theorem dX5_guess_23 : decode cX5_guess 23 = .ok (.aload_n 0, 1) := by decide +kernel
theorem dX5_guess_24 : decode cX5_guess 24 = .ok (.getfield 19, 3) := by decide +kernel
theorem dX5_guess_27 : decode cX5_guess 27 = .ok (.iload_n 1, 1) := by decide +kernel
theorem dX5_guess_28 : decode cX5_guess 28 = .ok (.invokevirtual 113, 3) := by decide +kernel
theorem dX5_guess_31 : decode cX5_guess 31 = .ok (.ifCond .eq 6, 3) := by decide +kernel
theorem dX5_guess_34 : decode cX5_guess 34 = .ok (.bipush (-6), 2) := by decide +kernel
theorem dX5_guess_36 : decode cX5_guess 36 = .ok (.ireturn, 1) := by decide +kernel
theorem dX5_guess_37 : decode cX5_guess 37 = .ok (.aload_n 0, 1) := by decide +kernel
theorem dX5_guess_38 : decode cX5_guess 38 = .ok (.getfield 26, 3) := by decide +kernel
theorem dX5_guess_41 : decode cX5_guess 41 = .ok (.aload_n 0, 1) := by decide +kernel
theorem dX5_guess_42 : decode cX5_guess 42 = .ok (.getfield 19, 3) := by decide +kernel
theorem dX5_guess_45 : decode cX5_guess 45 = .ok (.invokevirtual 70, 3) := by decide +kernel
theorem dX5_guess_48 : decode cX5_guess 48 = .ok (.aload_n 0, 1) := by decide +kernel
theorem dX5_guess_49 : decode cX5_guess 49 = .ok (.aload_n 0, 1) := by decide +kernel
theorem dX5_guess_50 : decode cX5_guess 50 = .ok (.getfield 19, 3) := by decide +kernel
theorem dX5_guess_53 : decode cX5_guess 53 = .ok (.iload_n 1, 1) := by decide +kernel
theorem dX5_guess_54 : decode cX5_guess 54 = .ok (.invokevirtual 116, 3) := by decide +kernel
theorem dX5_guess_57 : decode cX5_guess 57 = .ok (.ireturn, 1) := by decide +kernel
set_option maxRecDepth 20000 in
theorem ggX5_guessWord_X3_firstError : GoodIn wsX5_guessWord wsX3_firstError := goodIn_r _ [8, 9, 10, 11, 12, 7, 13, 14, 15, 16, 17, 147, 148, 149] (by decide +kernel) (by decide +kernel)
set_option maxRecDepth 20000 in
theorem gX5_guessWord_X3_firstError : GoodIn wsX5_guessWord (wsV RX5 51 RX3 yX3_firstError wsX3_firstError) := goodIn_app (goodIn_of _ (by decide +kernel)) ggX5_guessWord_X3_firstError
set_option maxRecDepth 20000 in
theorem ggX5_guessWord_X3_readWords : GoodIn wsX5_guessWord wsX3_readWords := goodIn_r _ [21, 9, 10, 11, 12, 7, 13, 14, 22, 23, 24, 25, 26, 27, 28, 29, 30, 15, 16, 17, 31, 32, 33, 147, 148, 149] (by decide +kernel) (by decide +kernel)
set_option maxRecDepth 20000 in
theorem gX5_guessWord_X3_readWords : GoodIn wsX5_guessWord (wsV RX5 120 RX3 yX3_readWords wsX3_readWords) := goodIn_app (goodIn_of _ (by decide +kernel)) ggX5_guessWord_X3_readWords
set_option maxRecDepth 20000 in
theorem ggX5_guessWord_X3_wordRead : GoodIn wsX5_guessWord wsX3_wordRead := goodIn_r _ [37, 26, 147, 148, 149] (by decide +kernel) (by decide +kernel)
set_option maxRecDepth 20000 in
theorem gX5_guessWord_X3_wordRead : GoodIn wsX5_guessWord (wsV RX5 123 RX3 yX3_wordRead wsX3_wordRead) := goodIn_app (goodIn_of _ (by decide +kernel)) ggX5_guessWord_X3_wordRead
set_option maxRecDepth 20000 in
theorem ggX5_guessWord_X2_isRunning : GoodIn wsX5_guessWord wsX2_isRunning := goodIn_r _ [42, 43, 135, 136, 137, 138, 139, 140, 141, 142, 143, 144, 145, 146] (by decide +kernel) (by decide +kernel)
set_option maxRecDepth 20000 in
theorem gX5_guessWord_X2_isRunning : GoodIn wsX5_guessWord (wsV RX5 55 RX2 yX2_isRunning wsX2_isRunning) := goodIn_app (goodIn_of _ (by decide +kernel)) ggX5_guessWord_X2_isRunning
set_option maxRecDepth 20000 in
theorem ggX5_guessWord_X4_lengthOf : GoodIn wsX5_guessWord wsX4_lengthOf := goodIn_r _ [46, 47, 48, 29, 49, 31, 32, 33] (by decide +kernel) (by decide +kernel)
set_option maxRecDepth 20000 in
theorem gX5_guessWord_X4_lengthOf : GoodIn wsX5_guessWord (va_wsS RX5 126 yX4_lengthOf wsX4_lengthOf) := goodIn_app (goodIn_of _ (by decide +kernel)) ggX5_guessWord_X4_lengthOf
set_option maxRecDepth 20000 in
theorem ggX5_guessWord_X1_push : GoodIn wsX5_guessWord wsX1_push := goodIn_r _ [54, 55, 56, 57, 58, 41, 59, 60, 61, 62, 63, 64, 65, 66, 67, 68, 69, 70, 71, 72, 73, 74, 75, 76, 77, 78, 79, 80, 81, 82, 83, 43, 84, 85, 86, 87, 88, 89, 150, 151, 152, 135, 136, 137, 138, 139, 140, 141, 142, 143, 144, 145, 146] (by decide +kernel) (by decide +kernel)
set_option maxRecDepth 20000 in
theorem gX5_guessWord_X1_push : GoodIn wsX5_guessWord (wsV RX5 70 RX1 yX1_push wsX1_push) := goodIn_app (goodIn_of _ (by decide +kernel)) ggX5_guessWord_X1_push
set_option maxRecDepth 20000 in
theorem ggX5_guessWord_X2_takeWord : GoodIn wsX5_guessWord wsX2_takeWord := goodIn_r _ [93, 86, 89, 94, 95, 96, 41, 97, 73, 98, 99, 100, 101, 82, 102, 103, 104, 105, 70, 106, 107, 108, 109, 110, 111, 112, 113, 114, 115, 116, 117, 43, 118, 119, 120, 121, 85, 122, 123, 124, 125, 135, 136, 137, 138, 139, 140, 141, 142, 143, 144, 145, 146] (by decide +kernel) (by decide +kernel)
set_option maxRecDepth 20000 in
theorem gX5_guessWord_X2_takeWord : GoodIn wsX5_guessWord (wsV RX5 131 RX2 yX2_takeWord wsX2_takeWord) := goodIn_app (goodIn_of _ (by decide +kernel)) ggX5_guessWord_X2_takeWord
set_option maxRecDepth 20000 in
theorem ggX5_guessWord_X3_empty : GoodIn wsX5_guessWord wsX3_empty := goodIn_r _ [129, 9, 147, 148, 149] (by decide +kernel) (by decide +kernel)
set_option maxRecDepth 20000 in
theorem gX5_guessWord_X3_empty : GoodIn wsX5_guessWord (wsV RX5 48 RX3 yX3_empty wsX3_empty) := goodIn_app (goodIn_of _ (by decide +kernel)) ggX5_guessWord_X3_empty
theorem dX5_guessWord_0 : decode cX5_guessWord 0 = .ok (.aload_n 0, 1) := by decide +kernel
theorem dX5_guessWord_1 : decode cX5_guessWord 1 = .ok (.getfield 10, 3) := by decide +kernel
theorem dX5_guessWord_4 : decode cX5_guessWord 4 = .ok (.invokevirtual 51, 3) := by decide +kernel
theorem dX5_guessWord_7 : decode cX5_guessWord 7 = .ok (.bipush (-6), 2) := by decide +kernel
theorem dX5_guessWord_9 : decode cX5_guessWord 9 = .ok (.if_icmp .ne 14, 3) := by decide +kernel
theorem dX5_guessWord_12 : decode cX5_guessWord 12 = .ok (.aload_n 0, 1) := by decide +kernel
theorem dX5_guessWord_13 : decode cX5_guessWord 13 = .ok (.getfield 10, 3) := by decide +kernel
theorem dX5_guessWord_16 : decode cX5_guessWord 16 = .ok (.invokevirtual 120, 3) := by decide +kernel
theorem dX5_guessWord_19 : decode cX5_guessWord 19 = .ok (.iconst 1, 1) := by decide +kernel
theorem dX5_guessWord_20 : decode cX5_guessWord 20 = .ok (.if_icmp .eq 6, 3) := by decide +kernel
theorem dX5_guessWord_23 : decode cX5_guessWord 23 = .ok (.bipush (-5), 2) := by decide +kernel
theorem dX5_guessWord_25 : decode cX5_guessWord 25 = .ok (.ireturn, 1) := by decide +kernel
theorem dX5_guessWord_26 : decode cX5_guessWord 26 = .ok (.aload_n 0, 1) := by decide +kernel
theorem dX5_guessWord_27 : decode cX5_guessWord 27 = .ok (.getfield 10, 3) := by decide +kernel
theorem dX5_guessWord_30 : decode cX5_guessWord 30 = .ok (.iconst 0, 1) := by decide +kernel
theorem dX5_guessWord_31 : decode cX5_guessWord 31 = .ok (.invokevirtual 123, 3) := by decide +kernel
theorem dX5_guessWord_34 : decode cX5_guessWord 34 = .ok (.lstore_n 1, 1) := by decide +kernel
theorem dX5_guessWord_35 : decode cX5_guessWord 35 = .ok (.aload_n 0, 1) := by decide +kernel
theorem dX5_guessWord_36 : decode cX5_guessWord 36 = .ok (.getfield 19, 3) := by decide +kernel
theorem dX5_guessWord_39 : decode cX5_guessWord 39 = .ok (.invokevirtual 55, 3) := by decide +kernel
theorem dX5_guessWord_42 : decode cX5_guessWord 42 = .ok (.ifCond .eq 17, 3) := by decide +kernel
theorem dX5_guessWord_45 : decode cX5_guessWord 45 = .ok (.lload_n 1, 1) := by decide +kernel
theorem dX5_guessWord_46 : decode cX5_guessWord 46 = .ok (.invokestatic 126, 3) := by decide +kernel
theorem dX5_guessWord_49 : decode cX5_guessWord 49 = .ok (.aload_n 0, 1) := by decide +kernel
theorem dX5_guessWord_50 : decode cX5_guessWord 50 = .ok (.getfield 19, 3) := by decide +kernel
theorem dX5_guessWord_53 : decode cX5_guessWord 53 = .ok (.getfield 130, 3) := by decide +kernel
theorem dX5_guessWord_56 : decode cX5_guessWord 56 = .ok (.if_icmp .eq 6, 3) := by decide +kernel
theorem dX5_guessWord_59 : decode cX5_guessWord 59 = .ok (.bipush (-3), 2) := by decide +kernel
theorem dX5_guessWord_61 : decode cX5_guessWord 61 = .ok (.ireturn, 1) := by decide +kernel
theorem dX5_guessWord_62 : decode cX5_guessWord 62 = .ok (.aload_n 0, 1) := by decide +kernel
theorem dX5_guessWord_63 : decode cX5_guessWord 63 = .ok (.getfield 26, 3) := by decide +kernel
theorem dX5_guessWord_66 : decode cX5_guessWord 66 = .ok (.aload_n 0, 1) := by decide +kernel
theorem dX5_guessWord_67 : decode cX5_guessWord 67 = .ok (.getfield 19, 3) := by decide +kernel
theorem dX5_guessWord_70 : decode cX5_guessWord 70 = .ok (.invokevirtual 70, 3) := by decide +kernel
theorem dX5_guessWord_73 : decode cX5_guessWord 73 = .ok (.aload_n 0, 1) := by decide +kernel
theorem dX5_guessWord_74 : decode cX5_guessWord 74 = .ok (.getfield 19, 3) := by decide +kernel
theorem dX5_guessWord_77 : decode cX5_guessWord 77 = .ok (.lload_n 1, 1) := by decide +kernel
theorem dX5_guessWord_78 : decode cX5_guessWord 78 = .ok (.invokevirtual 131, 3) := by decide +kernel
theorem dX5_guessWord_81 : decode cX5_guessWord 81 = .ok (.aload_n 0, 1) := by decide +kernel
theorem dX5_guessWord_82 : decode cX5_guessWord 82 = .ok (.getfield 10, 3) := by decide +kernel
theorem dX5_guessWord_85 : decode cX5_guessWord 85 = .ok (.invokevirtual 48, 3) := by decide +kernel
theorem dX5_guessWord_88 : decode cX5_guessWord 88 = .ok (.aload_n 0, 1) := by decide +kernel
theorem dX5_guessWord_89 : decode cX5_guessWord 89 = .ok (.getfield 19, 3) := by decide +kernel
theorem dX5_guessWord_92 : decode cX5_guessWord 92 = .ok (.getfield 135, 3) := by decide +kernel
theorem dX5_guessWord_95 : decode cX5_guessWord 95 = .ok (.iconst 2, 1) := by decide +kernel
theorem dX5_guessWord_96 : decode cX5_guessWord 96 = .ok (.if_icmp .ne 7, 3) := by decide +kernel
theorem dX5_guessWord_99 : decode cX5_guessWord 99 = .ok (.iconst 1, 1) := by decide +kernel
theorem dX5_guessWord_100 : decode cX5_guessWord 100 = .ok (.goto 4, 3) := by decide +kernel
theorem dX5_guessWord_103 : decode cX5_guessWord 103 = .ok (.iconst 0, 1) := by decide +kernel
theorem dX5_guessWord_104 : decode cX5_guessWord 104 = .ok (.ireturn, 1) := by decide +kernel
set_option maxRecDepth 20000 in
theorem ggX5_giveUp_X2_isRunning : GoodIn wsX5_giveUp wsX2_isRunning := goodIn_r _ [7, 8, 66, 67, 68, 69, 70, 71, 72, 73, 74, 75, 76, 77] (by decide +kernel) (by decide +kernel)
set_option maxRecDepth 20000 in
theorem gX5_giveUp_X2_isRunning : GoodIn wsX5_giveUp (wsV RX5 55 RX2 yX2_isRunning wsX2_isRunning) := goodIn_app (goodIn_of _ (by decide +kernel)) ggX5_giveUp_X2_isRunning
set_option maxRecDepth 20000 in
theorem ggX5_giveUp_X1_push : GoodIn wsX5_giveUp wsX1_push := goodIn_r _ [13, 14, 15, 16, 17, 6, 18, 19, 20, 21, 22, 23, 24, 25, 26, 27, 28, 29, 30, 31, 32, 33, 34, 35, 36, 37, 38, 39, 40, 41, 42, 8, 43, 44, 45, 46, 47, 48, 78, 79, 80, 66, 67, 68, 69, 70, 71, 72, 73, 74, 75, 76, 77] (by decide +kernel) (by decide +kernel)
set_option maxRecDepth 20000 in
theorem gX5_giveUp_X1_push : GoodIn wsX5_giveUp (wsV RX5 70 RX1 yX1_push wsX1_push) := goodIn_app (goodIn_of _ (by decide +kernel)) ggX5_giveUp_X1_push
set_option maxRecDepth 20000 in
theorem ggX5_giveUp_X2_lose : GoodIn wsX5_giveUp wsX2_lose := goodIn_r _ [52, 8, 53, 54, 55, 6, 56, 32, 66, 67, 68, 69, 70, 71, 72, 73, 74, 75, 76, 77] (by decide +kernel) (by decide +kernel)
set_option maxRecDepth 20000 in
theorem gX5_giveUp_X2_lose : GoodIn wsX5_giveUp (wsV RX5 138 RX2 yX2_lose wsX2_lose) := goodIn_app (goodIn_of _ (by decide +kernel)) ggX5_giveUp_X2_lose
set_option maxRecDepth 20000 in
theorem ggX5_giveUp_X5_memberAt : GoodIn wsX5_giveUp wsX5_memberAt := goodIn_r _ [60] (by decide +kernel) (by decide +kernel)
set_option maxRecDepth 20000 in
theorem gX5_giveUp_X5_memberAt : GoodIn wsX5_giveUp (va_wsS RX5 144 yX5_memberAt wsX5_memberAt) := goodIn_app (goodIn_of _ (by decide +kernel)) ggX5_giveUp_X5_memberAt
theorem dX5_giveUp_0 : decode cX5_giveUp 0 = .ok (.aload_n 0, 1) := by decide +kernel
theorem dX5_giveUp_1 : decode cX5_giveUp 1 = .ok (.getfield 19, 3) := by decide +kernel
theorem dX5_giveUp_4 : decode cX5_giveUp 4 = .ok (.invokevirtual 55, 3) := by decide +kernel
theorem dX5_giveUp_7 : decode cX5_giveUp 7 = .ok (.ifCond .ne 6, 3) := by decide +kernel
theorem dX5_giveUp_10 : decode cX5_giveUp 10 = .ok (.bipush (-3), 2) := by decide +kernel
theorem dX5_giveUp_12 : decode cX5_giveUp 12 = .ok (.ireturn, 1) := by decide +kernel
theorem dX5_giveUp_13 : decode cX5_giveUp 13 = .ok (.aload_n 0, 1) := by decide +kernel
theorem dX5_giveUp_14 : decode cX5_giveUp 14 = .ok (.getfield 26, 3) := by decide +kernel
theorem dX5_giveUp_17 : decode cX5_giveUp 17 = .ok (.aload_n 0, 1) := by decide +kernel
theorem dX5_giveUp_18 : decode cX5_giveUp 18 = .ok (.getfield 19, 3) := by decide +kernel
theorem dX5_giveUp_21 : decode cX5_giveUp 21 = .ok (.invokevirtual 70, 3) := by decide +kernel
theorem dX5_giveUp_24 : decode cX5_giveUp 24 = .ok (.aload_n 0, 1) := by decide +kernel
theorem dX5_giveUp_25 : decode cX5_giveUp 25 = .ok (.getfield 19, 3) := by decide +kernel
theorem dX5_giveUp_28 : decode cX5_giveUp 28 = .ok (.invokevirtual 138, 3) := by decide +kernel
theorem dX5_giveUp_31 : decode cX5_giveUp 31 = .ok (.aload_n 0, 1) := by decide +kernel
theorem dX5_giveUp_32 : decode cX5_giveUp 32 = .ok (.getfield 19, 3) := by decide +kernel
theorem dX5_giveUp_35 : decode cX5_giveUp 35 = .ok (.getfield 141, 3) := by decide +kernel
theorem dX5_giveUp_38 : decode cX5_giveUp 38 = .ok (.iconst 0, 1) := by decide +kernel
theorem dX5_giveUp_39 : decode cX5_giveUp 39 = .ok (.invokestatic 144, 3) := by decide +kernel
theorem dX5_giveUp_42 : decode cX5_giveUp 42 = .ok (.ireturn, 1) := by decide +kernel
theorem dX5_status_0 : decode cX5_status 0 = .ok (.aload_n 0, 1) := by decide +kernel
theorem dX5_status_1 : decode cX5_status 1 = .ok (.getfield 19, 3) := by decide +kernel
theorem dX5_status_4 : decode cX5_status 4 = .ok (.getfield 135, 3) := by decide +kernel
theorem dX5_status_7 : decode cX5_status 7 = .ok (.ireturn, 1) := by decide +kernel
theorem dX5_lives_0 : decode cX5_lives 0 = .ok (.aload_n 0, 1) := by decide +kernel
theorem dX5_lives_1 : decode cX5_lives 1 = .ok (.getfield 19, 3) := by decide +kernel
theorem dX5_lives_4 : decode cX5_lives 4 = .ok (.getfield 148, 3) := by decide +kernel
theorem dX5_lives_7 : decode cX5_lives 7 = .ok (.ireturn, 1) := by decide +kernel
set_option maxRecDepth 20000 in
theorem ggX5_shown_X4_letterAt : GoodIn wsX5_shown wsX4_letterAt := goodIn_r _ [5, 6, 7, 4, 8] (by decide +kernel) (by decide +kernel)
set_option maxRecDepth 20000 in
theorem gX5_shown_X4_letterAt : GoodIn wsX5_shown (va_wsS RX5 88 yX4_letterAt wsX4_letterAt) := goodIn_app (goodIn_of _ (by decide +kernel)) ggX5_shown_X4_letterAt
theorem dX5_shown_0 : decode cX5_shown 0 = .ok (.iload_n 1, 1) := by decide +kernel
theorem dX5_shown_1 : decode cX5_shown 1 = .ok (.ifCond .lt 14, 3) := by decide +kernel
theorem dX5_shown_4 : decode cX5_shown 4 = .ok (.iload_n 1, 1) := by decide +kernel
theorem dX5_shown_5 : decode cX5_shown 5 = .ok (.aload_n 0, 1) := by decide +kernel
theorem dX5_shown_6 : decode cX5_shown 6 = .ok (.getfield 19, 3) := by decide +kernel
theorem dX5_shown_9 : decode cX5_shown 9 = .ok (.getfield 130, 3) := by decide +kernel
theorem dX5_shown_12 : decode cX5_shown 12 = .ok (.if_icmp .lt 5, 3) := by decide +kernel
theorem dX5_shown_15 : decode cX5_shown 15 = .ok (.iconst (-1), 1) := by decide +kernel
theorem dX5_shown_16 : decode cX5_shown 16 = .ok (.ireturn, 1) := by decide +kernel
theorem dX5_shown_17 : decode cX5_shown 17 = .ok (.aload_n 0, 1) := by decide +kernel
theorem dX5_shown_18 : decode cX5_shown 18 = .ok (.getfield 19, 3) := by decide +kernel
theorem dX5_shown_21 : decode cX5_shown 21 = .ok (.getfield 151, 3) := by decide +kernel
theorem dX5_shown_24 : decode cX5_shown 24 = .ok (.iload_n 1, 1) := by decide +kernel
theorem dX5_shown_25 : decode cX5_shown 25 = .ok (.invokestatic 88, 3) := by decide +kernel
theorem dX5_shown_28 : decode cX5_shown 28 = .ok (.istore_n 2, 1) := by decide +kernel
theorem dX5_shown_29 : decode cX5_shown 29 = .ok (.iload_n 2, 1) := by decide +kernel
theorem dX5_shown_30 : decode cX5_shown 30 = .ok (.ifCond .ne 8, 3) := by decide +kernel
theorem dX5_shown_33 : decode cX5_shown 33 = .ok (.bipush (-6), 2) := by decide +kernel
theorem dX5_shown_35 : decode cX5_shown 35 = .ok (.goto 4, 3) := by decide +kernel
theorem dX5_shown_38 : decode cX5_shown 38 = .ok (.iload_n 2, 1) := by decide +kernel
theorem dX5_shown_39 : decode cX5_shown 39 = .ok (.ireturn, 1) := by decide +kernel
set_option maxRecDepth 20000 in
theorem ggX5_candidates_J6_bitCount_0f7a4 : GoodIn wsX5_candidates wsJ6_bitCount_0f7a4 := goodIn_r _ [5, 6, 7, 8] (by decide +kernel) (by decide +kernel)
set_option maxRecDepth 20000 in
theorem gX5_candidates_J6_bitCount_0f7a4 : GoodIn wsX5_candidates (va_wsS RX5 105 yJ6_bitCount_0f7a4 wsJ6_bitCount_0f7a4) := goodIn_app (goodIn_of _ (by decide +kernel)) ggX5_candidates_J6_bitCount_0f7a4
theorem dX5_candidates_0 : decode cX5_candidates 0 = .ok (.aload_n 0, 1) := by decide +kernel
theorem dX5_candidates_1 : decode cX5_candidates 1 = .ok (.getfield 19, 3) := by decide +kernel
theorem dX5_candidates_4 : decode cX5_candidates 4 = .ok (.getfield 141, 3) := by decide +kernel
theorem dX5_candidates_7 : decode cX5_candidates 7 = .ok (.invokestatic 105, 3) := by decide +kernel
theorem dX5_candidates_10 : decode cX5_candidates 10 = .ok (.ireturn, 1) := by decide +kernel
set_option maxRecDepth 20000 in
theorem ggX5_candidate_X5_memberAt : GoodIn wsX5_candidate wsX5_memberAt := goodIn_r _ [5] (by decide +kernel) (by decide +kernel)
set_option maxRecDepth 20000 in
theorem gX5_candidate_X5_memberAt : GoodIn wsX5_candidate (va_wsS RX5 144 yX5_memberAt wsX5_memberAt) := goodIn_app (goodIn_of _ (by decide +kernel)) ggX5_candidate_X5_memberAt
theorem dX5_candidate_0 : decode cX5_candidate 0 = .ok (.aload_n 0, 1) := by decide +kernel
theorem dX5_candidate_1 : decode cX5_candidate 1 = .ok (.getfield 19, 3) := by decide +kernel
theorem dX5_candidate_4 : decode cX5_candidate 4 = .ok (.getfield 141, 3) := by decide +kernel
theorem dX5_candidate_7 : decode cX5_candidate 7 = .ok (.iload_n 1, 1) := by decide +kernel
theorem dX5_candidate_8 : decode cX5_candidate 8 = .ok (.invokestatic 144, 3) := by decide +kernel
theorem dX5_candidate_11 : decode cX5_candidate 11 = .ok (.ireturn, 1) := by decide +kernel
theorem dX5_guesses_0 : decode cX5_guesses 0 = .ok (.aload_n 0, 1) := by decide +kernel
theorem dX5_guesses_1 : decode cX5_guesses 1 = .ok (.getfield 19, 3) := by decide +kernel
theorem dX5_guesses_4 : decode cX5_guesses 4 = .ok (.getfield 155, 3) := by decide +kernel
theorem dX5_guesses_7 : decode cX5_guesses 7 = .ok (.ireturn, 1) := by decide +kernel
set_option maxRecDepth 20000 in
theorem ggX5_guessAt_X2_guessedAt : GoodIn wsX5_guessAt wsX2_guessedAt := goodIn_r _ [6, 7, 8, 14, 15, 16, 17, 18, 19, 20, 21, 22, 23, 24, 25] (by decide +kernel) (by decide +kernel)
set_option maxRecDepth 20000 in
theorem gX5_guessAt_X2_guessedAt : GoodIn wsX5_guessAt (wsV RX5 158 RX2 yX2_guessedAt wsX2_guessedAt) := goodIn_app (goodIn_of _ (by decide +kernel)) ggX5_guessAt_X2_guessedAt
theorem dX5_guessAt_0 : decode cX5_guessAt 0 = .ok (.aload_n 0, 1) := by decide +kernel
theorem dX5_guessAt_1 : decode cX5_guessAt 1 = .ok (.getfield 19, 3) := by decide +kernel
theorem dX5_guessAt_4 : decode cX5_guessAt 4 = .ok (.iload_n 1, 1) := by decide +kernel
theorem dX5_guessAt_5 : decode cX5_guessAt 5 = .ok (.invokevirtual 158, 3) := by decide +kernel
theorem dX5_guessAt_8 : decode cX5_guessAt 8 = .ok (.ireturn, 1) := by decide +kernel
set_option maxRecDepth 20000 in
theorem ggX5_families_X5_faultOfAsking : GoodIn wsX5_families wsX5_faultOfAsking := goodIn_r _ [7, 2, 8, 9, 6, 10, 11, 12, 13, 14, 15, 16, 17, 18, 19, 20, 21, 22, 23, 74, 75, 76, 77, 78, 84, 85, 86, 87, 88, 89, 90, 91, 92, 93, 94, 95] (by decide +kernel) (by decide +kernel)
set_option maxRecDepth 20000 in
theorem gX5_families_X5_faultOfAsking : GoodIn wsX5_families (wsV RX5 161 RX5 yX5_faultOfAsking wsX5_faultOfAsking) := goodIn_app (goodIn_of _ (by decide +kernel)) ggX5_families_X5_faultOfAsking
set_option maxRecDepth 20000 in
theorem ggX5_families_X0_make : GoodIn wsX5_families wsX0_make := goodIn_r _ [28, 29, 30, 22, 6, 23, 8, 9, 10, 31, 32, 33, 14, 34, 35, 36, 37, 38, 39, 40, 41, 42, 43, 44, 45, 46, 47, 48, 49, 50, 51, 52, 53, 54, 55, 56, 57, 58, 59, 60, 61, 27, 62, 63, 64, 65, 66, 67, 68, 69, 70, 71, 72, 73, 79, 80, 81, 82, 83, 84, 85, 86, 87, 88, 89, 90, 91, 92, 93, 94, 95] (by decide +kernel) (by decide +kernel)
set_option maxRecDepth 20000 in
theorem gX5_families_X0_make : GoodIn wsX5_families (wsV RX5 164 RX0 yX0_make wsX0_make) := goodIn_app (goodIn_of _ (by decide +kernel)) ggX5_families_X0_make
theorem dX5_families_0 : decode cX5_families 0 = .ok (.aload_n 0, 1) := by decide +kernel
theorem dX5_families_1 : decode cX5_families 1 = .ok (.iload_n 1, 1) := by decide +kernel
theorem dX5_families_2 : decode cX5_families 2 = .ok (.invokevirtual 161, 3) := by decide +kernel
theorem dX5_families_5 : decode cX5_families 5 = .ok (.istore_n 2, 1) := by decide +kernel
theorem dX5_families_6 : decode cX5_families 6 = .ok (.iload_n 2, 1) := by decide +kernel
theorem dX5_families_7 : decode cX5_families 7 = .ok (.ifCond .eq 5, 3) := by decide +kernel
theorem dX5_families_10 : decode cX5_families 10 = .ok (.iload_n 2, 1) := by decide +kernel
theorem dX5_families_11 : decode cX5_families 11 = .ok (.ireturn, 1) := by decide +kernel
theorem dX5_families_12 : decode cX5_families 12 = .ok (.aload_n 0, 1) := by decide +kernel
theorem dX5_families_13 : decode cX5_families 13 = .ok (.getfield 36, 3) := by decide +kernel
theorem dX5_families_16 : decode cX5_families 16 = .ok (.aload_n 0, 1) := by decide +kernel
theorem dX5_families_17 : decode cX5_families 17 = .ok (.getfield 19, 3) := by decide +kernel
theorem dX5_families_20 : decode cX5_families 20 = .ok (.iload_n 1, 1) := by decide +kernel
theorem dX5_families_21 : decode cX5_families 21 = .ok (.invokevirtual 164, 3) := by decide +kernel
theorem dX5_families_24 : decode cX5_families 24 = .ok (.aload_n 0, 1) := by decide +kernel
theorem dX5_families_25 : decode cX5_families 25 = .ok (.getfield 36, 3) := by decide +kernel
theorem dX5_families_28 : decode cX5_families 28 = .ok (.getfield 168, 3) := by decide +kernel
theorem dX5_families_31 : decode cX5_families 31 = .ok (.ireturn, 1) := by decide +kernel
set_option maxRecDepth 20000 in
theorem ggX5_family_X5_faultOfAsking : GoodIn wsX5_family wsX5_faultOfAsking := goodIn_r _ [7, 2, 8, 9, 6, 10, 11, 12, 13, 14, 15, 16, 17, 18, 19, 20, 21, 22, 23, 112, 113, 114, 115, 116, 117, 118, 119, 120, 121, 122, 123, 124, 125, 126, 127, 128] (by decide +kernel) (by decide +kernel)
set_option maxRecDepth 20000 in
theorem gX5_family_X5_faultOfAsking : GoodIn wsX5_family (wsV RX5 161 RX5 yX5_faultOfAsking wsX5_faultOfAsking) := goodIn_app (goodIn_of _ (by decide +kernel)) ggX5_family_X5_faultOfAsking
set_option maxRecDepth 20000 in
theorem ggX5_family_X0_make : GoodIn wsX5_family wsX0_make := goodIn_r _ [28, 29, 30, 22, 6, 23, 8, 9, 10, 31, 32, 33, 14, 34, 35, 36, 37, 38, 39, 40, 41, 42, 43, 44, 45, 46, 47, 48, 49, 50, 51, 52, 53, 54, 55, 56, 57, 58, 59, 60, 61, 27, 62, 63, 64, 65, 66, 67, 68, 69, 70, 71, 72, 73, 129, 130, 131, 132, 133, 117, 118, 119, 120, 121, 122, 123, 124, 125, 126, 127, 128] (by decide +kernel) (by decide +kernel)
set_option maxRecDepth 20000 in
theorem gX5_family_X0_make : GoodIn wsX5_family (wsV RX5 164 RX0 yX0_make wsX0_make) := goodIn_app (goodIn_of _ (by decide +kernel)) ggX5_family_X0_make
set_option maxRecDepth 20000 in
theorem ggX5_family_X0_ranked : GoodIn wsX5_family wsX0_ranked := goodIn_r _ [77, 29, 78, 79, 80, 27, 81, 82, 83, 84, 85, 30, 66, 67, 68, 69, 63, 70, 71, 72, 73, 86, 87, 88, 89, 65, 90, 91, 92, 93, 94, 95, 96, 97, 98, 99, 100, 64, 129, 130, 131, 132, 133] (by decide +kernel) (by decide +kernel)
set_option maxRecDepth 20000 in
theorem gX5_family_X0_ranked : GoodIn wsX5_family (wsV RX5 171 RX0 yX0_ranked wsX0_ranked) := goodIn_app (goodIn_of _ (by decide +kernel)) ggX5_family_X0_ranked
set_option maxRecDepth 20000 in
theorem ggX5_family_X0_has : GoodIn wsX5_family wsX0_has := goodIn_r _ [73, 29, 129, 130, 131, 132, 133] (by decide +kernel) (by decide +kernel)
set_option maxRecDepth 20000 in
theorem gX5_family_X0_has : GoodIn wsX5_family (wsV RX5 174 RX0 yX0_has wsX0_has) := goodIn_app (goodIn_of _ (by decide +kernel)) ggX5_family_X0_has
set_option maxRecDepth 20000 in
theorem ggX5_family_X0_sizeOf : GoodIn wsX5_family wsX0_sizeOf := goodIn_r _ [100, 64, 70, 71, 72, 27, 73, 29, 90, 91, 92, 93, 94, 95, 96, 129, 130, 131, 132, 133] (by decide +kernel) (by decide +kernel)
set_option maxRecDepth 20000 in
theorem gX5_family_X0_sizeOf : GoodIn wsX5_family (wsV RX5 177 RX0 yX0_sizeOf wsX0_sizeOf) := goodIn_app (goodIn_of _ (by decide +kernel)) ggX5_family_X0_sizeOf
set_option maxRecDepth 20000 in
theorem ggX5_family_X0_maskOf : GoodIn wsX5_family wsX0_maskOf := goodIn_r _ [69, 63, 70, 71, 72, 27, 73, 29, 129, 130, 131, 132, 133] (by decide +kernel) (by decide +kernel)
set_option maxRecDepth 20000 in
theorem gX5_family_X0_maskOf : GoodIn wsX5_family (wsV RX5 180 RX0 yX0_maskOf wsX0_maskOf) := goodIn_app (goodIn_of _ (by decide +kernel)) ggX5_family_X0_maskOf
set_option maxRecDepth 20000 in
theorem ggX5_family_X0_membersOf : GoodIn wsX5_family wsX0_membersOf := goodIn_r _ [107, 64, 70, 71, 72, 27, 73, 29, 129, 130, 131, 132, 133] (by decide +kernel) (by decide +kernel)
set_option maxRecDepth 20000 in
theorem gX5_family_X0_membersOf : GoodIn wsX5_family (wsV RX5 183 RX0 yX0_membersOf wsX0_membersOf) := goodIn_app (goodIn_of _ (by decide +kernel)) ggX5_family_X0_membersOf
set_option maxRecDepth 20000 in
theorem ggX5_family_X5_memberAt : GoodIn wsX5_family wsX5_memberAt := goodIn_r _ [110] (by decide +kernel) (by decide +kernel)
set_option maxRecDepth 20000 in
theorem gX5_family_X5_memberAt : GoodIn wsX5_family (va_wsS RX5 144 yX5_memberAt wsX5_memberAt) := goodIn_app (goodIn_of _ (by decide +kernel)) ggX5_family_X5_memberAt
set_option maxRecDepth 20000 in
theorem ggX5_family_X0_freshnessOf : GoodIn wsX5_family wsX0_freshnessOf := goodIn_r _ [89, 65, 70, 71, 72, 27, 73, 29, 90, 91, 92, 93, 94, 95, 96, 129, 130, 131, 132, 133] (by decide +kernel) (by decide +kernel)
set_option maxRecDepth 20000 in
theorem gX5_family_X0_freshnessOf : GoodIn wsX5_family (wsV RX5 186 RX0 yX0_freshnessOf wsX0_freshnessOf) := goodIn_app (goodIn_of _ (by decide +kernel)) ggX5_family_X0_freshnessOf
theorem dX5_family_0 : decode cX5_family 0 = .ok (.aload_n 0, 1) := by decide +kernel
theorem dX5_family_1 : decode cX5_family 1 = .ok (.iload_n 1, 1) := by decide +kernel
theorem dX5_family_2 : decode cX5_family 2 = .ok (.invokevirtual 161, 3) := by decide +kernel
theorem dX5_family_5 : decode cX5_family 5 = .ok (.istore 4, 2) := by decide +kernel
theorem dX5_family_7 : decode cX5_family 7 = .ok (.iload 4, 2) := by decide +kernel
theorem dX5_family_9 : decode cX5_family 9 = .ok (.ifCond .eq 6, 3) := by decide +kernel
theorem dX5_family_12 : decode cX5_family 12 = .ok (.iload 4, 2) := by decide +kernel
theorem dX5_family_14 : decode cX5_family 14 = .ok (.ireturn, 1) := by decide +kernel
theorem dX5_family_15 : decode cX5_family 15 = .ok (.aload_n 0, 1) := by decide +kernel
theorem dX5_family_16 : decode cX5_family 16 = .ok (.getfield 36, 3) := by decide +kernel
theorem dX5_family_19 : decode cX5_family 19 = .ok (.aload_n 0, 1) := by decide +kernel
theorem dX5_family_20 : decode cX5_family 20 = .ok (.getfield 19, 3) := by decide +kernel
theorem dX5_family_23 : decode cX5_family 23 = .ok (.iload_n 1, 1) := by decide +kernel
theorem dX5_family_24 : decode cX5_family 24 = .ok (.invokevirtual 164, 3) := by decide +kernel
theorem dX5_family_27 : decode cX5_family 27 = .ok (.aload_n 0, 1) := by decide +kernel
theorem dX5_family_28 : decode cX5_family 28 = .ok (.getfield 36, 3) := by decide +kernel
theorem dX5_family_31 : decode cX5_family 31 = .ok (.iload_n 2, 1) := by decide +kernel
theorem dX5_family_32 : decode cX5_family 32 = .ok (.invokevirtual 171, 3) := by decide +kernel
theorem dX5_family_35 : decode cX5_family 35 = .ok (.istore 5, 2) := by decide +kernel
theorem dX5_family_37 : decode cX5_family 37 = .ok (.aload_n 0, 1) := by decide +kernel
theorem dX5_family_38 : decode cX5_family 38 = .ok (.getfield 36, 3) := by decide +kernel
theorem dX5_family_41 : decode cX5_family 41 = .ok (.iload 5, 2) := by decide +kernel
theorem dX5_family_43 : decode cX5_family 43 = .ok (.invokevirtual 174, 3) := by decide +kernel
theorem dX5_family_46 : decode cX5_family 46 = .ok (.ifCond .ne 5, 3) := by decide +kernel
theorem dX5_family_49 : decode cX5_family 49 = .ok (.iconst (-1), 1) := by decide +kernel
theorem dX5_family_50 : decode cX5_family 50 = .ok (.ireturn, 1) := by decide +kernel
theorem dX5_family_51 : decode cX5_family 51 = .ok (.iload_n 3, 1) := by decide +kernel
theorem dX5_family_52 : decode cX5_family 52 = .ok (.tableswitch 76 0 3 #[32, 42, 52, 66], 32) := by decide +kernel
theorem dX5_family_84 : decode cX5_family 84 = .ok (.aload_n 0, 1) := by decide +kernel
theorem dX5_family_85 : decode cX5_family 85 = .ok (.getfield 36, 3) := by decide +kernel
theorem dX5_family_88 : decode cX5_family 88 = .ok (.iload 5, 2) := by decide +kernel
theorem dX5_family_90 : decode cX5_family 90 = .ok (.invokevirtual 177, 3) := by decide +kernel
theorem dX5_family_93 : decode cX5_family 93 = .ok (.ireturn, 1) := by decide +kernel
theorem dX5_family_94 : decode cX5_family 94 = .ok (.aload_n 0, 1) := by decide +kernel
theorem dX5_family_95 : decode cX5_family 95 = .ok (.getfield 36, 3) := by decide +kernel
theorem dX5_family_98 : decode cX5_family 98 = .ok (.iload 5, 2) := by decide +kernel
theorem dX5_family_100 : decode cX5_family 100 = .ok (.invokevirtual 180, 3) := by decide +kernel
theorem dX5_family_103 : decode cX5_family 103 = .ok (.ireturn, 1) := by decide +kernel
theorem dX5_family_104 : decode cX5_family 104 = .ok (.aload_n 0, 1) := by decide +kernel
theorem dX5_family_105 : decode cX5_family 105 = .ok (.getfield 36, 3) := by decide +kernel
theorem dX5_family_108 : decode cX5_family 108 = .ok (.iload 5, 2) := by decide +kernel
theorem dX5_family_110 : decode cX5_family 110 = .ok (.invokevirtual 183, 3) := by decide +kernel
theorem dX5_family_113 : decode cX5_family 113 = .ok (.iconst 0, 1) := by decide +kernel
theorem dX5_family_114 : decode cX5_family 114 = .ok (.invokestatic 144, 3) := by decide +kernel
theorem dX5_family_117 : decode cX5_family 117 = .ok (.ireturn, 1) := by decide +kernel
theorem dX5_family_118 : decode cX5_family 118 = .ok (.aload_n 0, 1) := by decide +kernel
theorem dX5_family_119 : decode cX5_family 119 = .ok (.getfield 36, 3) := by decide +kernel
theorem dX5_family_122 : decode cX5_family 122 = .ok (.iload 5, 2) := by decide +kernel
theorem dX5_family_124 : decode cX5_family 124 = .ok (.invokevirtual 186, 3) := by decide +kernel
theorem dX5_family_127 : decode cX5_family 127 = .ok (.ireturn, 1) := by decide +kernel
theorem dX5_family_128 : decode cX5_family 128 = .ok (.bipush (-2), 2) := by decide +kernel
theorem dX5_family_130 : decode cX5_family 130 = .ok (.ireturn, 1) := by decide +kernel
set_option maxRecDepth 20000 in
theorem ggX5_spread_X5_faultOfAsking : GoodIn wsX5_spread wsX5_faultOfAsking := goodIn_r _ [7, 2, 8, 9, 6, 10, 11, 12, 13, 14, 15, 16, 17, 18, 19, 20, 21, 22, 23, 94, 95, 96, 97, 98, 99, 100, 101, 102, 103, 104, 105, 106, 107, 108, 109, 110] (by decide +kernel) (by decide +kernel)
set_option maxRecDepth 20000 in
theorem gX5_spread_X5_faultOfAsking : GoodIn wsX5_spread (wsV RX5 161 RX5 yX5_faultOfAsking wsX5_faultOfAsking) := goodIn_app (goodIn_of _ (by decide +kernel)) ggX5_spread_X5_faultOfAsking
set_option maxRecDepth 20000 in
theorem ggX5_spread_X0_make : GoodIn wsX5_spread wsX0_make := goodIn_r _ [28, 29, 30, 22, 6, 23, 8, 9, 10, 31, 32, 33, 14, 34, 35, 36, 37, 38, 39, 40, 41, 42, 43, 44, 45, 46, 47, 48, 49, 50, 51, 52, 53, 54, 55, 56, 57, 58, 59, 60, 61, 27, 62, 63, 64, 65, 66, 67, 68, 69, 70, 71, 72, 73, 111, 112, 113, 114, 115, 99, 100, 101, 102, 103, 104, 105, 106, 107, 108, 109, 110] (by decide +kernel) (by decide +kernel)
set_option maxRecDepth 20000 in
theorem gX5_spread_X0_make : GoodIn wsX5_spread (wsV RX5 164 RX0 yX0_make wsX0_make) := goodIn_app (goodIn_of _ (by decide +kernel)) ggX5_spread_X0_make
set_option maxRecDepth 20000 in
theorem ggX5_spread_X5_candidates : GoodIn wsX5_spread wsX5_candidates := goodIn_r _ [77, 2, 78, 79, 80, 81, 82, 83, 84, 94, 95, 96, 97, 98, 99, 100, 101, 102, 103, 104, 105, 106, 107, 108, 109, 110] (by decide +kernel) (by decide +kernel)
set_option maxRecDepth 20000 in
theorem gX5_spread_X5_candidates : GoodIn wsX5_spread (wsV RX5 189 RX5 yX5_candidates wsX5_candidates) := goodIn_app (goodIn_of _ (by decide +kernel)) ggX5_spread_X5_candidates
set_option maxRecDepth 20000 in
theorem ggX5_spread_X0_squares : GoodIn wsX5_spread wsX0_squares := goodIn_r _ [88, 29, 89, 90, 91, 27, 92, 64, 70, 71, 72, 73, 93, 79, 80, 81, 82, 83, 84, 111, 112, 113, 114, 115] (by decide +kernel) (by decide +kernel)
set_option maxRecDepth 20000 in
theorem gX5_spread_X0_squares : GoodIn wsX5_spread (wsV RX5 191 RX0 yX0_squares wsX0_squares) := goodIn_app (goodIn_of _ (by decide +kernel)) ggX5_spread_X0_squares
theorem dX5_spread_0 : decode cX5_spread 0 = .ok (.aload_n 0, 1) := by decide +kernel
theorem dX5_spread_1 : decode cX5_spread 1 = .ok (.iload_n 1, 1) := by decide +kernel
theorem dX5_spread_2 : decode cX5_spread 2 = .ok (.invokevirtual 161, 3) := by decide +kernel
theorem dX5_spread_5 : decode cX5_spread 5 = .ok (.istore_n 2, 1) := by decide +kernel
theorem dX5_spread_6 : decode cX5_spread 6 = .ok (.iload_n 2, 1) := by decide +kernel
theorem dX5_spread_7 : decode cX5_spread 7 = .ok (.ifCond .eq 5, 3) := by decide +kernel
theorem dX5_spread_10 : decode cX5_spread 10 = .ok (.iload_n 2, 1) := by decide +kernel
theorem dX5_spread_11 : decode cX5_spread 11 = .ok (.ireturn, 1) := by decide +kernel
theorem dX5_spread_12 : decode cX5_spread 12 = .ok (.aload_n 0, 1) := by decide +kernel
theorem dX5_spread_13 : decode cX5_spread 13 = .ok (.getfield 36, 3) := by decide +kernel
theorem dX5_spread_16 : decode cX5_spread 16 = .ok (.aload_n 0, 1) := by decide +kernel
theorem dX5_spread_17 : decode cX5_spread 17 = .ok (.getfield 19, 3) := by decide +kernel
theorem dX5_spread_20 : decode cX5_spread 20 = .ok (.iload_n 1, 1) := by decide +kernel
theorem dX5_spread_21 : decode cX5_spread 21 = .ok (.invokevirtual 164, 3) := by decide +kernel
theorem dX5_spread_24 : decode cX5_spread 24 = .ok (.aload_n 0, 1) := by decide +kernel
theorem dX5_spread_25 : decode cX5_spread 25 = .ok (.invokevirtual 189, 3) := by decide +kernel
theorem dX5_spread_28 : decode cX5_spread 28 = .ok (.istore_n 3, 1) := by decide +kernel
theorem dX5_spread_29 : decode cX5_spread 29 = .ok (.iload_n 3, 1) := by decide +kernel
theorem dX5_spread_30 : decode cX5_spread 30 = .ok (.ifCond .ne 7, 3) := by decide +kernel
theorem dX5_spread_33 : decode cX5_spread 33 = .ok (.iconst 0, 1) := by decide +kernel
theorem dX5_spread_34 : decode cX5_spread 34 = .ok (.goto 16, 3) := by decide +kernel
theorem dX5_spread_37 : decode cX5_spread 37 = .ok (.sipush 1000, 3) := by decide +kernel
theorem dX5_spread_40 : decode cX5_spread 40 = .ok (.aload_n 0, 1) := by decide +kernel
theorem dX5_spread_41 : decode cX5_spread 41 = .ok (.getfield 36, 3) := by decide +kernel
theorem dX5_spread_44 : decode cX5_spread 44 = .ok (.invokevirtual 191, 3) := by decide +kernel
theorem dX5_spread_47 : decode cX5_spread 47 = .ok (.imul, 1) := by decide +kernel
theorem dX5_spread_48 : decode cX5_spread 48 = .ok (.iload_n 3, 1) := by decide +kernel
theorem dX5_spread_49 : decode cX5_spread 49 = .ok (.idiv, 1) := by decide +kernel
theorem dX5_spread_50 : decode cX5_spread 50 = .ok (.ireturn, 1) := by decide +kernel
set_option maxRecDepth 20000 in
theorem ggX5_having_X5_isLetter : GoodIn wsX5_having wsX5_isLetter := goodIn_r _ [5] (by decide +kernel) (by decide +kernel)
set_option maxRecDepth 20000 in
theorem gX5_having_X5_isLetter : GoodIn wsX5_having (va_wsS RX5 110 yX5_isLetter wsX5_isLetter) := goodIn_app (goodIn_of _ (by decide +kernel)) ggX5_having_X5_isLetter
set_option maxRecDepth 20000 in
theorem ggX5_having_X2_candidatesWith : GoodIn wsX5_having wsX2_candidatesWith := goodIn_r _ [10, 11, 12, 13, 14, 9, 15, 16, 17, 18, 19, 20, 21, 22, 23, 24, 25, 26, 27, 28, 29, 30, 31, 32, 33, 34, 35, 41, 42, 43, 44, 45, 46, 47, 48, 49, 50, 51, 52] (by decide +kernel) (by decide +kernel)
set_option maxRecDepth 20000 in
theorem gX5_having_X2_candidatesWith : GoodIn wsX5_having (wsV RX5 194 RX2 yX2_candidatesWith wsX2_candidatesWith) := goodIn_app (goodIn_of _ (by decide +kernel)) ggX5_having_X2_candidatesWith
theorem dX5_having_0 : decode cX5_having 0 = .ok (.iload_n 1, 1) := by decide +kernel
theorem dX5_having_1 : decode cX5_having 1 = .ok (.invokestatic 110, 3) := by decide +kernel
theorem dX5_having_4 : decode cX5_having 4 = .ok (.ifCond .ne 6, 3) := by decide +kernel
theorem dX5_having_7 : decode cX5_having 7 = .ok (.bipush (-2), 2) := by decide +kernel
theorem dX5_having_9 : decode cX5_having 9 = .ok (.ireturn, 1) := by decide +kernel
theorem dX5_having_10 : decode cX5_having 10 = .ok (.aload_n 0, 1) := by decide +kernel
theorem dX5_having_11 : decode cX5_having 11 = .ok (.getfield 19, 3) := by decide +kernel
theorem dX5_having_14 : decode cX5_having 14 = .ok (.getfield 135, 3) := by decide +kernel
theorem dX5_having_17 : decode cX5_having 17 = .ok (.ifCond .ne 6, 3) := by decide +kernel
theorem dX5_having_20 : decode cX5_having 20 = .ok (.bipush (-3), 2) := by decide +kernel
theorem dX5_having_22 : decode cX5_having 22 = .ok (.ireturn, 1) := by decide +kernel
theorem dX5_having_23 : decode cX5_having 23 = .ok (.aload_n 0, 1) := by decide +kernel
theorem dX5_having_24 : decode cX5_having 24 = .ok (.getfield 19, 3) := by decide +kernel
theorem dX5_having_27 : decode cX5_having 27 = .ok (.iload_n 1, 1) := by decide +kernel
theorem dX5_having_28 : decode cX5_having 28 = .ok (.invokevirtual 194, 3) := by decide +kernel
theorem dX5_having_31 : decode cX5_having 31 = .ok (.ireturn, 1) := by decide +kernel
set_option maxRecDepth 20000 in
theorem ggX5_sureLetters_X2_isRunning : GoodIn wsX5_sureLetters wsX2_isRunning := goodIn_r _ [6, 7, 49, 50, 51, 52, 53, 54, 55, 56, 57, 58, 59, 60] (by decide +kernel) (by decide +kernel)
set_option maxRecDepth 20000 in
theorem gX5_sureLetters_X2_isRunning : GoodIn wsX5_sureLetters (wsV RX5 55 RX2 yX2_isRunning wsX2_isRunning) := goodIn_app (goodIn_of _ (by decide +kernel)) ggX5_sureLetters_X2_isRunning
set_option maxRecDepth 20000 in
theorem ggX5_sureLetters_X2_lettersOfAll : GoodIn wsX5_sureLetters wsX2_lettersOfAll := goodIn_r _ [11, 12, 13, 14, 15, 16, 5, 17, 18, 19, 20, 21, 22, 23, 24, 25, 26, 27, 28, 29, 30, 31, 32, 33, 34, 35, 36, 37, 38, 39, 40, 41, 42, 43, 49, 50, 51, 52, 53, 54, 55, 56, 57, 58, 59, 60] (by decide +kernel) (by decide +kernel)
set_option maxRecDepth 20000 in
theorem gX5_sureLetters_X2_lettersOfAll : GoodIn wsX5_sureLetters (wsV RX5 197 RX2 yX2_lettersOfAll wsX2_lettersOfAll) := goodIn_app (goodIn_of _ (by decide +kernel)) ggX5_sureLetters_X2_lettersOfAll
theorem dX5_sureLetters_0 : decode cX5_sureLetters 0 = .ok (.aload_n 0, 1) := by decide +kernel
theorem dX5_sureLetters_1 : decode cX5_sureLetters 1 = .ok (.getfield 19, 3) := by decide +kernel
theorem dX5_sureLetters_4 : decode cX5_sureLetters 4 = .ok (.invokevirtual 55, 3) := by decide +kernel
theorem dX5_sureLetters_7 : decode cX5_sureLetters 7 = .ok (.ifCond .eq 23, 3) := by decide +kernel
theorem dX5_sureLetters_10 : decode cX5_sureLetters 10 = .ok (.aload_n 0, 1) := by decide +kernel
theorem dX5_sureLetters_11 : decode cX5_sureLetters 11 = .ok (.getfield 19, 3) := by decide +kernel
theorem dX5_sureLetters_14 : decode cX5_sureLetters 14 = .ok (.invokevirtual 197, 3) := by decide +kernel
theorem dX5_sureLetters_17 : decode cX5_sureLetters 17 = .ok (.aload_n 0, 1) := by decide +kernel
theorem dX5_sureLetters_18 : decode cX5_sureLetters 18 = .ok (.getfield 19, 3) := by decide +kernel
theorem dX5_sureLetters_21 : decode cX5_sureLetters 21 = .ok (.getfield 200, 3) := by decide +kernel
theorem dX5_sureLetters_24 : decode cX5_sureLetters 24 = .ok (.iconst (-1), 1) := by decide +kernel
theorem dX5_sureLetters_25 : decode cX5_sureLetters 25 = .ok (.ixor, 1) := by decide +kernel
theorem dX5_sureLetters_26 : decode cX5_sureLetters 26 = .ok (.iand, 1) := by decide +kernel
theorem dX5_sureLetters_27 : decode cX5_sureLetters 27 = .ok (.goto 5, 3) := by decide +kernel
theorem dX5_sureLetters_30 : decode cX5_sureLetters 30 = .ok (.bipush (-3), 2) := by decide +kernel
theorem dX5_sureLetters_32 : decode cX5_sureLetters 32 = .ok (.ireturn, 1) := by decide +kernel
set_option maxRecDepth 20000 in
theorem ggX5_bestGuess_X2_isRunning : GoodIn wsX5_bestGuess wsX2_isRunning := goodIn_r _ [6, 7, 105, 106, 107, 108, 109, 110, 111, 112, 113, 114, 115, 116] (by decide +kernel) (by decide +kernel)
set_option maxRecDepth 20000 in
theorem gX5_bestGuess_X2_isRunning : GoodIn wsX5_bestGuess (wsV RX5 55 RX2 yX2_isRunning wsX2_isRunning) := goodIn_app (goodIn_of _ (by decide +kernel)) ggX5_bestGuess_X2_isRunning
set_option maxRecDepth 20000 in
theorem ggX5_bestGuess_X5_bestLetter : GoodIn wsX5_bestGuess wsX5_bestLetter := goodIn_r _ [12, 13, 14, 15, 16, 5, 17, 18, 19, 11, 20, 21, 22, 23, 24, 25, 26, 27, 28, 29, 30, 31, 32, 33, 34, 35, 36, 37, 38, 39, 40, 41, 42, 43, 44, 45, 46, 47, 48, 49, 50, 51, 52, 53, 54, 55, 56, 57, 58, 59, 60, 61, 62, 63, 64, 65, 66, 67, 68, 69, 70, 71, 72, 73, 74, 75, 76, 77, 78, 79, 80, 81, 82, 83, 84, 85, 86, 87, 88, 89, 90, 91, 92, 93, 94, 95, 96, 97, 98, 99, 100, 101, 102, 103, 104, 105, 106, 107, 108, 109, 110, 111, 112, 113, 114, 115, 116, 117, 118, 119, 120, 121] (by decide +kernel) (by decide +kernel)
set_option maxRecDepth 20000 in
theorem gX5_bestGuess_X5_bestLetter : GoodIn wsX5_bestGuess (wsV RX5 203 RX5 yX5_bestLetter wsX5_bestLetter) := goodIn_app (goodIn_of _ (by decide +kernel)) ggX5_bestGuess_X5_bestLetter
theorem dX5_bestGuess_0 : decode cX5_bestGuess 0 = .ok (.aload_n 0, 1) := by decide +kernel
theorem dX5_bestGuess_1 : decode cX5_bestGuess 1 = .ok (.getfield 19, 3) := by decide +kernel
theorem dX5_bestGuess_4 : decode cX5_bestGuess 4 = .ok (.invokevirtual 55, 3) := by decide +kernel
theorem dX5_bestGuess_7 : decode cX5_bestGuess 7 = .ok (.ifCond .eq 14, 3) := by decide +kernel
theorem dX5_bestGuess_10 : decode cX5_bestGuess 10 = .ok (.aload_n 0, 1) := by decide +kernel
theorem dX5_bestGuess_11 : decode cX5_bestGuess 11 = .ok (.aload_n 0, 1) := by decide +kernel
theorem dX5_bestGuess_12 : decode cX5_bestGuess 12 = .ok (.getfield 19, 3) := by decide +kernel
theorem dX5_bestGuess_15 : decode cX5_bestGuess 15 = .ok (.invokevirtual 203, 3) := by decide +kernel
theorem dX5_bestGuess_18 : decode cX5_bestGuess 18 = .ok (.goto 5, 3) := by decide +kernel
theorem dX5_bestGuess_21 : decode cX5_bestGuess 21 = .ok (.bipush (-3), 2) := by decide +kernel
theorem dX5_bestGuess_23 : decode cX5_bestGuess 23 = .ok (.ireturn, 1) := by decide +kernel
set_option maxRecDepth 20000 in
theorem ggX5_missesAhead_X2_isRunning : GoodIn wsX5_missesAhead wsX2_isRunning := goodIn_r _ [7, 8, 163, 164, 165, 166, 167, 168, 169, 170, 171, 172, 173, 174] (by decide +kernel) (by decide +kernel)
set_option maxRecDepth 20000 in
theorem gX5_missesAhead_X2_isRunning : GoodIn wsX5_missesAhead (wsV RX5 55 RX2 yX2_isRunning wsX2_isRunning) := goodIn_app (goodIn_of _ (by decide +kernel)) ggX5_missesAhead_X2_isRunning
set_option maxRecDepth 20000 in
theorem ggX5_missesAhead_X2_copyFrom : GoodIn wsX5_missesAhead wsX2_copyFrom := goodIn_r _ [12, 13, 14, 15, 16, 17, 18, 19, 20, 21, 8, 22, 23, 24, 25, 26, 27, 163, 164, 165, 166, 167, 168, 169, 170, 171, 172, 173, 174] (by decide +kernel) (by decide +kernel)
set_option maxRecDepth 20000 in
theorem gX5_missesAhead_X2_copyFrom : GoodIn wsX5_missesAhead (wsV RX5 59 RX2 yX2_copyFrom wsX2_copyFrom) := goodIn_app (goodIn_of _ (by decide +kernel)) ggX5_missesAhead_X2_copyFrom
set_option maxRecDepth 20000 in
theorem ggX5_missesAhead_X5_bestLetter : GoodIn wsX5_missesAhead wsX5_bestLetter := goodIn_r _ [32, 33, 34, 35, 36, 6, 37, 25, 38, 31, 39, 40, 41, 42, 43, 44, 45, 46, 47, 48, 49, 50, 51, 52, 53, 24, 54, 55, 56, 57, 20, 58, 59, 60, 61, 13, 62, 63, 64, 65, 66, 67, 68, 69, 70, 71, 72, 73, 74, 75, 76, 77, 78, 79, 80, 81, 82, 83, 84, 85, 86, 87, 88, 89, 90, 91, 92, 93, 94, 95, 96, 97, 98, 99, 100, 101, 102, 103, 104, 105, 106, 107, 108, 109, 110, 111, 112, 113, 114, 115, 158, 159, 160, 161, 162, 163, 164, 165, 166, 167, 168, 169, 170, 171, 172, 173, 174, 175, 176, 177, 178, 179] (by decide +kernel) (by decide +kernel)
set_option maxRecDepth 20000 in
theorem gX5_missesAhead_X5_bestLetter : GoodIn wsX5_missesAhead (wsV RX5 203 RX5 yX5_bestLetter wsX5_bestLetter) := goodIn_app (goodIn_of _ (by decide +kernel)) ggX5_missesAhead_X5_bestLetter
set_option maxRecDepth 20000 in
theorem ggX5_missesAhead_X5_play : GoodIn wsX5_missesAhead wsX5_play := goodIn_r _ [119, 33, 43, 44, 45, 46, 47, 48, 49, 38, 31, 39, 40, 41, 42, 50, 51, 52, 6, 53, 24, 54, 55, 56, 57, 20, 58, 59, 60, 61, 13, 62, 63, 64, 65, 66, 67, 68, 69, 70, 71, 72, 73, 74, 75, 76, 77, 78, 79, 80, 81, 82, 83, 84, 85, 86, 87, 88, 89, 90, 91, 92, 93, 94, 95, 96, 97, 98, 99, 100, 101, 102, 103, 104, 105, 106, 107, 108, 109, 110, 111, 112, 114, 120, 121, 122, 123, 124, 125, 126, 127, 22, 27, 128, 129, 130, 131, 26, 18, 25, 132, 133, 134, 135, 19, 136, 137, 138, 139, 23, 140, 141, 142, 143, 8, 144, 145, 146, 147, 148, 149, 150, 151, 152, 153, 115, 158, 159, 160, 161, 162, 175, 176, 177, 178, 179, 163, 164, 165, 166, 167, 168, 169, 170, 171, 172, 173, 174] (by decide +kernel) (by decide +kernel)
set_option maxRecDepth 20000 in
theorem gX5_missesAhead_X5_play : GoodIn wsX5_missesAhead (wsV RX5 116 RX5 yX5_play wsX5_play) := goodIn_app (goodIn_of _ (by decide +kernel)) ggX5_missesAhead_X5_play
set_option maxRecDepth 20000 in
theorem ggX5_missesAhead_X2_totalOf : GoodIn wsX5_missesAhead wsX2_totalOf := goodIn_r _ [157, 19, 163, 164, 165, 166, 167, 168, 169, 170, 171, 172, 173, 174] (by decide +kernel) (by decide +kernel)
set_option maxRecDepth 20000 in
theorem gX5_missesAhead_X2_totalOf : GoodIn wsX5_missesAhead (wsV RX5 207 RX2 yX2_totalOf wsX2_totalOf) := goodIn_app (goodIn_of _ (by decide +kernel)) ggX5_missesAhead_X2_totalOf
theorem dX5_missesAhead_0 : decode cX5_missesAhead 0 = .ok (.aload_n 0, 1) := by decide +kernel
theorem dX5_missesAhead_1 : decode cX5_missesAhead 1 = .ok (.getfield 19, 3) := by decide +kernel
theorem dX5_missesAhead_4 : decode cX5_missesAhead 4 = .ok (.invokevirtual 55, 3) := by decide +kernel
theorem dX5_missesAhead_7 : decode cX5_missesAhead 7 = .ok (.ifCond .ne 6, 3) := by decide +kernel
theorem dX5_missesAhead_10 : decode cX5_missesAhead 10 = .ok (.bipush (-3), 2) := by decide +kernel
theorem dX5_missesAhead_12 : decode cX5_missesAhead 12 = .ok (.ireturn, 1) := by decide +kernel
theorem dX5_missesAhead_13 : decode cX5_missesAhead 13 = .ok (.aload_n 0, 1) := by decide +kernel
theorem dX5_missesAhead_14 : decode cX5_missesAhead 14 = .ok (.getfield 30, 3) := by decide +kernel
theorem dX5_missesAhead_17 : decode cX5_missesAhead 17 = .ok (.aload_n 0, 1) := by decide +kernel
theorem dX5_missesAhead_18 : decode cX5_missesAhead 18 = .ok (.getfield 19, 3) := by decide +kernel
theorem dX5_missesAhead_21 : decode cX5_missesAhead 21 = .ok (.invokevirtual 59, 3) := by decide +kernel
theorem dX5_missesAhead_24 : decode cX5_missesAhead 24 = .ok (.iconst 0, 1) := by decide +kernel
theorem dX5_missesAhead_25 : decode cX5_missesAhead 25 = .ok (.istore_n 1, 1) := by decide +kernel
theorem dX5_missesAhead_26 : decode cX5_missesAhead 26 = .ok (.iload_n 1, 1) := by decide +kernel
theorem dX5_missesAhead_27 : decode cX5_missesAhead 27 = .ok (.bipush 26, 2) := by decide +kernel
theorem dX5_missesAhead_29 : decode cX5_missesAhead 29 = .ok (.if_icmp .ge 44, 3) := by decide +kernel
theorem dX5_missesAhead_32 : decode cX5_missesAhead 32 = .ok (.aload_n 0, 1) := by decide +kernel
theorem dX5_missesAhead_33 : decode cX5_missesAhead 33 = .ok (.getfield 30, 3) := by decide +kernel
theorem dX5_missesAhead_36 : decode cX5_missesAhead 36 = .ok (.invokevirtual 55, 3) := by decide +kernel
theorem dX5_missesAhead_39 : decode cX5_missesAhead 39 = .ok (.ifCond .eq 34, 3) := by decide +kernel
theorem dX5_missesAhead_42 : decode cX5_missesAhead 42 = .ok (.aload_n 0, 1) := by decide +kernel
theorem dX5_missesAhead_43 : decode cX5_missesAhead 43 = .ok (.aload_n 0, 1) := by decide +kernel
theorem dX5_missesAhead_44 : decode cX5_missesAhead 44 = .ok (.getfield 30, 3) := by decide +kernel
theorem dX5_missesAhead_47 : decode cX5_missesAhead 47 = .ok (.invokevirtual 203, 3) := by decide +kernel
theorem dX5_missesAhead_50 : decode cX5_missesAhead 50 = .ok (.istore_n 2, 1) := by decide +kernel
theorem dX5_missesAhead_51 : decode cX5_missesAhead 51 = .ok (.iload_n 2, 1) := by decide +kernel
theorem dX5_missesAhead_52 : decode cX5_missesAhead 52 = .ok (.bipush (-6), 2) := by decide +kernel
theorem dX5_missesAhead_54 : decode cX5_missesAhead 54 = .ok (.if_icmp .eq 13, 3) := by decide +kernel
theorem dX5_missesAhead_57 : decode cX5_missesAhead 57 = .ok (.aload_n 0, 1) := by decide +kernel
theorem dX5_missesAhead_58 : decode cX5_missesAhead 58 = .ok (.aload_n 0, 1) := by decide +kernel
theorem dX5_missesAhead_59 : decode cX5_missesAhead 59 = .ok (.getfield 30, 3) := by decide +kernel
theorem dX5_missesAhead_62 : decode cX5_missesAhead 62 = .ok (.iload_n 2, 1) := by decide +kernel
theorem dX5_missesAhead_63 : decode cX5_missesAhead 63 = .ok (.invokevirtual 116, 3) := by decide +kernel
theorem dX5_missesAhead_66 : decode cX5_missesAhead 66 = .ok (.pop, 1) := by decide +kernel
theorem dX5_missesAhead_67 : decode cX5_missesAhead 67 = .ok (.iinc 1 1, 3) := by decide +kernel
theorem dX5_missesAhead_70 : decode cX5_missesAhead 70 = .ok (.goto (-44), 3) := by decide +kernel
theorem dX5_missesAhead_73 : decode cX5_missesAhead 73 = .ok (.aload_n 0, 1) := by decide +kernel
theorem dX5_missesAhead_74 : decode cX5_missesAhead 74 = .ok (.getfield 30, 3) := by decide +kernel
theorem dX5_missesAhead_77 : decode cX5_missesAhead 77 = .ok (.iconst 5, 1) := by decide +kernel
theorem dX5_missesAhead_78 : decode cX5_missesAhead 78 = .ok (.invokevirtual 207, 3) := by decide +kernel
theorem dX5_missesAhead_81 : decode cX5_missesAhead 81 = .ok (.aload_n 0, 1) := by decide +kernel
theorem dX5_missesAhead_82 : decode cX5_missesAhead 82 = .ok (.getfield 19, 3) := by decide +kernel
theorem dX5_missesAhead_85 : decode cX5_missesAhead 85 = .ok (.iconst 5, 1) := by decide +kernel
theorem dX5_missesAhead_86 : decode cX5_missesAhead 86 = .ok (.invokevirtual 207, 3) := by decide +kernel
theorem dX5_missesAhead_89 : decode cX5_missesAhead 89 = .ok (.isub, 1) := by decide +kernel
theorem dX5_missesAhead_90 : decode cX5_missesAhead 90 = .ok (.ireturn, 1) := by decide +kernel
set_option maxRecDepth 20000 in
theorem ggX5_total_X2_totalOf : GoodIn wsX5_total wsX2_totalOf := goodIn_r _ [6, 7, 13, 14, 15, 16, 17, 18, 19, 20, 21, 22, 23, 24] (by decide +kernel) (by decide +kernel)
set_option maxRecDepth 20000 in
theorem gX5_total_X2_totalOf : GoodIn wsX5_total (wsV RX5 207 RX2 yX2_totalOf wsX2_totalOf) := goodIn_app (goodIn_of _ (by decide +kernel)) ggX5_total_X2_totalOf
theorem dX5_total_0 : decode cX5_total 0 = .ok (.iload_n 1, 1) := by decide +kernel
theorem dX5_total_1 : decode cX5_total 1 = .ok (.ifCond .lt 9, 3) := by decide +kernel
theorem dX5_total_4 : decode cX5_total 4 = .ok (.iload_n 1, 1) := by decide +kernel
theorem dX5_total_5 : decode cX5_total 5 = .ok (.bipush 7, 2) := by decide +kernel
theorem dX5_total_7 : decode cX5_total 7 = .ok (.if_icmp .lt 8, 3) := by decide +kernel
theorem dX5_total_10 : decode cX5_total 10 = .ok (.bipush (-2), 2) := by decide +kernel
theorem dX5_total_12 : decode cX5_total 12 = .ok (.goto 11, 3) := by decide +kernel
theorem dX5_total_15 : decode cX5_total 15 = .ok (.aload_n 0, 1) := by decide +kernel
theorem dX5_total_16 : decode cX5_total 16 = .ok (.getfield 19, 3) := by decide +kernel
theorem dX5_total_19 : decode cX5_total 19 = .ok (.iload_n 1, 1) := by decide +kernel
theorem dX5_total_20 : decode cX5_total 20 = .ok (.invokevirtual 207, 3) := by decide +kernel
theorem dX5_total_23 : decode cX5_total 23 = .ok (.ireturn, 1) := by decide +kernel
set_option maxRecDepth 20000 in
theorem ggX5_undo_X1_popInto : GoodIn wsX5_undo wsX1_popInto := goodIn_r _ [7, 8, 9, 10, 11, 12, 13, 14, 15, 16, 17, 18, 19, 20, 21, 22, 23, 24, 25, 26, 27, 28, 29, 30, 31, 37, 38, 39, 40, 41, 42, 43, 44, 45, 46, 47, 48, 49, 50, 51] (by decide +kernel) (by decide +kernel)
set_option maxRecDepth 20000 in
theorem gX5_undo_X1_popInto : GoodIn wsX5_undo (wsV RX5 210 RX1 yX1_popInto wsX1_popInto) := goodIn_app (goodIn_of _ (by decide +kernel)) ggX5_undo_X1_popInto
theorem dX5_undo_0 : decode cX5_undo 0 = .ok (.aload_n 0, 1) := by decide +kernel
theorem dX5_undo_1 : decode cX5_undo 1 = .ok (.getfield 26, 3) := by decide +kernel
theorem dX5_undo_4 : decode cX5_undo 4 = .ok (.aload_n 0, 1) := by decide +kernel
theorem dX5_undo_5 : decode cX5_undo 5 = .ok (.getfield 19, 3) := by decide +kernel
theorem dX5_undo_8 : decode cX5_undo 8 = .ok (.invokevirtual 210, 3) := by decide +kernel
theorem dX5_undo_11 : decode cX5_undo 11 = .ok (.ifCond .eq 13, 3) := by decide +kernel
theorem dX5_undo_14 : decode cX5_undo 14 = .ok (.aload_n 0, 1) := by decide +kernel
theorem dX5_undo_15 : decode cX5_undo 15 = .ok (.getfield 26, 3) := by decide +kernel
theorem dX5_undo_18 : decode cX5_undo 18 = .ok (.getfield 213, 3) := by decide +kernel
theorem dX5_undo_21 : decode cX5_undo 21 = .ok (.goto 5, 3) := by decide +kernel
theorem dX5_undo_24 : decode cX5_undo 24 = .ok (.bipush (-3), 2) := by decide +kernel
theorem dX5_undo_26 : decode cX5_undo 26 = .ok (.ireturn, 1) := by decide +kernel
set_option maxRecDepth 20000 in
theorem ggX5_digest_X5_hashOfList : GoodIn wsX5_digest wsX5_hashOfList := goodIn_r _ [7, 2, 8, 9, 10, 6, 11, 12, 13, 14, 15, 16, 17, 18, 19, 20, 21, 22, 23, 24, 25, 26, 27, 28, 29, 30, 31, 32, 33, 34, 35, 36, 37, 38, 39, 40, 41, 188, 189, 190, 191, 192, 193, 194, 195, 196, 197, 198, 199, 200, 201, 202, 203, 204] (by decide +kernel) (by decide +kernel)
set_option maxRecDepth 20000 in
theorem gX5_digest_X5_hashOfList : GoodIn wsX5_digest (wsV RX5 216 RX5 yX5_hashOfList wsX5_hashOfList) := goodIn_app (goodIn_of _ (by decide +kernel)) ggX5_digest_X5_hashOfList
set_option maxRecDepth 20000 in
theorem ggX5_digest_X5_hashOfGame : GoodIn wsX5_digest wsX5_hashOfGame := goodIn_r _ [45, 2, 46, 47, 48, 6, 49, 12, 13, 14, 15, 50, 51, 52, 53, 54, 55, 56, 57, 41, 32, 29, 33, 34, 35, 36, 58, 59, 60, 61, 62, 63, 64, 65, 66, 67, 68, 69, 70, 71, 72, 73, 74, 75, 76, 77, 78, 79, 80, 81, 82, 83, 84, 85, 86, 19, 87, 88, 89, 188, 189, 190, 191, 192, 193, 194, 195, 196, 197, 198, 199, 200, 201, 202, 203, 204] (by decide +kernel) (by decide +kernel)
set_option maxRecDepth 20000 in
theorem gX5_digest_X5_hashOfGame : GoodIn wsX5_digest (wsV RX5 220 RX5 yX5_hashOfGame wsX5_hashOfGame) := goodIn_app (goodIn_of _ (by decide +kernel)) ggX5_digest_X5_hashOfGame
set_option maxRecDepth 20000 in
theorem ggX5_digest_X2_isRunning : GoodIn wsX5_digest wsX2_isRunning := goodIn_r _ [93, 94, 193, 194, 195, 196, 197, 198, 199, 200, 201, 202, 203, 204] (by decide +kernel) (by decide +kernel)
set_option maxRecDepth 20000 in
theorem gX5_digest_X2_isRunning : GoodIn wsX5_digest (wsV RX5 55 RX2 yX2_isRunning wsX2_isRunning) := goodIn_app (goodIn_of _ (by decide +kernel)) ggX5_digest_X2_isRunning
set_option maxRecDepth 20000 in
theorem ggX5_digest_X5_sureLetters : GoodIn wsX5_digest wsX5_sureLetters := goodIn_r _ [98, 2, 90, 91, 92, 19, 93, 94, 99, 100, 101, 102, 103, 26, 104, 105, 106, 107, 108, 22, 23, 24, 25, 109, 17, 18, 20, 21, 110, 111, 29, 112, 31, 32, 33, 34, 35, 36, 113, 6, 114, 115, 116, 117, 188, 189, 190, 191, 192, 193, 194, 195, 196, 197, 198, 199, 200, 201, 202, 203, 204] (by decide +kernel) (by decide +kernel)
set_option maxRecDepth 20000 in
theorem gX5_digest_X5_sureLetters : GoodIn wsX5_digest (wsV RX5 223 RX5 yX5_sureLetters wsX5_sureLetters) := goodIn_app (goodIn_of _ (by decide +kernel)) ggX5_digest_X5_sureLetters
set_option maxRecDepth 20000 in
theorem ggX5_digest_X5_mixed : GoodIn wsX5_digest wsX5_mixed := goodIn_r _ [14, 15] (by decide +kernel) (by decide +kernel)
set_option maxRecDepth 20000 in
theorem gX5_digest_X5_mixed : GoodIn wsX5_digest (va_wsS RX5 226 yX5_mixed wsX5_mixed) := goodIn_app (goodIn_of _ (by decide +kernel)) ggX5_digest_X5_mixed
set_option maxRecDepth 20000 in
theorem ggX5_digest_X5_bestGuess : GoodIn wsX5_digest wsX5_bestGuess := goodIn_r _ [121, 2, 90, 91, 92, 19, 93, 94, 122, 123, 124, 6, 125, 126, 127, 128, 129, 130, 131, 113, 114, 115, 116, 117, 132, 133, 134, 135, 136, 137, 138, 139, 105, 106, 107, 108, 22, 23, 24, 25, 26, 140, 17, 18, 20, 21, 141, 142, 29, 143, 31, 32, 33, 34, 35, 36, 144, 111, 112, 145, 146, 147, 148, 149, 150, 151, 152, 153, 154, 155, 156, 157, 158, 159, 160, 161, 162, 163, 164, 165, 166, 167, 168, 169, 170, 171, 172, 63, 64, 65, 66, 67, 68, 173, 174, 175, 176, 177, 178, 62, 188, 189, 190, 191, 192, 193, 194, 195, 196, 197, 198, 199, 200, 201, 202, 203, 204, 205, 206, 207, 208, 209] (by decide +kernel) (by decide +kernel)
set_option maxRecDepth 20000 in
theorem gX5_digest_X5_bestGuess : GoodIn wsX5_digest (wsV RX5 230 RX5 yX5_bestGuess wsX5_bestGuess) := goodIn_app (goodIn_of _ (by decide +kernel)) ggX5_digest_X5_bestGuess
set_option maxRecDepth 20000 in
theorem ggX5_digest_X5_total : GoodIn wsX5_digest wsX5_total := goodIn_r _ [182, 2, 183, 184, 185, 19, 186, 187, 188, 189, 190, 191, 192, 193, 194, 195, 196, 197, 198, 199, 200, 201, 202, 203, 204] (by decide +kernel) (by decide +kernel)
set_option maxRecDepth 20000 in
theorem gX5_digest_X5_total : GoodIn wsX5_digest (wsV RX5 233 RX5 yX5_total wsX5_total) := goodIn_app (goodIn_of _ (by decide +kernel)) ggX5_digest_X5_total
theorem dX5_digest_0 : decode cX5_digest 0 = .ok (.aload_n 0, 1) := by decide +kernel
theorem dX5_digest_1 : decode cX5_digest 1 = .ok (.aload_n 0, 1) := by decide +kernel
theorem dX5_digest_2 : decode cX5_digest 2 = .ok (.ldc2_w 214, 3) := by decide +kernel
theorem dX5_digest_5 : decode cX5_digest 5 = .ok (.invokevirtual 216, 3) := by decide +kernel
theorem dX5_digest_8 : decode cX5_digest 8 = .ok (.invokevirtual 220, 3) := by decide +kernel
theorem dX5_digest_11 : decode cX5_digest 11 = .ok (.lstore_n 1, 1) := by decide +kernel
theorem dX5_digest_12 : decode cX5_digest 12 = .ok (.aload_n 0, 1) := by decide +kernel
theorem dX5_digest_13 : decode cX5_digest 13 = .ok (.getfield 19, 3) := by decide +kernel
theorem dX5_digest_16 : decode cX5_digest 16 = .ok (.invokevirtual 55, 3) := by decide +kernel
theorem dX5_digest_19 : decode cX5_digest 19 = .ok (.ifCond .eq 21, 3) := by decide +kernel
theorem dX5_digest_22 : decode cX5_digest 22 = .ok (.lload_n 1, 1) := by decide +kernel
theorem dX5_digest_23 : decode cX5_digest 23 = .ok (.aload_n 0, 1) := by decide +kernel
theorem dX5_digest_24 : decode cX5_digest 24 = .ok (.invokevirtual 223, 3) := by decide +kernel
theorem dX5_digest_27 : decode cX5_digest 27 = .ok (.i2l, 1) := by decide +kernel
theorem dX5_digest_28 : decode cX5_digest 28 = .ok (.invokestatic 226, 3) := by decide +kernel
theorem dX5_digest_31 : decode cX5_digest 31 = .ok (.aload_n 0, 1) := by decide +kernel
theorem dX5_digest_32 : decode cX5_digest 32 = .ok (.invokevirtual 230, 3) := by decide +kernel
theorem dX5_digest_35 : decode cX5_digest 35 = .ok (.i2l, 1) := by decide +kernel
theorem dX5_digest_36 : decode cX5_digest 36 = .ok (.invokestatic 226, 3) := by decide +kernel
theorem dX5_digest_39 : decode cX5_digest 39 = .ok (.lstore_n 1, 1) := by decide +kernel
theorem dX5_digest_40 : decode cX5_digest 40 = .ok (.iconst 0, 1) := by decide +kernel
theorem dX5_digest_41 : decode cX5_digest 41 = .ok (.istore_n 3, 1) := by decide +kernel
theorem dX5_digest_42 : decode cX5_digest 42 = .ok (.iload_n 3, 1) := by decide +kernel
theorem dX5_digest_43 : decode cX5_digest 43 = .ok (.bipush 7, 2) := by decide +kernel
theorem dX5_digest_45 : decode cX5_digest 45 = .ok (.if_icmp .ge 20, 3) := by decide +kernel
theorem dX5_digest_48 : decode cX5_digest 48 = .ok (.lload_n 1, 1) := by decide +kernel
theorem dX5_digest_49 : decode cX5_digest 49 = .ok (.aload_n 0, 1) := by decide +kernel
theorem dX5_digest_50 : decode cX5_digest 50 = .ok (.iload_n 3, 1) := by decide +kernel
theorem dX5_digest_51 : decode cX5_digest 51 = .ok (.invokevirtual 233, 3) := by decide +kernel
theorem dX5_digest_54 : decode cX5_digest 54 = .ok (.i2l, 1) := by decide +kernel
theorem dX5_digest_55 : decode cX5_digest 55 = .ok (.invokestatic 226, 3) := by decide +kernel
theorem dX5_digest_58 : decode cX5_digest 58 = .ok (.lstore_n 1, 1) := by decide +kernel
theorem dX5_digest_59 : decode cX5_digest 59 = .ok (.iinc 3 1, 3) := by decide +kernel
theorem dX5_digest_62 : decode cX5_digest 62 = .ok (.goto (-20), 3) := by decide +kernel
theorem dX5_digest_65 : decode cX5_digest 65 = .ok (.lload_n 1, 1) := by decide +kernel
theorem dX5_digest_66 : decode cX5_digest 66 = .ok (.lreturn, 1) := by decide +kernel
set_option maxRecDepth 20000 in
theorem ggX5_hashOfList_X5_words : GoodIn wsX5_hashOfList wsX5_words := goodIn_r _ [6, 1, 37, 38, 39, 40, 41, 42, 43, 44, 45, 46, 47, 48, 49, 50, 51, 52, 53] (by decide +kernel) (by decide +kernel)
set_option maxRecDepth 20000 in
theorem gX5_hashOfList_X5_words : GoodIn wsX5_hashOfList (wsV RX5 236 RX5 yX5_words wsX5_words) := goodIn_app (goodIn_of _ (by decide +kernel)) ggX5_hashOfList_X5_words
set_option maxRecDepth 20000 in
theorem ggX5_hashOfList_X5_mixed : GoodIn wsX5_hashOfList wsX5_mixed := goodIn_r _ [9, 10] (by decide +kernel) (by decide +kernel)
set_option maxRecDepth 20000 in
theorem gX5_hashOfList_X5_mixed : GoodIn wsX5_hashOfList (va_wsS RX5 226 yX5_mixed wsX5_mixed) := goodIn_app (goodIn_of _ (by decide +kernel)) ggX5_hashOfList_X5_mixed
set_option maxRecDepth 20000 in
theorem ggX5_hashOfList_X2_wordAt : GoodIn wsX5_hashOfList wsX2_wordAt := goodIn_r _ [15, 16, 17, 18, 19, 14, 20, 21, 42, 43, 44, 45, 46, 47, 48, 49, 50, 51, 52, 53] (by decide +kernel) (by decide +kernel)
set_option maxRecDepth 20000 in
theorem gX5_hashOfList_X2_wordAt : GoodIn wsX5_hashOfList (wsV RX5 84 RX2 yX2_wordAt wsX2_wordAt) := goodIn_app (goodIn_of _ (by decide +kernel)) ggX5_hashOfList_X2_wordAt
set_option maxRecDepth 20000 in
theorem ggX5_hashOfList_X4_lengthOf : GoodIn wsX5_hashOfList wsX4_lengthOf := goodIn_r _ [25, 26, 27, 24, 28, 29, 30, 31] (by decide +kernel) (by decide +kernel)
set_option maxRecDepth 20000 in
theorem gX5_hashOfList_X4_lengthOf : GoodIn wsX5_hashOfList (va_wsS RX5 126 yX4_lengthOf wsX4_lengthOf) := goodIn_app (goodIn_of _ (by decide +kernel)) ggX5_hashOfList_X4_lengthOf
set_option maxRecDepth 20000 in
theorem ggX5_hashOfList_X5_letterOf : GoodIn wsX5_hashOfList wsX5_letterOf := goodIn_r _ [35, 1, 11, 12, 13, 14, 15, 16, 17, 18, 19, 20, 21, 36, 27, 24, 28, 29, 30, 31, 37, 38, 39, 40, 41, 42, 43, 44, 45, 46, 47, 48, 49, 50, 51, 52, 53] (by decide +kernel) (by decide +kernel)
set_option maxRecDepth 20000 in
theorem gX5_hashOfList_X5_letterOf : GoodIn wsX5_hashOfList (wsV RX5 239 RX5 yX5_letterOf wsX5_letterOf) := goodIn_app (goodIn_of _ (by decide +kernel)) ggX5_hashOfList_X5_letterOf
theorem dX5_hashOfList_0 : decode cX5_hashOfList 0 = .ok (.lload_n 1, 1) := by decide +kernel
theorem dX5_hashOfList_1 : decode cX5_hashOfList 1 = .ok (.aload_n 0, 1) := by decide +kernel
theorem dX5_hashOfList_2 : decode cX5_hashOfList 2 = .ok (.invokevirtual 236, 3) := by decide +kernel
theorem dX5_hashOfList_5 : decode cX5_hashOfList 5 = .ok (.i2l, 1) := by decide +kernel
theorem dX5_hashOfList_6 : decode cX5_hashOfList 6 = .ok (.invokestatic 226, 3) := by decide +kernel
theorem dX5_hashOfList_9 : decode cX5_hashOfList 9 = .ok (.lstore_n 3, 1) := by decide +kernel
theorem dX5_hashOfList_10 : decode cX5_hashOfList 10 = .ok (.iconst 0, 1) := by decide +kernel
theorem dX5_hashOfList_11 : decode cX5_hashOfList 11 = .ok (.istore 5, 2) := by decide +kernel
theorem dX5_hashOfList_13 : decode cX5_hashOfList 13 = .ok (.iload 5, 2) := by decide +kernel
theorem dX5_hashOfList_15 : decode cX5_hashOfList 15 = .ok (.aload_n 0, 1) := by decide +kernel
theorem dX5_hashOfList_16 : decode cX5_hashOfList 16 = .ok (.getfield 19, 3) := by decide +kernel
theorem dX5_hashOfList_19 : decode cX5_hashOfList 19 = .ok (.getfield 67, 3) := by decide +kernel
theorem dX5_hashOfList_22 : decode cX5_hashOfList 22 = .ok (.if_icmp .ge 61, 3) := by decide +kernel
theorem dX5_hashOfList_25 : decode cX5_hashOfList 25 = .ok (.aload_n 0, 1) := by decide +kernel
theorem dX5_hashOfList_26 : decode cX5_hashOfList 26 = .ok (.getfield 19, 3) := by decide +kernel
theorem dX5_hashOfList_29 : decode cX5_hashOfList 29 = .ok (.iload 5, 2) := by decide +kernel
theorem dX5_hashOfList_31 : decode cX5_hashOfList 31 = .ok (.invokevirtual 84, 3) := by decide +kernel
theorem dX5_hashOfList_34 : decode cX5_hashOfList 34 = .ok (.invokestatic 126, 3) := by decide +kernel
theorem dX5_hashOfList_37 : decode cX5_hashOfList 37 = .ok (.istore 6, 2) := by decide +kernel
theorem dX5_hashOfList_39 : decode cX5_hashOfList 39 = .ok (.lload_n 3, 1) := by decide +kernel
theorem dX5_hashOfList_40 : decode cX5_hashOfList 40 = .ok (.iload 6, 2) := by decide +kernel
theorem dX5_hashOfList_42 : decode cX5_hashOfList 42 = .ok (.i2l, 1) := by decide +kernel
theorem dX5_hashOfList_43 : decode cX5_hashOfList 43 = .ok (.invokestatic 226, 3) := by decide +kernel
theorem dX5_hashOfList_46 : decode cX5_hashOfList 46 = .ok (.lstore_n 3, 1) := by decide +kernel
theorem dX5_hashOfList_47 : decode cX5_hashOfList 47 = .ok (.iconst 0, 1) := by decide +kernel
theorem dX5_hashOfList_48 : decode cX5_hashOfList 48 = .ok (.istore 7, 2) := by decide +kernel
theorem dX5_hashOfList_50 : decode cX5_hashOfList 50 = .ok (.iload 7, 2) := by decide +kernel
theorem dX5_hashOfList_52 : decode cX5_hashOfList 52 = .ok (.iload 6, 2) := by decide +kernel
theorem dX5_hashOfList_54 : decode cX5_hashOfList 54 = .ok (.if_icmp .ge 23, 3) := by decide +kernel
theorem dX5_hashOfList_57 : decode cX5_hashOfList 57 = .ok (.lload_n 3, 1) := by decide +kernel
theorem dX5_hashOfList_58 : decode cX5_hashOfList 58 = .ok (.aload_n 0, 1) := by decide +kernel
theorem dX5_hashOfList_59 : decode cX5_hashOfList 59 = .ok (.iload 5, 2) := by decide +kernel
theorem dX5_hashOfList_61 : decode cX5_hashOfList 61 = .ok (.iload 7, 2) := by decide +kernel
theorem dX5_hashOfList_63 : decode cX5_hashOfList 63 = .ok (.invokevirtual 239, 3) := by decide +kernel
theorem dX5_hashOfList_66 : decode cX5_hashOfList 66 = .ok (.i2l, 1) := by decide +kernel
theorem dX5_hashOfList_67 : decode cX5_hashOfList 67 = .ok (.invokestatic 226, 3) := by decide +kernel
theorem dX5_hashOfList_70 : decode cX5_hashOfList 70 = .ok (.lstore_n 3, 1) := by decide +kernel
theorem dX5_hashOfList_71 : decode cX5_hashOfList 71 = .ok (.iinc 7 1, 3) := by decide +kernel
theorem dX5_hashOfList_74 : decode cX5_hashOfList 74 = .ok (.goto (-24), 3) := by decide +kernel
theorem dX5_hashOfList_77 : decode cX5_hashOfList 77 = .ok (.iinc 5 1, 3) := by decide +kernel
theorem dX5_hashOfList_80 : decode cX5_hashOfList 80 = .ok (.goto (-67), 3) := by decide +kernel
theorem dX5_hashOfList_83 : decode cX5_hashOfList 83 = .ok (.lload_n 3, 1) := by decide +kernel
theorem dX5_hashOfList_84 : decode cX5_hashOfList 84 = .ok (.lreturn, 1) := by decide +kernel
set_option maxRecDepth 20000 in
theorem ggX5_hashOfGame_X5_status : GoodIn wsX5_hashOfGame wsX5_status := goodIn_r _ [6, 1, 59, 60, 61, 62, 63, 64, 65, 66, 67, 68, 69, 70, 71, 72, 73, 74, 75] (by decide +kernel) (by decide +kernel)
set_option maxRecDepth 20000 in
theorem gX5_hashOfGame_X5_status : GoodIn wsX5_hashOfGame (wsV RX5 242 RX5 yX5_status wsX5_status) := goodIn_app (goodIn_of _ (by decide +kernel)) ggX5_hashOfGame_X5_status
set_option maxRecDepth 20000 in
theorem ggX5_hashOfGame_X5_mixed : GoodIn wsX5_hashOfGame wsX5_mixed := goodIn_r _ [9, 10] (by decide +kernel) (by decide +kernel)
set_option maxRecDepth 20000 in
theorem gX5_hashOfGame_X5_mixed : GoodIn wsX5_hashOfGame (va_wsS RX5 226 yX5_mixed wsX5_mixed) := goodIn_app (goodIn_of _ (by decide +kernel)) ggX5_hashOfGame_X5_mixed
set_option maxRecDepth 20000 in
theorem ggX5_hashOfGame_X5_lives : GoodIn wsX5_hashOfGame wsX5_lives := goodIn_r _ [14, 1, 59, 60, 61, 62, 63, 64, 65, 66, 67, 68, 69, 70, 71, 72, 73, 74, 75] (by decide +kernel) (by decide +kernel)
set_option maxRecDepth 20000 in
theorem gX5_hashOfGame_X5_lives : GoodIn wsX5_hashOfGame (wsV RX5 244 RX5 yX5_lives wsX5_lives) := goodIn_app (goodIn_of _ (by decide +kernel)) ggX5_hashOfGame_X5_lives
set_option maxRecDepth 20000 in
theorem ggX5_hashOfGame_X5_shown : GoodIn wsX5_hashOfGame wsX5_shown := goodIn_r _ [18, 1, 19, 20, 21, 22, 23, 24, 25, 59, 60, 61, 62, 63, 64, 65, 66, 67, 68, 69, 70, 71, 72, 73, 74, 75] (by decide +kernel) (by decide +kernel)
set_option maxRecDepth 20000 in
theorem gX5_hashOfGame_X5_shown : GoodIn wsX5_hashOfGame (wsV RX5 246 RX5 yX5_shown wsX5_shown) := goodIn_app (goodIn_of _ (by decide +kernel)) ggX5_hashOfGame_X5_shown
set_option maxRecDepth 20000 in
theorem ggX5_hashOfGame_X5_candidates : GoodIn wsX5_hashOfGame wsX5_candidates := goodIn_r _ [29, 1, 30, 31, 32, 33, 34, 35, 36, 59, 60, 61, 62, 63, 64, 65, 66, 67, 68, 69, 70, 71, 72, 73, 74, 75] (by decide +kernel) (by decide +kernel)
set_option maxRecDepth 20000 in
theorem gX5_hashOfGame_X5_candidates : GoodIn wsX5_hashOfGame (wsV RX5 189 RX5 yX5_candidates wsX5_candidates) := goodIn_app (goodIn_of _ (by decide +kernel)) ggX5_hashOfGame_X5_candidates
set_option maxRecDepth 20000 in
theorem ggX5_hashOfGame_X5_candidate : GoodIn wsX5_hashOfGame wsX5_candidate := goodIn_r _ [40, 1, 41, 42, 5, 43, 59, 60, 61, 62, 63, 64, 65, 66, 67, 68, 69, 70, 71, 72, 73, 74, 75] (by decide +kernel) (by decide +kernel)
set_option maxRecDepth 20000 in
theorem gX5_hashOfGame_X5_candidate : GoodIn wsX5_hashOfGame (wsV RX5 249 RX5 yX5_candidate wsX5_candidate) := goodIn_app (goodIn_of _ (by decide +kernel)) ggX5_hashOfGame_X5_candidate
set_option maxRecDepth 20000 in
theorem ggX5_hashOfGame_X5_guesses : GoodIn wsX5_hashOfGame wsX5_guesses := goodIn_r _ [47, 1, 59, 60, 61, 62, 63, 64, 65, 66, 67, 68, 69, 70, 71, 72, 73, 74, 75] (by decide +kernel) (by decide +kernel)
set_option maxRecDepth 20000 in
theorem gX5_hashOfGame_X5_guesses : GoodIn wsX5_hashOfGame (wsV RX5 252 RX5 yX5_guesses wsX5_guesses) := goodIn_app (goodIn_of _ (by decide +kernel)) ggX5_hashOfGame_X5_guesses
set_option maxRecDepth 20000 in
theorem ggX5_hashOfGame_X5_guessAt : GoodIn wsX5_hashOfGame wsX5_guessAt := goodIn_r _ [51, 1, 52, 53, 54, 55, 56, 57, 58, 59, 60, 61, 62, 63, 64, 65, 66, 67, 68, 69, 70, 71, 72, 73, 74, 75] (by decide +kernel) (by decide +kernel)
set_option maxRecDepth 20000 in
theorem gX5_hashOfGame_X5_guessAt : GoodIn wsX5_hashOfGame (wsV RX5 255 RX5 yX5_guessAt wsX5_guessAt) := goodIn_app (goodIn_of _ (by decide +kernel)) ggX5_hashOfGame_X5_guessAt
theorem dX5_hashOfGame_0 : decode cX5_hashOfGame 0 = .ok (.lload_n 1, 1) := by decide +kernel
theorem dX5_hashOfGame_1 : decode cX5_hashOfGame 1 = .ok (.aload_n 0, 1) := by decide +kernel
theorem dX5_hashOfGame_2 : decode cX5_hashOfGame 2 = .ok (.invokevirtual 242, 3) := by decide +kernel
theorem dX5_hashOfGame_5 : decode cX5_hashOfGame 5 = .ok (.i2l, 1) := by decide +kernel
theorem dX5_hashOfGame_6 : decode cX5_hashOfGame 6 = .ok (.invokestatic 226, 3) := by decide +kernel
theorem dX5_hashOfGame_9 : decode cX5_hashOfGame 9 = .ok (.aload_n 0, 1) := by decide +kernel
theorem dX5_hashOfGame_10 : decode cX5_hashOfGame 10 = .ok (.invokevirtual 244, 3) := by decide +kernel
theorem dX5_hashOfGame_13 : decode cX5_hashOfGame 13 = .ok (.i2l, 1) := by decide +kernel
theorem dX5_hashOfGame_14 : decode cX5_hashOfGame 14 = .ok (.invokestatic 226, 3) := by decide +kernel
theorem dX5_hashOfGame_17 : decode cX5_hashOfGame 17 = .ok (.lstore_n 3, 1) := by decide +kernel
theorem dX5_hashOfGame_18 : decode cX5_hashOfGame 18 = .ok (.iconst 0, 1) := by decide +kernel
theorem dX5_hashOfGame_19 : decode cX5_hashOfGame 19 = .ok (.istore 5, 2) := by decide +kernel
theorem dX5_hashOfGame_21 : decode cX5_hashOfGame 21 = .ok (.iload 5, 2) := by decide +kernel
theorem dX5_hashOfGame_23 : decode cX5_hashOfGame 23 = .ok (.aload_n 0, 1) := by decide +kernel
theorem dX5_hashOfGame_24 : decode cX5_hashOfGame 24 = .ok (.getfield 19, 3) := by decide +kernel
theorem dX5_hashOfGame_27 : decode cX5_hashOfGame 27 = .ok (.getfield 130, 3) := by decide +kernel
theorem dX5_hashOfGame_30 : decode cX5_hashOfGame 30 = .ok (.if_icmp .ge 21, 3) := by decide +kernel
theorem dX5_hashOfGame_33 : decode cX5_hashOfGame 33 = .ok (.lload_n 3, 1) := by decide +kernel
theorem dX5_hashOfGame_34 : decode cX5_hashOfGame 34 = .ok (.aload_n 0, 1) := by decide +kernel
theorem dX5_hashOfGame_35 : decode cX5_hashOfGame 35 = .ok (.iload 5, 2) := by decide +kernel
theorem dX5_hashOfGame_37 : decode cX5_hashOfGame 37 = .ok (.invokevirtual 246, 3) := by decide +kernel
theorem dX5_hashOfGame_40 : decode cX5_hashOfGame 40 = .ok (.i2l, 1) := by decide +kernel
theorem dX5_hashOfGame_41 : decode cX5_hashOfGame 41 = .ok (.invokestatic 226, 3) := by decide +kernel
theorem dX5_hashOfGame_44 : decode cX5_hashOfGame 44 = .ok (.lstore_n 3, 1) := by decide +kernel
theorem dX5_hashOfGame_45 : decode cX5_hashOfGame 45 = .ok (.iinc 5 1, 3) := by decide +kernel
theorem dX5_hashOfGame_48 : decode cX5_hashOfGame 48 = .ok (.goto (-27), 3) := by decide +kernel
theorem dX5_hashOfGame_51 : decode cX5_hashOfGame 51 = .ok (.aload_n 0, 1) := by decide +kernel
theorem dX5_hashOfGame_52 : decode cX5_hashOfGame 52 = .ok (.invokevirtual 189, 3) := by decide +kernel
theorem dX5_hashOfGame_55 : decode cX5_hashOfGame 55 = .ok (.istore 5, 2) := by decide +kernel
theorem dX5_hashOfGame_57 : decode cX5_hashOfGame 57 = .ok (.lload_n 3, 1) := by decide +kernel
theorem dX5_hashOfGame_58 : decode cX5_hashOfGame 58 = .ok (.iload 5, 2) := by decide +kernel
theorem dX5_hashOfGame_60 : decode cX5_hashOfGame 60 = .ok (.i2l, 1) := by decide +kernel
theorem dX5_hashOfGame_61 : decode cX5_hashOfGame 61 = .ok (.invokestatic 226, 3) := by decide +kernel
theorem dX5_hashOfGame_64 : decode cX5_hashOfGame 64 = .ok (.lstore_n 3, 1) := by decide +kernel
theorem dX5_hashOfGame_65 : decode cX5_hashOfGame 65 = .ok (.iconst 0, 1) := by decide +kernel
theorem dX5_hashOfGame_66 : decode cX5_hashOfGame 66 = .ok (.istore 6, 2) := by decide +kernel
theorem dX5_hashOfGame_68 : decode cX5_hashOfGame 68 = .ok (.iload 6, 2) := by decide +kernel
theorem dX5_hashOfGame_70 : decode cX5_hashOfGame 70 = .ok (.iload 5, 2) := by decide +kernel
theorem dX5_hashOfGame_72 : decode cX5_hashOfGame 72 = .ok (.if_icmp .ge 21, 3) := by decide +kernel
theorem dX5_hashOfGame_75 : decode cX5_hashOfGame 75 = .ok (.lload_n 3, 1) := by decide +kernel
theorem dX5_hashOfGame_76 : decode cX5_hashOfGame 76 = .ok (.aload_n 0, 1) := by decide +kernel
theorem dX5_hashOfGame_77 : decode cX5_hashOfGame 77 = .ok (.iload 6, 2) := by decide +kernel
theorem dX5_hashOfGame_79 : decode cX5_hashOfGame 79 = .ok (.invokevirtual 249, 3) := by decide +kernel
theorem dX5_hashOfGame_82 : decode cX5_hashOfGame 82 = .ok (.i2l, 1) := by decide +kernel
theorem dX5_hashOfGame_83 : decode cX5_hashOfGame 83 = .ok (.invokestatic 226, 3) := by decide +kernel
theorem dX5_hashOfGame_86 : decode cX5_hashOfGame 86 = .ok (.lstore_n 3, 1) := by decide +kernel
theorem dX5_hashOfGame_87 : decode cX5_hashOfGame 87 = .ok (.iinc 6 1, 3) := by decide +kernel
theorem dX5_hashOfGame_90 : decode cX5_hashOfGame 90 = .ok (.goto (-22), 3) := by decide +kernel
theorem dX5_hashOfGame_93 : decode cX5_hashOfGame 93 = .ok (.lload_n 3, 1) := by decide +kernel
theorem dX5_hashOfGame_94 : decode cX5_hashOfGame 94 = .ok (.aload_n 0, 1) := by decide +kernel
theorem dX5_hashOfGame_95 : decode cX5_hashOfGame 95 = .ok (.invokevirtual 252, 3) := by decide +kernel
theorem dX5_hashOfGame_98 : decode cX5_hashOfGame 98 = .ok (.i2l, 1) := by decide +kernel
theorem dX5_hashOfGame_99 : decode cX5_hashOfGame 99 = .ok (.invokestatic 226, 3) := by decide +kernel
theorem dX5_hashOfGame_102 : decode cX5_hashOfGame 102 = .ok (.lstore_n 3, 1) := by decide +kernel
theorem dX5_hashOfGame_103 : decode cX5_hashOfGame 103 = .ok (.iconst 0, 1) := by decide +kernel
theorem dX5_hashOfGame_104 : decode cX5_hashOfGame 104 = .ok (.istore 6, 2) := by decide +kernel
theorem dX5_hashOfGame_106 : decode cX5_hashOfGame 106 = .ok (.iload 6, 2) := by decide +kernel
theorem dX5_hashOfGame_108 : decode cX5_hashOfGame 108 = .ok (.aload_n 0, 1) := by decide +kernel
theorem dX5_hashOfGame_109 : decode cX5_hashOfGame 109 = .ok (.getfield 19, 3) := by decide +kernel
theorem dX5_hashOfGame_112 : decode cX5_hashOfGame 112 = .ok (.getfield 155, 3) := by decide +kernel
theorem dX5_hashOfGame_115 : decode cX5_hashOfGame 115 = .ok (.if_icmp .ge 21, 3) := by decide +kernel
theorem dX5_hashOfGame_118 : decode cX5_hashOfGame 118 = .ok (.lload_n 3, 1) := by decide +kernel
theorem dX5_hashOfGame_119 : decode cX5_hashOfGame 119 = .ok (.aload_n 0, 1) := by decide +kernel
theorem dX5_hashOfGame_120 : decode cX5_hashOfGame 120 = .ok (.iload 6, 2) := by decide +kernel
theorem dX5_hashOfGame_122 : decode cX5_hashOfGame 122 = .ok (.invokevirtual 255, 3) := by decide +kernel
theorem dX5_hashOfGame_125 : decode cX5_hashOfGame 125 = .ok (.i2l, 1) := by decide +kernel
theorem dX5_hashOfGame_126 : decode cX5_hashOfGame 126 = .ok (.invokestatic 226, 3) := by decide +kernel
theorem dX5_hashOfGame_129 : decode cX5_hashOfGame 129 = .ok (.lstore_n 3, 1) := by decide +kernel
theorem dX5_hashOfGame_130 : decode cX5_hashOfGame 130 = .ok (.iinc 6 1, 3) := by decide +kernel
theorem dX5_hashOfGame_133 : decode cX5_hashOfGame 133 = .ok (.goto (-27), 3) := by decide +kernel
theorem dX5_hashOfGame_136 : decode cX5_hashOfGame 136 = .ok (.lload_n 3, 1) := by decide +kernel
theorem dX5_hashOfGame_137 : decode cX5_hashOfGame 137 = .ok (.lreturn, 1) := by decide +kernel
theorem dX5_mixed_0 : decode cX5_mixed 0 = .ok (.ldc2_w 258, 3) := by decide +kernel
theorem dX5_mixed_3 : decode cX5_mixed 3 = .ok (.lload_n 0, 1) := by decide +kernel
theorem dX5_mixed_4 : decode cX5_mixed 4 = .ok (.lmul, 1) := by decide +kernel
theorem dX5_mixed_5 : decode cX5_mixed 5 = .ok (.lload_n 2, 1) := by decide +kernel
theorem dX5_mixed_6 : decode cX5_mixed 6 = .ok (.ladd, 1) := by decide +kernel
theorem dX5_mixed_7 : decode cX5_mixed 7 = .ok (.lreturn, 1) := by decide +kernel
set_option maxRecDepth 20000 in
theorem ggX5_addTextTo_X3_readWords : GoodIn wsX5_addTextTo wsX3_readWords := goodIn_r _ [6, 7, 8, 9, 10, 5, 11, 12, 13, 14, 15, 16, 17, 18, 19, 20, 21, 22, 23, 24, 25, 26, 27, 60, 61, 62] (by decide +kernel) (by decide +kernel)
set_option maxRecDepth 20000 in
theorem gX5_addTextTo_X3_readWords : GoodIn wsX5_addTextTo (wsV RX5 120 RX3 yX3_readWords wsX3_readWords) := goodIn_app (goodIn_of _ (by decide +kernel)) ggX5_addTextTo_X3_readWords
set_option maxRecDepth 20000 in
theorem ggX5_addTextTo_X3_wordRead : GoodIn wsX5_addTextTo wsX3_wordRead := goodIn_r _ [31, 17, 60, 61, 62] (by decide +kernel) (by decide +kernel)
set_option maxRecDepth 20000 in
theorem gX5_addTextTo_X3_wordRead : GoodIn wsX5_addTextTo (wsV RX5 123 RX3 yX3_wordRead wsX3_wordRead) := goodIn_app (goodIn_of _ (by decide +kernel)) ggX5_addTextTo_X3_wordRead
set_option maxRecDepth 20000 in
theorem ggX5_addTextTo_X2_isInList : GoodIn wsX5_addTextTo wsX2_isInList := goodIn_r _ [36, 37, 38, 39, 35, 40, 41, 42, 43, 44, 45, 46, 47, 48, 49, 50, 63, 64, 65, 66, 67, 68, 69, 70, 71, 72, 73, 74] (by decide +kernel) (by decide +kernel)
set_option maxRecDepth 20000 in
theorem gX5_addTextTo_X2_isInList : GoodIn wsX5_addTextTo (wsV RX5 260 RX2 yX2_isInList wsX2_isInList) := goodIn_app (goodIn_of _ (by decide +kernel)) ggX5_addTextTo_X2_isInList
set_option maxRecDepth 20000 in
theorem ggX5_addTextTo_X2_insert : GoodIn wsX5_addTextTo wsX2_insert := goodIn_r _ [54, 41, 46, 63, 64, 65, 66, 67, 68, 69, 70, 71, 72, 73, 74] (by decide +kernel) (by decide +kernel)
set_option maxRecDepth 20000 in
theorem gX5_addTextTo_X2_insert : GoodIn wsX5_addTextTo (wsV RX5 264 RX2 yX2_insert wsX2_insert) := goodIn_app (goodIn_of _ (by decide +kernel)) ggX5_addTextTo_X2_insert
theorem dX5_addTextTo_0 : decode cX5_addTextTo 0 = .ok (.aload_n 0, 1) := by decide +kernel
theorem dX5_addTextTo_1 : decode cX5_addTextTo 1 = .ok (.getfield 10, 3) := by decide +kernel
theorem dX5_addTextTo_4 : decode cX5_addTextTo 4 = .ok (.invokevirtual 120, 3) := by decide +kernel
theorem dX5_addTextTo_7 : decode cX5_addTextTo 7 = .ok (.istore_n 2, 1) := by decide +kernel
theorem dX5_addTextTo_8 : decode cX5_addTextTo 8 = .ok (.iconst 0, 1) := by decide +kernel
theorem dX5_addTextTo_9 : decode cX5_addTextTo 9 = .ok (.istore_n 3, 1) := by decide +kernel
theorem dX5_addTextTo_10 : decode cX5_addTextTo 10 = .ok (.iload_n 3, 1) := by decide +kernel
theorem dX5_addTextTo_11 : decode cX5_addTextTo 11 = .ok (.iload_n 2, 1) := by decide +kernel
theorem dX5_addTextTo_12 : decode cX5_addTextTo 12 = .ok (.if_icmp .ge 39, 3) := by decide +kernel
theorem dX5_addTextTo_15 : decode cX5_addTextTo 15 = .ok (.aload_n 0, 1) := by decide +kernel
theorem dX5_addTextTo_16 : decode cX5_addTextTo 16 = .ok (.getfield 10, 3) := by decide +kernel
theorem dX5_addTextTo_19 : decode cX5_addTextTo 19 = .ok (.iload_n 3, 1) := by decide +kernel
theorem dX5_addTextTo_20 : decode cX5_addTextTo 20 = .ok (.invokevirtual 123, 3) := by decide +kernel
theorem dX5_addTextTo_23 : decode cX5_addTextTo 23 = .ok (.lstore 4, 2) := by decide +kernel
theorem dX5_addTextTo_25 : decode cX5_addTextTo 25 = .ok (.aload_n 1, 1) := by decide +kernel
theorem dX5_addTextTo_26 : decode cX5_addTextTo 26 = .ok (.lload 4, 2) := by decide +kernel
theorem dX5_addTextTo_28 : decode cX5_addTextTo 28 = .ok (.invokevirtual 260, 3) := by decide +kernel
theorem dX5_addTextTo_31 : decode cX5_addTextTo 31 = .ok (.ifCond .ne 14, 3) := by decide +kernel
theorem dX5_addTextTo_34 : decode cX5_addTextTo 34 = .ok (.aload_n 1, 1) := by decide +kernel
theorem dX5_addTextTo_35 : decode cX5_addTextTo 35 = .ok (.lload 4, 2) := by decide +kernel
theorem dX5_addTextTo_37 : decode cX5_addTextTo 37 = .ok (.invokevirtual 264, 3) := by decide +kernel
theorem dX5_addTextTo_40 : decode cX5_addTextTo 40 = .ok (.ifCond .ne 5, 3) := by decide +kernel
theorem dX5_addTextTo_43 : decode cX5_addTextTo 43 = .ok (.iconst 0, 1) := by decide +kernel
theorem dX5_addTextTo_44 : decode cX5_addTextTo 44 = .ok (.ireturn, 1) := by decide +kernel
theorem dX5_addTextTo_45 : decode cX5_addTextTo 45 = .ok (.iinc 3 1, 3) := by decide +kernel
theorem dX5_addTextTo_48 : decode cX5_addTextTo 48 = .ok (.goto (-38), 3) := by decide +kernel
theorem dX5_addTextTo_51 : decode cX5_addTextTo 51 = .ok (.iconst 1, 1) := by decide +kernel
theorem dX5_addTextTo_52 : decode cX5_addTextTo 52 = .ok (.ireturn, 1) := by decide +kernel
set_option maxRecDepth 20000 in
theorem ggX5_play_X0_make : GoodIn wsX5_play wsX0_make := goodIn_r _ [6, 7, 8, 9, 10, 11, 12, 13, 14, 15, 16, 17, 18, 19, 20, 21, 22, 23, 24, 25, 26, 27, 28, 29, 30, 31, 32, 33, 34, 35, 36, 37, 38, 39, 40, 41, 42, 43, 44, 45, 46, 5, 47, 48, 49, 50, 51, 52, 53, 54, 55, 56, 57, 58, 131, 132, 133, 134, 135, 136, 137, 138, 139, 140, 141, 142, 143, 144, 145, 146, 147] (by decide +kernel) (by decide +kernel)
set_option maxRecDepth 20000 in
theorem gX5_play_X0_make : GoodIn wsX5_play (wsV RX5 164 RX0 yX0_make wsX0_make) := goodIn_app (goodIn_of _ (by decide +kernel)) ggX5_play_X0_make
set_option maxRecDepth 20000 in
theorem ggX5_play_X0_best : GoodIn wsX5_play wsX0_best := goodIn_r _ [62, 7, 63, 64, 65, 5, 66, 8, 51, 52, 53, 54, 48, 55, 56, 57, 58, 67, 68, 69, 70, 50, 71, 72, 73, 74, 75, 76, 77, 78, 79, 80, 81, 49, 131, 132, 133, 134, 135] (by decide +kernel) (by decide +kernel)
set_option maxRecDepth 20000 in
theorem gX5_play_X0_best : GoodIn wsX5_play (wsV RX5 267 RX0 yX0_best wsX0_best) := goodIn_app (goodIn_of _ (by decide +kernel)) ggX5_play_X0_best
set_option maxRecDepth 20000 in
theorem ggX5_play_X0_maskOf : GoodIn wsX5_play wsX0_maskOf := goodIn_r _ [54, 48, 55, 56, 57, 5, 58, 7, 131, 132, 133, 134, 135] (by decide +kernel) (by decide +kernel)
set_option maxRecDepth 20000 in
theorem gX5_play_X0_maskOf : GoodIn wsX5_play (wsV RX5 180 RX0 yX0_maskOf wsX0_maskOf) := goodIn_app (goodIn_of _ (by decide +kernel)) ggX5_play_X0_maskOf
set_option maxRecDepth 20000 in
theorem ggX5_play_X0_membersOf : GoodIn wsX5_play wsX0_membersOf := goodIn_r _ [86, 49, 55, 56, 57, 5, 58, 7, 131, 132, 133, 134, 135] (by decide +kernel) (by decide +kernel)
set_option maxRecDepth 20000 in
theorem gX5_play_X0_membersOf : GoodIn wsX5_play (wsV RX5 183 RX0 yX0_membersOf wsX0_membersOf) := goodIn_app (goodIn_of _ (by decide +kernel)) ggX5_play_X0_membersOf
set_option maxRecDepth 20000 in
theorem ggX5_play_X2_takeLetter : GoodIn wsX5_play wsX2_takeLetter := goodIn_r _ [90, 20, 91, 92, 93, 94, 95, 18, 96, 97, 98, 99, 9, 10, 11, 12, 13, 14, 100, 101, 102, 103, 104, 105, 106, 107, 108, 109, 110, 111, 112, 113, 114, 115, 116, 33, 117, 38, 39, 40, 118, 119, 120, 35, 36, 37, 121, 122, 123, 124, 136, 137, 138, 139, 140, 141, 142, 143, 144, 145, 146, 147] (by decide +kernel) (by decide +kernel)
set_option maxRecDepth 20000 in
theorem gX5_play_X2_takeLetter : GoodIn wsX5_play (wsV RX5 270 RX2 yX2_takeLetter wsX2_takeLetter) := goodIn_app (goodIn_of _ (by decide +kernel)) ggX5_play_X2_takeLetter
set_option maxRecDepth 20000 in
theorem ggX5_play_J6_bitCount_0f7a4 : GoodIn wsX5_play wsJ6_bitCount_0f7a4 := goodIn_r _ [74, 75, 76, 77] (by decide +kernel) (by decide +kernel)
set_option maxRecDepth 20000 in
theorem gX5_play_J6_bitCount_0f7a4 : GoodIn wsX5_play (va_wsS RX5 105 yJ6_bitCount_0f7a4 wsJ6_bitCount_0f7a4) := goodIn_app (goodIn_of _ (by decide +kernel)) ggX5_play_J6_bitCount_0f7a4
theorem dX5_play_0 : decode cX5_play 0 = .ok (.aload_n 0, 1) := by decide +kernel
theorem dX5_play_1 : decode cX5_play 1 = .ok (.getfield 36, 3) := by decide +kernel
theorem dX5_play_4 : decode cX5_play 4 = .ok (.aload_n 1, 1) := by decide +kernel
theorem dX5_play_5 : decode cX5_play 5 = .ok (.iload_n 2, 1) := by decide +kernel
theorem dX5_play_6 : decode cX5_play 6 = .ok (.invokevirtual 164, 3) := by decide +kernel
theorem dX5_play_9 : decode cX5_play 9 = .ok (.aload_n 0, 1) := by decide +kernel
theorem dX5_play_10 : decode cX5_play 10 = .ok (.getfield 36, 3) := by decide +kernel
theorem dX5_play_13 : decode cX5_play 13 = .ok (.invokevirtual 267, 3) := by decide +kernel
theorem dX5_play_16 : decode cX5_play 16 = .ok (.istore_n 3, 1) := by decide +kernel
theorem dX5_play_17 : decode cX5_play 17 = .ok (.aload_n 0, 1) := by decide +kernel
theorem dX5_play_18 : decode cX5_play 18 = .ok (.getfield 36, 3) := by decide +kernel
theorem dX5_play_21 : decode cX5_play 21 = .ok (.iload_n 3, 1) := by decide +kernel
theorem dX5_play_22 : decode cX5_play 22 = .ok (.invokevirtual 180, 3) := by decide +kernel
theorem dX5_play_25 : decode cX5_play 25 = .ok (.istore 4, 2) := by decide +kernel
theorem dX5_play_27 : decode cX5_play 27 = .ok (.aload_n 1, 1) := by decide +kernel
theorem dX5_play_28 : decode cX5_play 28 = .ok (.iload_n 2, 1) := by decide +kernel
theorem dX5_play_29 : decode cX5_play 29 = .ok (.iload 4, 2) := by decide +kernel
theorem dX5_play_31 : decode cX5_play 31 = .ok (.aload_n 0, 1) := by decide +kernel
theorem dX5_play_32 : decode cX5_play 32 = .ok (.getfield 36, 3) := by decide +kernel
theorem dX5_play_35 : decode cX5_play 35 = .ok (.iload_n 3, 1) := by decide +kernel
theorem dX5_play_36 : decode cX5_play 36 = .ok (.invokevirtual 183, 3) := by decide +kernel
theorem dX5_play_39 : decode cX5_play 39 = .ok (.invokevirtual 270, 3) := by decide +kernel
theorem dX5_play_42 : decode cX5_play 42 = .ok (.iload 4, 2) := by decide +kernel
theorem dX5_play_44 : decode cX5_play 44 = .ok (.invokestatic 105, 3) := by decide +kernel
theorem dX5_play_47 : decode cX5_play 47 = .ok (.ireturn, 1) := by decide +kernel
set_option maxRecDepth 20000 in
theorem ggX5_bestLetter_X2_wasGuessed : GoodIn wsX5_bestLetter wsX2_wasGuessed := goodIn_r _ [6, 7, 8, 9, 10, 11, 12, 13, 95, 96, 97, 98, 99, 100, 101, 102, 103, 104, 105, 106] (by decide +kernel) (by decide +kernel)
set_option maxRecDepth 20000 in
theorem gX5_bestLetter_X2_wasGuessed : GoodIn wsX5_bestLetter (wsV RX5 113 RX2 yX2_wasGuessed wsX2_wasGuessed) := goodIn_app (goodIn_of _ (by decide +kernel)) ggX5_bestLetter_X2_wasGuessed
set_option maxRecDepth 20000 in
theorem ggX5_bestLetter_X0_make : GoodIn wsX5_bestLetter wsX0_make := goodIn_r _ [18, 19, 20, 8, 9, 10, 11, 12, 13, 21, 22, 23, 5, 24, 25, 26, 27, 28, 29, 30, 31, 32, 33, 34, 35, 36, 37, 38, 39, 40, 41, 42, 43, 44, 45, 46, 47, 48, 49, 50, 51, 17, 52, 53, 54, 55, 56, 57, 58, 59, 60, 61, 62, 63, 107, 108, 109, 110, 111, 95, 96, 97, 98, 99, 100, 101, 102, 103, 104, 105, 106] (by decide +kernel) (by decide +kernel)
set_option maxRecDepth 20000 in
theorem gX5_bestLetter_X0_make : GoodIn wsX5_bestLetter (wsV RX5 164 RX0 yX0_make wsX0_make) := goodIn_app (goodIn_of _ (by decide +kernel)) ggX5_bestLetter_X0_make
set_option maxRecDepth 20000 in
theorem ggX5_bestLetter_X0_best : GoodIn wsX5_bestLetter wsX0_best := goodIn_r _ [67, 19, 68, 69, 70, 17, 71, 20, 56, 57, 58, 59, 53, 60, 61, 62, 63, 72, 73, 74, 75, 55, 76, 77, 78, 79, 80, 81, 82, 83, 84, 85, 86, 54, 107, 108, 109, 110, 111] (by decide +kernel) (by decide +kernel)
set_option maxRecDepth 20000 in
theorem gX5_bestLetter_X0_best : GoodIn wsX5_bestLetter (wsV RX5 267 RX0 yX0_best wsX0_best) := goodIn_app (goodIn_of _ (by decide +kernel)) ggX5_bestLetter_X0_best
set_option maxRecDepth 20000 in
theorem ggX5_bestLetter_X0_sizeOf : GoodIn wsX5_bestLetter wsX0_sizeOf := goodIn_r _ [86, 54, 60, 61, 62, 17, 63, 19, 76, 77, 78, 79, 80, 81, 82, 107, 108, 109, 110, 111] (by decide +kernel) (by decide +kernel)
set_option maxRecDepth 20000 in
theorem gX5_bestLetter_X0_sizeOf : GoodIn wsX5_bestLetter (wsV RX5 177 RX0 yX0_sizeOf wsX0_sizeOf) := goodIn_app (goodIn_of _ (by decide +kernel)) ggX5_bestLetter_X0_sizeOf
set_option maxRecDepth 20000 in
theorem ggX5_bestLetter_X0_maskOf : GoodIn wsX5_bestLetter wsX0_maskOf := goodIn_r _ [59, 53, 60, 61, 62, 17, 63, 19, 107, 108, 109, 110, 111] (by decide +kernel) (by decide +kernel)
set_option maxRecDepth 20000 in
theorem gX5_bestLetter_X0_maskOf : GoodIn wsX5_bestLetter (wsV RX5 180 RX0 yX0_maskOf wsX0_maskOf) := goodIn_app (goodIn_of _ (by decide +kernel)) ggX5_bestLetter_X0_maskOf
set_option maxRecDepth 20000 in
theorem ggX5_bestLetter_J6_bitCount_0f7a4 : GoodIn wsX5_bestLetter wsJ6_bitCount_0f7a4 := goodIn_r _ [79, 80, 81, 82] (by decide +kernel) (by decide +kernel)
set_option maxRecDepth 20000 in
theorem gX5_bestLetter_J6_bitCount_0f7a4 : GoodIn wsX5_bestLetter (va_wsS RX5 105 yJ6_bitCount_0f7a4 wsJ6_bitCount_0f7a4) := goodIn_app (goodIn_of _ (by decide +kernel)) ggX5_bestLetter_J6_bitCount_0f7a4
theorem dX5_bestLetter_0 : decode cX5_bestLetter 0 = .ok (.bipush (-6), 2) := by decide +kernel
theorem dX5_bestLetter_2 : decode cX5_bestLetter 2 = .ok (.istore_n 2, 1) := by decide +kernel
theorem dX5_bestLetter_3 : decode cX5_bestLetter 3 = .ok (.iconst 0, 1) := by decide +kernel
theorem dX5_bestLetter_4 : decode cX5_bestLetter 4 = .ok (.istore_n 3, 1) := by decide +kernel
theorem dX5_bestLetter_5 : decode cX5_bestLetter 5 = .ok (.iconst 0, 1) := by decide +kernel
theorem dX5_bestLetter_6 : decode cX5_bestLetter 6 = .ok (.istore 4, 2) := by decide +kernel
theorem dX5_bestLetter_8 : decode cX5_bestLetter 8 = .ok (.bipush 97, 2) := by decide +kernel
theorem dX5_bestLetter_10 : decode cX5_bestLetter 10 = .ok (.istore 5, 2) := by decide +kernel
theorem dX5_bestLetter_12 : decode cX5_bestLetter 12 = .ok (.iload 5, 2) := by decide +kernel
theorem dX5_bestLetter_14 : decode cX5_bestLetter 14 = .ok (.bipush 123, 2) := by decide +kernel
theorem dX5_bestLetter_16 : decode cX5_bestLetter 16 = .ok (.if_icmp .ge 97, 3) := by decide +kernel
theorem dX5_bestLetter_19 : decode cX5_bestLetter 19 = .ok (.aload_n 1, 1) := by decide +kernel
theorem dX5_bestLetter_20 : decode cX5_bestLetter 20 = .ok (.iload 5, 2) := by decide +kernel
theorem dX5_bestLetter_22 : decode cX5_bestLetter 22 = .ok (.invokevirtual 113, 3) := by decide +kernel
theorem dX5_bestLetter_25 : decode cX5_bestLetter 25 = .ok (.ifCond .ne 82, 3) := by decide +kernel
theorem dX5_bestLetter_28 : decode cX5_bestLetter 28 = .ok (.aload_n 0, 1) := by decide +kernel
theorem dX5_bestLetter_29 : decode cX5_bestLetter 29 = .ok (.getfield 36, 3) := by decide +kernel
theorem dX5_bestLetter_32 : decode cX5_bestLetter 32 = .ok (.aload_n 1, 1) := by decide +kernel
theorem dX5_bestLetter_33 : decode cX5_bestLetter 33 = .ok (.iload 5, 2) := by decide +kernel
theorem dX5_bestLetter_35 : decode cX5_bestLetter 35 = .ok (.invokevirtual 164, 3) := by decide +kernel
theorem dX5_bestLetter_38 : decode cX5_bestLetter 38 = .ok (.aload_n 0, 1) := by decide +kernel
theorem dX5_bestLetter_39 : decode cX5_bestLetter 39 = .ok (.getfield 36, 3) := by decide +kernel
theorem dX5_bestLetter_42 : decode cX5_bestLetter 42 = .ok (.invokevirtual 267, 3) := by decide +kernel
theorem dX5_bestLetter_45 : decode cX5_bestLetter 45 = .ok (.istore 6, 2) := by decide +kernel
theorem dX5_bestLetter_47 : decode cX5_bestLetter 47 = .ok (.aload_n 0, 1) := by decide +kernel
theorem dX5_bestLetter_48 : decode cX5_bestLetter 48 = .ok (.getfield 36, 3) := by decide +kernel
theorem dX5_bestLetter_51 : decode cX5_bestLetter 51 = .ok (.iload 6, 2) := by decide +kernel
theorem dX5_bestLetter_53 : decode cX5_bestLetter 53 = .ok (.invokevirtual 177, 3) := by decide +kernel
theorem dX5_bestLetter_56 : decode cX5_bestLetter 56 = .ok (.istore 7, 2) := by decide +kernel
theorem dX5_bestLetter_58 : decode cX5_bestLetter 58 = .ok (.aload_n 0, 1) := by decide +kernel
theorem dX5_bestLetter_59 : decode cX5_bestLetter 59 = .ok (.getfield 36, 3) := by decide +kernel
theorem dX5_bestLetter_62 : decode cX5_bestLetter 62 = .ok (.iload 6, 2) := by decide +kernel
theorem dX5_bestLetter_64 : decode cX5_bestLetter 64 = .ok (.invokevirtual 180, 3) := by decide +kernel
theorem dX5_bestLetter_67 : decode cX5_bestLetter 67 = .ok (.invokestatic 105, 3) := by decide +kernel
theorem dX5_bestLetter_70 : decode cX5_bestLetter 70 = .ok (.istore 8, 2) := by decide +kernel
theorem dX5_bestLetter_72 : decode cX5_bestLetter 72 = .ok (.iload_n 2, 1) := by decide +kernel
theorem dX5_bestLetter_73 : decode cX5_bestLetter 73 = .ok (.bipush (-6), 2) := by decide +kernel
theorem dX5_bestLetter_75 : decode cX5_bestLetter 75 = .ok (.if_icmp .eq 22, 3) := by decide +kernel
theorem dX5_bestLetter_78 : decode cX5_bestLetter 78 = .ok (.iload 7, 2) := by decide +kernel
theorem dX5_bestLetter_80 : decode cX5_bestLetter 80 = .ok (.iload_n 3, 1) := by decide +kernel
theorem dX5_bestLetter_81 : decode cX5_bestLetter 81 = .ok (.if_icmp .lt 16, 3) := by decide +kernel
theorem dX5_bestLetter_84 : decode cX5_bestLetter 84 = .ok (.iload 7, 2) := by decide +kernel
theorem dX5_bestLetter_86 : decode cX5_bestLetter 86 = .ok (.iload_n 3, 1) := by decide +kernel
theorem dX5_bestLetter_87 : decode cX5_bestLetter 87 = .ok (.if_icmp .ne 20, 3) := by decide +kernel
theorem dX5_bestLetter_90 : decode cX5_bestLetter 90 = .ok (.iload 8, 2) := by decide +kernel
theorem dX5_bestLetter_92 : decode cX5_bestLetter 92 = .ok (.iload 4, 2) := by decide +kernel
theorem dX5_bestLetter_94 : decode cX5_bestLetter 94 = .ok (.if_icmp .le 13, 3) := by decide +kernel
theorem dX5_bestLetter_97 : decode cX5_bestLetter 97 = .ok (.iload 5, 2) := by decide +kernel
theorem dX5_bestLetter_99 : decode cX5_bestLetter 99 = .ok (.istore_n 2, 1) := by decide +kernel
theorem dX5_bestLetter_100 : decode cX5_bestLetter 100 = .ok (.iload 7, 2) := by decide +kernel
theorem dX5_bestLetter_102 : decode cX5_bestLetter 102 = .ok (.istore_n 3, 1) := by decide +kernel
theorem dX5_bestLetter_103 : decode cX5_bestLetter 103 = .ok (.iload 8, 2) := by decide +kernel
theorem dX5_bestLetter_105 : decode cX5_bestLetter 105 = .ok (.istore 4, 2) := by decide +kernel
theorem dX5_bestLetter_107 : decode cX5_bestLetter 107 = .ok (.iinc 5 1, 3) := by decide +kernel
theorem dX5_bestLetter_110 : decode cX5_bestLetter 110 = .ok (.goto (-98), 3) := by decide +kernel
theorem dX5_bestLetter_113 : decode cX5_bestLetter 113 = .ok (.iload_n 2, 1) := by decide +kernel
theorem dX5_bestLetter_114 : decode cX5_bestLetter 114 = .ok (.ireturn, 1) := by decide +kernel
set_option maxRecDepth 20000 in
theorem ggX5_faultOfAsking_X5_isLetter : GoodIn wsX5_faultOfAsking wsX5_isLetter := goodIn_r _ [5] (by decide +kernel) (by decide +kernel)
set_option maxRecDepth 20000 in
theorem gX5_faultOfAsking_X5_isLetter : GoodIn wsX5_faultOfAsking (va_wsS RX5 110 yX5_isLetter wsX5_isLetter) := goodIn_app (goodIn_of _ (by decide +kernel)) ggX5_faultOfAsking_X5_isLetter
set_option maxRecDepth 20000 in
theorem ggX5_faultOfAsking_X2_isRunning : GoodIn wsX5_faultOfAsking wsX2_isRunning := goodIn_r _ [10, 11, 24, 25, 26, 27, 28, 29, 30, 31, 32, 33, 34, 35] (by decide +kernel) (by decide +kernel)
set_option maxRecDepth 20000 in
theorem gX5_faultOfAsking_X2_isRunning : GoodIn wsX5_faultOfAsking (wsV RX5 55 RX2 yX2_isRunning wsX2_isRunning) := goodIn_app (goodIn_of _ (by decide +kernel)) ggX5_faultOfAsking_X2_isRunning
set_option maxRecDepth 20000 in
theorem ggX5_faultOfAsking_X2_wasGuessed : GoodIn wsX5_faultOfAsking wsX2_wasGuessed := goodIn_r _ [15, 16, 17, 4, 18, 2, 3, 5, 24, 25, 26, 27, 28, 29, 30, 31, 32, 33, 34, 35] (by decide +kernel) (by decide +kernel)
set_option maxRecDepth 20000 in
theorem gX5_faultOfAsking_X2_wasGuessed : GoodIn wsX5_faultOfAsking (wsV RX5 113 RX2 yX2_wasGuessed wsX2_wasGuessed) := goodIn_app (goodIn_of _ (by decide +kernel)) ggX5_faultOfAsking_X2_wasGuessed
theorem dX5_faultOfAsking_0 : decode cX5_faultOfAsking 0 = .ok (.iload_n 1, 1) := by decide +kernel
theorem dX5_faultOfAsking_1 : decode cX5_faultOfAsking 1 = .ok (.invokestatic 110, 3) := by decide +kernel
theorem dX5_faultOfAsking_4 : decode cX5_faultOfAsking 4 = .ok (.ifCond .ne 6, 3) := by decide +kernel
theorem dX5_faultOfAsking_7 : decode cX5_faultOfAsking 7 = .ok (.bipush (-2), 2) := by decide +kernel
theorem dX5_faultOfAsking_9 : decode cX5_faultOfAsking 9 = .ok (.ireturn, 1) := by decide +kernel
theorem dX5_faultOfAsking_10 : decode cX5_faultOfAsking 10 = .ok (.aload_n 0, 1) := by decide +kernel
theorem dX5_faultOfAsking_11 : decode cX5_faultOfAsking 11 = .ok (.getfield 19, 3) := by decide +kernel
theorem dX5_faultOfAsking_14 : decode cX5_faultOfAsking 14 = .ok (.invokevirtual 55, 3) := by decide +kernel
theorem dX5_faultOfAsking_17 : decode cX5_faultOfAsking 17 = .ok (.ifCond .eq 18, 3) := by decide +kernel
theorem dX5_faultOfAsking_20 : decode cX5_faultOfAsking 20 = .ok (.aload_n 0, 1) := by decide +kernel
theorem dX5_faultOfAsking_21 : decode cX5_faultOfAsking 21 = .ok (.getfield 19, 3) := by decide +kernel
theorem dX5_faultOfAsking_24 : decode cX5_faultOfAsking 24 = .ok (.iload_n 1, 1) := by decide +kernel
theorem dX5_faultOfAsking_25 : decode cX5_faultOfAsking 25 = .ok (.invokevirtual 113, 3) := by decide +kernel
theorem dX5_faultOfAsking_28 : decode cX5_faultOfAsking 28 = .ok (.ifCond .ne 7, 3) := by decide +kernel
theorem dX5_faultOfAsking_31 : decode cX5_faultOfAsking 31 = .ok (.iconst 0, 1) := by decide +kernel
theorem dX5_faultOfAsking_32 : decode cX5_faultOfAsking 32 = .ok (.goto 5, 3) := by decide +kernel
theorem dX5_faultOfAsking_35 : decode cX5_faultOfAsking 35 = .ok (.bipush (-3), 2) := by decide +kernel
theorem dX5_faultOfAsking_37 : decode cX5_faultOfAsking 37 = .ok (.ireturn, 1) := by decide +kernel
theorem dX5_isLetter_0 : decode cX5_isLetter 0 = .ok (.iload_n 0, 1) := by decide +kernel
theorem dX5_isLetter_1 : decode cX5_isLetter 1 = .ok (.bipush 97, 2) := by decide +kernel
theorem dX5_isLetter_3 : decode cX5_isLetter 3 = .ok (.if_icmp .lt 13, 3) := by decide +kernel
theorem dX5_isLetter_6 : decode cX5_isLetter 6 = .ok (.iload_n 0, 1) := by decide +kernel
theorem dX5_isLetter_7 : decode cX5_isLetter 7 = .ok (.bipush 123, 2) := by decide +kernel
theorem dX5_isLetter_9 : decode cX5_isLetter 9 = .ok (.if_icmp .ge 7, 3) := by decide +kernel
theorem dX5_isLetter_12 : decode cX5_isLetter 12 = .ok (.iconst 1, 1) := by decide +kernel
theorem dX5_isLetter_13 : decode cX5_isLetter 13 = .ok (.goto 4, 3) := by decide +kernel
theorem dX5_isLetter_16 : decode cX5_isLetter 16 = .ok (.iconst 0, 1) := by decide +kernel
theorem dX5_isLetter_17 : decode cX5_isLetter 17 = .ok (.ireturn, 1) := by decide +kernel
set_option maxRecDepth 20000 in
theorem ggX5_bitOf_X5_isLetter : GoodIn wsX5_bitOf wsX5_isLetter := goodIn_r _ [4] (by decide +kernel) (by decide +kernel)
set_option maxRecDepth 20000 in
theorem gX5_bitOf_X5_isLetter : GoodIn wsX5_bitOf (va_wsS RX5 110 yX5_isLetter wsX5_isLetter) := goodIn_app (goodIn_of _ (by decide +kernel)) ggX5_bitOf_X5_isLetter
theorem dX5_bitOf_0 : decode cX5_bitOf 0 = .ok (.iload_n 0, 1) := by decide +kernel
theorem dX5_bitOf_1 : decode cX5_bitOf 1 = .ok (.invokestatic 110, 3) := by decide +kernel
theorem dX5_bitOf_4 : decode cX5_bitOf 4 = .ok (.ifCond .eq 12, 3) := by decide +kernel
theorem dX5_bitOf_7 : decode cX5_bitOf 7 = .ok (.iconst 1, 1) := by decide +kernel
theorem dX5_bitOf_8 : decode cX5_bitOf 8 = .ok (.iload_n 0, 1) := by decide +kernel
theorem dX5_bitOf_9 : decode cX5_bitOf 9 = .ok (.bipush 97, 2) := by decide +kernel
theorem dX5_bitOf_11 : decode cX5_bitOf 11 = .ok (.isub, 1) := by decide +kernel
theorem dX5_bitOf_12 : decode cX5_bitOf 12 = .ok (.ishl, 1) := by decide +kernel
theorem dX5_bitOf_13 : decode cX5_bitOf 13 = .ok (.goto 4, 3) := by decide +kernel
theorem dX5_bitOf_16 : decode cX5_bitOf 16 = .ok (.iconst 0, 1) := by decide +kernel
theorem dX5_bitOf_17 : decode cX5_bitOf 17 = .ok (.ireturn, 1) := by decide +kernel
theorem dX5_memberAt_0 : decode cX5_memberAt 0 = .ok (.iconst 0, 1) := by decide +kernel
theorem dX5_memberAt_1 : decode cX5_memberAt 1 = .ok (.istore_n 2, 1) := by decide +kernel
theorem dX5_memberAt_2 : decode cX5_memberAt 2 = .ok (.iconst 0, 1) := by decide +kernel
theorem dX5_memberAt_3 : decode cX5_memberAt 3 = .ok (.istore_n 3, 1) := by decide +kernel
theorem dX5_memberAt_4 : decode cX5_memberAt 4 = .ok (.iload_n 3, 1) := by decide +kernel
theorem dX5_memberAt_5 : decode cX5_memberAt 5 = .ok (.bipush 30, 2) := by decide +kernel
theorem dX5_memberAt_7 : decode cX5_memberAt 7 = .ok (.if_icmp .ge 27, 3) := by decide +kernel
theorem dX5_memberAt_10 : decode cX5_memberAt 10 = .ok (.iload_n 0, 1) := by decide +kernel
theorem dX5_memberAt_11 : decode cX5_memberAt 11 = .ok (.iload_n 3, 1) := by decide +kernel
theorem dX5_memberAt_12 : decode cX5_memberAt 12 = .ok (.ishr, 1) := by decide +kernel
theorem dX5_memberAt_13 : decode cX5_memberAt 13 = .ok (.iconst 1, 1) := by decide +kernel
theorem dX5_memberAt_14 : decode cX5_memberAt 14 = .ok (.iand, 1) := by decide +kernel
theorem dX5_memberAt_15 : decode cX5_memberAt 15 = .ok (.ifCond .eq 13, 3) := by decide +kernel
theorem dX5_memberAt_18 : decode cX5_memberAt 18 = .ok (.iload_n 2, 1) := by decide +kernel
theorem dX5_memberAt_19 : decode cX5_memberAt 19 = .ok (.iload_n 1, 1) := by decide +kernel
theorem dX5_memberAt_20 : decode cX5_memberAt 20 = .ok (.if_icmp .ne 5, 3) := by decide +kernel
theorem dX5_memberAt_23 : decode cX5_memberAt 23 = .ok (.iload_n 3, 1) := by decide +kernel
theorem dX5_memberAt_24 : decode cX5_memberAt 24 = .ok (.ireturn, 1) := by decide +kernel
theorem dX5_memberAt_25 : decode cX5_memberAt 25 = .ok (.iinc 2 1, 3) := by decide +kernel
theorem dX5_memberAt_28 : decode cX5_memberAt 28 = .ok (.iinc 3 1, 3) := by decide +kernel
theorem dX5_memberAt_31 : decode cX5_memberAt 31 = .ok (.goto (-27), 3) := by decide +kernel
theorem dX5_memberAt_34 : decode cX5_memberAt 34 = .ok (.iconst (-1), 1) := by decide +kernel
theorem dX5_memberAt_35 : decode cX5_memberAt 35 = .ok (.ireturn, 1) := by decide +kernel
theorem dJ6_bitCount_0f7a4_0 : decode cJ6_bitCount_0f7a4 0 = .ok (.iload_n 0, 1) := by decide +kernel
theorem dJ6_bitCount_0f7a4_1 : decode cJ6_bitCount_0f7a4 1 = .ok (.iload_n 0, 1) := by decide +kernel
theorem dJ6_bitCount_0f7a4_2 : decode cJ6_bitCount_0f7a4 2 = .ok (.iconst 1, 1) := by decide +kernel
theorem dJ6_bitCount_0f7a4_3 : decode cJ6_bitCount_0f7a4 3 = .ok (.iushr, 1) := by decide +kernel
theorem dJ6_bitCount_0f7a4_4 : decode cJ6_bitCount_0f7a4 4 = .ok (.ldc_w 265, 3) := by decide +kernel
theorem dJ6_bitCount_0f7a4_7 : decode cJ6_bitCount_0f7a4 7 = .ok (.iand, 1) := by decide +kernel
theorem dJ6_bitCount_0f7a4_8 : decode cJ6_bitCount_0f7a4 8 = .ok (.isub, 1) := by decide +kernel
theorem dJ6_bitCount_0f7a4_9 : decode cJ6_bitCount_0f7a4 9 = .ok (.istore_n 0, 1) := by decide +kernel
theorem dJ6_bitCount_0f7a4_10 : decode cJ6_bitCount_0f7a4 10 = .ok (.iload_n 0, 1) := by decide +kernel
theorem dJ6_bitCount_0f7a4_11 : decode cJ6_bitCount_0f7a4 11 = .ok (.ldc_w 266, 3) := by decide +kernel
theorem dJ6_bitCount_0f7a4_14 : decode cJ6_bitCount_0f7a4 14 = .ok (.iand, 1) := by decide +kernel
theorem dJ6_bitCount_0f7a4_15 : decode cJ6_bitCount_0f7a4 15 = .ok (.iload_n 0, 1) := by decide +kernel
theorem dJ6_bitCount_0f7a4_16 : decode cJ6_bitCount_0f7a4 16 = .ok (.iconst 2, 1) := by decide +kernel
theorem dJ6_bitCount_0f7a4_17 : decode cJ6_bitCount_0f7a4 17 = .ok (.iushr, 1) := by decide +kernel
theorem dJ6_bitCount_0f7a4_18 : decode cJ6_bitCount_0f7a4 18 = .ok (.ldc_w 266, 3) := by decide +kernel
theorem dJ6_bitCount_0f7a4_21 : decode cJ6_bitCount_0f7a4 21 = .ok (.iand, 1) := by decide +kernel
theorem dJ6_bitCount_0f7a4_22 : decode cJ6_bitCount_0f7a4 22 = .ok (.iadd, 1) := by decide +kernel
theorem dJ6_bitCount_0f7a4_23 : decode cJ6_bitCount_0f7a4 23 = .ok (.istore_n 0, 1) := by decide +kernel
theorem dJ6_bitCount_0f7a4_24 : decode cJ6_bitCount_0f7a4 24 = .ok (.iload_n 0, 1) := by decide +kernel
theorem dJ6_bitCount_0f7a4_25 : decode cJ6_bitCount_0f7a4 25 = .ok (.iload_n 0, 1) := by decide +kernel
theorem dJ6_bitCount_0f7a4_26 : decode cJ6_bitCount_0f7a4 26 = .ok (.iconst 4, 1) := by decide +kernel
theorem dJ6_bitCount_0f7a4_27 : decode cJ6_bitCount_0f7a4 27 = .ok (.iushr, 1) := by decide +kernel
theorem dJ6_bitCount_0f7a4_28 : decode cJ6_bitCount_0f7a4 28 = .ok (.iadd, 1) := by decide +kernel
theorem dJ6_bitCount_0f7a4_29 : decode cJ6_bitCount_0f7a4 29 = .ok (.ldc_w 267, 3) := by decide +kernel
theorem dJ6_bitCount_0f7a4_32 : decode cJ6_bitCount_0f7a4 32 = .ok (.iand, 1) := by decide +kernel
theorem dJ6_bitCount_0f7a4_33 : decode cJ6_bitCount_0f7a4 33 = .ok (.istore_n 0, 1) := by decide +kernel
theorem dJ6_bitCount_0f7a4_34 : decode cJ6_bitCount_0f7a4 34 = .ok (.iload_n 0, 1) := by decide +kernel
theorem dJ6_bitCount_0f7a4_35 : decode cJ6_bitCount_0f7a4 35 = .ok (.iload_n 0, 1) := by decide +kernel
theorem dJ6_bitCount_0f7a4_36 : decode cJ6_bitCount_0f7a4 36 = .ok (.bipush 8, 2) := by decide +kernel
theorem dJ6_bitCount_0f7a4_38 : decode cJ6_bitCount_0f7a4 38 = .ok (.iushr, 1) := by decide +kernel
theorem dJ6_bitCount_0f7a4_39 : decode cJ6_bitCount_0f7a4 39 = .ok (.iadd, 1) := by decide +kernel
theorem dJ6_bitCount_0f7a4_40 : decode cJ6_bitCount_0f7a4 40 = .ok (.istore_n 0, 1) := by decide +kernel
theorem dJ6_bitCount_0f7a4_41 : decode cJ6_bitCount_0f7a4 41 = .ok (.iload_n 0, 1) := by decide +kernel
theorem dJ6_bitCount_0f7a4_42 : decode cJ6_bitCount_0f7a4 42 = .ok (.iload_n 0, 1) := by decide +kernel
theorem dJ6_bitCount_0f7a4_43 : decode cJ6_bitCount_0f7a4 43 = .ok (.bipush 16, 2) := by decide +kernel
theorem dJ6_bitCount_0f7a4_45 : decode cJ6_bitCount_0f7a4 45 = .ok (.iushr, 1) := by decide +kernel
theorem dJ6_bitCount_0f7a4_46 : decode cJ6_bitCount_0f7a4 46 = .ok (.iadd, 1) := by decide +kernel
theorem dJ6_bitCount_0f7a4_47 : decode cJ6_bitCount_0f7a4 47 = .ok (.istore_n 0, 1) := by decide +kernel
theorem dJ6_bitCount_0f7a4_48 : decode cJ6_bitCount_0f7a4 48 = .ok (.iload_n 0, 1) := by decide +kernel
theorem dJ6_bitCount_0f7a4_49 : decode cJ6_bitCount_0f7a4 49 = .ok (.bipush 63, 2) := by decide +kernel
theorem dJ6_bitCount_0f7a4_51 : decode cJ6_bitCount_0f7a4 51 = .ok (.iand, 1) := by decide +kernel
theorem dJ6_bitCount_0f7a4_52 : decode cJ6_bitCount_0f7a4 52 = .ok (.ireturn, 1) := by decide +kernel
theorem dJ9_min_7cf53_0 : decode cJ9_min_7cf53 0 = .ok (.iload_n 0, 1) := by decide +kernel
theorem dJ9_min_7cf53_1 : decode cJ9_min_7cf53 1 = .ok (.iload_n 1, 1) := by decide +kernel
theorem dJ9_min_7cf53_2 : decode cJ9_min_7cf53 2 = .ok (.if_icmp .gt 7, 3) := by decide +kernel
theorem dJ9_min_7cf53_5 : decode cJ9_min_7cf53 5 = .ok (.iload_n 0, 1) := by decide +kernel
theorem dJ9_min_7cf53_6 : decode cJ9_min_7cf53 6 = .ok (.goto 4, 3) := by decide +kernel
theorem dJ9_min_7cf53_9 : decode cJ9_min_7cf53 9 = .ok (.iload_n 1, 1) := by decide +kernel
theorem dJ9_min_7cf53_10 : decode cJ9_min_7cf53 10 = .ok (.ireturn, 1) := by decide +kernel
