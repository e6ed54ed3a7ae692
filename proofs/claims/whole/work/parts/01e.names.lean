theorem dX9_shiftPrices_27 : decode cX9_shiftPrices 27 = .ok (.iaload, 1) := by decide +kernel
theorem dX9_shiftPrices_28 : decode cX9_shiftPrices 28 = .ok (.dup2, 1) := by decide +kernel
theorem dX9_shiftPrices_29 : decode cX9_shiftPrices 29 = .ok (.iaload, 1) := by decide +kernel
theorem dX9_shiftPrices_30 : decode cX9_shiftPrices 30 = .ok (.iload_n 1, 1) := by decide +kernel
theorem dX9_shiftPrices_31 : decode cX9_shiftPrices 31 = .ok (.iadd, 1) := by decide +kernel
theorem dX9_shiftPrices_32 : decode cX9_shiftPrices 32 = .ok (.iastore, 1) := by decide +kernel
theorem dX9_shiftPrices_33 : decode cX9_shiftPrices 33 = .ok (.aload_n 0, 1) := by decide +kernel
theorem dX9_shiftPrices_34 : decode cX9_shiftPrices 34 = .ok (.getfield 40, 3) := by decide +kernel
theorem dX9_shiftPrices_37 : decode cX9_shiftPrices 37 = .ok (.iload_n 2, 1) := by decide +kernel
theorem dX9_shiftPrices_38 : decode cX9_shiftPrices 38 = .ok (.dup2, 1) := by decide +kernel
theorem dX9_shiftPrices_39 : decode cX9_shiftPrices 39 = .ok (.iaload, 1) := by decide +kernel
theorem dX9_shiftPrices_40 : decode cX9_shiftPrices 40 = .ok (.iload_n 1, 1) := by decide +kernel
theorem dX9_shiftPrices_41 : decode cX9_shiftPrices 41 = .ok (.isub, 1) := by decide +kernel
theorem dX9_shiftPrices_42 : decode cX9_shiftPrices 42 = .ok (.iastore, 1) := by decide +kernel
theorem dX9_shiftPrices_43 : decode cX9_shiftPrices 43 = .ok (.goto 13, 3) := by decide +kernel
theorem dX9_shiftPrices_46 : decode cX9_shiftPrices 46 = .ok (.aload_n 0, 1) := by decide +kernel
theorem dX9_shiftPrices_47 : decode cX9_shiftPrices 47 = .ok (.getfield 49, 3) := by decide +kernel
theorem dX9_shiftPrices_50 : decode cX9_shiftPrices 50 = .ok (.iload_n 2, 1) := by decide +kernel
theorem dX9_shiftPrices_51 : decode cX9_shiftPrices 51 = .ok (.dup2, 1) := by decide +kernel
theorem dX9_shiftPrices_52 : decode cX9_shiftPrices 52 = .ok (.iaload, 1) := by decide +kernel
theorem dX9_shiftPrices_53 : decode cX9_shiftPrices 53 = .ok (.iload_n 1, 1) := by decide +kernel
theorem dX9_shiftPrices_54 : decode cX9_shiftPrices 54 = .ok (.isub, 1) := by decide +kernel
theorem dX9_shiftPrices_55 : decode cX9_shiftPrices 55 = .ok (.iastore, 1) := by decide +kernel
theorem dX9_shiftPrices_56 : decode cX9_shiftPrices 56 = .ok (.iinc 2 1, 3) := by decide +kernel
theorem dX9_shiftPrices_59 : decode cX9_shiftPrices 59 = .ok (.goto (-57), 3) := by decide +kernel
theorem dX9_shiftPrices_62 : decode cX9_shiftPrices 62 = .ok (.return_, 1) := by decide +kernel
theorem dX9_passOn_0 : decode cX9_passOn 0 = .ok (.iload_n 1, 1) := by decide +kernel
theorem dX9_passOn_1 : decode cX9_passOn 1 = .ok (.istore_n 2, 1) := by decide +kernel
theorem dX9_passOn_2 : decode cX9_passOn 2 = .ok (.iconst 0, 1) := by decide +kernel
theorem dX9_passOn_3 : decode cX9_passOn 3 = .ok (.istore_n 3, 1) := by decide +kernel
theorem dX9_passOn_4 : decode cX9_passOn 4 = .ok (.iload_n 3, 1) := by decide +kernel
theorem dX9_passOn_5 : decode cX9_passOn 5 = .ok (.aload_n 0, 1) := by decide +kernel
theorem dX9_passOn_6 : decode cX9_passOn 6 = .ok (.getfield 21, 3) := by decide +kernel
theorem dX9_passOn_9 : decode cX9_passOn 9 = .ok (.if_icmp .gt 37, 3) := by decide +kernel
theorem dX9_passOn_12 : decode cX9_passOn 12 = .ok (.iload_n 2, 1) := by decide +kernel
theorem dX9_passOn_13 : decode cX9_passOn 13 = .ok (.ifCond .eq 33, 3) := by decide +kernel
theorem dX9_passOn_16 : decode cX9_passOn 16 = .ok (.aload_n 0, 1) := by decide +kernel
theorem dX9_passOn_17 : decode cX9_passOn 17 = .ok (.getfield 46, 3) := by decide +kernel
theorem dX9_passOn_20 : decode cX9_passOn 20 = .ok (.iload_n 2, 1) := by decide +kernel
theorem dX9_passOn_21 : decode cX9_passOn 21 = .ok (.iaload, 1) := by decide +kernel
theorem dX9_passOn_22 : decode cX9_passOn 22 = .ok (.istore 4, 2) := by decide +kernel
theorem dX9_passOn_24 : decode cX9_passOn 24 = .ok (.aload_n 0, 1) := by decide +kernel
theorem dX9_passOn_25 : decode cX9_passOn 25 = .ok (.getfield 43, 3) := by decide +kernel
theorem dX9_passOn_28 : decode cX9_passOn 28 = .ok (.iload_n 2, 1) := by decide +kernel
theorem dX9_passOn_29 : decode cX9_passOn 29 = .ok (.aload_n 0, 1) := by decide +kernel
theorem dX9_passOn_30 : decode cX9_passOn 30 = .ok (.getfield 43, 3) := by decide +kernel
theorem dX9_passOn_33 : decode cX9_passOn 33 = .ok (.iload 4, 2) := by decide +kernel
theorem dX9_passOn_35 : decode cX9_passOn 35 = .ok (.iaload, 1) := by decide +kernel
theorem dX9_passOn_36 : decode cX9_passOn 36 = .ok (.iastore, 1) := by decide +kernel
theorem dX9_passOn_37 : decode cX9_passOn 37 = .ok (.iload 4, 2) := by decide +kernel
theorem dX9_passOn_39 : decode cX9_passOn 39 = .ok (.istore_n 2, 1) := by decide +kernel
theorem dX9_passOn_40 : decode cX9_passOn 40 = .ok (.iinc 3 1, 3) := by decide +kernel
theorem dX9_passOn_43 : decode cX9_passOn 43 = .ok (.goto (-39), 3) := by decide +kernel
theorem dX9_passOn_46 : decode cX9_passOn 46 = .ok (.return_, 1) := by decide +kernel
set_option maxRecDepth 20000 in
theorem ggX10_init_X7_init : GoodIn wsX10_init wsX7_init := goodIn_r _ [37, 38, 2, 3, 39, 40, 41, 42, 43, 122, 123, 124, 125] (by decide +kernel) (by decide +kernel)
set_option maxRecDepth 20000 in
theorem gX10_init_X7_init_n9 : GoodIn wsX10_init (wsX7_init) := ggX10_init_X7_init
set_option maxRecDepth 20000 in
theorem ggX10_init_X2_init : GoodIn wsX10_init wsX2_init := goodIn_r _ [45, 46, 2, 3, 47, 48, 49, 13, 14, 50, 51, 52, 53, 54, 55, 56, 57, 58, 59, 60, 61, 62, 42, 63, 134, 135, 136, 137, 138] (by decide +kernel) (by decide +kernel)
set_option maxRecDepth 20000 in
theorem gX10_init_X2_init_n18 : GoodIn wsX10_init (wsX2_init) := ggX10_init_X2_init
set_option maxRecDepth 20000 in
theorem ggX10_init_X5_init : GoodIn wsX10_init wsX5_init := goodIn_r _ [53, 54, 2, 3, 55, 56, 57, 58, 59, 60, 61, 62, 42, 63, 137, 138] (by decide +kernel) (by decide +kernel)
set_option maxRecDepth 20000 in
theorem gX10_init_X5_init : GoodIn wsX10_init (wsX5_init) := ggX10_init_X5_init
set_option maxRecDepth 20000 in
theorem ggX10_init_X0_init : GoodIn wsX10_init wsX0_init := goodIn_r _ [66, 67, 2, 3, 68, 42, 69, 70, 139, 140, 141] (by decide +kernel) (by decide +kernel)
set_option maxRecDepth 20000 in
theorem gX10_init_X0_init_n34 : GoodIn wsX10_init (wsX0_init) := ggX10_init_X0_init
set_option maxRecDepth 20000 in
theorem ggX10_init_X1_init : GoodIn wsX10_init wsX1_init := goodIn_r _ [72, 73, 2, 3, 74, 75, 42, 76, 77, 78, 79, 80, 81, 82, 83, 84, 85, 86, 87, 142, 143, 144, 145, 146, 147, 148, 173] (by decide +kernel) (by decide +kernel)
set_option maxRecDepth 20000 in
theorem gX10_init_X1_init_n41 : GoodIn wsX10_init (wsX1_init) := ggX10_init_X1_init
set_option maxRecDepth 20000 in
theorem ggX10_init_X9_init : GoodIn wsX10_init wsX9_init := goodIn_r _ [89, 90, 2, 3, 91, 92, 93, 94, 95, 42, 96, 97, 98, 99, 100, 101, 102, 103, 149, 150, 151, 152, 153, 154, 155, 156, 157, 158, 159, 160, 161] (by decide +kernel) (by decide +kernel)
set_option maxRecDepth 20000 in
theorem gX10_init_X9_init_n48 : GoodIn wsX10_init (wsX9_init) := ggX10_init_X9_init
set_option maxRecDepth 20000 in
theorem ggX10_init_X4_init : GoodIn wsX10_init wsX4_init := goodIn_r _ [105, 106, 2, 3, 107, 42, 108, 109, 110, 162, 163, 164, 165] (by decide +kernel) (by decide +kernel)
set_option maxRecDepth 20000 in
theorem gX10_init_X4_init_n55 : GoodIn wsX10_init (wsX4_init) := ggX10_init_X4_init
set_option maxRecDepth 20000 in
theorem ggX10_init_X8_init : GoodIn wsX10_init wsX8_init := goodIn_r _ [112, 113, 2, 3, 114, 115, 116, 42, 117, 118, 119, 120, 81, 82, 121, 84, 85, 86, 87, 166, 167, 168, 169, 170, 171, 172, 173] (by decide +kernel) (by decide +kernel)
set_option maxRecDepth 20000 in
theorem gX10_init_X8_init_n62 : GoodIn wsX10_init (wsX8_init) := ggX10_init_X8_init
theorem dX10_init_0 : decode cX10_init 0 = .ok (.aload_n 0, 1) := by decide +kernel
theorem dX10_init_1 : decode cX10_init 1 = .ok (.invokespecial 1, 3) := by decide +kernel
theorem dX10_init_4 : decode cX10_init 4 = .ok (.aload_n 0, 1) := by decide +kernel
theorem dX10_init_5 : decode cX10_init 5 = .ok (.new 7, 3) := by decide +kernel
theorem dX10_init_8 : decode cX10_init 8 = .ok (.dup, 1) := by decide +kernel
theorem dX10_init_9 : decode cX10_init 9 = .ok (.invokespecial 9, 3) := by decide +kernel
theorem dX10_init_12 : decode cX10_init 12 = .ok (.putfield 10, 3) := by decide +kernel
theorem dX10_init_15 : decode cX10_init 15 = .ok (.aload_n 0, 1) := by decide +kernel
theorem dX10_init_16 : decode cX10_init 16 = .ok (.new 16, 3) := by decide +kernel
theorem dX10_init_19 : decode cX10_init 19 = .ok (.dup, 1) := by decide +kernel
theorem dX10_init_20 : decode cX10_init 20 = .ok (.invokespecial 18, 3) := by decide +kernel
theorem dX10_init_23 : decode cX10_init 23 = .ok (.putfield 19, 3) := by decide +kernel
theorem dX10_init_26 : decode cX10_init 26 = .ok (.aload_n 0, 1) := by decide +kernel
theorem dX10_init_27 : decode cX10_init 27 = .ok (.new 23, 3) := by decide +kernel
theorem dX10_init_30 : decode cX10_init 30 = .ok (.dup, 1) := by decide +kernel
theorem dX10_init_31 : decode cX10_init 31 = .ok (.iconst 2, 1) := by decide +kernel
theorem dX10_init_32 : decode cX10_init 32 = .ok (.invokespecial 25, 3) := by decide +kernel
theorem dX10_init_35 : decode cX10_init 35 = .ok (.putfield 28, 3) := by decide +kernel
theorem dX10_init_38 : decode cX10_init 38 = .ok (.aload_n 0, 1) := by decide +kernel
theorem dX10_init_39 : decode cX10_init 39 = .ok (.new 32, 3) := by decide +kernel
theorem dX10_init_42 : decode cX10_init 42 = .ok (.dup, 1) := by decide +kernel
theorem dX10_init_43 : decode cX10_init 43 = .ok (.invokespecial 34, 3) := by decide +kernel
theorem dX10_init_46 : decode cX10_init 46 = .ok (.putfield 35, 3) := by decide +kernel
theorem dX10_init_49 : decode cX10_init 49 = .ok (.aload_n 0, 1) := by decide +kernel
theorem dX10_init_50 : decode cX10_init 50 = .ok (.new 39, 3) := by decide +kernel
theorem dX10_init_53 : decode cX10_init 53 = .ok (.dup, 1) := by decide +kernel
theorem dX10_init_54 : decode cX10_init 54 = .ok (.invokespecial 41, 3) := by decide +kernel
theorem dX10_init_57 : decode cX10_init 57 = .ok (.putfield 42, 3) := by decide +kernel
theorem dX10_init_60 : decode cX10_init 60 = .ok (.aload_n 0, 1) := by decide +kernel
theorem dX10_init_61 : decode cX10_init 61 = .ok (.new 46, 3) := by decide +kernel
theorem dX10_init_64 : decode cX10_init 64 = .ok (.dup, 1) := by decide +kernel
theorem dX10_init_65 : decode cX10_init 65 = .ok (.invokespecial 48, 3) := by decide +kernel
theorem dX10_init_68 : decode cX10_init 68 = .ok (.putfield 49, 3) := by decide +kernel
theorem dX10_init_71 : decode cX10_init 71 = .ok (.aload_n 0, 1) := by decide +kernel
theorem dX10_init_72 : decode cX10_init 72 = .ok (.new 53, 3) := by decide +kernel
theorem dX10_init_75 : decode cX10_init 75 = .ok (.dup, 1) := by decide +kernel
theorem dX10_init_76 : decode cX10_init 76 = .ok (.invokespecial 55, 3) := by decide +kernel
theorem dX10_init_79 : decode cX10_init 79 = .ok (.putfield 56, 3) := by decide +kernel
theorem dX10_init_82 : decode cX10_init 82 = .ok (.aload_n 0, 1) := by decide +kernel
theorem dX10_init_83 : decode cX10_init 83 = .ok (.new 60, 3) := by decide +kernel
theorem dX10_init_86 : decode cX10_init 86 = .ok (.dup, 1) := by decide +kernel
theorem dX10_init_87 : decode cX10_init 87 = .ok (.invokespecial 62, 3) := by decide +kernel
theorem dX10_init_90 : decode cX10_init 90 = .ok (.putfield 63, 3) := by decide +kernel
theorem dX10_init_93 : decode cX10_init 93 = .ok (.return_, 1) := by decide +kernel
set_option maxRecDepth 20000 in
theorem ggX10_told_X1_countAll : GoodIn wsX10_told wsX1_countAll := goodIn_r _ [17, 18, 19, 20, 21, 16, 22, 23, 24, 25, 26, 27, 28, 29, 30, 31, 32, 33, 34, 35, 36, 37, 38, 39, 40, 41, 42, 43, 44, 45, 46, 47, 48, 49, 50, 51, 52, 53, 54, 55, 56, 57, 58, 59, 60, 61, 62, 63, 64, 65, 66, 67, 68, 69, 70, 71, 72, 73, 74, 75, 76, 77, 78, 79, 80, 81, 82, 83, 84, 239, 240, 241, 242, 243, 244, 245, 246] (by decide +kernel) (by decide +kernel)
set_option maxRecDepth 20000 in
theorem gX10_told_X1_countAll : GoodIn wsX10_told (wsV RX10 74 RX1 yX1_countAll wsX1_countAll) := goodIn_app (goodIn_of _ (by decide +kernel)) ggX10_told_X1_countAll
set_option maxRecDepth 20000 in
theorem ggX10_told_X1_countTwinPairs : GoodIn wsX10_told wsX1_countTwinPairs := goodIn_r _ [88, 19, 20, 21, 16, 22, 23, 24, 25, 26, 27, 28, 18, 29, 30, 31, 32, 33, 34, 35, 36, 37, 38, 39, 40, 41, 42, 43, 44, 45, 46, 47, 48, 49, 50, 51, 52, 53, 54, 55, 56, 57, 58, 59, 60, 61, 62, 63, 64, 65, 66, 67, 68, 69, 70, 71, 72, 73, 74, 75, 76, 77, 78, 79, 80, 81, 82, 83, 84, 89, 90, 91, 92, 93, 94, 95, 96, 97, 98, 99, 100, 239, 240, 241, 242, 243, 244, 245, 246] (by decide +kernel) (by decide +kernel)
set_option maxRecDepth 20000 in
theorem gX10_told_X1_countTwinPairs : GoodIn wsX10_told (wsV RX10 78 RX1 yX1_countTwinPairs wsX1_countTwinPairs) := goodIn_app (goodIn_of _ (by decide +kernel)) ggX10_told_X1_countTwinPairs
set_option maxRecDepth 20000 in
theorem ggX10_told_X4_least : GoodIn wsX10_told wsX4_least := goodIn_r _ [105, 106, 107, 108, 109, 110, 111, 112, 113, 114, 115, 104, 116, 117, 118, 119, 120, 121, 122, 123, 124, 125, 126, 127, 128, 129, 130, 131, 132, 133, 134, 135, 136, 137, 138, 139, 140, 141, 142, 143, 144, 145, 146, 147, 71, 72, 73, 74, 75, 76, 148, 149, 150, 151, 152, 153, 154, 155, 156, 157, 158, 159, 160, 161, 162, 37, 38, 39, 163, 164, 165, 166, 167, 168, 169, 170, 171, 172, 173, 174, 175, 176, 177, 178, 179, 180, 181, 182, 183, 184, 185, 186, 187, 188, 189, 190, 247, 248, 249, 250, 229, 230, 231, 232, 251, 252, 253, 254, 255, 256, 257, 258, 259, 260, 261, 262, 263] (by decide +kernel) (by decide +kernel)
set_option maxRecDepth 20000 in
theorem gX10_told_X4_least : GoodIn wsX10_told (wsV RX10 81 RX4 yX4_least wsX4_least) := goodIn_app (goodIn_of _ (by decide +kernel)) ggX10_told_X4_least
set_option maxRecDepth 20000 in
theorem ggX10_told_X7_countUnlikeForms : GoodIn wsX10_told wsX7_countUnlikeForms := goodIn_r _ [194, 129, 195, 196, 197, 122, 198, 199, 200, 120, 121, 123, 124, 125, 126, 127, 128, 201, 202, 42, 203, 204, 110, 111, 112, 205, 53, 54, 83, 56, 57, 58, 41, 43, 229, 230, 231, 232] (by decide +kernel) (by decide +kernel)
set_option maxRecDepth 20000 in
theorem gX10_told_X7_countUnlikeForms : GoodIn wsX10_told (wsV RX10 85 RX7 yX7_countUnlikeForms wsX7_countUnlikeForms) := goodIn_app (goodIn_of _ (by decide +kernel)) ggX10_told_X7_countUnlikeForms
set_option maxRecDepth 20000 in
theorem ggX10_told_X0_firstWrong : GoodIn wsX10_told wsX0_firstWrong := goodIn_r _ [210, 211, 212, 213, 214, 215, 216, 209, 217, 218, 219, 120, 121, 122, 123, 124, 125, 126, 127, 128, 129, 220, 136, 137, 138, 139, 140, 141, 142, 143, 144, 145, 146, 147, 71, 72, 73, 74, 75, 76, 148, 149, 150, 151, 152, 153, 154, 155, 156, 157, 158, 111, 159, 160, 110, 112, 161, 162, 37, 38, 39, 163, 164, 165, 166, 167, 168, 169, 170, 171, 172, 173, 174, 175, 176, 177, 178, 179, 180, 181, 182, 183, 184, 185, 233, 234, 235, 229, 230, 231, 232, 251, 252, 253, 254, 255, 256, 257, 258, 259, 260, 261, 262, 263] (by decide +kernel) (by decide +kernel)
set_option maxRecDepth 20000 in
theorem gX10_told_X0_firstWrong : GoodIn wsX10_told (wsV RX10 92 RX0 yX0_firstWrong wsX0_firstWrong) := goodIn_app (goodIn_of _ (by decide +kernel)) ggX10_told_X0_firstWrong
theorem dX10_told_0 : decode cX10_told 0 = .ok (.iload_n 1, 1) := by decide +kernel
theorem dX10_told_1 : decode cX10_told 1 = .ok (.tableswitch 165 0 9 #[55, 63, 71, 86, 101, 117, 125, 133, 149, 157], 55) := by decide +kernel
theorem dX10_told_56 : decode cX10_told 56 = .ok (.aload_n 0, 1) := by decide +kernel
theorem dX10_told_57 : decode cX10_told 57 = .ok (.getfield 10, 3) := by decide +kernel
theorem dX10_told_60 : decode cX10_told 60 = .ok (.getfield 67, 3) := by decide +kernel
theorem dX10_told_63 : decode cX10_told 63 = .ok (.ireturn, 1) := by decide +kernel
theorem dX10_told_64 : decode cX10_told 64 = .ok (.aload_n 0, 1) := by decide +kernel
theorem dX10_told_65 : decode cX10_told 65 = .ok (.getfield 10, 3) := by decide +kernel
theorem dX10_told_68 : decode cX10_told 68 = .ok (.getfield 71, 3) := by decide +kernel
theorem dX10_told_71 : decode cX10_told 71 = .ok (.ireturn, 1) := by decide +kernel
theorem dX10_told_72 : decode cX10_told 72 = .ok (.aload_n 0, 1) := by decide +kernel
theorem dX10_told_73 : decode cX10_told 73 = .ok (.getfield 42, 3) := by decide +kernel
theorem dX10_told_76 : decode cX10_told 76 = .ok (.aload_n 0, 1) := by decide +kernel
theorem dX10_told_77 : decode cX10_told 77 = .ok (.getfield 10, 3) := by decide +kernel
theorem dX10_told_80 : decode cX10_told 80 = .ok (.getfield 67, 3) := by decide +kernel
theorem dX10_told_83 : decode cX10_told 83 = .ok (.invokevirtual 74, 3) := by decide +kernel
theorem dX10_told_86 : decode cX10_told 86 = .ok (.ireturn, 1) := by decide +kernel
theorem dX10_told_87 : decode cX10_told 87 = .ok (.aload_n 0, 1) := by decide +kernel
theorem dX10_told_88 : decode cX10_told 88 = .ok (.getfield 42, 3) := by decide +kernel
theorem dX10_told_91 : decode cX10_told 91 = .ok (.aload_n 0, 1) := by decide +kernel
theorem dX10_told_92 : decode cX10_told 92 = .ok (.getfield 10, 3) := by decide +kernel
theorem dX10_told_95 : decode cX10_told 95 = .ok (.getfield 67, 3) := by decide +kernel
theorem dX10_told_98 : decode cX10_told 98 = .ok (.invokevirtual 78, 3) := by decide +kernel
theorem dX10_told_101 : decode cX10_told 101 = .ok (.ireturn, 1) := by decide +kernel
theorem dX10_told_102 : decode cX10_told 102 = .ok (.aload_n 0, 1) := by decide +kernel
theorem dX10_told_103 : decode cX10_told 103 = .ok (.getfield 56, 3) := by decide +kernel
theorem dX10_told_106 : decode cX10_told 106 = .ok (.aload_n 0, 1) := by decide +kernel
theorem dX10_told_107 : decode cX10_told 107 = .ok (.getfield 10, 3) := by decide +kernel
theorem dX10_told_110 : decode cX10_told 110 = .ok (.aload_n 0, 1) := by decide +kernel
theorem dX10_told_111 : decode cX10_told 111 = .ok (.getfield 49, 3) := by decide +kernel
theorem dX10_told_114 : decode cX10_told 114 = .ok (.invokevirtual 81, 3) := by decide +kernel
theorem dX10_told_117 : decode cX10_told 117 = .ok (.ireturn, 1) := by decide +kernel
theorem dX10_told_118 : decode cX10_told 118 = .ok (.aload_n 0, 1) := by decide +kernel
theorem dX10_told_119 : decode cX10_told 119 = .ok (.getfield 10, 3) := by decide +kernel
theorem dX10_told_122 : decode cX10_told 122 = .ok (.invokevirtual 85, 3) := by decide +kernel
theorem dX10_told_125 : decode cX10_told 125 = .ok (.ireturn, 1) := by decide +kernel
theorem dX10_told_126 : decode cX10_told 126 = .ok (.aload_n 0, 1) := by decide +kernel
theorem dX10_told_127 : decode cX10_told 127 = .ok (.getfield 35, 3) := by decide +kernel
theorem dX10_told_130 : decode cX10_told 130 = .ok (.getfield 89, 3) := by decide +kernel
theorem dX10_told_133 : decode cX10_told 133 = .ok (.ireturn, 1) := by decide +kernel
theorem dX10_told_134 : decode cX10_told 134 = .ok (.aload_n 0, 1) := by decide +kernel
theorem dX10_told_135 : decode cX10_told 135 = .ok (.getfield 35, 3) := by decide +kernel
theorem dX10_told_138 : decode cX10_told 138 = .ok (.aload_n 0, 1) := by decide +kernel
theorem dX10_told_139 : decode cX10_told 139 = .ok (.getfield 10, 3) := by decide +kernel
theorem dX10_told_142 : decode cX10_told 142 = .ok (.aload_n 0, 1) := by decide +kernel
theorem dX10_told_143 : decode cX10_told 143 = .ok (.getfield 49, 3) := by decide +kernel
theorem dX10_told_146 : decode cX10_told 146 = .ok (.invokevirtual 92, 3) := by decide +kernel
theorem dX10_told_149 : decode cX10_told 149 = .ok (.ireturn, 1) := by decide +kernel
theorem dX10_told_150 : decode cX10_told 150 = .ok (.aload_n 0, 1) := by decide +kernel
theorem dX10_told_151 : decode cX10_told 151 = .ok (.getfield 19, 3) := by decide +kernel
theorem dX10_told_154 : decode cX10_told 154 = .ok (.getfield 95, 3) := by decide +kernel
theorem dX10_told_157 : decode cX10_told 157 = .ok (.ireturn, 1) := by decide +kernel
theorem dX10_told_158 : decode cX10_told 158 = .ok (.aload_n 0, 1) := by decide +kernel
theorem dX10_told_159 : decode cX10_told 159 = .ok (.getfield 10, 3) := by decide +kernel
theorem dX10_told_162 : decode cX10_told 162 = .ok (.getfield 98, 3) := by decide +kernel
theorem dX10_told_165 : decode cX10_told 165 = .ok (.ireturn, 1) := by decide +kernel
theorem dX10_told_166 : decode cX10_told 166 = .ok (.ldc 101, 2) := by decide +kernel
theorem dX10_told_168 : decode cX10_told 168 = .ok (.ireturn, 1) := by decide +kernel
set_option maxRecDepth 20000 in
theorem ggX10_at_X7_has : GoodIn wsX10_at wsX7_has := goodIn_r _ [10, 11, 126, 127, 128, 129] (by decide +kernel) (by decide +kernel)
set_option maxRecDepth 20000 in
theorem gX10_at_X7_has : GoodIn wsX10_at (wsV RX10 102 RX7 yX7_has wsX7_has) := goodIn_app (goodIn_of _ (by decide +kernel)) ggX10_at_X7_has
set_option maxRecDepth 20000 in
theorem ggX10_at_X7_setAt : GoodIn wsX10_at wsX7_setAt := goodIn_r _ [15, 16, 17, 7, 8, 9, 10, 11, 126, 127, 128, 129] (by decide +kernel) (by decide +kernel)
set_option maxRecDepth 20000 in
theorem gX10_at_X7_setAt : GoodIn wsX10_at (wsV RX10 107 RX7 yX7_setAt wsX7_setAt) := goodIn_app (goodIn_of _ (by decide +kernel)) ggX10_at_X7_setAt
set_option maxRecDepth 20000 in
theorem ggX10_at_J6_bitCount_0f7a4 : GoodIn wsX10_at wsJ6_bitCount_0f7a4 := goodIn_r _ [21, 22, 23, 24] (by decide +kernel) (by decide +kernel)
set_option maxRecDepth 20000 in
theorem gX10_at_J6_bitCount_0f7a4 : GoodIn wsX10_at (va_wsS RX10 110 yJ6_bitCount_0f7a4 wsJ6_bitCount_0f7a4) := goodIn_app (goodIn_of _ (by decide +kernel)) ggX10_at_J6_bitCount_0f7a4
set_option maxRecDepth 20000 in
theorem ggX10_at_X3_formOf : GoodIn wsX10_at wsX3_formOf := goodIn_r _ [28, 29, 30, 31, 32, 33, 34, 27, 35, 36, 37, 38, 39, 40, 41] (by decide +kernel) (by decide +kernel)
set_option maxRecDepth 20000 in
theorem gX10_at_X3_formOf : GoodIn wsX10_at (va_wsS RX10 115 yX3_formOf wsX3_formOf) := goodIn_app (goodIn_of _ (by decide +kernel)) ggX10_at_X3_formOf
set_option maxRecDepth 20000 in
theorem ggX10_at_X3_kinOf : GoodIn wsX10_at wsX3_kinOf := goodIn_r _ [44, 33, 34, 27, 35, 36, 37, 38, 39, 40, 41] (by decide +kernel) (by decide +kernel)
set_option maxRecDepth 20000 in
theorem gX10_at_X3_kinOf : GoodIn wsX10_at (va_wsS RX10 121 yX3_kinOf wsX3_kinOf) := goodIn_app (goodIn_of _ (by decide +kernel)) ggX10_at_X3_kinOf
set_option maxRecDepth 20000 in
theorem ggX10_at_X3_firstImageThatIsForm : GoodIn wsX10_at wsX3_firstImageThatIsForm := goodIn_r _ [47, 48, 26, 27, 28, 29, 30, 31, 32, 33, 34, 35, 36, 37, 38, 39, 40, 41] (by decide +kernel) (by decide +kernel)
set_option maxRecDepth 20000 in
theorem gX10_at_X3_firstImageThatIsForm : GoodIn wsX10_at (va_wsS RX10 124 yX3_firstImageThatIsForm wsX3_firstImageThatIsForm) := goodIn_app (goodIn_of _ (by decide +kernel)) ggX10_at_X3_firstImageThatIsForm
set_option maxRecDepth 20000 in
theorem ggX10_at_X1_countTwins : GoodIn wsX10_at wsX1_countTwins := goodIn_r _ [53, 54, 55, 56, 57, 58, 52, 59, 60, 61, 62, 63, 64, 65, 66, 67, 68, 69, 70, 71, 72, 73, 74, 75, 76, 77, 78, 40, 27, 41, 79, 80, 81, 82, 83, 84, 85, 86, 87, 34, 35, 88, 37, 38, 39, 89, 90, 91, 92, 93, 94, 95, 96, 97, 98, 19, 20, 21, 22, 23, 24, 99, 100, 101, 102, 103, 104, 36, 105, 106, 107, 108, 109, 110, 111, 112, 113, 130, 131, 132, 133, 134, 135, 136, 137] (by decide +kernel) (by decide +kernel)
set_option maxRecDepth 20000 in
theorem gX10_at_X1_countTwins : GoodIn wsX10_at (wsV RX10 127 RX1 yX1_countTwins wsX1_countTwins) := goodIn_app (goodIn_of _ (by decide +kernel)) ggX10_at_X1_countTwins
set_option maxRecDepth 20000 in
theorem ggX10_at_X1_numberOf : GoodIn wsX10_at wsX1_numberOf := goodIn_r _ [117, 55, 56, 57, 58, 52, 59, 60, 61, 62, 63, 64, 65, 66, 67, 68, 69, 70, 71, 72, 73, 74, 75, 76, 77, 78, 40, 27, 41, 79, 80, 81, 82, 83, 84, 85, 86, 87, 34, 35, 88, 37, 38, 39, 89, 90, 91, 92, 93, 94, 95, 96, 97, 54, 98, 19, 20, 21, 22, 23, 24, 99, 100, 101, 102, 103, 104, 36, 105, 106, 107, 108, 109, 110, 111, 112, 113, 130, 131, 132, 133, 134, 135, 136, 137] (by decide +kernel) (by decide +kernel)
set_option maxRecDepth 20000 in
theorem gX10_at_X1_numberOf : GoodIn wsX10_at (wsV RX10 130 RX1 yX1_numberOf wsX1_numberOf) := goodIn_app (goodIn_of _ (by decide +kernel)) ggX10_at_X1_numberOf
theorem dX10_at_0 : decode cX10_at 0 = .ok (.aload_n 0, 1) := by decide +kernel
theorem dX10_at_1 : decode cX10_at 1 = .ok (.getfield 10, 3) := by decide +kernel
theorem dX10_at_4 : decode cX10_at 4 = .ok (.iload_n 1, 1) := by decide +kernel
theorem dX10_at_5 : decode cX10_at 5 = .ok (.invokevirtual 102, 3) := by decide +kernel
theorem dX10_at_8 : decode cX10_at 8 = .ok (.ifCond .ne 6, 3) := by decide +kernel
theorem dX10_at_11 : decode cX10_at 11 = .ok (.ldc 106, 2) := by decide +kernel
theorem dX10_at_13 : decode cX10_at 13 = .ok (.ireturn, 1) := by decide +kernel
theorem dX10_at_14 : decode cX10_at 14 = .ok (.aload_n 0, 1) := by decide +kernel
theorem dX10_at_15 : decode cX10_at 15 = .ok (.getfield 10, 3) := by decide +kernel
theorem dX10_at_18 : decode cX10_at 18 = .ok (.iload_n 1, 1) := by decide +kernel
theorem dX10_at_19 : decode cX10_at 19 = .ok (.invokevirtual 107, 3) := by decide +kernel
theorem dX10_at_22 : decode cX10_at 22 = .ok (.istore_n 3, 1) := by decide +kernel
theorem dX10_at_23 : decode cX10_at 23 = .ok (.aload_n 0, 1) := by decide +kernel
theorem dX10_at_24 : decode cX10_at 24 = .ok (.getfield 10, 3) := by decide +kernel
theorem dX10_at_27 : decode cX10_at 27 = .ok (.getfield 67, 3) := by decide +kernel
theorem dX10_at_30 : decode cX10_at 30 = .ok (.istore 4, 2) := by decide +kernel
theorem dX10_at_32 : decode cX10_at 32 = .ok (.iload_n 2, 1) := by decide +kernel
theorem dX10_at_33 : decode cX10_at 33 = .ok (.tableswitch 103 0 6 #[43, 45, 50, 57, 64, 71, 87], 43) := by decide +kernel
theorem dX10_at_76 : decode cX10_at 76 = .ok (.iload_n 3, 1) := by decide +kernel
theorem dX10_at_77 : decode cX10_at 77 = .ok (.ireturn, 1) := by decide +kernel
theorem dX10_at_78 : decode cX10_at 78 = .ok (.iload_n 3, 1) := by decide +kernel
theorem dX10_at_79 : decode cX10_at 79 = .ok (.invokestatic 110, 3) := by decide +kernel
theorem dX10_at_82 : decode cX10_at 82 = .ok (.ireturn, 1) := by decide +kernel
theorem dX10_at_83 : decode cX10_at 83 = .ok (.iload_n 3, 1) := by decide +kernel
theorem dX10_at_84 : decode cX10_at 84 = .ok (.iload 4, 2) := by decide +kernel
theorem dX10_at_86 : decode cX10_at 86 = .ok (.invokestatic 115, 3) := by decide +kernel
theorem dX10_at_89 : decode cX10_at 89 = .ok (.ireturn, 1) := by decide +kernel
theorem dX10_at_90 : decode cX10_at 90 = .ok (.iload_n 3, 1) := by decide +kernel
theorem dX10_at_91 : decode cX10_at 91 = .ok (.iload 4, 2) := by decide +kernel
theorem dX10_at_93 : decode cX10_at 93 = .ok (.invokestatic 121, 3) := by decide +kernel
theorem dX10_at_96 : decode cX10_at 96 = .ok (.ireturn, 1) := by decide +kernel
theorem dX10_at_97 : decode cX10_at 97 = .ok (.iload_n 3, 1) := by decide +kernel
theorem dX10_at_98 : decode cX10_at 98 = .ok (.iload 4, 2) := by decide +kernel
theorem dX10_at_100 : decode cX10_at 100 = .ok (.invokestatic 124, 3) := by decide +kernel
theorem dX10_at_103 : decode cX10_at 103 = .ok (.ireturn, 1) := by decide +kernel
theorem dX10_at_104 : decode cX10_at 104 = .ok (.aload_n 0, 1) := by decide +kernel
theorem dX10_at_105 : decode cX10_at 105 = .ok (.getfield 42, 3) := by decide +kernel
theorem dX10_at_108 : decode cX10_at 108 = .ok (.iload_n 3, 1) := by decide +kernel
theorem dX10_at_109 : decode cX10_at 109 = .ok (.iload 4, 2) := by decide +kernel
theorem dX10_at_111 : decode cX10_at 111 = .ok (.invokestatic 115, 3) := by decide +kernel
theorem dX10_at_114 : decode cX10_at 114 = .ok (.iload 4, 2) := by decide +kernel
theorem dX10_at_116 : decode cX10_at 116 = .ok (.invokevirtual 127, 3) := by decide +kernel
theorem dX10_at_119 : decode cX10_at 119 = .ok (.ireturn, 1) := by decide +kernel
theorem dX10_at_120 : decode cX10_at 120 = .ok (.aload_n 0, 1) := by decide +kernel
theorem dX10_at_121 : decode cX10_at 121 = .ok (.getfield 42, 3) := by decide +kernel
theorem dX10_at_124 : decode cX10_at 124 = .ok (.iload_n 3, 1) := by decide +kernel
theorem dX10_at_125 : decode cX10_at 125 = .ok (.iload 4, 2) := by decide +kernel
theorem dX10_at_127 : decode cX10_at 127 = .ok (.invokestatic 115, 3) := by decide +kernel
theorem dX10_at_130 : decode cX10_at 130 = .ok (.iload 4, 2) := by decide +kernel
theorem dX10_at_132 : decode cX10_at 132 = .ok (.invokevirtual 130, 3) := by decide +kernel
theorem dX10_at_135 : decode cX10_at 135 = .ok (.ireturn, 1) := by decide +kernel
theorem dX10_at_136 : decode cX10_at 136 = .ok (.ldc 101, 2) := by decide +kernel
theorem dX10_at_138 : decode cX10_at 138 = .ok (.ireturn, 1) := by decide +kernel
set_option maxRecDepth 20000 in
theorem ggX10_interval_X7_has : GoodIn wsX10_interval wsX7_has := goodIn_r _ [9, 10, 42, 43, 44, 45] (by decide +kernel) (by decide +kernel)
set_option maxRecDepth 20000 in
theorem gX10_interval_X7_has : GoodIn wsX10_interval (wsV RX10 102 RX7 yX7_has wsX7_has) := goodIn_app (goodIn_of _ (by decide +kernel)) ggX10_interval_X7_has
set_option maxRecDepth 20000 in
theorem ggX10_interval_X7_setAt : GoodIn wsX10_interval wsX7_setAt := goodIn_r _ [14, 15, 16, 6, 7, 8, 9, 10, 42, 43, 44, 45] (by decide +kernel) (by decide +kernel)
set_option maxRecDepth 20000 in
theorem gX10_interval_X7_setAt : GoodIn wsX10_interval (wsV RX10 107 RX7 yX7_setAt wsX7_setAt) := goodIn_app (goodIn_of _ (by decide +kernel)) ggX10_interval_X7_setAt
set_option maxRecDepth 20000 in
theorem ggX10_interval_X3_pairsApart : GoodIn wsX10_interval wsX3_pairsApart := goodIn_r _ [20, 21, 22, 19, 23, 24, 25, 26, 27, 28, 29, 30, 31, 32, 33] (by decide +kernel) (by decide +kernel)
set_option maxRecDepth 20000 in
theorem gX10_interval_X3_pairsApart : GoodIn wsX10_interval (va_wsS RX10 133 yX3_pairsApart wsX3_pairsApart) := goodIn_app (goodIn_of _ (by decide +kernel)) ggX10_interval_X3_pairsApart
theorem dX10_interval_0 : decode cX10_interval 0 = .ok (.aload_n 0, 1) := by decide +kernel
theorem dX10_interval_1 : decode cX10_interval 1 = .ok (.getfield 10, 3) := by decide +kernel
theorem dX10_interval_4 : decode cX10_interval 4 = .ok (.iload_n 1, 1) := by decide +kernel
theorem dX10_interval_5 : decode cX10_interval 5 = .ok (.invokevirtual 102, 3) := by decide +kernel
theorem dX10_interval_8 : decode cX10_interval 8 = .ok (.ifCond .ne 6, 3) := by decide +kernel
theorem dX10_interval_11 : decode cX10_interval 11 = .ok (.ldc 106, 2) := by decide +kernel
theorem dX10_interval_13 : decode cX10_interval 13 = .ok (.ireturn, 1) := by decide +kernel
theorem dX10_interval_14 : decode cX10_interval 14 = .ok (.iload_n 2, 1) := by decide +kernel
theorem dX10_interval_15 : decode cX10_interval 15 = .ok (.iconst 1, 1) := by decide +kernel
theorem dX10_interval_16 : decode cX10_interval 16 = .ok (.if_icmp .lt 16, 3) := by decide +kernel
theorem dX10_interval_19 : decode cX10_interval 19 = .ok (.iload_n 2, 1) := by decide +kernel
theorem dX10_interval_20 : decode cX10_interval 20 = .ok (.aload_n 0, 1) := by decide +kernel
theorem dX10_interval_21 : decode cX10_interval 21 = .ok (.getfield 10, 3) := by decide +kernel
theorem dX10_interval_24 : decode cX10_interval 24 = .ok (.getfield 67, 3) := by decide +kernel
theorem dX10_interval_27 : decode cX10_interval 27 = .ok (.iconst 2, 1) := by decide +kernel
theorem dX10_interval_28 : decode cX10_interval 28 = .ok (.idiv, 1) := by decide +kernel
theorem dX10_interval_29 : decode cX10_interval 29 = .ok (.if_icmp .le 6, 3) := by decide +kernel
theorem dX10_interval_32 : decode cX10_interval 32 = .ok (.ldc 101, 2) := by decide +kernel
theorem dX10_interval_34 : decode cX10_interval 34 = .ok (.ireturn, 1) := by decide +kernel
theorem dX10_interval_35 : decode cX10_interval 35 = .ok (.aload_n 0, 1) := by decide +kernel
theorem dX10_interval_36 : decode cX10_interval 36 = .ok (.getfield 10, 3) := by decide +kernel
theorem dX10_interval_39 : decode cX10_interval 39 = .ok (.iload_n 1, 1) := by decide +kernel
theorem dX10_interval_40 : decode cX10_interval 40 = .ok (.invokevirtual 107, 3) := by decide +kernel
theorem dX10_interval_43 : decode cX10_interval 43 = .ok (.iload_n 2, 1) := by decide +kernel
theorem dX10_interval_44 : decode cX10_interval 44 = .ok (.aload_n 0, 1) := by decide +kernel
theorem dX10_interval_45 : decode cX10_interval 45 = .ok (.getfield 10, 3) := by decide +kernel
theorem dX10_interval_48 : decode cX10_interval 48 = .ok (.getfield 67, 3) := by decide +kernel
theorem dX10_interval_51 : decode cX10_interval 51 = .ok (.invokestatic 133, 3) := by decide +kernel
theorem dX10_interval_54 : decode cX10_interval 54 = .ok (.ireturn, 1) := by decide +kernel
set_option maxRecDepth 20000 in
theorem ggX10_forms_X1_count : GoodIn wsX10_forms wsX1_count := goodIn_r _ [9, 10, 11, 12, 8, 13, 14, 15, 16, 17, 18, 19, 20, 21, 22, 23, 24, 25, 26, 27, 28, 29, 30, 31, 32, 33, 34, 35, 36, 37, 38, 39, 40, 41, 42, 43, 44, 45, 46, 47, 48, 49, 50, 51, 52, 53, 54, 55, 56, 57, 58, 59, 60, 61, 62, 63, 64, 65, 66, 67, 68, 69, 70, 71, 72, 73, 74, 75, 76, 77, 78, 79, 80, 81, 82, 83, 84, 97, 98, 99, 100, 101, 102, 103, 104] (by decide +kernel) (by decide +kernel)
set_option maxRecDepth 20000 in
theorem gX10_forms_X1_count : GoodIn wsX10_forms (wsV RX10 137 RX1 yX1_count wsX1_count) := goodIn_app (goodIn_of _ (by decide +kernel)) ggX10_forms_X1_count
theorem dX10_forms_0 : decode cX10_forms 0 = .ok (.iload_n 1, 1) := by decide +kernel
theorem dX10_forms_1 : decode cX10_forms 1 = .ok (.ifCond .lt 14, 3) := by decide +kernel
theorem dX10_forms_4 : decode cX10_forms 4 = .ok (.iload_n 1, 1) := by decide +kernel
theorem dX10_forms_5 : decode cX10_forms 5 = .ok (.aload_n 0, 1) := by decide +kernel
theorem dX10_forms_6 : decode cX10_forms 6 = .ok (.getfield 10, 3) := by decide +kernel
theorem dX10_forms_9 : decode cX10_forms 9 = .ok (.getfield 67, 3) := by decide +kernel
theorem dX10_forms_12 : decode cX10_forms 12 = .ok (.if_icmp .le 6, 3) := by decide +kernel
theorem dX10_forms_15 : decode cX10_forms 15 = .ok (.ldc 101, 2) := by decide +kernel
theorem dX10_forms_17 : decode cX10_forms 17 = .ok (.ireturn, 1) := by decide +kernel
theorem dX10_forms_18 : decode cX10_forms 18 = .ok (.aload_n 0, 1) := by decide +kernel
theorem dX10_forms_19 : decode cX10_forms 19 = .ok (.getfield 42, 3) := by decide +kernel
theorem dX10_forms_22 : decode cX10_forms 22 = .ok (.iload_n 1, 1) := by decide +kernel
theorem dX10_forms_23 : decode cX10_forms 23 = .ok (.aload_n 0, 1) := by decide +kernel
theorem dX10_forms_24 : decode cX10_forms 24 = .ok (.getfield 10, 3) := by decide +kernel
theorem dX10_forms_27 : decode cX10_forms 27 = .ok (.getfield 67, 3) := by decide +kernel
theorem dX10_forms_30 : decode cX10_forms 30 = .ok (.invokevirtual 137, 3) := by decide +kernel
theorem dX10_forms_33 : decode cX10_forms 33 = .ok (.ireturn, 1) := by decide +kernel
set_option maxRecDepth 20000 in
theorem ggX10_formAt_X1_count : GoodIn wsX10_formAt wsX1_count := goodIn_r _ [10, 11, 12, 13, 9, 14, 15, 16, 17, 18, 19, 20, 21, 22, 23, 24, 25, 26, 27, 28, 29, 30, 31, 32, 33, 34, 35, 36, 37, 38, 39, 40, 41, 42, 43, 44, 45, 46, 47, 48, 49, 50, 51, 52, 53, 54, 55, 56, 57, 58, 59, 60, 61, 62, 63, 64, 65, 66, 67, 68, 69, 70, 71, 72, 73, 74, 75, 76, 77, 78, 79, 80, 81, 82, 83, 84, 85, 102, 103, 104, 105, 106, 107, 108, 109] (by decide +kernel) (by decide +kernel)
set_option maxRecDepth 20000 in
theorem gX10_formAt_X1_count : GoodIn wsX10_formAt (wsV RX10 137 RX1 yX1_count wsX1_count) := goodIn_app (goodIn_of _ (by decide +kernel)) ggX10_formAt_X1_count
set_option maxRecDepth 20000 in
theorem ggX10_formAt_X1_form : GoodIn wsX10_formAt wsX1_form := goodIn_r _ [89, 61, 11, 12, 13, 9, 14, 15, 16, 17, 18, 19, 20, 21, 22, 23, 24, 25, 26, 27, 28, 29, 30, 31, 32, 33, 34, 35, 36, 37, 38, 39, 40, 41, 42, 43, 44, 45, 46, 47, 48, 49, 50, 51, 52, 53, 54, 55, 56, 57, 58, 59, 60, 62, 63, 64, 65, 66, 67, 68, 69, 70, 71, 72, 73, 74, 75, 76, 77, 82, 83, 84, 85, 78, 79, 80, 81, 102, 103, 104, 105, 106, 107, 108, 109] (by decide +kernel) (by decide +kernel)
set_option maxRecDepth 20000 in
theorem gX10_formAt_X1_form : GoodIn wsX10_formAt (wsV RX10 140 RX1 yX1_form wsX1_form) := goodIn_app (goodIn_of _ (by decide +kernel)) ggX10_formAt_X1_form
theorem dX10_formAt_0 : decode cX10_formAt 0 = .ok (.iload_n 1, 1) := by decide +kernel
theorem dX10_formAt_1 : decode cX10_formAt 1 = .ok (.ifCond .lt 14, 3) := by decide +kernel
theorem dX10_formAt_4 : decode cX10_formAt 4 = .ok (.iload_n 1, 1) := by decide +kernel
theorem dX10_formAt_5 : decode cX10_formAt 5 = .ok (.aload_n 0, 1) := by decide +kernel
theorem dX10_formAt_6 : decode cX10_formAt 6 = .ok (.getfield 10, 3) := by decide +kernel
theorem dX10_formAt_9 : decode cX10_formAt 9 = .ok (.getfield 67, 3) := by decide +kernel
theorem dX10_formAt_12 : decode cX10_formAt 12 = .ok (.if_icmp .le 6, 3) := by decide +kernel
theorem dX10_formAt_15 : decode cX10_formAt 15 = .ok (.ldc 101, 2) := by decide +kernel
theorem dX10_formAt_17 : decode cX10_formAt 17 = .ok (.ireturn, 1) := by decide +kernel
theorem dX10_formAt_18 : decode cX10_formAt 18 = .ok (.iload_n 2, 1) := by decide +kernel
theorem dX10_formAt_19 : decode cX10_formAt 19 = .ok (.ifCond .lt 22, 3) := by decide +kernel
theorem dX10_formAt_22 : decode cX10_formAt 22 = .ok (.iload_n 2, 1) := by decide +kernel
theorem dX10_formAt_23 : decode cX10_formAt 23 = .ok (.aload_n 0, 1) := by decide +kernel
theorem dX10_formAt_24 : decode cX10_formAt 24 = .ok (.getfield 42, 3) := by decide +kernel
theorem dX10_formAt_27 : decode cX10_formAt 27 = .ok (.iload_n 1, 1) := by decide +kernel
theorem dX10_formAt_28 : decode cX10_formAt 28 = .ok (.aload_n 0, 1) := by decide +kernel
theorem dX10_formAt_29 : decode cX10_formAt 29 = .ok (.getfield 10, 3) := by decide +kernel
theorem dX10_formAt_32 : decode cX10_formAt 32 = .ok (.getfield 67, 3) := by decide +kernel
theorem dX10_formAt_35 : decode cX10_formAt 35 = .ok (.invokevirtual 137, 3) := by decide +kernel
theorem dX10_formAt_38 : decode cX10_formAt 38 = .ok (.if_icmp .lt 6, 3) := by decide +kernel
theorem dX10_formAt_41 : decode cX10_formAt 41 = .ok (.ldc 106, 2) := by decide +kernel
theorem dX10_formAt_43 : decode cX10_formAt 43 = .ok (.ireturn, 1) := by decide +kernel
theorem dX10_formAt_44 : decode cX10_formAt 44 = .ok (.aload_n 0, 1) := by decide +kernel
theorem dX10_formAt_45 : decode cX10_formAt 45 = .ok (.getfield 42, 3) := by decide +kernel
theorem dX10_formAt_48 : decode cX10_formAt 48 = .ok (.iload_n 1, 1) := by decide +kernel
theorem dX10_formAt_49 : decode cX10_formAt 49 = .ok (.iload_n 2, 1) := by decide +kernel
theorem dX10_formAt_50 : decode cX10_formAt 50 = .ok (.aload_n 0, 1) := by decide +kernel
theorem dX10_formAt_51 : decode cX10_formAt 51 = .ok (.getfield 10, 3) := by decide +kernel
theorem dX10_formAt_54 : decode cX10_formAt 54 = .ok (.getfield 67, 3) := by decide +kernel
theorem dX10_formAt_57 : decode cX10_formAt 57 = .ok (.invokevirtual 140, 3) := by decide +kernel
theorem dX10_formAt_60 : decode cX10_formAt 60 = .ok (.ireturn, 1) := by decide +kernel
set_option maxRecDepth 20000 in
theorem ggX10_inside_X7_has : GoodIn wsX10_inside wsX7_has := goodIn_r _ [8, 9, 40, 41, 42, 43] (by decide +kernel) (by decide +kernel)
set_option maxRecDepth 20000 in
theorem gX10_inside_X7_has : GoodIn wsX10_inside (wsV RX10 102 RX7 yX7_has wsX7_has) := goodIn_app (goodIn_of _ (by decide +kernel)) ggX10_inside_X7_has
set_option maxRecDepth 20000 in
theorem ggX10_inside_X7_setAt : GoodIn wsX10_inside wsX7_setAt := goodIn_r _ [13, 14, 15, 5, 6, 7, 8, 9, 40, 41, 42, 43] (by decide +kernel) (by decide +kernel)
set_option maxRecDepth 20000 in
theorem gX10_inside_X7_setAt : GoodIn wsX10_inside (wsV RX10 107 RX7 yX7_setAt wsX7_setAt) := goodIn_app (goodIn_of _ (by decide +kernel)) ggX10_inside_X7_setAt
set_option maxRecDepth 20000 in
theorem ggX10_inside_X3_partsLike : GoodIn wsX10_inside wsX3_partsLike := goodIn_r _ [19, 20, 21, 18, 22, 23, 24, 25, 26, 27, 28, 29, 30, 31] (by decide +kernel) (by decide +kernel)
set_option maxRecDepth 20000 in
theorem gX10_inside_X3_partsLike : GoodIn wsX10_inside (va_wsS RX10 143 yX3_partsLike wsX3_partsLike) := goodIn_app (goodIn_of _ (by decide +kernel)) ggX10_inside_X3_partsLike
theorem dX10_inside_0 : decode cX10_inside 0 = .ok (.aload_n 0, 1) := by decide +kernel
theorem dX10_inside_1 : decode cX10_inside 1 = .ok (.getfield 10, 3) := by decide +kernel
theorem dX10_inside_4 : decode cX10_inside 4 = .ok (.iload_n 1, 1) := by decide +kernel
theorem dX10_inside_5 : decode cX10_inside 5 = .ok (.invokevirtual 102, 3) := by decide +kernel
theorem dX10_inside_8 : decode cX10_inside 8 = .ok (.ifCond .eq 14, 3) := by decide +kernel
theorem dX10_inside_11 : decode cX10_inside 11 = .ok (.aload_n 0, 1) := by decide +kernel
theorem dX10_inside_12 : decode cX10_inside 12 = .ok (.getfield 10, 3) := by decide +kernel
theorem dX10_inside_15 : decode cX10_inside 15 = .ok (.iload_n 2, 1) := by decide +kernel
theorem dX10_inside_16 : decode cX10_inside 16 = .ok (.invokevirtual 102, 3) := by decide +kernel
theorem dX10_inside_19 : decode cX10_inside 19 = .ok (.ifCond .ne 6, 3) := by decide +kernel
theorem dX10_inside_22 : decode cX10_inside 22 = .ok (.ldc 106, 2) := by decide +kernel
theorem dX10_inside_24 : decode cX10_inside 24 = .ok (.ireturn, 1) := by decide +kernel
theorem dX10_inside_25 : decode cX10_inside 25 = .ok (.aload_n 0, 1) := by decide +kernel
theorem dX10_inside_26 : decode cX10_inside 26 = .ok (.getfield 10, 3) := by decide +kernel
theorem dX10_inside_29 : decode cX10_inside 29 = .ok (.iload_n 1, 1) := by decide +kernel
theorem dX10_inside_30 : decode cX10_inside 30 = .ok (.invokevirtual 107, 3) := by decide +kernel
theorem dX10_inside_33 : decode cX10_inside 33 = .ok (.aload_n 0, 1) := by decide +kernel
theorem dX10_inside_34 : decode cX10_inside 34 = .ok (.getfield 10, 3) := by decide +kernel
theorem dX10_inside_37 : decode cX10_inside 37 = .ok (.iload_n 2, 1) := by decide +kernel
theorem dX10_inside_38 : decode cX10_inside 38 = .ok (.invokevirtual 107, 3) := by decide +kernel
theorem dX10_inside_41 : decode cX10_inside 41 = .ok (.aload_n 0, 1) := by decide +kernel
theorem dX10_inside_42 : decode cX10_inside 42 = .ok (.getfield 10, 3) := by decide +kernel
theorem dX10_inside_45 : decode cX10_inside 45 = .ok (.getfield 67, 3) := by decide +kernel
theorem dX10_inside_48 : decode cX10_inside 48 = .ok (.invokestatic 143, 3) := by decide +kernel
theorem dX10_inside_51 : decode cX10_inside 51 = .ok (.ireturn, 1) := by decide +kernel
set_option maxRecDepth 20000 in
theorem ggX10_way_X7_has : GoodIn wsX10_way wsX7_has := goodIn_r _ [10, 11, 89, 90, 91, 92] (by decide +kernel) (by decide +kernel)
set_option maxRecDepth 20000 in
theorem gX10_way_X7_has : GoodIn wsX10_way (wsV RX10 102 RX7 yX7_has wsX7_has) := goodIn_app (goodIn_of _ (by decide +kernel)) ggX10_way_X7_has
set_option maxRecDepth 20000 in
theorem ggX10_way_X7_setAt : GoodIn wsX10_way wsX7_setAt := goodIn_r _ [15, 16, 17, 7, 8, 9, 10, 11, 89, 90, 91, 92] (by decide +kernel) (by decide +kernel)
set_option maxRecDepth 20000 in
theorem gX10_way_X7_setAt : GoodIn wsX10_way (wsV RX10 107 RX7 yX7_setAt wsX7_setAt) := goodIn_app (goodIn_of _ (by decide +kernel)) ggX10_way_X7_setAt
set_option maxRecDepth 20000 in
theorem ggX10_way_X9_least : GoodIn wsX10_way wsX9_least := goodIn_r _ [22, 23, 24, 25, 26, 27, 28, 29, 30, 31, 32, 33, 34, 35, 36, 37, 38, 39, 21, 40, 41, 42, 43, 44, 45, 46, 47, 48, 49, 50, 51, 52, 53, 54, 55, 56, 57, 58, 59, 60, 61, 62, 63, 64, 65, 66, 67, 68, 69, 70, 71, 72, 73, 74, 75, 76, 77, 78, 79, 80, 93, 94, 95, 96, 97, 98, 99, 100, 101, 102, 103, 104, 105] (by decide +kernel) (by decide +kernel)
set_option maxRecDepth 20000 in
theorem gX10_way_X9_least : GoodIn wsX10_way (wsV RX10 147 RX9 yX9_least wsX9_least) := goodIn_app (goodIn_of _ (by decide +kernel)) ggX10_way_X9_least
theorem dX10_way_0 : decode cX10_way 0 = .ok (.aload_n 0, 1) := by decide +kernel
theorem dX10_way_1 : decode cX10_way 1 = .ok (.getfield 10, 3) := by decide +kernel
theorem dX10_way_4 : decode cX10_way 4 = .ok (.iload_n 1, 1) := by decide +kernel
theorem dX10_way_5 : decode cX10_way 5 = .ok (.invokevirtual 102, 3) := by decide +kernel
theorem dX10_way_8 : decode cX10_way 8 = .ok (.ifCond .eq 14, 3) := by decide +kernel
theorem dX10_way_11 : decode cX10_way 11 = .ok (.aload_n 0, 1) := by decide +kernel
theorem dX10_way_12 : decode cX10_way 12 = .ok (.getfield 10, 3) := by decide +kernel
theorem dX10_way_15 : decode cX10_way 15 = .ok (.iload_n 2, 1) := by decide +kernel
theorem dX10_way_16 : decode cX10_way 16 = .ok (.invokevirtual 102, 3) := by decide +kernel
theorem dX10_way_19 : decode cX10_way 19 = .ok (.ifCond .ne 6, 3) := by decide +kernel
theorem dX10_way_22 : decode cX10_way 22 = .ok (.ldc 106, 2) := by decide +kernel
theorem dX10_way_24 : decode cX10_way 24 = .ok (.ireturn, 1) := by decide +kernel
theorem dX10_way_25 : decode cX10_way 25 = .ok (.aload_n 0, 1) := by decide +kernel
theorem dX10_way_26 : decode cX10_way 26 = .ok (.getfield 10, 3) := by decide +kernel
theorem dX10_way_29 : decode cX10_way 29 = .ok (.iload_n 1, 1) := by decide +kernel
theorem dX10_way_30 : decode cX10_way 30 = .ok (.invokevirtual 107, 3) := by decide +kernel
theorem dX10_way_33 : decode cX10_way 33 = .ok (.ifCond .eq 14, 3) := by decide +kernel
theorem dX10_way_36 : decode cX10_way 36 = .ok (.aload_n 0, 1) := by decide +kernel
theorem dX10_way_37 : decode cX10_way 37 = .ok (.getfield 10, 3) := by decide +kernel
theorem dX10_way_40 : decode cX10_way 40 = .ok (.iload_n 2, 1) := by decide +kernel
theorem dX10_way_41 : decode cX10_way 41 = .ok (.invokevirtual 107, 3) := by decide +kernel
theorem dX10_way_44 : decode cX10_way 44 = .ok (.ifCond .ne 6, 3) := by decide +kernel
theorem dX10_way_47 : decode cX10_way 47 = .ok (.ldc 146, 2) := by decide +kernel
theorem dX10_way_49 : decode cX10_way 49 = .ok (.ireturn, 1) := by decide +kernel
theorem dX10_way_50 : decode cX10_way 50 = .ok (.aload_n 0, 1) := by decide +kernel
theorem dX10_way_51 : decode cX10_way 51 = .ok (.getfield 49, 3) := by decide +kernel
theorem dX10_way_54 : decode cX10_way 54 = .ok (.aload_n 0, 1) := by decide +kernel
theorem dX10_way_55 : decode cX10_way 55 = .ok (.getfield 10, 3) := by decide +kernel
theorem dX10_way_58 : decode cX10_way 58 = .ok (.iload_n 1, 1) := by decide +kernel
theorem dX10_way_59 : decode cX10_way 59 = .ok (.invokevirtual 107, 3) := by decide +kernel
theorem dX10_way_62 : decode cX10_way 62 = .ok (.aload_n 0, 1) := by decide +kernel
theorem dX10_way_63 : decode cX10_way 63 = .ok (.getfield 10, 3) := by decide +kernel
theorem dX10_way_66 : decode cX10_way 66 = .ok (.iload_n 2, 1) := by decide +kernel
theorem dX10_way_67 : decode cX10_way 67 = .ok (.invokevirtual 107, 3) := by decide +kernel
theorem dX10_way_70 : decode cX10_way 70 = .ok (.aload_n 0, 1) := by decide +kernel
theorem dX10_way_71 : decode cX10_way 71 = .ok (.getfield 10, 3) := by decide +kernel
theorem dX10_way_74 : decode cX10_way 74 = .ok (.getfield 67, 3) := by decide +kernel
theorem dX10_way_77 : decode cX10_way 77 = .ok (.invokevirtual 147, 3) := by decide +kernel
theorem dX10_way_80 : decode cX10_way 80 = .ok (.ireturn, 1) := by decide +kernel
set_option maxRecDepth 20000 in
theorem ggX10_nearest_X7_has : GoodIn wsX10_nearest wsX7_has := goodIn_r _ [13, 14, 108, 109, 110, 111] (by decide +kernel) (by decide +kernel)
set_option maxRecDepth 20000 in
theorem gX10_nearest_X7_has : GoodIn wsX10_nearest (wsV RX10 102 RX7 yX7_has wsX7_has) := goodIn_app (goodIn_of _ (by decide +kernel)) ggX10_nearest_X7_has
set_option maxRecDepth 20000 in
theorem ggX10_nearest_X7_setAt : GoodIn wsX10_nearest wsX7_setAt := goodIn_r _ [18, 19, 20, 10, 11, 12, 13, 14, 108, 109, 110, 111] (by decide +kernel) (by decide +kernel)
set_option maxRecDepth 20000 in
theorem gX10_nearest_X7_setAt : GoodIn wsX10_nearest (wsV RX10 107 RX7 yX7_setAt wsX7_setAt) := goodIn_app (goodIn_of _ (by decide +kernel)) ggX10_nearest_X7_setAt
set_option maxRecDepth 20000 in
theorem ggX10_nearest_X9_findNearestImage : GoodIn wsX10_nearest wsX9_findNearestImage := goodIn_r _ [25, 26, 27, 28, 29, 30, 31, 32, 33, 34, 35, 36, 37, 38, 39, 40, 41, 24, 42, 43, 44, 45, 46, 47, 48, 49, 50, 51, 52, 53, 54, 55, 56, 57, 58, 59, 60, 61, 62, 63, 64, 65, 66, 67, 68, 69, 70, 71, 72, 73, 74, 75, 76, 77, 78, 79, 80, 81, 82, 83, 84, 85, 86, 87, 88, 89, 90, 91, 92, 93, 94, 95, 96, 97, 98, 99, 112, 113, 114, 115, 116, 117, 118, 119, 120, 121, 122, 123, 124] (by decide +kernel) (by decide +kernel)
set_option maxRecDepth 20000 in
theorem gX10_nearest_X9_findNearestImage : GoodIn wsX10_nearest (wsV RX10 149 RX9 yX9_findNearestImage wsX9_findNearestImage) := goodIn_app (goodIn_of _ (by decide +kernel)) ggX10_nearest_X9_findNearestImage
theorem dX10_nearest_0 : decode cX10_nearest 0 = .ok (.aload_n 0, 1) := by decide +kernel
theorem dX10_nearest_1 : decode cX10_nearest 1 = .ok (.getfield 10, 3) := by decide +kernel
theorem dX10_nearest_4 : decode cX10_nearest 4 = .ok (.iload_n 1, 1) := by decide +kernel
theorem dX10_nearest_5 : decode cX10_nearest 5 = .ok (.invokevirtual 102, 3) := by decide +kernel
theorem dX10_nearest_8 : decode cX10_nearest 8 = .ok (.ifCond .eq 14, 3) := by decide +kernel
theorem dX10_nearest_11 : decode cX10_nearest 11 = .ok (.aload_n 0, 1) := by decide +kernel
theorem dX10_nearest_12 : decode cX10_nearest 12 = .ok (.getfield 10, 3) := by decide +kernel
theorem dX10_nearest_15 : decode cX10_nearest 15 = .ok (.iload_n 2, 1) := by decide +kernel
theorem dX10_nearest_16 : decode cX10_nearest 16 = .ok (.invokevirtual 102, 3) := by decide +kernel
theorem dX10_nearest_19 : decode cX10_nearest 19 = .ok (.ifCond .ne 6, 3) := by decide +kernel
theorem dX10_nearest_22 : decode cX10_nearest 22 = .ok (.ldc 106, 2) := by decide +kernel
theorem dX10_nearest_24 : decode cX10_nearest 24 = .ok (.ireturn, 1) := by decide +kernel
theorem dX10_nearest_25 : decode cX10_nearest 25 = .ok (.iload_n 3, 1) := by decide +kernel
theorem dX10_nearest_26 : decode cX10_nearest 26 = .ok (.ifCond .lt 8, 3) := by decide +kernel
theorem dX10_nearest_29 : decode cX10_nearest 29 = .ok (.iload_n 3, 1) := by decide +kernel
theorem dX10_nearest_30 : decode cX10_nearest 30 = .ok (.iconst 1, 1) := by decide +kernel
theorem dX10_nearest_31 : decode cX10_nearest 31 = .ok (.if_icmp .le 6, 3) := by decide +kernel
theorem dX10_nearest_34 : decode cX10_nearest 34 = .ok (.ldc 101, 2) := by decide +kernel
theorem dX10_nearest_36 : decode cX10_nearest 36 = .ok (.ireturn, 1) := by decide +kernel
theorem dX10_nearest_37 : decode cX10_nearest 37 = .ok (.aload_n 0, 1) := by decide +kernel
theorem dX10_nearest_38 : decode cX10_nearest 38 = .ok (.getfield 10, 3) := by decide +kernel
theorem dX10_nearest_41 : decode cX10_nearest 41 = .ok (.iload_n 1, 1) := by decide +kernel
theorem dX10_nearest_42 : decode cX10_nearest 42 = .ok (.invokevirtual 107, 3) := by decide +kernel
theorem dX10_nearest_45 : decode cX10_nearest 45 = .ok (.ifCond .eq 14, 3) := by decide +kernel
theorem dX10_nearest_48 : decode cX10_nearest 48 = .ok (.aload_n 0, 1) := by decide +kernel
theorem dX10_nearest_49 : decode cX10_nearest 49 = .ok (.getfield 10, 3) := by decide +kernel
theorem dX10_nearest_52 : decode cX10_nearest 52 = .ok (.iload_n 2, 1) := by decide +kernel
theorem dX10_nearest_53 : decode cX10_nearest 53 = .ok (.invokevirtual 107, 3) := by decide +kernel
theorem dX10_nearest_56 : decode cX10_nearest 56 = .ok (.ifCond .ne 6, 3) := by decide +kernel
theorem dX10_nearest_59 : decode cX10_nearest 59 = .ok (.ldc 146, 2) := by decide +kernel
theorem dX10_nearest_61 : decode cX10_nearest 61 = .ok (.ireturn, 1) := by decide +kernel
theorem dX10_nearest_62 : decode cX10_nearest 62 = .ok (.aload_n 0, 1) := by decide +kernel
theorem dX10_nearest_63 : decode cX10_nearest 63 = .ok (.getfield 49, 3) := by decide +kernel
theorem dX10_nearest_66 : decode cX10_nearest 66 = .ok (.aload_n 0, 1) := by decide +kernel
theorem dX10_nearest_67 : decode cX10_nearest 67 = .ok (.getfield 10, 3) := by decide +kernel
theorem dX10_nearest_70 : decode cX10_nearest 70 = .ok (.iload_n 1, 1) := by decide +kernel
theorem dX10_nearest_71 : decode cX10_nearest 71 = .ok (.invokevirtual 107, 3) := by decide +kernel
theorem dX10_nearest_74 : decode cX10_nearest 74 = .ok (.aload_n 0, 1) := by decide +kernel
theorem dX10_nearest_75 : decode cX10_nearest 75 = .ok (.getfield 10, 3) := by decide +kernel
theorem dX10_nearest_78 : decode cX10_nearest 78 = .ok (.iload_n 2, 1) := by decide +kernel
theorem dX10_nearest_79 : decode cX10_nearest 79 = .ok (.invokevirtual 107, 3) := by decide +kernel
theorem dX10_nearest_82 : decode cX10_nearest 82 = .ok (.aload_n 0, 1) := by decide +kernel
theorem dX10_nearest_83 : decode cX10_nearest 83 = .ok (.getfield 10, 3) := by decide +kernel
theorem dX10_nearest_86 : decode cX10_nearest 86 = .ok (.getfield 67, 3) := by decide +kernel
theorem dX10_nearest_89 : decode cX10_nearest 89 = .ok (.invokevirtual 149, 3) := by decide +kernel
theorem dX10_nearest_92 : decode cX10_nearest 92 = .ok (.iload_n 3, 1) := by decide +kernel
theorem dX10_nearest_93 : decode cX10_nearest 93 = .ok (.ifCond .ne 13, 3) := by decide +kernel
theorem dX10_nearest_96 : decode cX10_nearest 96 = .ok (.aload_n 0, 1) := by decide +kernel
theorem dX10_nearest_97 : decode cX10_nearest 97 = .ok (.getfield 49, 3) := by decide +kernel
theorem dX10_nearest_100 : decode cX10_nearest 100 = .ok (.getfield 153, 3) := by decide +kernel
theorem dX10_nearest_103 : decode cX10_nearest 103 = .ok (.goto 10, 3) := by decide +kernel
theorem dX10_nearest_106 : decode cX10_nearest 106 = .ok (.aload_n 0, 1) := by decide +kernel
theorem dX10_nearest_107 : decode cX10_nearest 107 = .ok (.getfield 49, 3) := by decide +kernel
theorem dX10_nearest_110 : decode cX10_nearest 110 = .ok (.getfield 156, 3) := by decide +kernel
theorem dX10_nearest_113 : decode cX10_nearest 113 = .ok (.ireturn, 1) := by decide +kernel
set_option maxRecDepth 20000 in
theorem ggX10_easy_X7_has : GoodIn wsX10_easy wsX7_has := goodIn_r _ [13, 14, 94, 95, 96, 97] (by decide +kernel) (by decide +kernel)
set_option maxRecDepth 20000 in
theorem gX10_easy_X7_has : GoodIn wsX10_easy (wsV RX10 102 RX7 yX7_has wsX7_has) := goodIn_app (goodIn_of _ (by decide +kernel)) ggX10_easy_X7_has
set_option maxRecDepth 20000 in
theorem ggX10_easy_X7_setAt : GoodIn wsX10_easy wsX7_setAt := goodIn_r _ [18, 19, 20, 10, 11, 12, 13, 14, 94, 95, 96, 97] (by decide +kernel) (by decide +kernel)
set_option maxRecDepth 20000 in
theorem gX10_easy_X7_setAt : GoodIn wsX10_easy (wsV RX10 107 RX7 yX7_setAt wsX7_setAt) := goodIn_app (goodIn_of _ (by decide +kernel)) ggX10_easy_X7_setAt
set_option maxRecDepth 20000 in
theorem ggX10_easy_J6_bitCount_0f7a4 : GoodIn wsX10_easy wsJ6_bitCount_0f7a4 := goodIn_r _ [24, 25, 26, 27] (by decide +kernel) (by decide +kernel)
set_option maxRecDepth 20000 in
theorem gX10_easy_J6_bitCount_0f7a4 : GoodIn wsX10_easy (va_wsS RX10 110 yJ6_bitCount_0f7a4 wsJ6_bitCount_0f7a4) := goodIn_app (goodIn_of _ (by decide +kernel)) ggX10_easy_J6_bitCount_0f7a4
set_option maxRecDepth 20000 in
theorem ggX10_easy_X8_search : GoodIn wsX10_easy wsX8_search := goodIn_r _ [32, 33, 34, 35, 36, 37, 38, 39, 40, 41, 42, 43, 44, 45, 46, 47, 48, 49, 50, 51, 31, 52, 53, 54, 55, 56, 57, 58, 59, 60, 61, 62, 63, 64, 65, 22, 23, 24, 25, 26, 27, 66, 67, 68, 69, 70, 71, 72, 73, 74, 75, 76, 77, 78, 79, 80, 81, 82, 83, 84, 85, 98, 99, 100, 101, 102, 103, 104, 105] (by decide +kernel) (by decide +kernel)
set_option maxRecDepth 20000 in
theorem gX10_easy_X8_search : GoodIn wsX10_easy (wsV RX10 159 RX8 yX8_search wsX8_search) := goodIn_app (goodIn_of _ (by decide +kernel)) ggX10_easy_X8_search
theorem dX10_easy_0 : decode cX10_easy 0 = .ok (.aload_n 0, 1) := by decide +kernel
theorem dX10_easy_1 : decode cX10_easy 1 = .ok (.getfield 10, 3) := by decide +kernel
theorem dX10_easy_4 : decode cX10_easy 4 = .ok (.iload_n 1, 1) := by decide +kernel
theorem dX10_easy_5 : decode cX10_easy 5 = .ok (.invokevirtual 102, 3) := by decide +kernel
theorem dX10_easy_8 : decode cX10_easy 8 = .ok (.ifCond .eq 14, 3) := by decide +kernel
theorem dX10_easy_11 : decode cX10_easy 11 = .ok (.aload_n 0, 1) := by decide +kernel
theorem dX10_easy_12 : decode cX10_easy 12 = .ok (.getfield 10, 3) := by decide +kernel
theorem dX10_easy_15 : decode cX10_easy 15 = .ok (.iload_n 2, 1) := by decide +kernel
theorem dX10_easy_16 : decode cX10_easy 16 = .ok (.invokevirtual 102, 3) := by decide +kernel
theorem dX10_easy_19 : decode cX10_easy 19 = .ok (.ifCond .ne 6, 3) := by decide +kernel
theorem dX10_easy_22 : decode cX10_easy 22 = .ok (.ldc 106, 2) := by decide +kernel
theorem dX10_easy_24 : decode cX10_easy 24 = .ok (.ireturn, 1) := by decide +kernel
theorem dX10_easy_25 : decode cX10_easy 25 = .ok (.iload_n 3, 1) := by decide +kernel
theorem dX10_easy_26 : decode cX10_easy 26 = .ok (.ifCond .lt 8, 3) := by decide +kernel
theorem dX10_easy_29 : decode cX10_easy 29 = .ok (.iload_n 3, 1) := by decide +kernel
theorem dX10_easy_30 : decode cX10_easy 30 = .ok (.iconst 1, 1) := by decide +kernel
theorem dX10_easy_31 : decode cX10_easy 31 = .ok (.if_icmp .le 6, 3) := by decide +kernel
theorem dX10_easy_34 : decode cX10_easy 34 = .ok (.ldc 101, 2) := by decide +kernel
theorem dX10_easy_36 : decode cX10_easy 36 = .ok (.ireturn, 1) := by decide +kernel
theorem dX10_easy_37 : decode cX10_easy 37 = .ok (.aload_n 0, 1) := by decide +kernel
theorem dX10_easy_38 : decode cX10_easy 38 = .ok (.getfield 10, 3) := by decide +kernel
theorem dX10_easy_41 : decode cX10_easy 41 = .ok (.iload_n 1, 1) := by decide +kernel
theorem dX10_easy_42 : decode cX10_easy 42 = .ok (.invokevirtual 107, 3) := by decide +kernel
theorem dX10_easy_45 : decode cX10_easy 45 = .ok (.invokestatic 110, 3) := by decide +kernel
theorem dX10_easy_48 : decode cX10_easy 48 = .ok (.aload_n 0, 1) := by decide +kernel
theorem dX10_easy_49 : decode cX10_easy 49 = .ok (.getfield 10, 3) := by decide +kernel
theorem dX10_easy_52 : decode cX10_easy 52 = .ok (.iload_n 2, 1) := by decide +kernel
theorem dX10_easy_53 : decode cX10_easy 53 = .ok (.invokevirtual 107, 3) := by decide +kernel
theorem dX10_easy_56 : decode cX10_easy 56 = .ok (.invokestatic 110, 3) := by decide +kernel
theorem dX10_easy_59 : decode cX10_easy 59 = .ok (.if_icmp .eq 6, 3) := by decide +kernel
theorem dX10_easy_62 : decode cX10_easy 62 = .ok (.ldc 146, 2) := by decide +kernel
theorem dX10_easy_64 : decode cX10_easy 64 = .ok (.ireturn, 1) := by decide +kernel
theorem dX10_easy_65 : decode cX10_easy 65 = .ok (.aload_n 0, 1) := by decide +kernel
theorem dX10_easy_66 : decode cX10_easy 66 = .ok (.getfield 63, 3) := by decide +kernel
theorem dX10_easy_69 : decode cX10_easy 69 = .ok (.aload_n 0, 1) := by decide +kernel
theorem dX10_easy_70 : decode cX10_easy 70 = .ok (.getfield 10, 3) := by decide +kernel
theorem dX10_easy_73 : decode cX10_easy 73 = .ok (.iload_n 1, 1) := by decide +kernel
theorem dX10_easy_74 : decode cX10_easy 74 = .ok (.invokevirtual 107, 3) := by decide +kernel
theorem dX10_easy_77 : decode cX10_easy 77 = .ok (.aload_n 0, 1) := by decide +kernel
theorem dX10_easy_78 : decode cX10_easy 78 = .ok (.getfield 10, 3) := by decide +kernel
theorem dX10_easy_81 : decode cX10_easy 81 = .ok (.iload_n 2, 1) := by decide +kernel
theorem dX10_easy_82 : decode cX10_easy 82 = .ok (.invokevirtual 107, 3) := by decide +kernel
theorem dX10_easy_85 : decode cX10_easy 85 = .ok (.aload_n 0, 1) := by decide +kernel
theorem dX10_easy_86 : decode cX10_easy 86 = .ok (.getfield 10, 3) := by decide +kernel
theorem dX10_easy_89 : decode cX10_easy 89 = .ok (.getfield 67, 3) := by decide +kernel
theorem dX10_easy_92 : decode cX10_easy 92 = .ok (.invokevirtual 159, 3) := by decide +kernel
theorem dX10_easy_95 : decode cX10_easy 95 = .ok (.iload_n 3, 1) := by decide +kernel
theorem dX10_easy_96 : decode cX10_easy 96 = .ok (.ifCond .ne 13, 3) := by decide +kernel
theorem dX10_easy_99 : decode cX10_easy 99 = .ok (.aload_n 0, 1) := by decide +kernel
theorem dX10_easy_100 : decode cX10_easy 100 = .ok (.getfield 63, 3) := by decide +kernel
theorem dX10_easy_103 : decode cX10_easy 103 = .ok (.getfield 162, 3) := by decide +kernel
theorem dX10_easy_106 : decode cX10_easy 106 = .ok (.goto 10, 3) := by decide +kernel
theorem dX10_easy_109 : decode cX10_easy 109 = .ok (.aload_n 0, 1) := by decide +kernel
theorem dX10_easy_110 : decode cX10_easy 110 = .ok (.getfield 63, 3) := by decide +kernel
theorem dX10_easy_113 : decode cX10_easy 113 = .ok (.getfield 165, 3) := by decide +kernel
theorem dX10_easy_116 : decode cX10_easy 116 = .ok (.ireturn, 1) := by decide +kernel
set_option maxRecDepth 20000 in
theorem ggX10_ring_X2_remember : GoodIn wsX10_ring wsX2_remember := goodIn_r _ [10, 11, 12, 13, 14, 15, 16, 17, 18, 19, 20, 21, 22, 23, 24, 25, 26, 27, 28, 29, 30, 31, 32, 33, 34, 35, 36, 37, 38, 39, 40, 41, 42, 55, 56, 57, 58, 59, 51, 52, 53, 54] (by decide +kernel) (by decide +kernel)
set_option maxRecDepth 20000 in
theorem gX10_ring_X2_remember : GoodIn wsX10_ring (wsV RX10 168 RX2 yX2_remember wsX2_remember) := goodIn_app (goodIn_of _ (by decide +kernel)) ggX10_ring_X2_remember
theorem dX10_ring_0 : decode cX10_ring 0 = .ok (.iload_n 1, 1) := by decide +kernel
theorem dX10_ring_1 : decode cX10_ring 1 = .ok (.iconst 5, 1) := by decide +kernel
theorem dX10_ring_2 : decode cX10_ring 2 = .ok (.if_icmp .lt 9, 3) := by decide +kernel
theorem dX10_ring_5 : decode cX10_ring 5 = .ok (.iload_n 1, 1) := by decide +kernel
theorem dX10_ring_6 : decode cX10_ring 6 = .ok (.bipush 12, 2) := by decide +kernel
theorem dX10_ring_8 : decode cX10_ring 8 = .ok (.if_icmp .le 6, 3) := by decide +kernel
theorem dX10_ring_11 : decode cX10_ring 11 = .ok (.ldc 101, 2) := by decide +kernel
theorem dX10_ring_13 : decode cX10_ring 13 = .ok (.ireturn, 1) := by decide +kernel
theorem dX10_ring_14 : decode cX10_ring 14 = .ok (.aload_n 0, 1) := by decide +kernel
theorem dX10_ring_15 : decode cX10_ring 15 = .ok (.getfield 19, 3) := by decide +kernel
theorem dX10_ring_18 : decode cX10_ring 18 = .ok (.aload_n 0, 1) := by decide +kernel
theorem dX10_ring_19 : decode cX10_ring 19 = .ok (.getfield 10, 3) := by decide +kernel
theorem dX10_ring_22 : decode cX10_ring 22 = .ok (.invokevirtual 168, 3) := by decide +kernel
theorem dX10_ring_25 : decode cX10_ring 25 = .ok (.aload_n 0, 1) := by decide +kernel
theorem dX10_ring_26 : decode cX10_ring 26 = .ok (.getfield 10, 3) := by decide +kernel
theorem dX10_ring_29 : decode cX10_ring 29 = .ok (.getfield 67, 3) := by decide +kernel
theorem dX10_ring_32 : decode cX10_ring 32 = .ok (.istore_n 2, 1) := by decide +kernel
theorem dX10_ring_33 : decode cX10_ring 33 = .ok (.aload_n 0, 1) := by decide +kernel
theorem dX10_ring_34 : decode cX10_ring 34 = .ok (.getfield 10, 3) := by decide +kernel
theorem dX10_ring_37 : decode cX10_ring 37 = .ok (.iload_n 1, 1) := by decide +kernel
theorem dX10_ring_38 : decode cX10_ring 38 = .ok (.putfield 67, 3) := by decide +kernel
theorem dX10_ring_41 : decode cX10_ring 41 = .ok (.aload_n 0, 1) := by decide +kernel
theorem dX10_ring_42 : decode cX10_ring 42 = .ok (.getfield 10, 3) := by decide +kernel
theorem dX10_ring_45 : decode cX10_ring 45 = .ok (.iconst 0, 1) := by decide +kernel
theorem dX10_ring_46 : decode cX10_ring 46 = .ok (.putfield 71, 3) := by decide +kernel
theorem dX10_ring_49 : decode cX10_ring 49 = .ok (.iload_n 2, 1) := by decide +kernel
theorem dX10_ring_50 : decode cX10_ring 50 = .ok (.ireturn, 1) := by decide +kernel
set_option maxRecDepth 20000 in
theorem ggX10_put_X3_allTones : GoodIn wsX10_put wsX3_allTones := goodIn_r _ [10] (by decide +kernel) (by decide +kernel)
set_option maxRecDepth 20000 in
theorem gX10_put_X3_allTones : GoodIn wsX10_put (va_wsS RX10 172 yX3_allTones wsX3_allTones) := goodIn_app (goodIn_of _ (by decide +kernel)) ggX10_put_X3_allTones
set_option maxRecDepth 20000 in
theorem ggX10_put_X7_hasRoom : GoodIn wsX10_put wsX7_hasRoom := goodIn_r _ [15, 16, 65, 66, 67, 68] (by decide +kernel) (by decide +kernel)
set_option maxRecDepth 20000 in
theorem gX10_put_X7_hasRoom : GoodIn wsX10_put (wsV RX10 175 RX7 yX7_hasRoom wsX7_hasRoom) := goodIn_app (goodIn_of _ (by decide +kernel)) ggX10_put_X7_hasRoom
set_option maxRecDepth 20000 in
theorem ggX10_put_X2_remember : GoodIn wsX10_put wsX2_remember := goodIn_r _ [21, 22, 23, 24, 25, 26, 27, 28, 29, 30, 31, 32, 33, 34, 35, 36, 37, 38, 39, 40, 41, 42, 43, 44, 45, 14, 46, 47, 48, 49, 50, 51, 16, 69, 70, 71, 72, 73, 65, 66, 67, 68] (by decide +kernel) (by decide +kernel)
set_option maxRecDepth 20000 in
theorem gX10_put_X2_remember : GoodIn wsX10_put (wsV RX10 168 RX2 yX2_remember wsX2_remember) := goodIn_app (goodIn_of _ (by decide +kernel)) ggX10_put_X2_remember
set_option maxRecDepth 20000 in
theorem ggX10_put_X7_append : GoodIn wsX10_put wsX7_append := goodIn_r _ [55, 47, 16, 56, 12, 13, 14, 15, 65, 66, 67, 68] (by decide +kernel) (by decide +kernel)
set_option maxRecDepth 20000 in
theorem gX10_put_X7_append : GoodIn wsX10_put (wsV RX10 180 RX7 yX7_append wsX7_append) := goodIn_app (goodIn_of _ (by decide +kernel)) ggX10_put_X7_append
theorem dX10_put_0 : decode cX10_put 0 = .ok (.iload_n 1, 1) := by decide +kernel
theorem dX10_put_1 : decode cX10_put 1 = .ok (.ifCond .lt 17, 3) := by decide +kernel
theorem dX10_put_4 : decode cX10_put 4 = .ok (.iload_n 1, 1) := by decide +kernel
theorem dX10_put_5 : decode cX10_put 5 = .ok (.aload_n 0, 1) := by decide +kernel
theorem dX10_put_6 : decode cX10_put 6 = .ok (.getfield 10, 3) := by decide +kernel
theorem dX10_put_9 : decode cX10_put 9 = .ok (.getfield 67, 3) := by decide +kernel
theorem dX10_put_12 : decode cX10_put 12 = .ok (.invokestatic 172, 3) := by decide +kernel
theorem dX10_put_15 : decode cX10_put 15 = .ok (.if_icmp .le 6, 3) := by decide +kernel
theorem dX10_put_18 : decode cX10_put 18 = .ok (.ldc 101, 2) := by decide +kernel
theorem dX10_put_20 : decode cX10_put 20 = .ok (.ireturn, 1) := by decide +kernel
theorem dX10_put_21 : decode cX10_put 21 = .ok (.aload_n 0, 1) := by decide +kernel
theorem dX10_put_22 : decode cX10_put 22 = .ok (.getfield 10, 3) := by decide +kernel
theorem dX10_put_25 : decode cX10_put 25 = .ok (.invokevirtual 175, 3) := by decide +kernel
theorem dX10_put_28 : decode cX10_put 28 = .ok (.ifCond .ne 6, 3) := by decide +kernel
theorem dX10_put_31 : decode cX10_put 31 = .ok (.ldc 179, 2) := by decide +kernel
theorem dX10_put_33 : decode cX10_put 33 = .ok (.ireturn, 1) := by decide +kernel
theorem dX10_put_34 : decode cX10_put 34 = .ok (.aload_n 0, 1) := by decide +kernel
theorem dX10_put_35 : decode cX10_put 35 = .ok (.getfield 19, 3) := by decide +kernel
theorem dX10_put_38 : decode cX10_put 38 = .ok (.aload_n 0, 1) := by decide +kernel
theorem dX10_put_39 : decode cX10_put 39 = .ok (.getfield 10, 3) := by decide +kernel
theorem dX10_put_42 : decode cX10_put 42 = .ok (.invokevirtual 168, 3) := by decide +kernel
theorem dX10_put_45 : decode cX10_put 45 = .ok (.aload_n 0, 1) := by decide +kernel
theorem dX10_put_46 : decode cX10_put 46 = .ok (.getfield 10, 3) := by decide +kernel
theorem dX10_put_49 : decode cX10_put 49 = .ok (.iload_n 1, 1) := by decide +kernel
theorem dX10_put_50 : decode cX10_put 50 = .ok (.invokevirtual 180, 3) := by decide +kernel
theorem dX10_put_53 : decode cX10_put 53 = .ok (.aload_n 0, 1) := by decide +kernel
theorem dX10_put_54 : decode cX10_put 54 = .ok (.getfield 10, 3) := by decide +kernel
theorem dX10_put_57 : decode cX10_put 57 = .ok (.getfield 71, 3) := by decide +kernel
theorem dX10_put_60 : decode cX10_put 60 = .ok (.iconst 1, 1) := by decide +kernel
theorem dX10_put_61 : decode cX10_put 61 = .ok (.isub, 1) := by decide +kernel
theorem dX10_put_62 : decode cX10_put 62 = .ok (.ireturn, 1) := by decide +kernel
set_option maxRecDepth 20000 in
theorem ggX10_change_X7_has : GoodIn wsX10_change wsX7_has := goodIn_r _ [9, 10, 81, 82, 83, 84] (by decide +kernel) (by decide +kernel)
set_option maxRecDepth 20000 in
theorem gX10_change_X7_has : GoodIn wsX10_change (wsV RX10 102 RX7 yX7_has wsX7_has) := goodIn_app (goodIn_of _ (by decide +kernel)) ggX10_change_X7_has
set_option maxRecDepth 20000 in
theorem ggX10_change_X7_setAt : GoodIn wsX10_change wsX7_setAt := goodIn_r _ [14, 15, 16, 6, 7, 8, 9, 10, 81, 82, 83, 84] (by decide +kernel) (by decide +kernel)
set_option maxRecDepth 20000 in
theorem gX10_change_X7_setAt : GoodIn wsX10_change (wsV RX10 107 RX7 yX7_setAt wsX7_setAt) := goodIn_app (goodIn_of _ (by decide +kernel)) ggX10_change_X7_setAt
set_option maxRecDepth 20000 in
theorem ggX10_change_X3_changed : GoodIn wsX10_change wsX3_changed := goodIn_r _ [20, 21, 22, 23, 24, 19, 25, 26, 27, 28, 29, 30, 31, 32, 33, 34, 35, 36, 37, 38, 39, 40, 41, 42, 43, 44] (by decide +kernel) (by decide +kernel)
set_option maxRecDepth 20000 in
theorem gX10_change_X3_changed : GoodIn wsX10_change (va_wsS RX10 183 yX3_changed wsX3_changed) := goodIn_app (goodIn_of _ (by decide +kernel)) ggX10_change_X3_changed
set_option maxRecDepth 20000 in
theorem ggX10_change_X2_remember : GoodIn wsX10_change wsX2_remember := goodIn_r _ [49, 50, 51, 52, 53, 42, 43, 44, 54, 55, 56, 57, 58, 59, 60, 61, 62, 63, 64, 65, 66, 67, 68, 12, 13, 8, 14, 15, 16, 6, 7, 9, 10, 85, 86, 87, 88, 89, 81, 82, 83, 84] (by decide +kernel) (by decide +kernel)
set_option maxRecDepth 20000 in
theorem gX10_change_X2_remember : GoodIn wsX10_change (wsV RX10 168 RX2 yX2_remember wsX2_remember) := goodIn_app (goodIn_of _ (by decide +kernel)) ggX10_change_X2_remember
set_option maxRecDepth 20000 in
theorem ggX10_change_X7_replace : GoodIn wsX10_change wsX7_replace := goodIn_r _ [72, 15, 16, 6, 7, 8, 9, 10, 81, 82, 83, 84] (by decide +kernel) (by decide +kernel)
set_option maxRecDepth 20000 in
theorem gX10_change_X7_replace : GoodIn wsX10_change (wsV RX10 187 RX7 yX7_replace wsX7_replace) := goodIn_app (goodIn_of _ (by decide +kernel)) ggX10_change_X7_replace
theorem dX10_change_0 : decode cX10_change 0 = .ok (.aload_n 0, 1) := by decide +kernel
theorem dX10_change_1 : decode cX10_change 1 = .ok (.getfield 10, 3) := by decide +kernel
theorem dX10_change_4 : decode cX10_change 4 = .ok (.iload_n 1, 1) := by decide +kernel
theorem dX10_change_5 : decode cX10_change 5 = .ok (.invokevirtual 102, 3) := by decide +kernel
theorem dX10_change_8 : decode cX10_change 8 = .ok (.ifCond .ne 6, 3) := by decide +kernel
theorem dX10_change_11 : decode cX10_change 11 = .ok (.ldc 106, 2) := by decide +kernel
theorem dX10_change_13 : decode cX10_change 13 = .ok (.ireturn, 1) := by decide +kernel
theorem dX10_change_14 : decode cX10_change 14 = .ok (.aload_n 0, 1) := by decide +kernel
theorem dX10_change_15 : decode cX10_change 15 = .ok (.getfield 10, 3) := by decide +kernel
theorem dX10_change_18 : decode cX10_change 18 = .ok (.iload_n 1, 1) := by decide +kernel
theorem dX10_change_19 : decode cX10_change 19 = .ok (.invokevirtual 107, 3) := by decide +kernel
theorem dX10_change_22 : decode cX10_change 22 = .ok (.iload_n 2, 1) := by decide +kernel
theorem dX10_change_23 : decode cX10_change 23 = .ok (.iload_n 3, 1) := by decide +kernel
theorem dX10_change_24 : decode cX10_change 24 = .ok (.aload_n 0, 1) := by decide +kernel
theorem dX10_change_25 : decode cX10_change 25 = .ok (.getfield 10, 3) := by decide +kernel
theorem dX10_change_28 : decode cX10_change 28 = .ok (.getfield 67, 3) := by decide +kernel
theorem dX10_change_31 : decode cX10_change 31 = .ok (.invokestatic 183, 3) := by decide +kernel
theorem dX10_change_34 : decode cX10_change 34 = .ok (.istore 4, 2) := by decide +kernel
theorem dX10_change_36 : decode cX10_change 36 = .ok (.iload 4, 2) := by decide +kernel
theorem dX10_change_38 : decode cX10_change 38 = .ok (.ifCond .ge 6, 3) := by decide +kernel
theorem dX10_change_41 : decode cX10_change 41 = .ok (.iload 4, 2) := by decide +kernel
theorem dX10_change_43 : decode cX10_change 43 = .ok (.ireturn, 1) := by decide +kernel
theorem dX10_change_44 : decode cX10_change 44 = .ok (.aload_n 0, 1) := by decide +kernel
theorem dX10_change_45 : decode cX10_change 45 = .ok (.getfield 19, 3) := by decide +kernel
theorem dX10_change_48 : decode cX10_change 48 = .ok (.aload_n 0, 1) := by decide +kernel
theorem dX10_change_49 : decode cX10_change 49 = .ok (.getfield 10, 3) := by decide +kernel
theorem dX10_change_52 : decode cX10_change 52 = .ok (.invokevirtual 168, 3) := by decide +kernel
theorem dX10_change_55 : decode cX10_change 55 = .ok (.aload_n 0, 1) := by decide +kernel
theorem dX10_change_56 : decode cX10_change 56 = .ok (.getfield 10, 3) := by decide +kernel
theorem dX10_change_59 : decode cX10_change 59 = .ok (.iload_n 1, 1) := by decide +kernel
theorem dX10_change_60 : decode cX10_change 60 = .ok (.iload 4, 2) := by decide +kernel
theorem dX10_change_62 : decode cX10_change 62 = .ok (.invokevirtual 187, 3) := by decide +kernel
theorem dX10_change_65 : decode cX10_change 65 = .ok (.iload 4, 2) := by decide +kernel
theorem dX10_change_67 : decode cX10_change 67 = .ok (.ireturn, 1) := by decide +kernel
set_option maxRecDepth 20000 in
theorem ggX10_join_X7_has : GoodIn wsX10_join wsX7_has := goodIn_r _ [8, 9, 60, 61, 62, 63] (by decide +kernel) (by decide +kernel)
set_option maxRecDepth 20000 in
theorem gX10_join_X7_has : GoodIn wsX10_join (wsV RX10 102 RX7 yX7_has wsX7_has) := goodIn_app (goodIn_of _ (by decide +kernel)) ggX10_join_X7_has
set_option maxRecDepth 20000 in
theorem ggX10_join_X7_setAt : GoodIn wsX10_join wsX7_setAt := goodIn_r _ [13, 14, 15, 5, 6, 7, 8, 9, 60, 61, 62, 63] (by decide +kernel) (by decide +kernel)
set_option maxRecDepth 20000 in
theorem gX10_join_X7_setAt : GoodIn wsX10_join (wsV RX10 107 RX7 yX7_setAt wsX7_setAt) := goodIn_app (goodIn_of _ (by decide +kernel)) ggX10_join_X7_setAt
set_option maxRecDepth 20000 in
theorem ggX10_join_X3_joined : GoodIn wsX10_join wsX3_joined := goodIn_r _ [19, 20] (by decide +kernel) (by decide +kernel)
set_option maxRecDepth 20000 in
theorem gX10_join_X3_joined : GoodIn wsX10_join (va_wsS RX10 191 yX3_joined wsX3_joined) := goodIn_app (goodIn_of _ (by decide +kernel)) ggX10_join_X3_joined
set_option maxRecDepth 20000 in
theorem ggX10_join_X2_remember : GoodIn wsX10_join wsX2_remember := goodIn_r _ [25, 26, 27, 28, 29, 30, 31, 32, 33, 34, 35, 36, 37, 38, 39, 40, 41, 42, 43, 44, 45, 46, 47, 11, 12, 7, 13, 14, 15, 5, 6, 8, 9, 64, 65, 66, 67, 68, 60, 61, 62, 63] (by decide +kernel) (by decide +kernel)
set_option maxRecDepth 20000 in
theorem gX10_join_X2_remember : GoodIn wsX10_join (wsV RX10 168 RX2 yX2_remember wsX2_remember) := goodIn_app (goodIn_of _ (by decide +kernel)) ggX10_join_X2_remember
set_option maxRecDepth 20000 in
theorem ggX10_join_X7_replace : GoodIn wsX10_join wsX7_replace := goodIn_r _ [51, 14, 15, 5, 6, 7, 8, 9, 60, 61, 62, 63] (by decide +kernel) (by decide +kernel)
set_option maxRecDepth 20000 in
theorem gX10_join_X7_replace : GoodIn wsX10_join (wsV RX10 187 RX7 yX7_replace wsX7_replace) := goodIn_app (goodIn_of _ (by decide +kernel)) ggX10_join_X7_replace
theorem dX10_join_0 : decode cX10_join 0 = .ok (.aload_n 0, 1) := by decide +kernel
theorem dX10_join_1 : decode cX10_join 1 = .ok (.getfield 10, 3) := by decide +kernel
theorem dX10_join_4 : decode cX10_join 4 = .ok (.iload_n 1, 1) := by decide +kernel
theorem dX10_join_5 : decode cX10_join 5 = .ok (.invokevirtual 102, 3) := by decide +kernel
theorem dX10_join_8 : decode cX10_join 8 = .ok (.ifCond .eq 14, 3) := by decide +kernel
theorem dX10_join_11 : decode cX10_join 11 = .ok (.aload_n 0, 1) := by decide +kernel
theorem dX10_join_12 : decode cX10_join 12 = .ok (.getfield 10, 3) := by decide +kernel
theorem dX10_join_15 : decode cX10_join 15 = .ok (.iload_n 2, 1) := by decide +kernel
theorem dX10_join_16 : decode cX10_join 16 = .ok (.invokevirtual 102, 3) := by decide +kernel
theorem dX10_join_19 : decode cX10_join 19 = .ok (.ifCond .ne 6, 3) := by decide +kernel
theorem dX10_join_22 : decode cX10_join 22 = .ok (.ldc 106, 2) := by decide +kernel
theorem dX10_join_24 : decode cX10_join 24 = .ok (.ireturn, 1) := by decide +kernel
theorem dX10_join_25 : decode cX10_join 25 = .ok (.aload_n 0, 1) := by decide +kernel
theorem dX10_join_26 : decode cX10_join 26 = .ok (.getfield 10, 3) := by decide +kernel
theorem dX10_join_29 : decode cX10_join 29 = .ok (.iload_n 1, 1) := by decide +kernel
theorem dX10_join_30 : decode cX10_join 30 = .ok (.invokevirtual 107, 3) := by decide +kernel
theorem dX10_join_33 : decode cX10_join 33 = .ok (.aload_n 0, 1) := by decide +kernel
theorem dX10_join_34 : decode cX10_join 34 = .ok (.getfield 10, 3) := by decide +kernel
theorem dX10_join_37 : decode cX10_join 37 = .ok (.iload_n 2, 1) := by decide +kernel
theorem dX10_join_38 : decode cX10_join 38 = .ok (.invokevirtual 107, 3) := by decide +kernel
theorem dX10_join_41 : decode cX10_join 41 = .ok (.iload_n 3, 1) := by decide +kernel
theorem dX10_join_42 : decode cX10_join 42 = .ok (.invokestatic 191, 3) := by decide +kernel
theorem dX10_join_45 : decode cX10_join 45 = .ok (.istore 4, 2) := by decide +kernel
theorem dX10_join_47 : decode cX10_join 47 = .ok (.iload 4, 2) := by decide +kernel
theorem dX10_join_49 : decode cX10_join 49 = .ok (.ifCond .ge 6, 3) := by decide +kernel
theorem dX10_join_52 : decode cX10_join 52 = .ok (.iload 4, 2) := by decide +kernel
theorem dX10_join_54 : decode cX10_join 54 = .ok (.ireturn, 1) := by decide +kernel
theorem dX10_join_55 : decode cX10_join 55 = .ok (.aload_n 0, 1) := by decide +kernel
theorem dX10_join_56 : decode cX10_join 56 = .ok (.getfield 19, 3) := by decide +kernel
theorem dX10_join_59 : decode cX10_join 59 = .ok (.aload_n 0, 1) := by decide +kernel
theorem dX10_join_60 : decode cX10_join 60 = .ok (.getfield 10, 3) := by decide +kernel
theorem dX10_join_63 : decode cX10_join 63 = .ok (.invokevirtual 168, 3) := by decide +kernel
theorem dX10_join_66 : decode cX10_join 66 = .ok (.aload_n 0, 1) := by decide +kernel
theorem dX10_join_67 : decode cX10_join 67 = .ok (.getfield 10, 3) := by decide +kernel
theorem dX10_join_70 : decode cX10_join 70 = .ok (.iload_n 1, 1) := by decide +kernel
theorem dX10_join_71 : decode cX10_join 71 = .ok (.iload 4, 2) := by decide +kernel
theorem dX10_join_73 : decode cX10_join 73 = .ok (.invokevirtual 187, 3) := by decide +kernel
theorem dX10_join_76 : decode cX10_join 76 = .ok (.iload 4, 2) := by decide +kernel
theorem dX10_join_78 : decode cX10_join 78 = .ok (.ireturn, 1) := by decide +kernel
set_option maxRecDepth 20000 in
theorem ggX10_swap_X7_has : GoodIn wsX10_swap wsX7_has := goodIn_r _ [9, 10, 70, 71, 72, 73] (by decide +kernel) (by decide +kernel)
set_option maxRecDepth 20000 in
theorem gX10_swap_X7_has : GoodIn wsX10_swap (wsV RX10 102 RX7 yX7_has wsX7_has) := goodIn_app (goodIn_of _ (by decide +kernel)) ggX10_swap_X7_has
set_option maxRecDepth 20000 in
theorem ggX10_swap_X2_remember : GoodIn wsX10_swap wsX2_remember := goodIn_r _ [15, 16, 17, 18, 19, 20, 21, 22, 23, 24, 25, 26, 27, 28, 29, 30, 31, 32, 33, 34, 35, 36, 37, 38, 39, 8, 40, 41, 42, 6, 7, 9, 10, 74, 75, 76, 77, 78, 70, 71, 72, 73] (by decide +kernel) (by decide +kernel)
set_option maxRecDepth 20000 in
theorem gX10_swap_X2_remember : GoodIn wsX10_swap (wsV RX10 168 RX2 yX2_remember wsX2_remember) := goodIn_app (goodIn_of _ (by decide +kernel)) ggX10_swap_X2_remember
set_option maxRecDepth 20000 in
theorem ggX10_swap_X7_setAt : GoodIn wsX10_swap wsX7_setAt := goodIn_r _ [40, 41, 42, 6, 7, 8, 9, 10, 70, 71, 72, 73] (by decide +kernel) (by decide +kernel)
set_option maxRecDepth 20000 in
theorem gX10_swap_X7_setAt : GoodIn wsX10_swap (wsV RX10 107 RX7 yX7_setAt wsX7_setAt) := goodIn_app (goodIn_of _ (by decide +kernel)) ggX10_swap_X7_setAt
set_option maxRecDepth 20000 in
theorem ggX10_swap_X7_replace : GoodIn wsX10_swap wsX7_replace := goodIn_r _ [47, 41, 42, 6, 7, 8, 9, 10, 70, 71, 72, 73] (by decide +kernel) (by decide +kernel)
set_option maxRecDepth 20000 in
theorem gX10_swap_X7_replace : GoodIn wsX10_swap (wsV RX10 187 RX7 yX7_replace wsX7_replace) := goodIn_app (goodIn_of _ (by decide +kernel)) ggX10_swap_X7_replace
set_option maxRecDepth 20000 in
theorem ggX10_swap_X3_formOf : GoodIn wsX10_swap wsX3_formOf := goodIn_r _ [51, 52, 20, 21, 22, 53, 54, 50, 55, 56, 57, 58, 59, 60, 61] (by decide +kernel) (by decide +kernel)
set_option maxRecDepth 20000 in
theorem gX10_swap_X3_formOf : GoodIn wsX10_swap (va_wsS RX10 115 yX3_formOf wsX3_formOf) := goodIn_app (goodIn_of _ (by decide +kernel)) ggX10_swap_X3_formOf
theorem dX10_swap_0 : decode cX10_swap 0 = .ok (.aload_n 0, 1) := by decide +kernel
theorem dX10_swap_1 : decode cX10_swap 1 = .ok (.getfield 10, 3) := by decide +kernel
theorem dX10_swap_4 : decode cX10_swap 4 = .ok (.iload_n 1, 1) := by decide +kernel
theorem dX10_swap_5 : decode cX10_swap 5 = .ok (.invokevirtual 102, 3) := by decide +kernel
theorem dX10_swap_8 : decode cX10_swap 8 = .ok (.ifCond .eq 14, 3) := by decide +kernel
theorem dX10_swap_11 : decode cX10_swap 11 = .ok (.aload_n 0, 1) := by decide +kernel
theorem dX10_swap_12 : decode cX10_swap 12 = .ok (.getfield 10, 3) := by decide +kernel
theorem dX10_swap_15 : decode cX10_swap 15 = .ok (.iload_n 2, 1) := by decide +kernel
theorem dX10_swap_16 : decode cX10_swap 16 = .ok (.invokevirtual 102, 3) := by decide +kernel
theorem dX10_swap_19 : decode cX10_swap 19 = .ok (.ifCond .ne 6, 3) := by decide +kernel
theorem dX10_swap_22 : decode cX10_swap 22 = .ok (.ldc 106, 2) := by decide +kernel
theorem dX10_swap_24 : decode cX10_swap 24 = .ok (.ireturn, 1) := by decide +kernel
theorem dX10_swap_25 : decode cX10_swap 25 = .ok (.aload_n 0, 1) := by decide +kernel
theorem dX10_swap_26 : decode cX10_swap 26 = .ok (.getfield 19, 3) := by decide +kernel
theorem dX10_swap_29 : decode cX10_swap 29 = .ok (.aload_n 0, 1) := by decide +kernel
theorem dX10_swap_30 : decode cX10_swap 30 = .ok (.getfield 10, 3) := by decide +kernel
theorem dX10_swap_33 : decode cX10_swap 33 = .ok (.invokevirtual 168, 3) := by decide +kernel
theorem dX10_swap_36 : decode cX10_swap 36 = .ok (.aload_n 0, 1) := by decide +kernel
theorem dX10_swap_37 : decode cX10_swap 37 = .ok (.getfield 10, 3) := by decide +kernel
theorem dX10_swap_40 : decode cX10_swap 40 = .ok (.iload_n 1, 1) := by decide +kernel
theorem dX10_swap_41 : decode cX10_swap 41 = .ok (.invokevirtual 107, 3) := by decide +kernel
theorem dX10_swap_44 : decode cX10_swap 44 = .ok (.istore_n 3, 1) := by decide +kernel
theorem dX10_swap_45 : decode cX10_swap 45 = .ok (.aload_n 0, 1) := by decide +kernel
theorem dX10_swap_46 : decode cX10_swap 46 = .ok (.getfield 10, 3) := by decide +kernel
theorem dX10_swap_49 : decode cX10_swap 49 = .ok (.iload_n 2, 1) := by decide +kernel
theorem dX10_swap_50 : decode cX10_swap 50 = .ok (.invokevirtual 107, 3) := by decide +kernel
theorem dX10_swap_53 : decode cX10_swap 53 = .ok (.istore 4, 2) := by decide +kernel
theorem dX10_swap_55 : decode cX10_swap 55 = .ok (.aload_n 0, 1) := by decide +kernel
theorem dX10_swap_56 : decode cX10_swap 56 = .ok (.getfield 10, 3) := by decide +kernel
theorem dX10_swap_59 : decode cX10_swap 59 = .ok (.iload_n 1, 1) := by decide +kernel
theorem dX10_swap_60 : decode cX10_swap 60 = .ok (.iload 4, 2) := by decide +kernel
theorem dX10_swap_62 : decode cX10_swap 62 = .ok (.invokevirtual 187, 3) := by decide +kernel
theorem dX10_swap_65 : decode cX10_swap 65 = .ok (.aload_n 0, 1) := by decide +kernel
theorem dX10_swap_66 : decode cX10_swap 66 = .ok (.getfield 10, 3) := by decide +kernel
theorem dX10_swap_69 : decode cX10_swap 69 = .ok (.iload_n 2, 1) := by decide +kernel
theorem dX10_swap_70 : decode cX10_swap 70 = .ok (.iload_n 3, 1) := by decide +kernel
theorem dX10_swap_71 : decode cX10_swap 71 = .ok (.invokevirtual 187, 3) := by decide +kernel
theorem dX10_swap_74 : decode cX10_swap 74 = .ok (.iload_n 3, 1) := by decide +kernel
theorem dX10_swap_75 : decode cX10_swap 75 = .ok (.aload_n 0, 1) := by decide +kernel
theorem dX10_swap_76 : decode cX10_swap 76 = .ok (.getfield 10, 3) := by decide +kernel
theorem dX10_swap_79 : decode cX10_swap 79 = .ok (.getfield 67, 3) := by decide +kernel
theorem dX10_swap_82 : decode cX10_swap 82 = .ok (.invokestatic 115, 3) := by decide +kernel
theorem dX10_swap_85 : decode cX10_swap 85 = .ok (.iload 4, 2) := by decide +kernel
theorem dX10_swap_87 : decode cX10_swap 87 = .ok (.aload_n 0, 1) := by decide +kernel
theorem dX10_swap_88 : decode cX10_swap 88 = .ok (.getfield 10, 3) := by decide +kernel
theorem dX10_swap_91 : decode cX10_swap 91 = .ok (.getfield 67, 3) := by decide +kernel
theorem dX10_swap_94 : decode cX10_swap 94 = .ok (.invokestatic 115, 3) := by decide +kernel
theorem dX10_swap_97 : decode cX10_swap 97 = .ok (.if_icmp .eq 7, 3) := by decide +kernel
theorem dX10_swap_100 : decode cX10_swap 100 = .ok (.iconst 1, 1) := by decide +kernel
theorem dX10_swap_101 : decode cX10_swap 101 = .ok (.goto 4, 3) := by decide +kernel
theorem dX10_swap_104 : decode cX10_swap 104 = .ok (.iconst 0, 1) := by decide +kernel
theorem dX10_swap_105 : decode cX10_swap 105 = .ok (.ireturn, 1) := by decide +kernel
set_option maxRecDepth 20000 in
theorem ggX10_take_X7_has : GoodIn wsX10_take wsX7_has := goodIn_r _ [9, 10, 55, 56, 57, 58] (by decide +kernel) (by decide +kernel)
set_option maxRecDepth 20000 in
theorem gX10_take_X7_has : GoodIn wsX10_take (wsV RX10 102 RX7 yX7_has wsX7_has) := goodIn_app (goodIn_of _ (by decide +kernel)) ggX10_take_X7_has
set_option maxRecDepth 20000 in
theorem ggX10_take_X2_remember : GoodIn wsX10_take wsX2_remember := goodIn_r _ [15, 16, 17, 18, 19, 20, 21, 22, 23, 24, 25, 26, 27, 28, 29, 30, 31, 32, 33, 34, 35, 36, 37, 38, 39, 8, 40, 41, 42, 6, 7, 9, 10, 59, 60, 61, 62, 63, 55, 56, 57, 58] (by decide +kernel) (by decide +kernel)
set_option maxRecDepth 20000 in
theorem gX10_take_X2_remember : GoodIn wsX10_take (wsV RX10 168 RX2 yX2_remember wsX2_remember) := goodIn_app (goodIn_of _ (by decide +kernel)) ggX10_take_X2_remember
set_option maxRecDepth 20000 in
theorem ggX10_take_X7_remove : GoodIn wsX10_take wsX7_remove := goodIn_r _ [46, 10, 41, 42, 6, 7, 8, 9, 55, 56, 57, 58] (by decide +kernel) (by decide +kernel)
set_option maxRecDepth 20000 in
theorem gX10_take_X7_remove : GoodIn wsX10_take (wsV RX10 194 RX7 yX7_remove wsX7_remove) := goodIn_app (goodIn_of _ (by decide +kernel)) ggX10_take_X7_remove
theorem dX10_take_0 : decode cX10_take 0 = .ok (.aload_n 0, 1) := by decide +kernel
theorem dX10_take_1 : decode cX10_take 1 = .ok (.getfield 10, 3) := by decide +kernel
theorem dX10_take_4 : decode cX10_take 4 = .ok (.iload_n 1, 1) := by decide +kernel
theorem dX10_take_5 : decode cX10_take 5 = .ok (.invokevirtual 102, 3) := by decide +kernel
theorem dX10_take_8 : decode cX10_take 8 = .ok (.ifCond .ne 6, 3) := by decide +kernel
theorem dX10_take_11 : decode cX10_take 11 = .ok (.ldc 106, 2) := by decide +kernel
theorem dX10_take_13 : decode cX10_take 13 = .ok (.ireturn, 1) := by decide +kernel
theorem dX10_take_14 : decode cX10_take 14 = .ok (.aload_n 0, 1) := by decide +kernel
theorem dX10_take_15 : decode cX10_take 15 = .ok (.getfield 19, 3) := by decide +kernel
theorem dX10_take_18 : decode cX10_take 18 = .ok (.aload_n 0, 1) := by decide +kernel
theorem dX10_take_19 : decode cX10_take 19 = .ok (.getfield 10, 3) := by decide +kernel
theorem dX10_take_22 : decode cX10_take 22 = .ok (.invokevirtual 168, 3) := by decide +kernel
theorem dX10_take_25 : decode cX10_take 25 = .ok (.aload_n 0, 1) := by decide +kernel
theorem dX10_take_26 : decode cX10_take 26 = .ok (.getfield 10, 3) := by decide +kernel
theorem dX10_take_29 : decode cX10_take 29 = .ok (.iload_n 1, 1) := by decide +kernel
theorem dX10_take_30 : decode cX10_take 30 = .ok (.invokevirtual 194, 3) := by decide +kernel
theorem dX10_take_33 : decode cX10_take 33 = .ok (.aload_n 0, 1) := by decide +kernel
theorem dX10_take_34 : decode cX10_take 34 = .ok (.getfield 10, 3) := by decide +kernel
theorem dX10_take_37 : decode cX10_take 37 = .ok (.getfield 71, 3) := by decide +kernel
theorem dX10_take_40 : decode cX10_take 40 = .ok (.ireturn, 1) := by decide +kernel
set_option maxRecDepth 20000 in
theorem ggX10_drift_X7_hasRoom : GoodIn wsX10_drift wsX7_hasRoom := goodIn_r _ [9, 10, 72, 73, 74, 75] (by decide +kernel) (by decide +kernel)
set_option maxRecDepth 20000 in
theorem gX10_drift_X7_hasRoom : GoodIn wsX10_drift (wsV RX10 175 RX7 yX7_hasRoom wsX7_hasRoom) := goodIn_app (goodIn_of _ (by decide +kernel)) ggX10_drift_X7_hasRoom
set_option maxRecDepth 20000 in
theorem ggX10_drift_X2_remember : GoodIn wsX10_drift wsX2_remember := goodIn_r _ [15, 16, 17, 18, 19, 20, 21, 22, 23, 24, 25, 26, 27, 28, 29, 30, 31, 32, 33, 34, 35, 36, 37, 38, 39, 8, 40, 41, 42, 43, 44, 45, 10, 76, 77, 78, 79, 80, 72, 73, 74, 75] (by decide +kernel) (by decide +kernel)
set_option maxRecDepth 20000 in
theorem gX10_drift_X2_remember : GoodIn wsX10_drift (wsV RX10 168 RX2 yX2_remember wsX2_remember) := goodIn_app (goodIn_of _ (by decide +kernel)) ggX10_drift_X2_remember
set_option maxRecDepth 20000 in
theorem ggX10_drift_X7_drawSet : GoodIn wsX10_drift wsX7_drawSet := goodIn_r _ [49, 50, 51, 52, 53, 54, 55, 56, 57, 58, 72, 73, 74, 75] (by decide +kernel) (by decide +kernel)
set_option maxRecDepth 20000 in
theorem gX10_drift_X7_drawSet : GoodIn wsX10_drift (wsV RX10 197 RX7 yX7_drawSet wsX7_drawSet) := goodIn_app (goodIn_of _ (by decide +kernel)) ggX10_drift_X7_drawSet
set_option maxRecDepth 20000 in
theorem ggX10_drift_X7_append : GoodIn wsX10_drift wsX7_append := goodIn_r _ [62, 41, 10, 63, 6, 7, 8, 9, 72, 73, 74, 75] (by decide +kernel) (by decide +kernel)
set_option maxRecDepth 20000 in
theorem gX10_drift_X7_append : GoodIn wsX10_drift (wsV RX10 180 RX7 yX7_append wsX7_append) := goodIn_app (goodIn_of _ (by decide +kernel)) ggX10_drift_X7_append
theorem dX10_drift_0 : decode cX10_drift 0 = .ok (.iload_n 1, 1) := by decide +kernel
theorem dX10_drift_1 : decode cX10_drift 1 = .ok (.iconst 1, 1) := by decide +kernel
theorem dX10_drift_2 : decode cX10_drift 2 = .ok (.if_icmp .lt 9, 3) := by decide +kernel
theorem dX10_drift_5 : decode cX10_drift 5 = .ok (.iload_n 1, 1) := by decide +kernel
theorem dX10_drift_6 : decode cX10_drift 6 = .ok (.bipush 8, 2) := by decide +kernel
theorem dX10_drift_8 : decode cX10_drift 8 = .ok (.if_icmp .le 6, 3) := by decide +kernel
theorem dX10_drift_11 : decode cX10_drift 11 = .ok (.ldc 101, 2) := by decide +kernel
theorem dX10_drift_13 : decode cX10_drift 13 = .ok (.ireturn, 1) := by decide +kernel
theorem dX10_drift_14 : decode cX10_drift 14 = .ok (.iconst 0, 1) := by decide +kernel
theorem dX10_drift_15 : decode cX10_drift 15 = .ok (.istore_n 2, 1) := by decide +kernel
theorem dX10_drift_16 : decode cX10_drift 16 = .ok (.iload_n 2, 1) := by decide +kernel
theorem dX10_drift_17 : decode cX10_drift 17 = .ok (.iload_n 1, 1) := by decide +kernel
theorem dX10_drift_18 : decode cX10_drift 18 = .ok (.if_icmp .ge 44, 3) := by decide +kernel
theorem dX10_drift_21 : decode cX10_drift 21 = .ok (.aload_n 0, 1) := by decide +kernel
theorem dX10_drift_22 : decode cX10_drift 22 = .ok (.getfield 10, 3) := by decide +kernel
theorem dX10_drift_25 : decode cX10_drift 25 = .ok (.invokevirtual 175, 3) := by decide +kernel
theorem dX10_drift_28 : decode cX10_drift 28 = .ok (.ifCond .eq 34, 3) := by decide +kernel
theorem dX10_drift_31 : decode cX10_drift 31 = .ok (.aload_n 0, 1) := by decide +kernel
theorem dX10_drift_32 : decode cX10_drift 32 = .ok (.getfield 19, 3) := by decide +kernel
theorem dX10_drift_35 : decode cX10_drift 35 = .ok (.aload_n 0, 1) := by decide +kernel
theorem dX10_drift_36 : decode cX10_drift 36 = .ok (.getfield 10, 3) := by decide +kernel
theorem dX10_drift_39 : decode cX10_drift 39 = .ok (.invokevirtual 168, 3) := by decide +kernel
theorem dX10_drift_42 : decode cX10_drift 42 = .ok (.aload_n 0, 1) := by decide +kernel
theorem dX10_drift_43 : decode cX10_drift 43 = .ok (.getfield 10, 3) := by decide +kernel
theorem dX10_drift_46 : decode cX10_drift 46 = .ok (.aload_n 0, 1) := by decide +kernel
theorem dX10_drift_47 : decode cX10_drift 47 = .ok (.getfield 10, 3) := by decide +kernel
theorem dX10_drift_50 : decode cX10_drift 50 = .ok (.invokevirtual 197, 3) := by decide +kernel
theorem dX10_drift_53 : decode cX10_drift 53 = .ok (.invokevirtual 180, 3) := by decide +kernel
theorem dX10_drift_56 : decode cX10_drift 56 = .ok (.iinc 2 1, 3) := by decide +kernel
theorem dX10_drift_59 : decode cX10_drift 59 = .ok (.goto (-43), 3) := by decide +kernel
theorem dX10_drift_62 : decode cX10_drift 62 = .ok (.aload_n 0, 1) := by decide +kernel
theorem dX10_drift_63 : decode cX10_drift 63 = .ok (.getfield 10, 3) := by decide +kernel
theorem dX10_drift_66 : decode cX10_drift 66 = .ok (.getfield 71, 3) := by decide +kernel
theorem dX10_drift_69 : decode cX10_drift 69 = .ok (.ireturn, 1) := by decide +kernel
set_option maxRecDepth 20000 in
theorem ggX10_undo_X2_bringBack : GoodIn wsX10_undo wsX2_bringBack := goodIn_r _ [11, 12, 13, 14, 15, 16, 17, 18, 19, 20, 21, 22, 23, 24, 25, 26, 27, 28, 29, 30, 31, 32, 33, 34, 35, 36, 37, 38, 39, 40, 41, 42, 51, 52, 53, 58, 59, 54, 55, 56, 57] (by decide +kernel) (by decide +kernel)
set_option maxRecDepth 20000 in
theorem gX10_undo_X2_bringBack : GoodIn wsX10_undo (wsV RX10 200 RX2 yX2_bringBack wsX2_bringBack) := goodIn_app (goodIn_of _ (by decide +kernel)) ggX10_undo_X2_bringBack
theorem dX10_undo_0 : decode cX10_undo 0 = .ok (.iload_n 1, 1) := by decide +kernel
theorem dX10_undo_1 : decode cX10_undo 1 = .ok (.iconst 1, 1) := by decide +kernel
theorem dX10_undo_2 : decode cX10_undo 2 = .ok (.if_icmp .lt 9, 3) := by decide +kernel
theorem dX10_undo_5 : decode cX10_undo 5 = .ok (.iload_n 1, 1) := by decide +kernel
theorem dX10_undo_6 : decode cX10_undo 6 = .ok (.bipush 16, 2) := by decide +kernel
theorem dX10_undo_8 : decode cX10_undo 8 = .ok (.if_icmp .le 6, 3) := by decide +kernel
theorem dX10_undo_11 : decode cX10_undo 11 = .ok (.ldc 101, 2) := by decide +kernel
theorem dX10_undo_13 : decode cX10_undo 13 = .ok (.ireturn, 1) := by decide +kernel
theorem dX10_undo_14 : decode cX10_undo 14 = .ok (.iload_n 1, 1) := by decide +kernel
theorem dX10_undo_15 : decode cX10_undo 15 = .ok (.aload_n 0, 1) := by decide +kernel
theorem dX10_undo_16 : decode cX10_undo 16 = .ok (.getfield 19, 3) := by decide +kernel
theorem dX10_undo_19 : decode cX10_undo 19 = .ok (.getfield 95, 3) := by decide +kernel
theorem dX10_undo_22 : decode cX10_undo 22 = .ok (.if_icmp .le 6, 3) := by decide +kernel
theorem dX10_undo_25 : decode cX10_undo 25 = .ok (.ldc 146, 2) := by decide +kernel
theorem dX10_undo_27 : decode cX10_undo 27 = .ok (.ireturn, 1) := by decide +kernel
theorem dX10_undo_28 : decode cX10_undo 28 = .ok (.aload_n 0, 1) := by decide +kernel
theorem dX10_undo_29 : decode cX10_undo 29 = .ok (.getfield 19, 3) := by decide +kernel
theorem dX10_undo_32 : decode cX10_undo 32 = .ok (.iload_n 1, 1) := by decide +kernel
theorem dX10_undo_33 : decode cX10_undo 33 = .ok (.aload_n 0, 1) := by decide +kernel
theorem dX10_undo_34 : decode cX10_undo 34 = .ok (.getfield 10, 3) := by decide +kernel
theorem dX10_undo_37 : decode cX10_undo 37 = .ok (.invokevirtual 200, 3) := by decide +kernel
theorem dX10_undo_40 : decode cX10_undo 40 = .ok (.aload_n 0, 1) := by decide +kernel
theorem dX10_undo_41 : decode cX10_undo 41 = .ok (.getfield 10, 3) := by decide +kernel
theorem dX10_undo_44 : decode cX10_undo 44 = .ok (.getfield 71, 3) := by decide +kernel
theorem dX10_undo_47 : decode cX10_undo 47 = .ok (.ireturn, 1) := by decide +kernel
set_option maxRecDepth 20000 in
theorem ggX10_write_X7_has : GoodIn wsX10_write wsX7_has := goodIn_r _ [10, 11, 36, 37, 38, 39] (by decide +kernel) (by decide +kernel)
set_option maxRecDepth 20000 in
theorem gX10_write_X7_has : GoodIn wsX10_write (wsV RX10 102 RX7 yX7_has wsX7_has) := goodIn_app (goodIn_of _ (by decide +kernel)) ggX10_write_X7_has
set_option maxRecDepth 20000 in
theorem ggX10_write_X0_hasRoom : GoodIn wsX10_write wsX0_hasRoom := goodIn_r _ [16, 17, 33, 34, 35] (by decide +kernel) (by decide +kernel)
set_option maxRecDepth 20000 in
theorem gX10_write_X0_hasRoom : GoodIn wsX10_write (wsV RX10 204 RX0 yX0_hasRoom wsX0_hasRoom) := goodIn_app (goodIn_of _ (by decide +kernel)) ggX10_write_X0_hasRoom
set_option maxRecDepth 20000 in
theorem ggX10_write_X0_append : GoodIn wsX10_write wsX0_append := goodIn_r _ [21, 22, 17, 23, 24, 13, 14, 15, 16, 33, 34, 35] (by decide +kernel) (by decide +kernel)
set_option maxRecDepth 20000 in
theorem gX10_write_X0_append : GoodIn wsX10_write (wsV RX10 205 RX0 yX0_append wsX0_append) := goodIn_app (goodIn_of _ (by decide +kernel)) ggX10_write_X0_append
theorem dX10_write_0 : decode cX10_write 0 = .ok (.aload_n 0, 1) := by decide +kernel
theorem dX10_write_1 : decode cX10_write 1 = .ok (.getfield 10, 3) := by decide +kernel
theorem dX10_write_4 : decode cX10_write 4 = .ok (.iload_n 1, 1) := by decide +kernel
theorem dX10_write_5 : decode cX10_write 5 = .ok (.invokevirtual 102, 3) := by decide +kernel
theorem dX10_write_8 : decode cX10_write 8 = .ok (.ifCond .ne 6, 3) := by decide +kernel
theorem dX10_write_11 : decode cX10_write 11 = .ok (.ldc 106, 2) := by decide +kernel
theorem dX10_write_13 : decode cX10_write 13 = .ok (.ireturn, 1) := by decide +kernel
theorem dX10_write_14 : decode cX10_write 14 = .ok (.aload_n 0, 1) := by decide +kernel
theorem dX10_write_15 : decode cX10_write 15 = .ok (.getfield 35, 3) := by decide +kernel
theorem dX10_write_18 : decode cX10_write 18 = .ok (.invokevirtual 204, 3) := by decide +kernel
theorem dX10_write_21 : decode cX10_write 21 = .ok (.ifCond .ne 6, 3) := by decide +kernel
theorem dX10_write_24 : decode cX10_write 24 = .ok (.ldc 179, 2) := by decide +kernel
theorem dX10_write_26 : decode cX10_write 26 = .ok (.ireturn, 1) := by decide +kernel
theorem dX10_write_27 : decode cX10_write 27 = .ok (.aload_n 0, 1) := by decide +kernel
theorem dX10_write_28 : decode cX10_write 28 = .ok (.getfield 35, 3) := by decide +kernel
theorem dX10_write_31 : decode cX10_write 31 = .ok (.iload_n 1, 1) := by decide +kernel
theorem dX10_write_32 : decode cX10_write 32 = .ok (.iload_n 2, 1) := by decide +kernel
theorem dX10_write_33 : decode cX10_write 33 = .ok (.invokevirtual 205, 3) := by decide +kernel
theorem dX10_write_36 : decode cX10_write 36 = .ok (.aload_n 0, 1) := by decide +kernel
theorem dX10_write_37 : decode cX10_write 37 = .ok (.getfield 35, 3) := by decide +kernel
theorem dX10_write_40 : decode cX10_write 40 = .ok (.getfield 89, 3) := by decide +kernel
theorem dX10_write_43 : decode cX10_write 43 = .ok (.ireturn, 1) := by decide +kernel
theorem dX10_tear_0 : decode cX10_tear 0 = .ok (.aload_n 0, 1) := by decide +kernel
theorem dX10_tear_1 : decode cX10_tear 1 = .ok (.getfield 35, 3) := by decide +kernel
theorem dX10_tear_4 : decode cX10_tear 4 = .ok (.getfield 89, 3) := by decide +kernel
theorem dX10_tear_7 : decode cX10_tear 7 = .ok (.istore_n 1, 1) := by decide +kernel
theorem dX10_tear_8 : decode cX10_tear 8 = .ok (.aload_n 0, 1) := by decide +kernel
theorem dX10_tear_9 : decode cX10_tear 9 = .ok (.getfield 35, 3) := by decide +kernel
theorem dX10_tear_12 : decode cX10_tear 12 = .ok (.iconst 0, 1) := by decide +kernel
theorem dX10_tear_13 : decode cX10_tear 13 = .ok (.putfield 89, 3) := by decide +kernel
theorem dX10_tear_16 : decode cX10_tear 16 = .ok (.iload_n 1, 1) := by decide +kernel
theorem dX10_tear_17 : decode cX10_tear 17 = .ok (.ireturn, 1) := by decide +kernel
theorem dX10_seed_0 : decode cX10_seed 0 = .ok (.iload_n 1, 1) := by decide +kernel
theorem dX10_seed_1 : decode cX10_seed 1 = .ok (.ifCond .ge 6, 3) := by decide +kernel
theorem dX10_seed_4 : decode cX10_seed 4 = .ok (.ldc 101, 2) := by decide +kernel
theorem dX10_seed_6 : decode cX10_seed 6 = .ok (.ireturn, 1) := by decide +kernel
theorem dX10_seed_7 : decode cX10_seed 7 = .ok (.aload_n 0, 1) := by decide +kernel
theorem dX10_seed_8 : decode cX10_seed 8 = .ok (.getfield 10, 3) := by decide +kernel
theorem dX10_seed_11 : decode cX10_seed 11 = .ok (.getfield 98, 3) := by decide +kernel
theorem dX10_seed_14 : decode cX10_seed 14 = .ok (.istore_n 2, 1) := by decide +kernel
theorem dX10_seed_15 : decode cX10_seed 15 = .ok (.aload_n 0, 1) := by decide +kernel
theorem dX10_seed_16 : decode cX10_seed 16 = .ok (.getfield 10, 3) := by decide +kernel
theorem dX10_seed_19 : decode cX10_seed 19 = .ok (.iload_n 1, 1) := by decide +kernel
theorem dX10_seed_20 : decode cX10_seed 20 = .ok (.putfield 98, 3) := by decide +kernel
theorem dX10_seed_23 : decode cX10_seed 23 = .ok (.iload_n 2, 1) := by decide +kernel
theorem dX10_seed_24 : decode cX10_seed 24 = .ok (.ireturn, 1) := by decide +kernel
set_option maxRecDepth 20000 in
theorem ggX10_keep_X5_store : GoodIn wsX10_keep wsX5_store := goodIn_r _ [10, 11, 12, 13, 14, 15, 16, 17, 9, 18, 19, 20, 21, 22, 23, 24, 25, 26, 27, 28, 29, 30, 42, 43, 44, 45, 46, 47] (by decide +kernel) (by decide +kernel)
set_option maxRecDepth 20000 in
theorem gX10_keep_X5_store : GoodIn wsX10_keep (wsV RX10 207 RX5 yX5_store wsX5_store) := goodIn_app (goodIn_of _ (by decide +kernel)) ggX10_keep_X5_store
theorem dX10_keep_0 : decode cX10_keep 0 = .ok (.iload_n 1, 1) := by decide +kernel
theorem dX10_keep_1 : decode cX10_keep 1 = .ok (.ifCond .lt 8, 3) := by decide +kernel
theorem dX10_keep_4 : decode cX10_keep 4 = .ok (.iload_n 1, 1) := by decide +kernel
theorem dX10_keep_5 : decode cX10_keep 5 = .ok (.iconst 2, 1) := by decide +kernel
theorem dX10_keep_6 : decode cX10_keep 6 = .ok (.if_icmp .lt 6, 3) := by decide +kernel
theorem dX10_keep_9 : decode cX10_keep 9 = .ok (.ldc 106, 2) := by decide +kernel
theorem dX10_keep_11 : decode cX10_keep 11 = .ok (.ireturn, 1) := by decide +kernel
theorem dX10_keep_12 : decode cX10_keep 12 = .ok (.aload_n 0, 1) := by decide +kernel
theorem dX10_keep_13 : decode cX10_keep 13 = .ok (.getfield 28, 3) := by decide +kernel
theorem dX10_keep_16 : decode cX10_keep 16 = .ok (.iload_n 1, 1) := by decide +kernel
theorem dX10_keep_17 : decode cX10_keep 17 = .ok (.aload_n 0, 1) := by decide +kernel
theorem dX10_keep_18 : decode cX10_keep 18 = .ok (.getfield 10, 3) := by decide +kernel
theorem dX10_keep_21 : decode cX10_keep 21 = .ok (.invokevirtual 207, 3) := by decide +kernel
theorem dX10_keep_24 : decode cX10_keep 24 = .ok (.aload_n 0, 1) := by decide +kernel
theorem dX10_keep_25 : decode cX10_keep 25 = .ok (.getfield 19, 3) := by decide +kernel
theorem dX10_keep_28 : decode cX10_keep 28 = .ok (.iconst 0, 1) := by decide +kernel
theorem dX10_keep_29 : decode cX10_keep 29 = .ok (.putfield 95, 3) := by decide +kernel
theorem dX10_keep_32 : decode cX10_keep 32 = .ok (.iconst 1, 1) := by decide +kernel
theorem dX10_keep_33 : decode cX10_keep 33 = .ok (.ireturn, 1) := by decide +kernel
set_option maxRecDepth 20000 in
theorem ggX10_goBack_X5_isStored : GoodIn wsX10_goBack wsX5_isStored := goodIn_r _ [12, 13, 14, 15, 16, 11, 17, 18, 56, 57] (by decide +kernel) (by decide +kernel)
set_option maxRecDepth 20000 in
theorem gX10_goBack_X5_isStored : GoodIn wsX10_goBack (wsV RX10 210 RX5 yX5_isStored wsX5_isStored) := goodIn_app (goodIn_of _ (by decide +kernel)) ggX10_goBack_X5_isStored
set_option maxRecDepth 20000 in
theorem ggX10_goBack_X5_load : GoodIn wsX10_goBack wsX5_load := goodIn_r _ [22, 13, 23, 24, 25, 9, 10, 11, 12, 14, 15, 16, 17, 18, 26, 27, 28, 29, 30, 31, 32, 33, 34, 35, 36, 56, 57, 49, 50, 51, 52] (by decide +kernel) (by decide +kernel)
set_option maxRecDepth 20000 in
theorem gX10_goBack_X5_load : GoodIn wsX10_goBack (wsV RX10 213 RX5 yX5_load wsX5_load) := goodIn_app (goodIn_of _ (by decide +kernel)) ggX10_goBack_X5_load
set_option maxRecDepth 20000 in
theorem ggX10_goBack_X5_drawnOf : GoodIn wsX10_goBack wsX5_drawnOf := goodIn_r _ [40, 13, 25, 9, 10, 11, 12, 14, 15, 16, 17, 18, 56, 57] (by decide +kernel) (by decide +kernel)
set_option maxRecDepth 20000 in
theorem gX10_goBack_X5_drawnOf : GoodIn wsX10_goBack (wsV RX10 216 RX5 yX5_drawnOf wsX5_drawnOf) := goodIn_app (goodIn_of _ (by decide +kernel)) ggX10_goBack_X5_drawnOf
theorem dX10_goBack_0 : decode cX10_goBack 0 = .ok (.iload_n 1, 1) := by decide +kernel
theorem dX10_goBack_1 : decode cX10_goBack 1 = .ok (.ifCond .lt 8, 3) := by decide +kernel
theorem dX10_goBack_4 : decode cX10_goBack 4 = .ok (.iload_n 1, 1) := by decide +kernel
theorem dX10_goBack_5 : decode cX10_goBack 5 = .ok (.iconst 2, 1) := by decide +kernel
theorem dX10_goBack_6 : decode cX10_goBack 6 = .ok (.if_icmp .lt 6, 3) := by decide +kernel
theorem dX10_goBack_9 : decode cX10_goBack 9 = .ok (.ldc 106, 2) := by decide +kernel
theorem dX10_goBack_11 : decode cX10_goBack 11 = .ok (.ireturn, 1) := by decide +kernel
theorem dX10_goBack_12 : decode cX10_goBack 12 = .ok (.aload_n 0, 1) := by decide +kernel
theorem dX10_goBack_13 : decode cX10_goBack 13 = .ok (.getfield 28, 3) := by decide +kernel
theorem dX10_goBack_16 : decode cX10_goBack 16 = .ok (.iload_n 1, 1) := by decide +kernel
theorem dX10_goBack_17 : decode cX10_goBack 17 = .ok (.invokevirtual 210, 3) := by decide +kernel
theorem dX10_goBack_20 : decode cX10_goBack 20 = .ok (.ifCond .ne 6, 3) := by decide +kernel
theorem dX10_goBack_23 : decode cX10_goBack 23 = .ok (.ldc 146, 2) := by decide +kernel
theorem dX10_goBack_25 : decode cX10_goBack 25 = .ok (.ireturn, 1) := by decide +kernel
theorem dX10_goBack_26 : decode cX10_goBack 26 = .ok (.aload_n 0, 1) := by decide +kernel
theorem dX10_goBack_27 : decode cX10_goBack 27 = .ok (.getfield 28, 3) := by decide +kernel
theorem dX10_goBack_30 : decode cX10_goBack 30 = .ok (.iload_n 1, 1) := by decide +kernel
theorem dX10_goBack_31 : decode cX10_goBack 31 = .ok (.aload_n 0, 1) := by decide +kernel
theorem dX10_goBack_32 : decode cX10_goBack 32 = .ok (.getfield 10, 3) := by decide +kernel
theorem dX10_goBack_35 : decode cX10_goBack 35 = .ok (.invokevirtual 213, 3) := by decide +kernel
theorem dX10_goBack_38 : decode cX10_goBack 38 = .ok (.aload_n 0, 1) := by decide +kernel
theorem dX10_goBack_39 : decode cX10_goBack 39 = .ok (.getfield 10, 3) := by decide +kernel
theorem dX10_goBack_42 : decode cX10_goBack 42 = .ok (.aload_n 0, 1) := by decide +kernel
theorem dX10_goBack_43 : decode cX10_goBack 43 = .ok (.getfield 28, 3) := by decide +kernel
theorem dX10_goBack_46 : decode cX10_goBack 46 = .ok (.iload_n 1, 1) := by decide +kernel
theorem dX10_goBack_47 : decode cX10_goBack 47 = .ok (.invokevirtual 216, 3) := by decide +kernel
theorem dX10_goBack_50 : decode cX10_goBack 50 = .ok (.putfield 98, 3) := by decide +kernel
theorem dX10_goBack_53 : decode cX10_goBack 53 = .ok (.aload_n 0, 1) := by decide +kernel
theorem dX10_goBack_54 : decode cX10_goBack 54 = .ok (.getfield 19, 3) := by decide +kernel
theorem dX10_goBack_57 : decode cX10_goBack 57 = .ok (.iconst 0, 1) := by decide +kernel
theorem dX10_goBack_58 : decode cX10_goBack 58 = .ok (.putfield 95, 3) := by decide +kernel
theorem dX10_goBack_61 : decode cX10_goBack 61 = .ok (.iconst 1, 1) := by decide +kernel
theorem dX10_goBack_62 : decode cX10_goBack 62 = .ok (.ireturn, 1) := by decide +kernel
theorem dX11_init_0 : decode cX11_init 0 = .ok (.aload_n 0, 1) := by decide +kernel
theorem dX11_init_1 : decode cX11_init 1 = .ok (.invokespecial 1, 3) := by decide +kernel
theorem dX11_init_4 : decode cX11_init 4 = .ok (.aload_n 0, 1) := by decide +kernel
theorem dX11_init_5 : decode cX11_init 5 = .ok (.sipush 190, 3) := by decide +kernel
theorem dX11_init_8 : decode cX11_init 8 = .ok (.newarray .int, 2) := by decide +kernel
theorem dX11_init_10 : decode cX11_init 10 = .ok (.putfield 7, 3) := by decide +kernel
theorem dX11_init_13 : decode cX11_init 13 = .ok (.aload_n 0, 1) := by decide +kernel
theorem dX11_init_14 : decode cX11_init 14 = .ok (.iconst 2, 1) := by decide +kernel
theorem dX11_init_15 : decode cX11_init 15 = .ok (.newarray .int, 2) := by decide +kernel
theorem dX11_init_17 : decode cX11_init 17 = .ok (.putfield 13, 3) := by decide +kernel
theorem dX11_init_20 : decode cX11_init 20 = .ok (.aload_n 0, 1) := by decide +kernel
theorem dX11_init_21 : decode cX11_init 21 = .ok (.bipush 20, 2) := by decide +kernel
theorem dX11_init_23 : decode cX11_init 23 = .ok (.newarray .int, 2) := by decide +kernel
theorem dX11_init_25 : decode cX11_init 25 = .ok (.putfield 16, 3) := by decide +kernel
theorem dX11_init_28 : decode cX11_init 28 = .ok (.aload_n 0, 1) := by decide +kernel
theorem dX11_init_29 : decode cX11_init 29 = .ok (.bipush 20, 2) := by decide +kernel
theorem dX11_init_31 : decode cX11_init 31 = .ok (.newarray .int, 2) := by decide +kernel
theorem dX11_init_33 : decode cX11_init 33 = .ok (.putfield 19, 3) := by decide +kernel
theorem dX11_init_36 : decode cX11_init 36 = .ok (.aload_n 0, 1) := by decide +kernel
theorem dX11_init_37 : decode cX11_init 37 = .ok (.sipush 400, 3) := by decide +kernel
theorem dX11_init_40 : decode cX11_init 40 = .ok (.newarray .int, 2) := by decide +kernel
theorem dX11_init_42 : decode cX11_init 42 = .ok (.putfield 22, 3) := by decide +kernel
theorem dX11_init_45 : decode cX11_init 45 = .ok (.aload_n 0, 1) := by decide +kernel
theorem dX11_init_46 : decode cX11_init 46 = .ok (.sipush 4096, 3) := by decide +kernel
theorem dX11_init_49 : decode cX11_init 49 = .ok (.newarray .int, 2) := by decide +kernel
theorem dX11_init_51 : decode cX11_init 51 = .ok (.putfield 25, 3) := by decide +kernel
theorem dX11_init_54 : decode cX11_init 54 = .ok (.aload_n 0, 1) := by decide +kernel
theorem dX11_init_55 : decode cX11_init 55 = .ok (.sipush 4096, 3) := by decide +kernel
theorem dX11_init_58 : decode cX11_init 58 = .ok (.newarray .int, 2) := by decide +kernel
theorem dX11_init_60 : decode cX11_init 60 = .ok (.putfield 28, 3) := by decide +kernel
theorem dX11_init_63 : decode cX11_init 63 = .ok (.aload_n 0, 1) := by decide +kernel
theorem dX11_init_64 : decode cX11_init 64 = .ok (.bipush 64, 2) := by decide +kernel
theorem dX11_init_66 : decode cX11_init 66 = .ok (.newarray .int, 2) := by decide +kernel
theorem dX11_init_68 : decode cX11_init 68 = .ok (.putfield 31, 3) := by decide +kernel
theorem dX11_init_71 : decode cX11_init 71 = .ok (.aload_n 0, 1) := by decide +kernel
theorem dX11_init_72 : decode cX11_init 72 = .ok (.sipush 2048, 3) := by decide +kernel
theorem dX11_init_75 : decode cX11_init 75 = .ok (.newarray .int, 2) := by decide +kernel
theorem dX11_init_77 : decode cX11_init 77 = .ok (.putfield 34, 3) := by decide +kernel
theorem dX11_init_80 : decode cX11_init 80 = .ok (.aload_n 0, 1) := by decide +kernel
theorem dX11_init_81 : decode cX11_init 81 = .ok (.sipush 4096, 3) := by decide +kernel
theorem dX11_init_84 : decode cX11_init 84 = .ok (.newarray .int, 2) := by decide +kernel
theorem dX11_init_86 : decode cX11_init 86 = .ok (.putfield 37, 3) := by decide +kernel
theorem dX11_init_89 : decode cX11_init 89 = .ok (.aload_n 0, 1) := by decide +kernel
theorem dX11_init_90 : decode cX11_init 90 = .ok (.getfield 7, 3) := by decide +kernel
theorem dX11_init_93 : decode cX11_init 93 = .ok (.iconst 0, 1) := by decide +kernel
theorem dX11_init_94 : decode cX11_init 94 = .ok (.bipush 12, 2) := by decide +kernel
theorem dX11_init_96 : decode cX11_init 96 = .ok (.iastore, 1) := by decide +kernel
theorem dX11_init_97 : decode cX11_init 97 = .ok (.return_, 1) := by decide +kernel
theorem dX11_in_0 : decode cX11_in 0 = .ok (.lload_n 0, 1) := by decide +kernel
theorem dX11_in_1 : decode cX11_in 1 = .ok (.lload_n 2, 1) := by decide +kernel
theorem dX11_in_2 : decode cX11_in 2 = .ok (.lcmp, 1) := by decide +kernel
theorem dX11_in_3 : decode cX11_in 3 = .ok (.ifCond .lt 14, 3) := by decide +kernel
theorem dX11_in_6 : decode cX11_in 6 = .ok (.lload_n 0, 1) := by decide +kernel
theorem dX11_in_7 : decode cX11_in 7 = .ok (.lload 4, 2) := by decide +kernel
theorem dX11_in_9 : decode cX11_in 9 = .ok (.lcmp, 1) := by decide +kernel
theorem dX11_in_10 : decode cX11_in 10 = .ok (.ifCond .gt 7, 3) := by decide +kernel
theorem dX11_in_13 : decode cX11_in 13 = .ok (.iconst 1, 1) := by decide +kernel
theorem dX11_in_14 : decode cX11_in 14 = .ok (.goto 4, 3) := by decide +kernel
theorem dX11_in_17 : decode cX11_in 17 = .ok (.iconst 0, 1) := by decide +kernel
theorem dX11_in_18 : decode cX11_in 18 = .ok (.ireturn, 1) := by decide +kernel
theorem dX11_has_0 : decode cX11_has 0 = .ok (.iload_n 0, 1) := by decide +kernel
theorem dX11_has_1 : decode cX11_has 1 = .ok (.iload_n 1, 1) := by decide +kernel
theorem dX11_has_2 : decode cX11_has 2 = .ok (.ishr, 1) := by decide +kernel
theorem dX11_has_3 : decode cX11_has 3 = .ok (.iconst 1, 1) := by decide +kernel
theorem dX11_has_4 : decode cX11_has 4 = .ok (.iand, 1) := by decide +kernel
theorem dX11_has_5 : decode cX11_has 5 = .ok (.iconst 1, 1) := by decide +kernel
theorem dX11_has_6 : decode cX11_has 6 = .ok (.if_icmp .ne 7, 3) := by decide +kernel
theorem dX11_has_9 : decode cX11_has 9 = .ok (.iconst 1, 1) := by decide +kernel
theorem dX11_has_10 : decode cX11_has 10 = .ok (.goto 4, 3) := by decide +kernel
theorem dX11_has_13 : decode cX11_has 13 = .ok (.iconst 0, 1) := by decide +kernel
theorem dX11_has_14 : decode cX11_has 14 = .ok (.ireturn, 1) := by decide +kernel
theorem dX11_copyRow_0 : decode cX11_copyRow 0 = .ok (.iconst 0, 1) := by decide +kernel
theorem dX11_copyRow_1 : decode cX11_copyRow 1 = .ok (.istore_n 3, 1) := by decide +kernel
theorem dX11_copyRow_2 : decode cX11_copyRow 2 = .ok (.iload_n 3, 1) := by decide +kernel
theorem dX11_copyRow_3 : decode cX11_copyRow 3 = .ok (.bipush 10, 2) := by decide +kernel
theorem dX11_copyRow_5 : decode cX11_copyRow 5 = .ok (.if_icmp .ge 25, 3) := by decide +kernel
theorem dX11_copyRow_8 : decode cX11_copyRow 8 = .ok (.aload_n 0, 1) := by decide +kernel
theorem dX11_copyRow_9 : decode cX11_copyRow 9 = .ok (.getfield 7, 3) := by decide +kernel
theorem dX11_copyRow_12 : decode cX11_copyRow 12 = .ok (.iload_n 2, 1) := by decide +kernel
theorem dX11_copyRow_13 : decode cX11_copyRow 13 = .ok (.iload_n 3, 1) := by decide +kernel
theorem dX11_copyRow_14 : decode cX11_copyRow 14 = .ok (.iadd, 1) := by decide +kernel
theorem dX11_copyRow_15 : decode cX11_copyRow 15 = .ok (.aload_n 0, 1) := by decide +kernel
theorem dX11_copyRow_16 : decode cX11_copyRow 16 = .ok (.getfield 7, 3) := by decide +kernel
theorem dX11_copyRow_19 : decode cX11_copyRow 19 = .ok (.iload_n 1, 1) := by decide +kernel
theorem dX11_copyRow_20 : decode cX11_copyRow 20 = .ok (.iload_n 3, 1) := by decide +kernel
theorem dX11_copyRow_21 : decode cX11_copyRow 21 = .ok (.iadd, 1) := by decide +kernel
theorem dX11_copyRow_22 : decode cX11_copyRow 22 = .ok (.iaload, 1) := by decide +kernel
theorem dX11_copyRow_23 : decode cX11_copyRow 23 = .ok (.iastore, 1) := by decide +kernel
theorem dX11_copyRow_24 : decode cX11_copyRow 24 = .ok (.iinc 3 1, 3) := by decide +kernel
theorem dX11_copyRow_27 : decode cX11_copyRow 27 = .ok (.goto (-25), 3) := by decide +kernel
theorem dX11_copyRow_30 : decode cX11_copyRow 30 = .ok (.return_, 1) := by decide +kernel
set_option maxRecDepth 20000 in
theorem ggX11_remember_X11_copyRow : GoodIn wsX11_remember wsX11_copyRow := goodIn_r _ [6, 7, 8, 9, 10, 11, 12, 13, 14, 15, 16, 17, 18, 19, 20, 21, 22, 23, 24] (by decide +kernel) (by decide +kernel)
set_option maxRecDepth 20000 in
theorem gX11_remember_X11_copyRow : GoodIn wsX11_remember (wsV RX11 40 RX11 yX11_copyRow wsX11_copyRow) := goodIn_app (goodIn_of _ (by decide +kernel)) ggX11_remember_X11_copyRow
theorem dX11_remember_0 : decode cX11_remember 0 = .ok (.bipush 16, 2) := by decide +kernel
theorem dX11_remember_2 : decode cX11_remember 2 = .ok (.istore_n 1, 1) := by decide +kernel
theorem dX11_remember_3 : decode cX11_remember 3 = .ok (.iload_n 1, 1) := by decide +kernel
theorem dX11_remember_4 : decode cX11_remember 4 = .ok (.ifCond .le 23, 3) := by decide +kernel
theorem dX11_remember_7 : decode cX11_remember 7 = .ok (.aload_n 0, 1) := by decide +kernel
theorem dX11_remember_8 : decode cX11_remember 8 = .ok (.bipush 10, 2) := by decide +kernel
theorem dX11_remember_10 : decode cX11_remember 10 = .ok (.iload_n 1, 1) := by decide +kernel
theorem dX11_remember_11 : decode cX11_remember 11 = .ok (.iconst 1, 1) := by decide +kernel
theorem dX11_remember_12 : decode cX11_remember 12 = .ok (.isub, 1) := by decide +kernel
theorem dX11_remember_13 : decode cX11_remember 13 = .ok (.imul, 1) := by decide +kernel
theorem dX11_remember_14 : decode cX11_remember 14 = .ok (.bipush 10, 2) := by decide +kernel
theorem dX11_remember_16 : decode cX11_remember 16 = .ok (.iload_n 1, 1) := by decide +kernel
theorem dX11_remember_17 : decode cX11_remember 17 = .ok (.imul, 1) := by decide +kernel
theorem dX11_remember_18 : decode cX11_remember 18 = .ok (.invokevirtual 40, 3) := by decide +kernel
theorem dX11_remember_21 : decode cX11_remember 21 = .ok (.iinc 1 (-1), 3) := by decide +kernel
theorem dX11_remember_24 : decode cX11_remember 24 = .ok (.goto (-21), 3) := by decide +kernel
theorem dX11_remember_27 : decode cX11_remember 27 = .ok (.aload_n 0, 1) := by decide +kernel
theorem dX11_remember_28 : decode cX11_remember 28 = .ok (.aload_n 0, 1) := by decide +kernel
theorem dX11_remember_29 : decode cX11_remember 29 = .ok (.getfield 44, 3) := by decide +kernel
theorem dX11_remember_32 : decode cX11_remember 32 = .ok (.bipush 16, 2) := by decide +kernel
theorem dX11_remember_34 : decode cX11_remember 34 = .ok (.if_icmp .ge 12, 3) := by decide +kernel
theorem dX11_remember_37 : decode cX11_remember 37 = .ok (.aload_n 0, 1) := by decide +kernel
theorem dX11_remember_38 : decode cX11_remember 38 = .ok (.getfield 44, 3) := by decide +kernel
theorem dX11_remember_41 : decode cX11_remember 41 = .ok (.iconst 1, 1) := by decide +kernel
theorem dX11_remember_42 : decode cX11_remember 42 = .ok (.iadd, 1) := by decide +kernel
theorem dX11_remember_43 : decode cX11_remember 43 = .ok (.goto 5, 3) := by decide +kernel
theorem dX11_remember_46 : decode cX11_remember 46 = .ok (.bipush 16, 2) := by decide +kernel
theorem dX11_remember_48 : decode cX11_remember 48 = .ok (.putfield 44, 3) := by decide +kernel
theorem dX11_remember_51 : decode cX11_remember 51 = .ok (.return_, 1) := by decide +kernel
theorem dX11_m_0 : decode cX11_m 0 = .ok (.aload_n 0, 1) := by decide +kernel
theorem dX11_m_1 : decode cX11_m 1 = .ok (.getfield 7, 3) := by decide +kernel
theorem dX11_m_4 : decode cX11_m 4 = .ok (.iconst 0, 1) := by decide +kernel
theorem dX11_m_5 : decode cX11_m 5 = .ok (.iaload, 1) := by decide +kernel
theorem dX11_m_6 : decode cX11_m 6 = .ok (.ireturn, 1) := by decide +kernel
theorem dX11_ones_0 : decode cX11_ones 0 = .ok (.iconst 0, 1) := by decide +kernel
theorem dX11_ones_1 : decode cX11_ones 1 = .ok (.istore_n 1, 1) := by decide +kernel
theorem dX11_ones_2 : decode cX11_ones 2 = .ok (.iconst 0, 1) := by decide +kernel
theorem dX11_ones_3 : decode cX11_ones 3 = .ok (.istore_n 2, 1) := by decide +kernel
theorem dX11_ones_4 : decode cX11_ones 4 = .ok (.iload_n 2, 1) := by decide +kernel
theorem dX11_ones_5 : decode cX11_ones 5 = .ok (.bipush 12, 2) := by decide +kernel
theorem dX11_ones_7 : decode cX11_ones 7 = .ok (.if_icmp .ge 17, 3) := by decide +kernel
theorem dX11_ones_10 : decode cX11_ones 10 = .ok (.iload_n 1, 1) := by decide +kernel
theorem dX11_ones_11 : decode cX11_ones 11 = .ok (.iload_n 0, 1) := by decide +kernel
theorem dX11_ones_12 : decode cX11_ones 12 = .ok (.iload_n 2, 1) := by decide +kernel
theorem dX11_ones_13 : decode cX11_ones 13 = .ok (.ishr, 1) := by decide +kernel
theorem dX11_ones_14 : decode cX11_ones 14 = .ok (.iconst 1, 1) := by decide +kernel
theorem dX11_ones_15 : decode cX11_ones 15 = .ok (.iand, 1) := by decide +kernel
theorem dX11_ones_16 : decode cX11_ones 16 = .ok (.iadd, 1) := by decide +kernel
theorem dX11_ones_17 : decode cX11_ones 17 = .ok (.istore_n 1, 1) := by decide +kernel
theorem dX11_ones_18 : decode cX11_ones 18 = .ok (.iinc 2 1, 3) := by decide +kernel
theorem dX11_ones_21 : decode cX11_ones 21 = .ok (.goto (-17), 3) := by decide +kernel
theorem dX11_ones_24 : decode cX11_ones 24 = .ok (.iload_n 1, 1) := by decide +kernel
theorem dX11_ones_25 : decode cX11_ones 25 = .ok (.ireturn, 1) := by decide +kernel
set_option maxRecDepth 20000 in
theorem ggX11_moved_X11_m : GoodIn wsX11_moved wsX11_m := goodIn_r _ [5, 6, 10, 11, 12, 13, 14, 15, 16, 17, 18, 19, 20, 21, 22, 23, 24, 25, 26] (by decide +kernel) (by decide +kernel)
set_option maxRecDepth 20000 in
theorem gX11_moved_X11_m : GoodIn wsX11_moved (wsV RX11 48 RX11 yX11_m wsX11_m) := goodIn_app (goodIn_of _ (by decide +kernel)) ggX11_moved_X11_m
set_option maxRecDepth 20000 in
theorem ggX11_moved_X11_has : GoodIn wsX11_moved wsX11_has := goodIn_r _ [9] (by decide +kernel) (by decide +kernel)
set_option maxRecDepth 20000 in
theorem gX11_moved_X11_has : GoodIn wsX11_moved (va_wsS RX11 52 yX11_has wsX11_has) := goodIn_app (goodIn_of _ (by decide +kernel)) ggX11_moved_X11_has
theorem dX11_moved_0 : decode cX11_moved 0 = .ok (.iconst 0, 1) := by decide +kernel
theorem dX11_moved_1 : decode cX11_moved 1 = .ok (.istore 4, 2) := by decide +kernel
theorem dX11_moved_3 : decode cX11_moved 3 = .ok (.iconst 0, 1) := by decide +kernel
theorem dX11_moved_4 : decode cX11_moved 4 = .ok (.istore 5, 2) := by decide +kernel
theorem dX11_moved_6 : decode cX11_moved 6 = .ok (.iload 5, 2) := by decide +kernel
theorem dX11_moved_8 : decode cX11_moved 8 = .ok (.aload_n 0, 1) := by decide +kernel
theorem dX11_moved_9 : decode cX11_moved 9 = .ok (.invokevirtual 48, 3) := by decide +kernel
theorem dX11_moved_12 : decode cX11_moved 12 = .ok (.if_icmp .ge 50, 3) := by decide +kernel
theorem dX11_moved_15 : decode cX11_moved 15 = .ok (.iload 4, 2) := by decide +kernel
theorem dX11_moved_17 : decode cX11_moved 17 = .ok (.iload_n 1, 1) := by decide +kernel
theorem dX11_moved_18 : decode cX11_moved 18 = .ok (.iload 5, 2) := by decide +kernel
theorem dX11_moved_20 : decode cX11_moved 20 = .ok (.invokestatic 52, 3) := by decide +kernel
theorem dX11_moved_23 : decode cX11_moved 23 = .ok (.ifCond .eq 29, 3) := by decide +kernel
theorem dX11_moved_26 : decode cX11_moved 26 = .ok (.iconst 1, 1) := by decide +kernel
theorem dX11_moved_27 : decode cX11_moved 27 = .ok (.iload 5, 2) := by decide +kernel
theorem dX11_moved_29 : decode cX11_moved 29 = .ok (.iload_n 2, 1) := by decide +kernel
theorem dX11_moved_30 : decode cX11_moved 30 = .ok (.imul, 1) := by decide +kernel
theorem dX11_moved_31 : decode cX11_moved 31 = .ok (.iload_n 3, 1) := by decide +kernel
theorem dX11_moved_32 : decode cX11_moved 32 = .ok (.iadd, 1) := by decide +kernel
theorem dX11_moved_33 : decode cX11_moved 33 = .ok (.aload_n 0, 1) := by decide +kernel
theorem dX11_moved_34 : decode cX11_moved 34 = .ok (.invokevirtual 48, 3) := by decide +kernel
theorem dX11_moved_37 : decode cX11_moved 37 = .ok (.irem, 1) := by decide +kernel
theorem dX11_moved_38 : decode cX11_moved 38 = .ok (.aload_n 0, 1) := by decide +kernel
theorem dX11_moved_39 : decode cX11_moved 39 = .ok (.invokevirtual 48, 3) := by decide +kernel
