theorem dX11_unlikeForms_74 : decode cX11_unlikeForms 74 = .ok (.iconst 1, 1) := by decide +kernel
theorem dX11_unlikeForms_75 : decode cX11_unlikeForms 75 = .ok (.goto 4, 3) := by decide +kernel
theorem dX11_unlikeForms_78 : decode cX11_unlikeForms 78 = .ok (.iconst 0, 1) := by decide +kernel
theorem dX11_unlikeForms_79 : decode cX11_unlikeForms 79 = .ok (.iadd, 1) := by decide +kernel
theorem dX11_unlikeForms_80 : decode cX11_unlikeForms 80 = .ok (.istore_n 1, 1) := by decide +kernel
theorem dX11_unlikeForms_81 : decode cX11_unlikeForms 81 = .ok (.iinc 2 1, 3) := by decide +kernel
theorem dX11_unlikeForms_84 : decode cX11_unlikeForms 84 = .ok (.goto (-80), 3) := by decide +kernel
theorem dX11_unlikeForms_87 : decode cX11_unlikeForms 87 = .ok (.iload_n 1, 1) := by decide +kernel
theorem dX11_unlikeForms_88 : decode cX11_unlikeForms 88 = .ok (.ireturn, 1) := by decide +kernel
set_option maxRecDepth 20000 in
theorem ggX11_isPlace_X11_in : GoodIn wsX11_isPlace wsX11_in := goodIn_r _ [5] (by decide +kernel) (by decide +kernel)
set_option maxRecDepth 20000 in
theorem gX11_isPlace_X11_in : GoodIn wsX11_isPlace (va_wsS RX11 118 yX11_in wsX11_in) := goodIn_app (goodIn_of _ (by decide +kernel)) ggX11_isPlace_X11_in
theorem dX11_isPlace_0 : decode cX11_isPlace 0 = .ok (.iload_n 1, 1) := by decide +kernel
theorem dX11_isPlace_1 : decode cX11_isPlace 1 = .ok (.i2l, 1) := by decide +kernel
theorem dX11_isPlace_2 : decode cX11_isPlace 2 = .ok (.lconst 0, 1) := by decide +kernel
theorem dX11_isPlace_3 : decode cX11_isPlace 3 = .ok (.aload_n 0, 1) := by decide +kernel
theorem dX11_isPlace_4 : decode cX11_isPlace 4 = .ok (.getfield 7, 3) := by decide +kernel
theorem dX11_isPlace_7 : decode cX11_isPlace 7 = .ok (.iconst 1, 1) := by decide +kernel
theorem dX11_isPlace_8 : decode cX11_isPlace 8 = .ok (.iaload, 1) := by decide +kernel
theorem dX11_isPlace_9 : decode cX11_isPlace 9 = .ok (.iconst 1, 1) := by decide +kernel
theorem dX11_isPlace_10 : decode cX11_isPlace 10 = .ok (.isub, 1) := by decide +kernel
theorem dX11_isPlace_11 : decode cX11_isPlace 11 = .ok (.i2l, 1) := by decide +kernel
theorem dX11_isPlace_12 : decode cX11_isPlace 12 = .ok (.invokestatic 118, 3) := by decide +kernel
theorem dX11_isPlace_15 : decode cX11_isPlace 15 = .ok (.ireturn, 1) := by decide +kernel
set_option maxRecDepth 20000 in
theorem ggX11_wrong_X11_isPlace : GoodIn wsX11_wrong wsX11_isPlace := goodIn_r _ [9, 3, 10, 11, 8, 12, 42, 43, 44, 45, 46, 47, 48, 49, 50, 51, 52, 53, 54, 55, 56, 57, 58] (by decide +kernel) (by decide +kernel)
set_option maxRecDepth 20000 in
theorem gX11_wrong_X11_isPlace : GoodIn wsX11_wrong (wsV RX11 125 RX11 yX11_isPlace wsX11_isPlace) := goodIn_app (goodIn_of _ (by decide +kernel)) ggX11_wrong_X11_isPlace
set_option maxRecDepth 20000 in
theorem ggX11_wrong_X11_wayOf : GoodIn wsX11_wrong wsX11_wayOf := goodIn_r _ [16, 17, 18, 8, 19, 20, 21, 22, 23, 24, 25, 26, 27, 28, 29, 3, 30, 31, 32, 33, 34, 35, 36, 37, 38, 39, 40, 41, 42, 43, 44, 45, 46, 47, 48, 49, 50, 51, 52, 53, 54, 55, 56, 57, 58] (by decide +kernel) (by decide +kernel)
set_option maxRecDepth 20000 in
theorem gX11_wrong_X11_wayOf : GoodIn wsX11_wrong (wsV RX11 103 RX11 yX11_wayOf wsX11_wayOf) := goodIn_app (goodIn_of _ (by decide +kernel)) ggX11_wrong_X11_wayOf
theorem dX11_wrong_0 : decode cX11_wrong 0 = .ok (.iconst 0, 1) := by decide +kernel
theorem dX11_wrong_1 : decode cX11_wrong 1 = .ok (.istore_n 1, 1) := by decide +kernel
theorem dX11_wrong_2 : decode cX11_wrong 2 = .ok (.iload_n 1, 1) := by decide +kernel
theorem dX11_wrong_3 : decode cX11_wrong 3 = .ok (.aload_n 0, 1) := by decide +kernel
theorem dX11_wrong_4 : decode cX11_wrong 4 = .ok (.getfield 122, 3) := by decide +kernel
theorem dX11_wrong_7 : decode cX11_wrong 7 = .ok (.if_icmp .ge 73, 3) := by decide +kernel
theorem dX11_wrong_10 : decode cX11_wrong 10 = .ok (.aload_n 0, 1) := by decide +kernel
theorem dX11_wrong_11 : decode cX11_wrong 11 = .ok (.getfield 16, 3) := by decide +kernel
theorem dX11_wrong_14 : decode cX11_wrong 14 = .ok (.iload_n 1, 1) := by decide +kernel
theorem dX11_wrong_15 : decode cX11_wrong 15 = .ok (.iaload, 1) := by decide +kernel
theorem dX11_wrong_16 : decode cX11_wrong 16 = .ok (.istore_n 2, 1) := by decide +kernel
theorem dX11_wrong_17 : decode cX11_wrong 17 = .ok (.aload_n 0, 1) := by decide +kernel
theorem dX11_wrong_18 : decode cX11_wrong 18 = .ok (.iload_n 2, 1) := by decide +kernel
theorem dX11_wrong_19 : decode cX11_wrong 19 = .ok (.invokevirtual 125, 3) := by decide +kernel
theorem dX11_wrong_22 : decode cX11_wrong 22 = .ok (.ifCond .eq 50, 3) := by decide +kernel
theorem dX11_wrong_25 : decode cX11_wrong 25 = .ok (.aload_n 0, 1) := by decide +kernel
theorem dX11_wrong_26 : decode cX11_wrong 26 = .ok (.getfield 7, 3) := by decide +kernel
theorem dX11_wrong_29 : decode cX11_wrong 29 = .ok (.iconst 2, 1) := by decide +kernel
theorem dX11_wrong_30 : decode cX11_wrong 30 = .ok (.iaload, 1) := by decide +kernel
theorem dX11_wrong_31 : decode cX11_wrong 31 = .ok (.ifCond .eq 41, 3) := by decide +kernel
theorem dX11_wrong_34 : decode cX11_wrong 34 = .ok (.aload_n 0, 1) := by decide +kernel
theorem dX11_wrong_35 : decode cX11_wrong 35 = .ok (.getfield 7, 3) := by decide +kernel
theorem dX11_wrong_38 : decode cX11_wrong 38 = .ok (.iconst 2, 1) := by decide +kernel
theorem dX11_wrong_39 : decode cX11_wrong 39 = .ok (.iload_n 2, 1) := by decide +kernel
theorem dX11_wrong_40 : decode cX11_wrong 40 = .ok (.iadd, 1) := by decide +kernel
theorem dX11_wrong_41 : decode cX11_wrong 41 = .ok (.iaload, 1) := by decide +kernel
theorem dX11_wrong_42 : decode cX11_wrong 42 = .ok (.ifCond .eq 30, 3) := by decide +kernel
theorem dX11_wrong_45 : decode cX11_wrong 45 = .ok (.aload_n 0, 1) := by decide +kernel
theorem dX11_wrong_46 : decode cX11_wrong 46 = .ok (.aload_n 0, 1) := by decide +kernel
theorem dX11_wrong_47 : decode cX11_wrong 47 = .ok (.getfield 7, 3) := by decide +kernel
theorem dX11_wrong_50 : decode cX11_wrong 50 = .ok (.iconst 2, 1) := by decide +kernel
theorem dX11_wrong_51 : decode cX11_wrong 51 = .ok (.iaload, 1) := by decide +kernel
theorem dX11_wrong_52 : decode cX11_wrong 52 = .ok (.aload_n 0, 1) := by decide +kernel
theorem dX11_wrong_53 : decode cX11_wrong 53 = .ok (.getfield 7, 3) := by decide +kernel
theorem dX11_wrong_56 : decode cX11_wrong 56 = .ok (.iconst 2, 1) := by decide +kernel
theorem dX11_wrong_57 : decode cX11_wrong 57 = .ok (.iload_n 2, 1) := by decide +kernel
theorem dX11_wrong_58 : decode cX11_wrong 58 = .ok (.iadd, 1) := by decide +kernel
theorem dX11_wrong_59 : decode cX11_wrong 59 = .ok (.iaload, 1) := by decide +kernel
theorem dX11_wrong_60 : decode cX11_wrong 60 = .ok (.invokevirtual 103, 3) := by decide +kernel
theorem dX11_wrong_63 : decode cX11_wrong 63 = .ok (.aload_n 0, 1) := by decide +kernel
theorem dX11_wrong_64 : decode cX11_wrong 64 = .ok (.getfield 19, 3) := by decide +kernel
theorem dX11_wrong_67 : decode cX11_wrong 67 = .ok (.iload_n 1, 1) := by decide +kernel
theorem dX11_wrong_68 : decode cX11_wrong 68 = .ok (.iaload, 1) := by decide +kernel
theorem dX11_wrong_69 : decode cX11_wrong 69 = .ok (.if_icmp .eq 5, 3) := by decide +kernel
theorem dX11_wrong_72 : decode cX11_wrong 72 = .ok (.iload_n 1, 1) := by decide +kernel
theorem dX11_wrong_73 : decode cX11_wrong 73 = .ok (.ireturn, 1) := by decide +kernel
theorem dX11_wrong_74 : decode cX11_wrong 74 = .ok (.iinc 1 1, 3) := by decide +kernel
theorem dX11_wrong_77 : decode cX11_wrong 77 = .ok (.goto (-75), 3) := by decide +kernel
theorem dX11_wrong_80 : decode cX11_wrong 80 = .ok (.iconst (-1), 1) := by decide +kernel
theorem dX11_wrong_81 : decode cX11_wrong 81 = .ok (.ireturn, 1) := by decide +kernel
set_option maxRecDepth 20000 in
theorem ggX11_told_X11_m : GoodIn wsX11_told wsX11_m := goodIn_r _ [11, 1, 102, 103, 104, 105, 106, 107, 108, 109, 110, 111, 112, 113, 114, 115, 116, 117, 118] (by decide +kernel) (by decide +kernel)
set_option maxRecDepth 20000 in
theorem gX11_told_X11_m : GoodIn wsX11_told (wsV RX11 48 RX11 yX11_m wsX11_m) := goodIn_app (goodIn_of _ (by decide +kernel)) ggX11_told_X11_m
set_option maxRecDepth 20000 in
theorem ggX11_told_X11_layForms : GoodIn wsX11_told wsX11_layForms := goodIn_r _ [15, 16, 2, 17, 7, 8, 9, 10, 11, 1, 18, 19, 20, 21, 22, 23, 24, 25, 26, 27, 28, 29, 30, 31, 32, 102, 103, 104, 105, 106, 107, 108, 109, 110, 111, 112, 113, 114, 115, 116, 117, 118] (by decide +kernel) (by decide +kernel)
set_option maxRecDepth 20000 in
theorem gX11_told_X11_layForms : GoodIn wsX11_told (wsV RX11 84 RX11 yX11_layForms wsX11_layForms) := goodIn_app (goodIn_of _ (by decide +kernel)) ggX11_told_X11_layForms
set_option maxRecDepth 20000 in
theorem ggX11_told_X11_twinPairs : GoodIn wsX11_told wsX11_twinPairs := goodIn_r _ [36, 2, 17, 12, 13, 14, 10, 15, 16, 7, 8, 9, 11, 1, 18, 19, 20, 21, 22, 23, 24, 25, 26, 27, 28, 29, 30, 31, 32, 37, 38, 39, 40, 41, 42, 43, 44, 45, 46, 47, 48, 49, 50, 51, 52, 53, 54, 55, 102, 103, 104, 105, 106, 107, 108, 109, 110, 111, 112, 113, 114, 115, 116, 117, 118] (by decide +kernel) (by decide +kernel)
set_option maxRecDepth 20000 in
theorem gX11_told_X11_twinPairs : GoodIn wsX11_told (wsV RX11 128 RX11 yX11_twinPairs wsX11_twinPairs) := goodIn_app (goodIn_of _ (by decide +kernel)) ggX11_told_X11_twinPairs
set_option maxRecDepth 20000 in
theorem ggX11_told_X11_roundNow : GoodIn wsX11_told wsX11_roundNow := goodIn_r _ [59, 1, 60, 61, 62, 63, 64, 65, 10, 66, 67, 68, 69, 70, 45, 46, 47, 71, 72, 73, 74, 75, 7, 8, 9, 11, 30, 31, 32, 76, 77, 78, 79, 80, 52, 53, 54, 55, 102, 103, 104, 105, 106, 107, 108, 109, 110, 111, 112, 113, 114, 115, 116, 117, 118] (by decide +kernel) (by decide +kernel)
set_option maxRecDepth 20000 in
theorem gX11_told_X11_roundNow : GoodIn wsX11_told (wsV RX11 131 RX11 yX11_roundNow wsX11_roundNow) := goodIn_app (goodIn_of _ (by decide +kernel)) ggX11_told_X11_roundNow
set_option maxRecDepth 20000 in
theorem ggX11_told_X11_unlikeForms : GoodIn wsX11_told wsX11_unlikeForms := goodIn_r _ [84, 1, 85, 86, 87, 10, 88, 7, 8, 9, 11, 22, 23, 24, 25, 26, 27, 28, 29, 30, 31, 32, 102, 103, 104, 105, 106, 107, 108, 109, 110, 111, 112, 113, 114, 115, 116, 117, 118] (by decide +kernel) (by decide +kernel)
set_option maxRecDepth 20000 in
theorem gX11_told_X11_unlikeForms : GoodIn wsX11_told (wsV RX11 134 RX11 yX11_unlikeForms wsX11_unlikeForms) := goodIn_app (goodIn_of _ (by decide +kernel)) ggX11_told_X11_unlikeForms
set_option maxRecDepth 20000 in
theorem ggX11_told_X11_wrong : GoodIn wsX11_told wsX11_wrong := goodIn_r _ [92, 3, 93, 1, 94, 95, 96, 97, 10, 98, 99, 100, 101, 67, 68, 69, 70, 45, 46, 47, 71, 72, 73, 74, 75, 61, 7, 8, 9, 11, 30, 31, 32, 76, 77, 78, 79, 80, 52, 53, 54, 55, 102, 103, 104, 105, 106, 107, 108, 109, 110, 111, 112, 113, 114, 115, 116, 117, 118] (by decide +kernel) (by decide +kernel)
set_option maxRecDepth 20000 in
theorem gX11_told_X11_wrong : GoodIn wsX11_told (wsV RX11 137 RX11 yX11_wrong wsX11_wrong) := goodIn_app (goodIn_of _ (by decide +kernel)) ggX11_told_X11_wrong
theorem dX11_told_0 : decode cX11_told 0 = .ok (.iload_n 1, 1) := by decide +kernel
theorem dX11_told_1 : decode cX11_told 1 = .ok (.tableswitch 111 0 9 #[55, 60, 67, 76, 81, 86, 91, 96, 101, 106], 55) := by decide +kernel
theorem dX11_told_56 : decode cX11_told 56 = .ok (.aload_n 0, 1) := by decide +kernel
theorem dX11_told_57 : decode cX11_told 57 = .ok (.invokevirtual 48, 3) := by decide +kernel
theorem dX11_told_60 : decode cX11_told 60 = .ok (.ireturn, 1) := by decide +kernel
theorem dX11_told_61 : decode cX11_told 61 = .ok (.aload_n 0, 1) := by decide +kernel
theorem dX11_told_62 : decode cX11_told 62 = .ok (.getfield 7, 3) := by decide +kernel
theorem dX11_told_65 : decode cX11_told 65 = .ok (.iconst 1, 1) := by decide +kernel
theorem dX11_told_66 : decode cX11_told 66 = .ok (.iaload, 1) := by decide +kernel
theorem dX11_told_67 : decode cX11_told 67 = .ok (.ireturn, 1) := by decide +kernel
theorem dX11_told_68 : decode cX11_told 68 = .ok (.aload_n 0, 1) := by decide +kernel
theorem dX11_told_69 : decode cX11_told 69 = .ok (.invokevirtual 84, 3) := by decide +kernel
theorem dX11_told_72 : decode cX11_told 72 = .ok (.aload_n 0, 1) := by decide +kernel
theorem dX11_told_73 : decode cX11_told 73 = .ok (.getfield 77, 3) := by decide +kernel
theorem dX11_told_76 : decode cX11_told 76 = .ok (.ireturn, 1) := by decide +kernel
theorem dX11_told_77 : decode cX11_told 77 = .ok (.aload_n 0, 1) := by decide +kernel
theorem dX11_told_78 : decode cX11_told 78 = .ok (.invokevirtual 128, 3) := by decide +kernel
theorem dX11_told_81 : decode cX11_told 81 = .ok (.ireturn, 1) := by decide +kernel
theorem dX11_told_82 : decode cX11_told 82 = .ok (.aload_n 0, 1) := by decide +kernel
theorem dX11_told_83 : decode cX11_told 83 = .ok (.invokevirtual 131, 3) := by decide +kernel
theorem dX11_told_86 : decode cX11_told 86 = .ok (.ireturn, 1) := by decide +kernel
theorem dX11_told_87 : decode cX11_told 87 = .ok (.aload_n 0, 1) := by decide +kernel
theorem dX11_told_88 : decode cX11_told 88 = .ok (.invokevirtual 134, 3) := by decide +kernel
theorem dX11_told_91 : decode cX11_told 91 = .ok (.ireturn, 1) := by decide +kernel
theorem dX11_told_92 : decode cX11_told 92 = .ok (.aload_n 0, 1) := by decide +kernel
theorem dX11_told_93 : decode cX11_told 93 = .ok (.getfield 122, 3) := by decide +kernel
theorem dX11_told_96 : decode cX11_told 96 = .ok (.ireturn, 1) := by decide +kernel
theorem dX11_told_97 : decode cX11_told 97 = .ok (.aload_n 0, 1) := by decide +kernel
theorem dX11_told_98 : decode cX11_told 98 = .ok (.invokevirtual 137, 3) := by decide +kernel
theorem dX11_told_101 : decode cX11_told 101 = .ok (.ireturn, 1) := by decide +kernel
theorem dX11_told_102 : decode cX11_told 102 = .ok (.aload_n 0, 1) := by decide +kernel
theorem dX11_told_103 : decode cX11_told 103 = .ok (.getfield 44, 3) := by decide +kernel
theorem dX11_told_106 : decode cX11_told 106 = .ok (.ireturn, 1) := by decide +kernel
theorem dX11_told_107 : decode cX11_told 107 = .ok (.aload_n 0, 1) := by decide +kernel
theorem dX11_told_108 : decode cX11_told 108 = .ok (.getfield 140, 3) := by decide +kernel
theorem dX11_told_111 : decode cX11_told 111 = .ok (.ireturn, 1) := by decide +kernel
theorem dX11_told_112 : decode cX11_told 112 = .ok (.ldc 143, 2) := by decide +kernel
theorem dX11_told_114 : decode cX11_told 114 = .ok (.ireturn, 1) := by decide +kernel
set_option maxRecDepth 20000 in
theorem ggX11_at_X11_isPlace : GoodIn wsX11_at wsX11_isPlace := goodIn_r _ [8, 2, 9, 10, 7, 11, 77, 78, 79, 80, 81, 82, 83, 84, 85, 86, 87, 88, 89, 90, 91, 92, 93] (by decide +kernel) (by decide +kernel)
set_option maxRecDepth 20000 in
theorem gX11_at_X11_isPlace : GoodIn wsX11_at (wsV RX11 125 RX11 yX11_isPlace wsX11_isPlace) := goodIn_app (goodIn_of _ (by decide +kernel)) ggX11_at_X11_isPlace
set_option maxRecDepth 20000 in
theorem ggX11_at_X11_ones : GoodIn wsX11_at wsX11_ones := goodIn_r _ [14] (by decide +kernel) (by decide +kernel)
set_option maxRecDepth 20000 in
theorem gX11_at_X11_ones : GoodIn wsX11_at (va_wsS RX11 67 yX11_ones wsX11_ones) := goodIn_app (goodIn_of _ (by decide +kernel)) ggX11_at_X11_ones
set_option maxRecDepth 20000 in
theorem ggX11_at_X11_formOf : GoodIn wsX11_at wsX11_formOf := goodIn_r _ [18, 19, 20, 21, 7, 22, 2, 23, 24, 25, 26, 27, 28, 29, 30, 31, 32, 33, 77, 78, 79, 80, 81, 82, 83, 84, 85, 86, 87, 88, 89, 90, 91, 92, 93] (by decide +kernel) (by decide +kernel)
set_option maxRecDepth 20000 in
theorem gX11_at_X11_formOf : GoodIn wsX11_at (wsV RX11 115 RX11 yX11_formOf wsX11_formOf) := goodIn_app (goodIn_of _ (by decide +kernel)) ggX11_at_X11_formOf
set_option maxRecDepth 20000 in
theorem ggX11_at_X11_kin : GoodIn wsX11_at wsX11_kin := goodIn_r _ [37, 19, 20, 21, 7, 22, 2, 23, 24, 25, 26, 27, 28, 29, 30, 31, 32, 33, 77, 78, 79, 80, 81, 82, 83, 84, 85, 86, 87, 88, 89, 90, 91, 92, 93] (by decide +kernel) (by decide +kernel)
set_option maxRecDepth 20000 in
theorem gX11_at_X11_kin : GoodIn wsX11_at (wsV RX11 145 RX11 yX11_kin wsX11_kin) := goodIn_app (goodIn_of _ (by decide +kernel)) ggX11_at_X11_kin
set_option maxRecDepth 20000 in
theorem ggX11_at_X11_firstImage : GoodIn wsX11_at wsX11_firstImage := goodIn_r _ [41, 23, 24, 25, 7, 26, 19, 20, 21, 22, 2, 27, 28, 29, 30, 31, 32, 33, 77, 78, 79, 80, 81, 82, 83, 84, 85, 86, 87, 88, 89, 90, 91, 92, 93] (by decide +kernel) (by decide +kernel)
set_option maxRecDepth 20000 in
theorem gX11_at_X11_firstImage : GoodIn wsX11_at (wsV RX11 148 RX11 yX11_firstImage wsX11_firstImage) := goodIn_app (goodIn_of _ (by decide +kernel)) ggX11_at_X11_firstImage
set_option maxRecDepth 20000 in
theorem ggX11_at_X11_twins : GoodIn wsX11_at wsX11_twins := goodIn_r _ [45, 46, 47, 48, 49, 50, 7, 51, 52, 19, 20, 21, 22, 2, 53, 54, 55, 56, 23, 24, 25, 26, 27, 28, 29, 30, 31, 32, 33, 57, 58, 59, 60, 12, 13, 14, 61, 62, 63, 64, 65, 66, 67, 68, 77, 78, 79, 80, 81, 82, 83, 84, 85, 86, 87, 88, 89, 90, 91, 92, 93] (by decide +kernel) (by decide +kernel)
set_option maxRecDepth 20000 in
theorem gX11_at_X11_twins : GoodIn wsX11_at (wsV RX11 90 RX11 yX11_twins wsX11_twins) := goodIn_app (goodIn_of _ (by decide +kernel)) ggX11_at_X11_twins
set_option maxRecDepth 20000 in
theorem ggX11_at_X11_numberOf : GoodIn wsX11_at wsX11_numberOf := goodIn_r _ [72, 12, 13, 7, 14, 73, 74, 75, 76, 46, 47, 48, 49, 50, 51, 52, 19, 20, 21, 22, 2, 53, 54, 55, 56, 23, 24, 25, 26, 27, 28, 29, 30, 31, 32, 33, 77, 78, 79, 80, 81, 82, 83, 84, 85, 86, 87, 88, 89, 90, 91, 92, 93] (by decide +kernel) (by decide +kernel)
set_option maxRecDepth 20000 in
theorem gX11_at_X11_numberOf : GoodIn wsX11_at (wsV RX11 151 RX11 yX11_numberOf wsX11_numberOf) := goodIn_app (goodIn_of _ (by decide +kernel)) ggX11_at_X11_numberOf
theorem dX11_at_0 : decode cX11_at 0 = .ok (.aload_n 0, 1) := by decide +kernel
theorem dX11_at_1 : decode cX11_at 1 = .ok (.iload_n 1, 1) := by decide +kernel
theorem dX11_at_2 : decode cX11_at 2 = .ok (.invokevirtual 125, 3) := by decide +kernel
theorem dX11_at_5 : decode cX11_at 5 = .ok (.ifCond .ne 6, 3) := by decide +kernel
theorem dX11_at_8 : decode cX11_at 8 = .ok (.ldc 144, 2) := by decide +kernel
theorem dX11_at_10 : decode cX11_at 10 = .ok (.ireturn, 1) := by decide +kernel
theorem dX11_at_11 : decode cX11_at 11 = .ok (.aload_n 0, 1) := by decide +kernel
theorem dX11_at_12 : decode cX11_at 12 = .ok (.getfield 7, 3) := by decide +kernel
theorem dX11_at_15 : decode cX11_at 15 = .ok (.iconst 2, 1) := by decide +kernel
theorem dX11_at_16 : decode cX11_at 16 = .ok (.iload_n 1, 1) := by decide +kernel
theorem dX11_at_17 : decode cX11_at 17 = .ok (.iadd, 1) := by decide +kernel
theorem dX11_at_18 : decode cX11_at 18 = .ok (.iaload, 1) := by decide +kernel
theorem dX11_at_19 : decode cX11_at 19 = .ok (.istore_n 3, 1) := by decide +kernel
theorem dX11_at_20 : decode cX11_at 20 = .ok (.iload_n 2, 1) := by decide +kernel
theorem dX11_at_21 : decode cX11_at 21 = .ok (.tableswitch 93 0 6 #[43, 45, 50, 56, 62, 73, 83], 43) := by decide +kernel
theorem dX11_at_64 : decode cX11_at 64 = .ok (.iload_n 3, 1) := by decide +kernel
theorem dX11_at_65 : decode cX11_at 65 = .ok (.ireturn, 1) := by decide +kernel
theorem dX11_at_66 : decode cX11_at 66 = .ok (.iload_n 3, 1) := by decide +kernel
theorem dX11_at_67 : decode cX11_at 67 = .ok (.invokestatic 67, 3) := by decide +kernel
theorem dX11_at_70 : decode cX11_at 70 = .ok (.ireturn, 1) := by decide +kernel
theorem dX11_at_71 : decode cX11_at 71 = .ok (.aload_n 0, 1) := by decide +kernel
theorem dX11_at_72 : decode cX11_at 72 = .ok (.iload_n 3, 1) := by decide +kernel
theorem dX11_at_73 : decode cX11_at 73 = .ok (.invokevirtual 115, 3) := by decide +kernel
theorem dX11_at_76 : decode cX11_at 76 = .ok (.ireturn, 1) := by decide +kernel
theorem dX11_at_77 : decode cX11_at 77 = .ok (.aload_n 0, 1) := by decide +kernel
theorem dX11_at_78 : decode cX11_at 78 = .ok (.iload_n 3, 1) := by decide +kernel
theorem dX11_at_79 : decode cX11_at 79 = .ok (.invokevirtual 145, 3) := by decide +kernel
theorem dX11_at_82 : decode cX11_at 82 = .ok (.ireturn, 1) := by decide +kernel
theorem dX11_at_83 : decode cX11_at 83 = .ok (.aload_n 0, 1) := by decide +kernel
theorem dX11_at_84 : decode cX11_at 84 = .ok (.iload_n 3, 1) := by decide +kernel
theorem dX11_at_85 : decode cX11_at 85 = .ok (.aload_n 0, 1) := by decide +kernel
theorem dX11_at_86 : decode cX11_at 86 = .ok (.iload_n 3, 1) := by decide +kernel
theorem dX11_at_87 : decode cX11_at 87 = .ok (.invokevirtual 115, 3) := by decide +kernel
theorem dX11_at_90 : decode cX11_at 90 = .ok (.invokevirtual 148, 3) := by decide +kernel
theorem dX11_at_93 : decode cX11_at 93 = .ok (.ireturn, 1) := by decide +kernel
theorem dX11_at_94 : decode cX11_at 94 = .ok (.aload_n 0, 1) := by decide +kernel
theorem dX11_at_95 : decode cX11_at 95 = .ok (.aload_n 0, 1) := by decide +kernel
theorem dX11_at_96 : decode cX11_at 96 = .ok (.iload_n 3, 1) := by decide +kernel
theorem dX11_at_97 : decode cX11_at 97 = .ok (.invokevirtual 115, 3) := by decide +kernel
theorem dX11_at_100 : decode cX11_at 100 = .ok (.invokevirtual 90, 3) := by decide +kernel
theorem dX11_at_103 : decode cX11_at 103 = .ok (.ireturn, 1) := by decide +kernel
theorem dX11_at_104 : decode cX11_at 104 = .ok (.aload_n 0, 1) := by decide +kernel
theorem dX11_at_105 : decode cX11_at 105 = .ok (.aload_n 0, 1) := by decide +kernel
theorem dX11_at_106 : decode cX11_at 106 = .ok (.iload_n 3, 1) := by decide +kernel
theorem dX11_at_107 : decode cX11_at 107 = .ok (.invokevirtual 115, 3) := by decide +kernel
theorem dX11_at_110 : decode cX11_at 110 = .ok (.invokevirtual 151, 3) := by decide +kernel
theorem dX11_at_113 : decode cX11_at 113 = .ok (.ireturn, 1) := by decide +kernel
theorem dX11_at_114 : decode cX11_at 114 = .ok (.ldc 143, 2) := by decide +kernel
theorem dX11_at_116 : decode cX11_at 116 = .ok (.ireturn, 1) := by decide +kernel
set_option maxRecDepth 20000 in
theorem ggX11_interval_X11_isPlace : GoodIn wsX11_interval wsX11_isPlace := goodIn_r _ [8, 2, 9, 10, 7, 11, 27, 28, 29, 30, 31, 32, 33, 34, 35, 36, 37, 38, 39, 40, 41, 42, 43] (by decide +kernel) (by decide +kernel)
set_option maxRecDepth 20000 in
theorem gX11_interval_X11_isPlace : GoodIn wsX11_interval (wsV RX11 125 RX11 yX11_isPlace wsX11_isPlace) := goodIn_app (goodIn_of _ (by decide +kernel)) ggX11_interval_X11_isPlace
set_option maxRecDepth 20000 in
theorem ggX11_interval_X11_m : GoodIn wsX11_interval wsX11_m := goodIn_r _ [15, 2, 27, 28, 29, 30, 31, 32, 33, 34, 35, 36, 37, 38, 39, 40, 41, 42, 43] (by decide +kernel) (by decide +kernel)
set_option maxRecDepth 20000 in
theorem gX11_interval_X11_m : GoodIn wsX11_interval (wsV RX11 48 RX11 yX11_m wsX11_m) := goodIn_app (goodIn_of _ (by decide +kernel)) ggX11_interval_X11_m
set_option maxRecDepth 20000 in
theorem ggX11_interval_X11_in : GoodIn wsX11_interval wsX11_in := goodIn_r _ [11] (by decide +kernel) (by decide +kernel)
set_option maxRecDepth 20000 in
theorem gX11_interval_X11_in : GoodIn wsX11_interval (va_wsS RX11 118 yX11_in wsX11_in) := goodIn_app (goodIn_of _ (by decide +kernel)) ggX11_interval_X11_in
set_option maxRecDepth 20000 in
theorem ggX11_interval_X11_pairsApart : GoodIn wsX11_interval wsX11_pairsApart := goodIn_r _ [19, 12, 13, 14, 7, 15, 2, 20, 21, 22, 23, 24, 25, 26, 27, 28, 29, 30, 31, 32, 33, 34, 35, 36, 37, 38, 39, 40, 41, 42, 43] (by decide +kernel) (by decide +kernel)
set_option maxRecDepth 20000 in
theorem gX11_interval_X11_pairsApart : GoodIn wsX11_interval (wsV RX11 71 RX11 yX11_pairsApart wsX11_pairsApart) := goodIn_app (goodIn_of _ (by decide +kernel)) ggX11_interval_X11_pairsApart
theorem dX11_interval_0 : decode cX11_interval 0 = .ok (.aload_n 0, 1) := by decide +kernel
theorem dX11_interval_1 : decode cX11_interval 1 = .ok (.iload_n 1, 1) := by decide +kernel
theorem dX11_interval_2 : decode cX11_interval 2 = .ok (.invokevirtual 125, 3) := by decide +kernel
theorem dX11_interval_5 : decode cX11_interval 5 = .ok (.ifCond .ne 6, 3) := by decide +kernel
theorem dX11_interval_8 : decode cX11_interval 8 = .ok (.ldc 144, 2) := by decide +kernel
theorem dX11_interval_10 : decode cX11_interval 10 = .ok (.ireturn, 1) := by decide +kernel
theorem dX11_interval_11 : decode cX11_interval 11 = .ok (.iload_n 2, 1) := by decide +kernel
theorem dX11_interval_12 : decode cX11_interval 12 = .ok (.i2l, 1) := by decide +kernel
theorem dX11_interval_13 : decode cX11_interval 13 = .ok (.lconst 1, 1) := by decide +kernel
theorem dX11_interval_14 : decode cX11_interval 14 = .ok (.aload_n 0, 1) := by decide +kernel
theorem dX11_interval_15 : decode cX11_interval 15 = .ok (.invokevirtual 48, 3) := by decide +kernel
theorem dX11_interval_18 : decode cX11_interval 18 = .ok (.iconst 2, 1) := by decide +kernel
theorem dX11_interval_19 : decode cX11_interval 19 = .ok (.idiv, 1) := by decide +kernel
theorem dX11_interval_20 : decode cX11_interval 20 = .ok (.i2l, 1) := by decide +kernel
theorem dX11_interval_21 : decode cX11_interval 21 = .ok (.invokestatic 118, 3) := by decide +kernel
theorem dX11_interval_24 : decode cX11_interval 24 = .ok (.ifCond .eq 19, 3) := by decide +kernel
theorem dX11_interval_27 : decode cX11_interval 27 = .ok (.aload_n 0, 1) := by decide +kernel
theorem dX11_interval_28 : decode cX11_interval 28 = .ok (.aload_n 0, 1) := by decide +kernel
theorem dX11_interval_29 : decode cX11_interval 29 = .ok (.getfield 7, 3) := by decide +kernel
theorem dX11_interval_32 : decode cX11_interval 32 = .ok (.iconst 2, 1) := by decide +kernel
theorem dX11_interval_33 : decode cX11_interval 33 = .ok (.iload_n 1, 1) := by decide +kernel
theorem dX11_interval_34 : decode cX11_interval 34 = .ok (.iadd, 1) := by decide +kernel
theorem dX11_interval_35 : decode cX11_interval 35 = .ok (.iaload, 1) := by decide +kernel
theorem dX11_interval_36 : decode cX11_interval 36 = .ok (.iload_n 2, 1) := by decide +kernel
theorem dX11_interval_37 : decode cX11_interval 37 = .ok (.invokevirtual 71, 3) := by decide +kernel
theorem dX11_interval_40 : decode cX11_interval 40 = .ok (.goto 5, 3) := by decide +kernel
theorem dX11_interval_43 : decode cX11_interval 43 = .ok (.ldc 143, 2) := by decide +kernel
theorem dX11_interval_45 : decode cX11_interval 45 = .ok (.ireturn, 1) := by decide +kernel
set_option maxRecDepth 20000 in
theorem ggX11_forms_X11_m : GoodIn wsX11_forms wsX11_m := goodIn_r _ [6, 7, 40, 41, 42, 43, 44, 45, 46, 47, 48, 49, 50, 51, 52, 53, 54, 55, 56] (by decide +kernel) (by decide +kernel)
set_option maxRecDepth 20000 in
theorem gX11_forms_X11_m : GoodIn wsX11_forms (wsV RX11 48 RX11 yX11_m wsX11_m) := goodIn_app (goodIn_of _ (by decide +kernel)) ggX11_forms_X11_m
set_option maxRecDepth 20000 in
theorem ggX11_forms_X11_in : GoodIn wsX11_forms wsX11_in := goodIn_r _ [10] (by decide +kernel) (by decide +kernel)
set_option maxRecDepth 20000 in
theorem gX11_forms_X11_in : GoodIn wsX11_forms (va_wsS RX11 118 yX11_in wsX11_in) := goodIn_app (goodIn_of _ (by decide +kernel)) ggX11_forms_X11_in
set_option maxRecDepth 20000 in
theorem ggX11_forms_X11_formsOf : GoodIn wsX11_forms wsX11_formsOf := goodIn_r _ [14, 15, 16, 17, 18, 19, 5, 20, 21, 2, 3, 4, 6, 7, 22, 23, 24, 25, 26, 27, 28, 29, 30, 31, 32, 33, 34, 35, 36, 37, 38, 39, 40, 41, 42, 43, 44, 45, 46, 47, 48, 49, 50, 51, 52, 53, 54, 55, 56] (by decide +kernel) (by decide +kernel)
set_option maxRecDepth 20000 in
theorem gX11_forms_X11_formsOf : GoodIn wsX11_forms (wsV RX11 154 RX11 yX11_formsOf wsX11_formsOf) := goodIn_app (goodIn_of _ (by decide +kernel)) ggX11_forms_X11_formsOf
theorem dX11_forms_0 : decode cX11_forms 0 = .ok (.iload_n 1, 1) := by decide +kernel
theorem dX11_forms_1 : decode cX11_forms 1 = .ok (.i2l, 1) := by decide +kernel
theorem dX11_forms_2 : decode cX11_forms 2 = .ok (.lconst 0, 1) := by decide +kernel
theorem dX11_forms_3 : decode cX11_forms 3 = .ok (.aload_n 0, 1) := by decide +kernel
theorem dX11_forms_4 : decode cX11_forms 4 = .ok (.invokevirtual 48, 3) := by decide +kernel
theorem dX11_forms_7 : decode cX11_forms 7 = .ok (.i2l, 1) := by decide +kernel
theorem dX11_forms_8 : decode cX11_forms 8 = .ok (.invokestatic 118, 3) := by decide +kernel
theorem dX11_forms_11 : decode cX11_forms 11 = .ok (.ifCond .eq 11, 3) := by decide +kernel
theorem dX11_forms_14 : decode cX11_forms 14 = .ok (.aload_n 0, 1) := by decide +kernel
theorem dX11_forms_15 : decode cX11_forms 15 = .ok (.iload_n 1, 1) := by decide +kernel
theorem dX11_forms_16 : decode cX11_forms 16 = .ok (.invokevirtual 154, 3) := by decide +kernel
theorem dX11_forms_19 : decode cX11_forms 19 = .ok (.goto 5, 3) := by decide +kernel
theorem dX11_forms_22 : decode cX11_forms 22 = .ok (.ldc 143, 2) := by decide +kernel
theorem dX11_forms_24 : decode cX11_forms 24 = .ok (.ireturn, 1) := by decide +kernel
set_option maxRecDepth 20000 in
theorem ggX11_formAt_X11_m : GoodIn wsX11_formAt wsX11_m := goodIn_r _ [7, 8, 45, 46, 47, 48, 49, 50, 51, 52, 53, 54, 55, 56, 57, 58, 59, 60, 61] (by decide +kernel) (by decide +kernel)
set_option maxRecDepth 20000 in
theorem gX11_formAt_X11_m : GoodIn wsX11_formAt (wsV RX11 48 RX11 yX11_m wsX11_m) := goodIn_app (goodIn_of _ (by decide +kernel)) ggX11_formAt_X11_m
set_option maxRecDepth 20000 in
theorem ggX11_formAt_X11_in : GoodIn wsX11_formAt wsX11_in := goodIn_r _ [11] (by decide +kernel) (by decide +kernel)
set_option maxRecDepth 20000 in
theorem gX11_formAt_X11_in : GoodIn wsX11_formAt (va_wsS RX11 118 yX11_in wsX11_in) := goodIn_app (goodIn_of _ (by decide +kernel)) ggX11_formAt_X11_in
set_option maxRecDepth 20000 in
theorem ggX11_formAt_X11_formsOf : GoodIn wsX11_formAt wsX11_formsOf := goodIn_r _ [15, 16, 17, 18, 19, 20, 6, 21, 22, 3, 4, 5, 7, 8, 23, 24, 25, 26, 27, 28, 29, 30, 31, 32, 33, 34, 35, 36, 37, 38, 39, 40, 45, 46, 47, 48, 49, 50, 51, 52, 53, 54, 55, 56, 57, 58, 59, 60, 61] (by decide +kernel) (by decide +kernel)
set_option maxRecDepth 20000 in
theorem gX11_formAt_X11_formsOf : GoodIn wsX11_formAt (wsV RX11 154 RX11 yX11_formsOf wsX11_formsOf) := goodIn_app (goodIn_of _ (by decide +kernel)) ggX11_formAt_X11_formsOf
set_option maxRecDepth 20000 in
theorem ggX11_formAt_X11_formAtOf : GoodIn wsX11_formAt wsX11_formAtOf := goodIn_r _ [44, 16, 17, 18, 19, 20, 6, 21, 22, 3, 4, 5, 7, 8, 23, 24, 25, 26, 27, 28, 29, 30, 31, 32, 33, 34, 35, 36, 37, 38, 39, 40, 45, 46, 47, 48, 49, 50, 51, 52, 53, 54, 55, 56, 57, 58, 59, 60, 61] (by decide +kernel) (by decide +kernel)
set_option maxRecDepth 20000 in
theorem gX11_formAt_X11_formAtOf : GoodIn wsX11_formAt (wsV RX11 93 RX11 yX11_formAtOf wsX11_formAtOf) := goodIn_app (goodIn_of _ (by decide +kernel)) ggX11_formAt_X11_formAtOf
theorem dX11_formAt_0 : decode cX11_formAt 0 = .ok (.iload_n 1, 1) := by decide +kernel
theorem dX11_formAt_1 : decode cX11_formAt 1 = .ok (.i2l, 1) := by decide +kernel
theorem dX11_formAt_2 : decode cX11_formAt 2 = .ok (.lconst 0, 1) := by decide +kernel
theorem dX11_formAt_3 : decode cX11_formAt 3 = .ok (.aload_n 0, 1) := by decide +kernel
theorem dX11_formAt_4 : decode cX11_formAt 4 = .ok (.invokevirtual 48, 3) := by decide +kernel
theorem dX11_formAt_7 : decode cX11_formAt 7 = .ok (.i2l, 1) := by decide +kernel
theorem dX11_formAt_8 : decode cX11_formAt 8 = .ok (.invokestatic 118, 3) := by decide +kernel
theorem dX11_formAt_11 : decode cX11_formAt 11 = .ok (.ifCond .ne 6, 3) := by decide +kernel
theorem dX11_formAt_14 : decode cX11_formAt 14 = .ok (.ldc 143, 2) := by decide +kernel
theorem dX11_formAt_16 : decode cX11_formAt 16 = .ok (.ireturn, 1) := by decide +kernel
theorem dX11_formAt_17 : decode cX11_formAt 17 = .ok (.iload_n 2, 1) := by decide +kernel
theorem dX11_formAt_18 : decode cX11_formAt 18 = .ok (.i2l, 1) := by decide +kernel
theorem dX11_formAt_19 : decode cX11_formAt 19 = .ok (.lconst 0, 1) := by decide +kernel
theorem dX11_formAt_20 : decode cX11_formAt 20 = .ok (.aload_n 0, 1) := by decide +kernel
theorem dX11_formAt_21 : decode cX11_formAt 21 = .ok (.iload_n 1, 1) := by decide +kernel
theorem dX11_formAt_22 : decode cX11_formAt 22 = .ok (.invokevirtual 154, 3) := by decide +kernel
theorem dX11_formAt_25 : decode cX11_formAt 25 = .ok (.iconst 1, 1) := by decide +kernel
theorem dX11_formAt_26 : decode cX11_formAt 26 = .ok (.isub, 1) := by decide +kernel
theorem dX11_formAt_27 : decode cX11_formAt 27 = .ok (.i2l, 1) := by decide +kernel
theorem dX11_formAt_28 : decode cX11_formAt 28 = .ok (.invokestatic 118, 3) := by decide +kernel
theorem dX11_formAt_31 : decode cX11_formAt 31 = .ok (.ifCond .eq 12, 3) := by decide +kernel
theorem dX11_formAt_34 : decode cX11_formAt 34 = .ok (.aload_n 0, 1) := by decide +kernel
theorem dX11_formAt_35 : decode cX11_formAt 35 = .ok (.iload_n 1, 1) := by decide +kernel
theorem dX11_formAt_36 : decode cX11_formAt 36 = .ok (.iload_n 2, 1) := by decide +kernel
theorem dX11_formAt_37 : decode cX11_formAt 37 = .ok (.invokevirtual 93, 3) := by decide +kernel
theorem dX11_formAt_40 : decode cX11_formAt 40 = .ok (.goto 5, 3) := by decide +kernel
theorem dX11_formAt_43 : decode cX11_formAt 43 = .ok (.ldc 144, 2) := by decide +kernel
theorem dX11_formAt_45 : decode cX11_formAt 45 = .ok (.ireturn, 1) := by decide +kernel
set_option maxRecDepth 20000 in
theorem ggX11_inside_X11_isPlace : GoodIn wsX11_inside wsX11_isPlace := goodIn_r _ [7, 2, 8, 9, 6, 10, 33, 34, 35, 36, 37, 38, 39, 40, 41, 42, 43, 44, 45, 46, 47, 48, 49] (by decide +kernel) (by decide +kernel)
set_option maxRecDepth 20000 in
theorem gX11_inside_X11_isPlace : GoodIn wsX11_inside (wsV RX11 125 RX11 yX11_isPlace wsX11_isPlace) := goodIn_app (goodIn_of _ (by decide +kernel)) ggX11_inside_X11_isPlace
set_option maxRecDepth 20000 in
theorem ggX11_inside_X11_formOf : GoodIn wsX11_inside wsX11_formOf := goodIn_r _ [14, 15, 16, 17, 6, 18, 2, 19, 20, 21, 22, 23, 24, 25, 26, 27, 28, 29, 33, 34, 35, 36, 37, 38, 39, 40, 41, 42, 43, 44, 45, 46, 47, 48, 49] (by decide +kernel) (by decide +kernel)
set_option maxRecDepth 20000 in
theorem gX11_inside_X11_formOf : GoodIn wsX11_inside (wsV RX11 115 RX11 yX11_formOf wsX11_formOf) := goodIn_app (goodIn_of _ (by decide +kernel)) ggX11_inside_X11_formOf
set_option maxRecDepth 20000 in
theorem ggX11_inside_X11_ones : GoodIn wsX11_inside wsX11_ones := goodIn_r _ [32] (by decide +kernel) (by decide +kernel)
set_option maxRecDepth 20000 in
theorem gX11_inside_X11_ones : GoodIn wsX11_inside (va_wsS RX11 67 yX11_ones wsX11_ones) := goodIn_app (goodIn_of _ (by decide +kernel)) ggX11_inside_X11_ones
theorem dX11_inside_0 : decode cX11_inside 0 = .ok (.aload_n 0, 1) := by decide +kernel
theorem dX11_inside_1 : decode cX11_inside 1 = .ok (.iload_n 1, 1) := by decide +kernel
theorem dX11_inside_2 : decode cX11_inside 2 = .ok (.invokevirtual 125, 3) := by decide +kernel
theorem dX11_inside_5 : decode cX11_inside 5 = .ok (.ifCond .eq 11, 3) := by decide +kernel
theorem dX11_inside_8 : decode cX11_inside 8 = .ok (.aload_n 0, 1) := by decide +kernel
theorem dX11_inside_9 : decode cX11_inside 9 = .ok (.iload_n 2, 1) := by decide +kernel
theorem dX11_inside_10 : decode cX11_inside 10 = .ok (.invokevirtual 125, 3) := by decide +kernel
theorem dX11_inside_13 : decode cX11_inside 13 = .ok (.ifCond .ne 6, 3) := by decide +kernel
theorem dX11_inside_16 : decode cX11_inside 16 = .ok (.ldc 144, 2) := by decide +kernel
theorem dX11_inside_18 : decode cX11_inside 18 = .ok (.ireturn, 1) := by decide +kernel
theorem dX11_inside_19 : decode cX11_inside 19 = .ok (.aload_n 0, 1) := by decide +kernel
theorem dX11_inside_20 : decode cX11_inside 20 = .ok (.aload_n 0, 1) := by decide +kernel
theorem dX11_inside_21 : decode cX11_inside 21 = .ok (.getfield 7, 3) := by decide +kernel
theorem dX11_inside_24 : decode cX11_inside 24 = .ok (.iconst 2, 1) := by decide +kernel
theorem dX11_inside_25 : decode cX11_inside 25 = .ok (.iload_n 2, 1) := by decide +kernel
theorem dX11_inside_26 : decode cX11_inside 26 = .ok (.iadd, 1) := by decide +kernel
theorem dX11_inside_27 : decode cX11_inside 27 = .ok (.iaload, 1) := by decide +kernel
theorem dX11_inside_28 : decode cX11_inside 28 = .ok (.invokevirtual 115, 3) := by decide +kernel
theorem dX11_inside_31 : decode cX11_inside 31 = .ok (.istore_n 3, 1) := by decide +kernel
theorem dX11_inside_32 : decode cX11_inside 32 = .ok (.iconst 0, 1) := by decide +kernel
theorem dX11_inside_33 : decode cX11_inside 33 = .ok (.istore 4, 2) := by decide +kernel
theorem dX11_inside_35 : decode cX11_inside 35 = .ok (.iconst 0, 1) := by decide +kernel
theorem dX11_inside_36 : decode cX11_inside 36 = .ok (.istore 5, 2) := by decide +kernel
theorem dX11_inside_38 : decode cX11_inside 38 = .ok (.iload 5, 2) := by decide +kernel
theorem dX11_inside_40 : decode cX11_inside 40 = .ok (.aload_n 0, 1) := by decide +kernel
theorem dX11_inside_41 : decode cX11_inside 41 = .ok (.getfield 7, 3) := by decide +kernel
theorem dX11_inside_44 : decode cX11_inside 44 = .ok (.iconst 2, 1) := by decide +kernel
theorem dX11_inside_45 : decode cX11_inside 45 = .ok (.iload_n 1, 1) := by decide +kernel
theorem dX11_inside_46 : decode cX11_inside 46 = .ok (.iadd, 1) := by decide +kernel
theorem dX11_inside_47 : decode cX11_inside 47 = .ok (.iaload, 1) := by decide +kernel
theorem dX11_inside_48 : decode cX11_inside 48 = .ok (.if_icmp .gt 69, 3) := by decide +kernel
theorem dX11_inside_51 : decode cX11_inside 51 = .ok (.iload 5, 2) := by decide +kernel
theorem dX11_inside_53 : decode cX11_inside 53 = .ok (.aload_n 0, 1) := by decide +kernel
theorem dX11_inside_54 : decode cX11_inside 54 = .ok (.getfield 7, 3) := by decide +kernel
theorem dX11_inside_57 : decode cX11_inside 57 = .ok (.iconst 2, 1) := by decide +kernel
theorem dX11_inside_58 : decode cX11_inside 58 = .ok (.iload_n 1, 1) := by decide +kernel
theorem dX11_inside_59 : decode cX11_inside 59 = .ok (.iadd, 1) := by decide +kernel
theorem dX11_inside_60 : decode cX11_inside 60 = .ok (.iaload, 1) := by decide +kernel
theorem dX11_inside_61 : decode cX11_inside 61 = .ok (.iand, 1) := by decide +kernel
theorem dX11_inside_62 : decode cX11_inside 62 = .ok (.iload 5, 2) := by decide +kernel
theorem dX11_inside_64 : decode cX11_inside 64 = .ok (.if_icmp .ne 19, 3) := by decide +kernel
theorem dX11_inside_67 : decode cX11_inside 67 = .ok (.iload 5, 2) := by decide +kernel
theorem dX11_inside_69 : decode cX11_inside 69 = .ok (.invokestatic 67, 3) := by decide +kernel
theorem dX11_inside_72 : decode cX11_inside 72 = .ok (.iload_n 3, 1) := by decide +kernel
theorem dX11_inside_73 : decode cX11_inside 73 = .ok (.invokestatic 67, 3) := by decide +kernel
theorem dX11_inside_76 : decode cX11_inside 76 = .ok (.if_icmp .ne 7, 3) := by decide +kernel
theorem dX11_inside_79 : decode cX11_inside 79 = .ok (.iconst 1, 1) := by decide +kernel
theorem dX11_inside_80 : decode cX11_inside 80 = .ok (.goto 4, 3) := by decide +kernel
theorem dX11_inside_83 : decode cX11_inside 83 = .ok (.iconst 0, 1) := by decide +kernel
theorem dX11_inside_84 : decode cX11_inside 84 = .ok (.istore 6, 2) := by decide +kernel
theorem dX11_inside_86 : decode cX11_inside 86 = .ok (.iload 4, 2) := by decide +kernel
theorem dX11_inside_88 : decode cX11_inside 88 = .ok (.iload 6, 2) := by decide +kernel
theorem dX11_inside_90 : decode cX11_inside 90 = .ok (.ifCond .eq 17, 3) := by decide +kernel
theorem dX11_inside_93 : decode cX11_inside 93 = .ok (.aload_n 0, 1) := by decide +kernel
theorem dX11_inside_94 : decode cX11_inside 94 = .ok (.iload 5, 2) := by decide +kernel
theorem dX11_inside_96 : decode cX11_inside 96 = .ok (.invokevirtual 115, 3) := by decide +kernel
theorem dX11_inside_99 : decode cX11_inside 99 = .ok (.iload_n 3, 1) := by decide +kernel
theorem dX11_inside_100 : decode cX11_inside 100 = .ok (.if_icmp .ne 7, 3) := by decide +kernel
theorem dX11_inside_103 : decode cX11_inside 103 = .ok (.iconst 1, 1) := by decide +kernel
theorem dX11_inside_104 : decode cX11_inside 104 = .ok (.goto 4, 3) := by decide +kernel
theorem dX11_inside_107 : decode cX11_inside 107 = .ok (.iconst 0, 1) := by decide +kernel
theorem dX11_inside_108 : decode cX11_inside 108 = .ok (.iadd, 1) := by decide +kernel
theorem dX11_inside_109 : decode cX11_inside 109 = .ok (.istore 4, 2) := by decide +kernel
theorem dX11_inside_111 : decode cX11_inside 111 = .ok (.iinc 5 1, 3) := by decide +kernel
theorem dX11_inside_114 : decode cX11_inside 114 = .ok (.goto (-76), 3) := by decide +kernel
theorem dX11_inside_117 : decode cX11_inside 117 = .ok (.iload 4, 2) := by decide +kernel
theorem dX11_inside_119 : decode cX11_inside 119 = .ok (.ireturn, 1) := by decide +kernel
theorem dX11_areWays_0 : decode cX11_areWays 0 = .ok (.aload_n 0, 1) := by decide +kernel
theorem dX11_areWays_1 : decode cX11_areWays 1 = .ok (.getfield 7, 3) := by decide +kernel
theorem dX11_areWays_4 : decode cX11_areWays 4 = .ok (.iconst 2, 1) := by decide +kernel
theorem dX11_areWays_5 : decode cX11_areWays 5 = .ok (.iload_n 1, 1) := by decide +kernel
theorem dX11_areWays_6 : decode cX11_areWays 6 = .ok (.iadd, 1) := by decide +kernel
theorem dX11_areWays_7 : decode cX11_areWays 7 = .ok (.iaload, 1) := by decide +kernel
theorem dX11_areWays_8 : decode cX11_areWays 8 = .ok (.ifCond .eq 18, 3) := by decide +kernel
theorem dX11_areWays_11 : decode cX11_areWays 11 = .ok (.aload_n 0, 1) := by decide +kernel
theorem dX11_areWays_12 : decode cX11_areWays 12 = .ok (.getfield 7, 3) := by decide +kernel
theorem dX11_areWays_15 : decode cX11_areWays 15 = .ok (.iconst 2, 1) := by decide +kernel
theorem dX11_areWays_16 : decode cX11_areWays 16 = .ok (.iload_n 2, 1) := by decide +kernel
theorem dX11_areWays_17 : decode cX11_areWays 17 = .ok (.iadd, 1) := by decide +kernel
theorem dX11_areWays_18 : decode cX11_areWays 18 = .ok (.iaload, 1) := by decide +kernel
theorem dX11_areWays_19 : decode cX11_areWays 19 = .ok (.ifCond .eq 7, 3) := by decide +kernel
theorem dX11_areWays_22 : decode cX11_areWays 22 = .ok (.iconst 1, 1) := by decide +kernel
theorem dX11_areWays_23 : decode cX11_areWays 23 = .ok (.goto 4, 3) := by decide +kernel
theorem dX11_areWays_26 : decode cX11_areWays 26 = .ok (.iconst 0, 1) := by decide +kernel
theorem dX11_areWays_27 : decode cX11_areWays 27 = .ok (.ireturn, 1) := by decide +kernel
set_option maxRecDepth 20000 in
theorem ggX11_way_X11_isPlace : GoodIn wsX11_way wsX11_isPlace := goodIn_r _ [8, 2, 9, 10, 7, 11, 45, 46, 47, 48, 49, 50, 51, 52, 53, 54, 55, 56, 57, 58, 59, 60, 61] (by decide +kernel) (by decide +kernel)
set_option maxRecDepth 20000 in
theorem gX11_way_X11_isPlace : GoodIn wsX11_way (wsV RX11 125 RX11 yX11_isPlace wsX11_isPlace) := goodIn_app (goodIn_of _ (by decide +kernel)) ggX11_way_X11_isPlace
set_option maxRecDepth 20000 in
theorem ggX11_way_X11_areWays : GoodIn wsX11_way wsX11_areWays := goodIn_r _ [15, 2, 45, 46, 47, 48, 49, 50, 51, 52, 53, 54, 55, 56, 57, 58, 59, 60, 61] (by decide +kernel) (by decide +kernel)
set_option maxRecDepth 20000 in
theorem gX11_way_X11_areWays : GoodIn wsX11_way (wsV RX11 157 RX11 yX11_areWays wsX11_areWays) := goodIn_app (goodIn_of _ (by decide +kernel)) ggX11_way_X11_areWays
set_option maxRecDepth 20000 in
theorem ggX11_way_X11_wayOf : GoodIn wsX11_way wsX11_wayOf := goodIn_r _ [19, 20, 21, 7, 22, 23, 24, 25, 26, 27, 28, 29, 30, 31, 32, 2, 33, 34, 35, 36, 37, 38, 39, 40, 41, 42, 43, 44, 45, 46, 47, 48, 49, 50, 51, 52, 53, 54, 55, 56, 57, 58, 59, 60, 61] (by decide +kernel) (by decide +kernel)
set_option maxRecDepth 20000 in
theorem gX11_way_X11_wayOf : GoodIn wsX11_way (wsV RX11 103 RX11 yX11_wayOf wsX11_wayOf) := goodIn_app (goodIn_of _ (by decide +kernel)) ggX11_way_X11_wayOf
theorem dX11_way_0 : decode cX11_way 0 = .ok (.aload_n 0, 1) := by decide +kernel
theorem dX11_way_1 : decode cX11_way 1 = .ok (.iload_n 1, 1) := by decide +kernel
theorem dX11_way_2 : decode cX11_way 2 = .ok (.invokevirtual 125, 3) := by decide +kernel
theorem dX11_way_5 : decode cX11_way 5 = .ok (.ifCond .eq 11, 3) := by decide +kernel
theorem dX11_way_8 : decode cX11_way 8 = .ok (.aload_n 0, 1) := by decide +kernel
theorem dX11_way_9 : decode cX11_way 9 = .ok (.iload_n 2, 1) := by decide +kernel
theorem dX11_way_10 : decode cX11_way 10 = .ok (.invokevirtual 125, 3) := by decide +kernel
theorem dX11_way_13 : decode cX11_way 13 = .ok (.ifCond .ne 6, 3) := by decide +kernel
theorem dX11_way_16 : decode cX11_way 16 = .ok (.ldc 144, 2) := by decide +kernel
theorem dX11_way_18 : decode cX11_way 18 = .ok (.ireturn, 1) := by decide +kernel
theorem dX11_way_19 : decode cX11_way 19 = .ok (.aload_n 0, 1) := by decide +kernel
theorem dX11_way_20 : decode cX11_way 20 = .ok (.iload_n 1, 1) := by decide +kernel
theorem dX11_way_21 : decode cX11_way 21 = .ok (.iload_n 2, 1) := by decide +kernel
theorem dX11_way_22 : decode cX11_way 22 = .ok (.invokevirtual 157, 3) := by decide +kernel
theorem dX11_way_25 : decode cX11_way 25 = .ok (.ifCond .eq 26, 3) := by decide +kernel
theorem dX11_way_28 : decode cX11_way 28 = .ok (.aload_n 0, 1) := by decide +kernel
theorem dX11_way_29 : decode cX11_way 29 = .ok (.aload_n 0, 1) := by decide +kernel
theorem dX11_way_30 : decode cX11_way 30 = .ok (.getfield 7, 3) := by decide +kernel
theorem dX11_way_33 : decode cX11_way 33 = .ok (.iconst 2, 1) := by decide +kernel
theorem dX11_way_34 : decode cX11_way 34 = .ok (.iload_n 1, 1) := by decide +kernel
theorem dX11_way_35 : decode cX11_way 35 = .ok (.iadd, 1) := by decide +kernel
theorem dX11_way_36 : decode cX11_way 36 = .ok (.iaload, 1) := by decide +kernel
theorem dX11_way_37 : decode cX11_way 37 = .ok (.aload_n 0, 1) := by decide +kernel
theorem dX11_way_38 : decode cX11_way 38 = .ok (.getfield 7, 3) := by decide +kernel
theorem dX11_way_41 : decode cX11_way 41 = .ok (.iconst 2, 1) := by decide +kernel
theorem dX11_way_42 : decode cX11_way 42 = .ok (.iload_n 2, 1) := by decide +kernel
theorem dX11_way_43 : decode cX11_way 43 = .ok (.iadd, 1) := by decide +kernel
theorem dX11_way_44 : decode cX11_way 44 = .ok (.iaload, 1) := by decide +kernel
theorem dX11_way_45 : decode cX11_way 45 = .ok (.invokevirtual 103, 3) := by decide +kernel
theorem dX11_way_48 : decode cX11_way 48 = .ok (.goto 5, 3) := by decide +kernel
theorem dX11_way_51 : decode cX11_way 51 = .ok (.ldc 160, 2) := by decide +kernel
theorem dX11_way_53 : decode cX11_way 53 = .ok (.ireturn, 1) := by decide +kernel
set_option maxRecDepth 20000 in
theorem ggX11_nearest_X11_isPlace : GoodIn wsX11_nearest wsX11_isPlace := goodIn_r _ [9, 4, 10, 11, 8, 12, 58, 59, 60, 61, 62, 63, 64, 65, 66, 67, 68, 69, 70, 71, 72, 73, 74] (by decide +kernel) (by decide +kernel)
set_option maxRecDepth 20000 in
theorem gX11_nearest_X11_isPlace : GoodIn wsX11_nearest (wsV RX11 125 RX11 yX11_isPlace wsX11_isPlace) := goodIn_app (goodIn_of _ (by decide +kernel)) ggX11_nearest_X11_isPlace
set_option maxRecDepth 20000 in
theorem ggX11_nearest_X11_in : GoodIn wsX11_nearest wsX11_in := goodIn_r _ [12] (by decide +kernel) (by decide +kernel)
set_option maxRecDepth 20000 in
theorem gX11_nearest_X11_in : GoodIn wsX11_nearest (va_wsS RX11 118 yX11_in wsX11_in) := goodIn_app (goodIn_of _ (by decide +kernel)) ggX11_nearest_X11_in
set_option maxRecDepth 20000 in
theorem ggX11_nearest_X11_areWays : GoodIn wsX11_nearest wsX11_areWays := goodIn_r _ [16, 4, 58, 59, 60, 61, 62, 63, 64, 65, 66, 67, 68, 69, 70, 71, 72, 73, 74] (by decide +kernel) (by decide +kernel)
set_option maxRecDepth 20000 in
theorem gX11_nearest_X11_areWays : GoodIn wsX11_nearest (wsV RX11 157 RX11 yX11_areWays wsX11_areWays) := goodIn_app (goodIn_of _ (by decide +kernel)) ggX11_nearest_X11_areWays
set_option maxRecDepth 20000 in
theorem ggX11_nearest_X11_nearestOf : GoodIn wsX11_nearest wsX11_nearestOf := goodIn_r _ [20, 21, 22, 23, 24, 8, 25, 4, 26, 27, 28, 29, 30, 31, 32, 33, 34, 35, 36, 37, 38, 39, 40, 41, 42, 43, 44, 45, 46, 47, 48, 49, 50, 51, 52, 53, 54, 55, 56, 57, 58, 59, 60, 61, 62, 63, 64, 65, 66, 67, 68, 69, 70, 71, 72, 73, 74] (by decide +kernel) (by decide +kernel)
set_option maxRecDepth 20000 in
theorem gX11_nearest_X11_nearestOf : GoodIn wsX11_nearest (wsV RX11 161 RX11 yX11_nearestOf wsX11_nearestOf) := goodIn_app (goodIn_of _ (by decide +kernel)) ggX11_nearest_X11_nearestOf
set_option maxRecDepth 20000 in
theorem ggX11_nearest_X11_imageOf : GoodIn wsX11_nearest wsX11_imageOf := goodIn_r _ [29, 22, 23, 24, 8, 25, 4, 30, 31, 32, 33, 34, 35, 36, 58, 59, 60, 61, 62, 63, 64, 65, 66, 67, 68, 69, 70, 71, 72, 73, 74] (by decide +kernel) (by decide +kernel)
set_option maxRecDepth 20000 in
theorem gX11_nearest_X11_imageOf : GoodIn wsX11_nearest (wsV RX11 60 RX11 yX11_imageOf wsX11_imageOf) := goodIn_app (goodIn_of _ (by decide +kernel)) ggX11_nearest_X11_imageOf
set_option maxRecDepth 20000 in
theorem ggX11_nearest_X11_wayOf : GoodIn wsX11_nearest wsX11_wayOf := goodIn_r _ [40, 41, 42, 8, 43, 44, 45, 46, 47, 48, 21, 22, 23, 24, 25, 4, 34, 35, 36, 49, 50, 51, 52, 53, 54, 55, 56, 57, 58, 59, 60, 61, 62, 63, 64, 65, 66, 67, 68, 69, 70, 71, 72, 73, 74] (by decide +kernel) (by decide +kernel)
set_option maxRecDepth 20000 in
theorem gX11_nearest_X11_wayOf : GoodIn wsX11_nearest (wsV RX11 103 RX11 yX11_wayOf wsX11_wayOf) := goodIn_app (goodIn_of _ (by decide +kernel)) ggX11_nearest_X11_wayOf
theorem dX11_nearest_0 : decode cX11_nearest 0 = .ok (.aload_n 0, 1) := by decide +kernel
theorem dX11_nearest_1 : decode cX11_nearest 1 = .ok (.iload_n 1, 1) := by decide +kernel
theorem dX11_nearest_2 : decode cX11_nearest 2 = .ok (.invokevirtual 125, 3) := by decide +kernel
theorem dX11_nearest_5 : decode cX11_nearest 5 = .ok (.ifCond .eq 11, 3) := by decide +kernel
theorem dX11_nearest_8 : decode cX11_nearest 8 = .ok (.aload_n 0, 1) := by decide +kernel
theorem dX11_nearest_9 : decode cX11_nearest 9 = .ok (.iload_n 2, 1) := by decide +kernel
theorem dX11_nearest_10 : decode cX11_nearest 10 = .ok (.invokevirtual 125, 3) := by decide +kernel
theorem dX11_nearest_13 : decode cX11_nearest 13 = .ok (.ifCond .ne 6, 3) := by decide +kernel
theorem dX11_nearest_16 : decode cX11_nearest 16 = .ok (.ldc 144, 2) := by decide +kernel
theorem dX11_nearest_18 : decode cX11_nearest 18 = .ok (.ireturn, 1) := by decide +kernel
theorem dX11_nearest_19 : decode cX11_nearest 19 = .ok (.iload_n 3, 1) := by decide +kernel
theorem dX11_nearest_20 : decode cX11_nearest 20 = .ok (.i2l, 1) := by decide +kernel
theorem dX11_nearest_21 : decode cX11_nearest 21 = .ok (.lconst 0, 1) := by decide +kernel
theorem dX11_nearest_22 : decode cX11_nearest 22 = .ok (.lconst 1, 1) := by decide +kernel
theorem dX11_nearest_23 : decode cX11_nearest 23 = .ok (.invokestatic 118, 3) := by decide +kernel
theorem dX11_nearest_26 : decode cX11_nearest 26 = .ok (.ifCond .ne 6, 3) := by decide +kernel
theorem dX11_nearest_29 : decode cX11_nearest 29 = .ok (.ldc 143, 2) := by decide +kernel
theorem dX11_nearest_31 : decode cX11_nearest 31 = .ok (.ireturn, 1) := by decide +kernel
theorem dX11_nearest_32 : decode cX11_nearest 32 = .ok (.aload_n 0, 1) := by decide +kernel
theorem dX11_nearest_33 : decode cX11_nearest 33 = .ok (.iload_n 1, 1) := by decide +kernel
theorem dX11_nearest_34 : decode cX11_nearest 34 = .ok (.iload_n 2, 1) := by decide +kernel
theorem dX11_nearest_35 : decode cX11_nearest 35 = .ok (.invokevirtual 157, 3) := by decide +kernel
theorem dX11_nearest_38 : decode cX11_nearest 38 = .ok (.ifCond .ne 6, 3) := by decide +kernel
theorem dX11_nearest_41 : decode cX11_nearest 41 = .ok (.ldc 160, 2) := by decide +kernel
theorem dX11_nearest_43 : decode cX11_nearest 43 = .ok (.ireturn, 1) := by decide +kernel
theorem dX11_nearest_44 : decode cX11_nearest 44 = .ok (.aload_n 0, 1) := by decide +kernel
theorem dX11_nearest_45 : decode cX11_nearest 45 = .ok (.aload_n 0, 1) := by decide +kernel
theorem dX11_nearest_46 : decode cX11_nearest 46 = .ok (.getfield 7, 3) := by decide +kernel
theorem dX11_nearest_49 : decode cX11_nearest 49 = .ok (.iconst 2, 1) := by decide +kernel
theorem dX11_nearest_50 : decode cX11_nearest 50 = .ok (.iload_n 1, 1) := by decide +kernel
theorem dX11_nearest_51 : decode cX11_nearest 51 = .ok (.iadd, 1) := by decide +kernel
theorem dX11_nearest_52 : decode cX11_nearest 52 = .ok (.iaload, 1) := by decide +kernel
theorem dX11_nearest_53 : decode cX11_nearest 53 = .ok (.aload_n 0, 1) := by decide +kernel
theorem dX11_nearest_54 : decode cX11_nearest 54 = .ok (.getfield 7, 3) := by decide +kernel
theorem dX11_nearest_57 : decode cX11_nearest 57 = .ok (.iconst 2, 1) := by decide +kernel
theorem dX11_nearest_58 : decode cX11_nearest 58 = .ok (.iload_n 2, 1) := by decide +kernel
theorem dX11_nearest_59 : decode cX11_nearest 59 = .ok (.iadd, 1) := by decide +kernel
theorem dX11_nearest_60 : decode cX11_nearest 60 = .ok (.iaload, 1) := by decide +kernel
theorem dX11_nearest_61 : decode cX11_nearest 61 = .ok (.invokevirtual 161, 3) := by decide +kernel
theorem dX11_nearest_64 : decode cX11_nearest 64 = .ok (.istore 4, 2) := by decide +kernel
theorem dX11_nearest_66 : decode cX11_nearest 66 = .ok (.iload_n 3, 1) := by decide +kernel
theorem dX11_nearest_67 : decode cX11_nearest 67 = .ok (.ifCond .ne 8, 3) := by decide +kernel
theorem dX11_nearest_70 : decode cX11_nearest 70 = .ok (.iload 4, 2) := by decide +kernel
theorem dX11_nearest_72 : decode cX11_nearest 72 = .ok (.goto 29, 3) := by decide +kernel
theorem dX11_nearest_75 : decode cX11_nearest 75 = .ok (.aload_n 0, 1) := by decide +kernel
theorem dX11_nearest_76 : decode cX11_nearest 76 = .ok (.aload_n 0, 1) := by decide +kernel
theorem dX11_nearest_77 : decode cX11_nearest 77 = .ok (.getfield 7, 3) := by decide +kernel
theorem dX11_nearest_80 : decode cX11_nearest 80 = .ok (.iconst 2, 1) := by decide +kernel
theorem dX11_nearest_81 : decode cX11_nearest 81 = .ok (.iload_n 1, 1) := by decide +kernel
theorem dX11_nearest_82 : decode cX11_nearest 82 = .ok (.iadd, 1) := by decide +kernel
theorem dX11_nearest_83 : decode cX11_nearest 83 = .ok (.iaload, 1) := by decide +kernel
theorem dX11_nearest_84 : decode cX11_nearest 84 = .ok (.aload_n 0, 1) := by decide +kernel
theorem dX11_nearest_85 : decode cX11_nearest 85 = .ok (.aload_n 0, 1) := by decide +kernel
theorem dX11_nearest_86 : decode cX11_nearest 86 = .ok (.getfield 7, 3) := by decide +kernel
theorem dX11_nearest_89 : decode cX11_nearest 89 = .ok (.iconst 2, 1) := by decide +kernel
theorem dX11_nearest_90 : decode cX11_nearest 90 = .ok (.iload_n 2, 1) := by decide +kernel
theorem dX11_nearest_91 : decode cX11_nearest 91 = .ok (.iadd, 1) := by decide +kernel
theorem dX11_nearest_92 : decode cX11_nearest 92 = .ok (.iaload, 1) := by decide +kernel
theorem dX11_nearest_93 : decode cX11_nearest 93 = .ok (.iload 4, 2) := by decide +kernel
theorem dX11_nearest_95 : decode cX11_nearest 95 = .ok (.invokevirtual 60, 3) := by decide +kernel
theorem dX11_nearest_98 : decode cX11_nearest 98 = .ok (.invokevirtual 103, 3) := by decide +kernel
theorem dX11_nearest_101 : decode cX11_nearest 101 = .ok (.ireturn, 1) := by decide +kernel
set_option maxRecDepth 20000 in
theorem ggX11_easy_X11_isPlace : GoodIn wsX11_easy wsX11_isPlace := goodIn_r _ [10, 3, 11, 12, 9, 13, 50, 51, 52, 53, 54, 55, 56, 57, 58, 59, 60, 61, 62, 63, 64, 65, 66] (by decide +kernel) (by decide +kernel)
set_option maxRecDepth 20000 in
theorem gX11_easy_X11_isPlace : GoodIn wsX11_easy (wsV RX11 125 RX11 yX11_isPlace wsX11_isPlace) := goodIn_app (goodIn_of _ (by decide +kernel)) ggX11_easy_X11_isPlace
set_option maxRecDepth 20000 in
theorem ggX11_easy_X11_in : GoodIn wsX11_easy wsX11_in := goodIn_r _ [13] (by decide +kernel) (by decide +kernel)
set_option maxRecDepth 20000 in
theorem gX11_easy_X11_in : GoodIn wsX11_easy (va_wsS RX11 118 yX11_in wsX11_in) := goodIn_app (goodIn_of _ (by decide +kernel)) ggX11_easy_X11_in
set_option maxRecDepth 20000 in
theorem ggX11_easy_X11_ones : GoodIn wsX11_easy wsX11_ones := goodIn_r _ [16] (by decide +kernel) (by decide +kernel)
set_option maxRecDepth 20000 in
theorem gX11_easy_X11_ones : GoodIn wsX11_easy (va_wsS RX11 67 yX11_ones wsX11_ones) := goodIn_app (goodIn_of _ (by decide +kernel)) ggX11_easy_X11_ones
set_option maxRecDepth 20000 in
theorem ggX11_easy_X11_layEasy : GoodIn wsX11_easy wsX11_layEasy := goodIn_r _ [20, 5, 21, 22, 14, 15, 9, 16, 23, 24, 25, 26, 3, 27, 28, 29, 30, 31, 32, 33, 34, 35, 36, 37, 38, 39, 40, 41, 42, 43, 44, 45, 50, 51, 52, 53, 54, 55, 56, 57, 58, 59, 60, 61, 62, 63, 64, 65, 66] (by decide +kernel) (by decide +kernel)
set_option maxRecDepth 20000 in
theorem gX11_easy_X11_layEasy : GoodIn wsX11_easy (wsV RX11 164 RX11 yX11_layEasy wsX11_layEasy) := goodIn_app (goodIn_of _ (by decide +kernel)) ggX11_easy_X11_layEasy
set_option maxRecDepth 20000 in
theorem ggX11_easy_X11_easyNext : GoodIn wsX11_easy wsX11_easyNext := goodIn_r _ [49, 21, 5, 22, 23, 24, 25, 9, 26, 3, 42, 43, 44, 45, 35, 36, 37, 50, 51, 52, 53, 54, 55, 56, 57, 58, 59, 60, 61, 62, 63, 64, 65, 66] (by decide +kernel) (by decide +kernel)
set_option maxRecDepth 20000 in
theorem gX11_easy_X11_easyNext : GoodIn wsX11_easy (wsV RX11 168 RX11 yX11_easyNext wsX11_easyNext) := goodIn_app (goodIn_of _ (by decide +kernel)) ggX11_easy_X11_easyNext
theorem dX11_easy_0 : decode cX11_easy 0 = .ok (.aload_n 0, 1) := by decide +kernel
theorem dX11_easy_1 : decode cX11_easy 1 = .ok (.iload_n 1, 1) := by decide +kernel
theorem dX11_easy_2 : decode cX11_easy 2 = .ok (.invokevirtual 125, 3) := by decide +kernel
theorem dX11_easy_5 : decode cX11_easy 5 = .ok (.ifCond .eq 11, 3) := by decide +kernel
theorem dX11_easy_8 : decode cX11_easy 8 = .ok (.aload_n 0, 1) := by decide +kernel
theorem dX11_easy_9 : decode cX11_easy 9 = .ok (.iload_n 2, 1) := by decide +kernel
theorem dX11_easy_10 : decode cX11_easy 10 = .ok (.invokevirtual 125, 3) := by decide +kernel
theorem dX11_easy_13 : decode cX11_easy 13 = .ok (.ifCond .ne 6, 3) := by decide +kernel
theorem dX11_easy_16 : decode cX11_easy 16 = .ok (.ldc 144, 2) := by decide +kernel
theorem dX11_easy_18 : decode cX11_easy 18 = .ok (.ireturn, 1) := by decide +kernel
theorem dX11_easy_19 : decode cX11_easy 19 = .ok (.iload_n 3, 1) := by decide +kernel
theorem dX11_easy_20 : decode cX11_easy 20 = .ok (.i2l, 1) := by decide +kernel
theorem dX11_easy_21 : decode cX11_easy 21 = .ok (.lconst 0, 1) := by decide +kernel
theorem dX11_easy_22 : decode cX11_easy 22 = .ok (.lconst 1, 1) := by decide +kernel
theorem dX11_easy_23 : decode cX11_easy 23 = .ok (.invokestatic 118, 3) := by decide +kernel
theorem dX11_easy_26 : decode cX11_easy 26 = .ok (.ifCond .ne 6, 3) := by decide +kernel
theorem dX11_easy_29 : decode cX11_easy 29 = .ok (.ldc 143, 2) := by decide +kernel
theorem dX11_easy_31 : decode cX11_easy 31 = .ok (.ireturn, 1) := by decide +kernel
theorem dX11_easy_32 : decode cX11_easy 32 = .ok (.aload_n 0, 1) := by decide +kernel
theorem dX11_easy_33 : decode cX11_easy 33 = .ok (.getfield 7, 3) := by decide +kernel
theorem dX11_easy_36 : decode cX11_easy 36 = .ok (.iconst 2, 1) := by decide +kernel
theorem dX11_easy_37 : decode cX11_easy 37 = .ok (.iload_n 1, 1) := by decide +kernel
theorem dX11_easy_38 : decode cX11_easy 38 = .ok (.iadd, 1) := by decide +kernel
theorem dX11_easy_39 : decode cX11_easy 39 = .ok (.iaload, 1) := by decide +kernel
theorem dX11_easy_40 : decode cX11_easy 40 = .ok (.invokestatic 67, 3) := by decide +kernel
theorem dX11_easy_43 : decode cX11_easy 43 = .ok (.aload_n 0, 1) := by decide +kernel
theorem dX11_easy_44 : decode cX11_easy 44 = .ok (.getfield 7, 3) := by decide +kernel
theorem dX11_easy_47 : decode cX11_easy 47 = .ok (.iconst 2, 1) := by decide +kernel
theorem dX11_easy_48 : decode cX11_easy 48 = .ok (.iload_n 2, 1) := by decide +kernel
theorem dX11_easy_49 : decode cX11_easy 49 = .ok (.iadd, 1) := by decide +kernel
theorem dX11_easy_50 : decode cX11_easy 50 = .ok (.iaload, 1) := by decide +kernel
theorem dX11_easy_51 : decode cX11_easy 51 = .ok (.invokestatic 67, 3) := by decide +kernel
theorem dX11_easy_54 : decode cX11_easy 54 = .ok (.if_icmp .eq 6, 3) := by decide +kernel
theorem dX11_easy_57 : decode cX11_easy 57 = .ok (.ldc 160, 2) := by decide +kernel
theorem dX11_easy_59 : decode cX11_easy 59 = .ok (.ireturn, 1) := by decide +kernel
theorem dX11_easy_60 : decode cX11_easy 60 = .ok (.aload_n 0, 1) := by decide +kernel
theorem dX11_easy_61 : decode cX11_easy 61 = .ok (.aload_n 0, 1) := by decide +kernel
theorem dX11_easy_62 : decode cX11_easy 62 = .ok (.getfield 7, 3) := by decide +kernel
theorem dX11_easy_65 : decode cX11_easy 65 = .ok (.iconst 2, 1) := by decide +kernel
theorem dX11_easy_66 : decode cX11_easy 66 = .ok (.iload_n 2, 1) := by decide +kernel
theorem dX11_easy_67 : decode cX11_easy 67 = .ok (.iadd, 1) := by decide +kernel
theorem dX11_easy_68 : decode cX11_easy 68 = .ok (.iaload, 1) := by decide +kernel
theorem dX11_easy_69 : decode cX11_easy 69 = .ok (.invokevirtual 164, 3) := by decide +kernel
theorem dX11_easy_72 : decode cX11_easy 72 = .ok (.iload_n 3, 1) := by decide +kernel
theorem dX11_easy_73 : decode cX11_easy 73 = .ok (.ifCond .ne 19, 3) := by decide +kernel
theorem dX11_easy_76 : decode cX11_easy 76 = .ok (.aload_n 0, 1) := by decide +kernel
theorem dX11_easy_77 : decode cX11_easy 77 = .ok (.getfield 25, 3) := by decide +kernel
theorem dX11_easy_80 : decode cX11_easy 80 = .ok (.aload_n 0, 1) := by decide +kernel
theorem dX11_easy_81 : decode cX11_easy 81 = .ok (.getfield 7, 3) := by decide +kernel
theorem dX11_easy_84 : decode cX11_easy 84 = .ok (.iconst 2, 1) := by decide +kernel
theorem dX11_easy_85 : decode cX11_easy 85 = .ok (.iload_n 1, 1) := by decide +kernel
theorem dX11_easy_86 : decode cX11_easy 86 = .ok (.iadd, 1) := by decide +kernel
theorem dX11_easy_87 : decode cX11_easy 87 = .ok (.iaload, 1) := by decide +kernel
theorem dX11_easy_88 : decode cX11_easy 88 = .ok (.iaload, 1) := by decide +kernel
theorem dX11_easy_89 : decode cX11_easy 89 = .ok (.goto 23, 3) := by decide +kernel
theorem dX11_easy_92 : decode cX11_easy 92 = .ok (.aload_n 0, 1) := by decide +kernel
theorem dX11_easy_93 : decode cX11_easy 93 = .ok (.aload_n 0, 1) := by decide +kernel
theorem dX11_easy_94 : decode cX11_easy 94 = .ok (.getfield 7, 3) := by decide +kernel
theorem dX11_easy_97 : decode cX11_easy 97 = .ok (.iconst 2, 1) := by decide +kernel
theorem dX11_easy_98 : decode cX11_easy 98 = .ok (.iload_n 1, 1) := by decide +kernel
theorem dX11_easy_99 : decode cX11_easy 99 = .ok (.iadd, 1) := by decide +kernel
theorem dX11_easy_100 : decode cX11_easy 100 = .ok (.iaload, 1) := by decide +kernel
theorem dX11_easy_101 : decode cX11_easy 101 = .ok (.aload_n 0, 1) := by decide +kernel
theorem dX11_easy_102 : decode cX11_easy 102 = .ok (.getfield 7, 3) := by decide +kernel
theorem dX11_easy_105 : decode cX11_easy 105 = .ok (.iconst 2, 1) := by decide +kernel
theorem dX11_easy_106 : decode cX11_easy 106 = .ok (.iload_n 2, 1) := by decide +kernel
theorem dX11_easy_107 : decode cX11_easy 107 = .ok (.iadd, 1) := by decide +kernel
theorem dX11_easy_108 : decode cX11_easy 108 = .ok (.iaload, 1) := by decide +kernel
theorem dX11_easy_109 : decode cX11_easy 109 = .ok (.invokevirtual 168, 3) := by decide +kernel
theorem dX11_easy_112 : decode cX11_easy 112 = .ok (.ireturn, 1) := by decide +kernel
set_option maxRecDepth 20000 in
theorem ggX11_ring_X11_in : GoodIn wsX11_ring wsX11_in := goodIn_r _ [8] (by decide +kernel) (by decide +kernel)
set_option maxRecDepth 20000 in
theorem gX11_ring_X11_in : GoodIn wsX11_ring (va_wsS RX11 118 yX11_in wsX11_in) := goodIn_app (goodIn_of _ (by decide +kernel)) ggX11_ring_X11_in
set_option maxRecDepth 20000 in
theorem ggX11_ring_X11_remember : GoodIn wsX11_ring wsX11_remember := goodIn_r _ [12, 13, 14, 15, 16, 7, 17, 4, 22, 23, 24, 25, 26, 27, 28, 29, 30, 31, 32, 33, 34, 35, 36, 37, 38] (by decide +kernel) (by decide +kernel)
set_option maxRecDepth 20000 in
theorem gX11_ring_X11_remember : GoodIn wsX11_ring (wsV RX11 175 RX11 yX11_remember wsX11_remember) := goodIn_app (goodIn_of _ (by decide +kernel)) ggX11_ring_X11_remember
set_option maxRecDepth 20000 in
theorem ggX11_ring_X11_m : GoodIn wsX11_ring wsX11_m := goodIn_r _ [21, 4, 22, 23, 24, 25, 26, 27, 28, 29, 30, 31, 32, 33, 34, 35, 36, 37, 38] (by decide +kernel) (by decide +kernel)
set_option maxRecDepth 20000 in
theorem gX11_ring_X11_m : GoodIn wsX11_ring (wsV RX11 48 RX11 yX11_m wsX11_m) := goodIn_app (goodIn_of _ (by decide +kernel)) ggX11_ring_X11_m
theorem dX11_ring_0 : decode cX11_ring 0 = .ok (.iload_n 1, 1) := by decide +kernel
theorem dX11_ring_1 : decode cX11_ring 1 = .ok (.i2l, 1) := by decide +kernel
theorem dX11_ring_2 : decode cX11_ring 2 = .ok (.ldc2_w 171, 3) := by decide +kernel
theorem dX11_ring_5 : decode cX11_ring 5 = .ok (.ldc2_w 173, 3) := by decide +kernel
theorem dX11_ring_8 : decode cX11_ring 8 = .ok (.invokestatic 118, 3) := by decide +kernel
theorem dX11_ring_11 : decode cX11_ring 11 = .ok (.ifCond .ne 6, 3) := by decide +kernel
theorem dX11_ring_14 : decode cX11_ring 14 = .ok (.ldc 143, 2) := by decide +kernel
theorem dX11_ring_16 : decode cX11_ring 16 = .ok (.ireturn, 1) := by decide +kernel
theorem dX11_ring_17 : decode cX11_ring 17 = .ok (.aload_n 0, 1) := by decide +kernel
theorem dX11_ring_18 : decode cX11_ring 18 = .ok (.invokevirtual 175, 3) := by decide +kernel
theorem dX11_ring_21 : decode cX11_ring 21 = .ok (.aload_n 0, 1) := by decide +kernel
theorem dX11_ring_22 : decode cX11_ring 22 = .ok (.invokevirtual 48, 3) := by decide +kernel
theorem dX11_ring_25 : decode cX11_ring 25 = .ok (.istore_n 2, 1) := by decide +kernel
theorem dX11_ring_26 : decode cX11_ring 26 = .ok (.aload_n 0, 1) := by decide +kernel
theorem dX11_ring_27 : decode cX11_ring 27 = .ok (.getfield 7, 3) := by decide +kernel
theorem dX11_ring_30 : decode cX11_ring 30 = .ok (.iconst 0, 1) := by decide +kernel
theorem dX11_ring_31 : decode cX11_ring 31 = .ok (.iload_n 1, 1) := by decide +kernel
theorem dX11_ring_32 : decode cX11_ring 32 = .ok (.iastore, 1) := by decide +kernel
theorem dX11_ring_33 : decode cX11_ring 33 = .ok (.aload_n 0, 1) := by decide +kernel
theorem dX11_ring_34 : decode cX11_ring 34 = .ok (.getfield 7, 3) := by decide +kernel
theorem dX11_ring_37 : decode cX11_ring 37 = .ok (.iconst 1, 1) := by decide +kernel
theorem dX11_ring_38 : decode cX11_ring 38 = .ok (.iconst 0, 1) := by decide +kernel
theorem dX11_ring_39 : decode cX11_ring 39 = .ok (.iastore, 1) := by decide +kernel
theorem dX11_ring_40 : decode cX11_ring 40 = .ok (.iload_n 2, 1) := by decide +kernel
theorem dX11_ring_41 : decode cX11_ring 41 = .ok (.ireturn, 1) := by decide +kernel
set_option maxRecDepth 20000 in
theorem ggX11_add_X11_remember : GoodIn wsX11_add wsX11_remember := goodIn_r _ [6, 7, 8, 9, 10, 5, 11, 1, 12, 13, 14, 15, 16, 17, 18, 19, 20, 21, 22, 23, 24, 25, 26, 27, 28] (by decide +kernel) (by decide +kernel)
set_option maxRecDepth 20000 in
theorem gX11_add_X11_remember : GoodIn wsX11_add (wsV RX11 175 RX11 yX11_remember wsX11_remember) := goodIn_app (goodIn_of _ (by decide +kernel)) ggX11_add_X11_remember
theorem dX11_add_0 : decode cX11_add 0 = .ok (.aload_n 0, 1) := by decide +kernel
theorem dX11_add_1 : decode cX11_add 1 = .ok (.invokevirtual 175, 3) := by decide +kernel
theorem dX11_add_4 : decode cX11_add 4 = .ok (.aload_n 0, 1) := by decide +kernel
theorem dX11_add_5 : decode cX11_add 5 = .ok (.getfield 7, 3) := by decide +kernel
theorem dX11_add_8 : decode cX11_add 8 = .ok (.iconst 2, 1) := by decide +kernel
theorem dX11_add_9 : decode cX11_add 9 = .ok (.aload_n 0, 1) := by decide +kernel
theorem dX11_add_10 : decode cX11_add 10 = .ok (.getfield 7, 3) := by decide +kernel
theorem dX11_add_13 : decode cX11_add 13 = .ok (.iconst 1, 1) := by decide +kernel
theorem dX11_add_14 : decode cX11_add 14 = .ok (.iaload, 1) := by decide +kernel
theorem dX11_add_15 : decode cX11_add 15 = .ok (.iadd, 1) := by decide +kernel
theorem dX11_add_16 : decode cX11_add 16 = .ok (.iload_n 1, 1) := by decide +kernel
theorem dX11_add_17 : decode cX11_add 17 = .ok (.iastore, 1) := by decide +kernel
theorem dX11_add_18 : decode cX11_add 18 = .ok (.aload_n 0, 1) := by decide +kernel
theorem dX11_add_19 : decode cX11_add 19 = .ok (.getfield 7, 3) := by decide +kernel
theorem dX11_add_22 : decode cX11_add 22 = .ok (.iconst 1, 1) := by decide +kernel
theorem dX11_add_23 : decode cX11_add 23 = .ok (.dup2, 1) := by decide +kernel
theorem dX11_add_24 : decode cX11_add 24 = .ok (.iaload, 1) := by decide +kernel
theorem dX11_add_25 : decode cX11_add 25 = .ok (.iconst 1, 1) := by decide +kernel
theorem dX11_add_26 : decode cX11_add 26 = .ok (.iadd, 1) := by decide +kernel
theorem dX11_add_27 : decode cX11_add 27 = .ok (.iastore, 1) := by decide +kernel
theorem dX11_add_28 : decode cX11_add 28 = .ok (.aload_n 0, 1) := by decide +kernel
theorem dX11_add_29 : decode cX11_add 29 = .ok (.getfield 7, 3) := by decide +kernel
theorem dX11_add_32 : decode cX11_add 32 = .ok (.iconst 1, 1) := by decide +kernel
theorem dX11_add_33 : decode cX11_add 33 = .ok (.iaload, 1) := by decide +kernel
theorem dX11_add_34 : decode cX11_add 34 = .ok (.iconst 1, 1) := by decide +kernel
theorem dX11_add_35 : decode cX11_add 35 = .ok (.isub, 1) := by decide +kernel
theorem dX11_add_36 : decode cX11_add 36 = .ok (.ireturn, 1) := by decide +kernel
set_option maxRecDepth 20000 in
theorem ggX11_put_X11_m : GoodIn wsX11_put wsX11_m := goodIn_r _ [8, 2, 25, 26, 27, 28, 29, 30, 31, 32, 33, 34, 35, 36, 37, 38, 39, 40, 41] (by decide +kernel) (by decide +kernel)
set_option maxRecDepth 20000 in
theorem gX11_put_X11_m : GoodIn wsX11_put (wsV RX11 48 RX11 yX11_m wsX11_m) := goodIn_app (goodIn_of _ (by decide +kernel)) ggX11_put_X11_m
set_option maxRecDepth 20000 in
theorem ggX11_put_X11_in : GoodIn wsX11_put wsX11_in := goodIn_r _ [11] (by decide +kernel) (by decide +kernel)
set_option maxRecDepth 20000 in
theorem gX11_put_X11_in : GoodIn wsX11_put (va_wsS RX11 118 yX11_in wsX11_in) := goodIn_app (goodIn_of _ (by decide +kernel)) ggX11_put_X11_in
set_option maxRecDepth 20000 in
theorem ggX11_put_X11_add : GoodIn wsX11_put wsX11_add := goodIn_r _ [15, 2, 16, 17, 18, 7, 19, 20, 21, 22, 23, 24, 25, 26, 27, 28, 29, 30, 31, 32, 33, 34, 35, 36, 37, 38, 39, 40, 41] (by decide +kernel) (by decide +kernel)
set_option maxRecDepth 20000 in
theorem gX11_put_X11_add : GoodIn wsX11_put (wsV RX11 179 RX11 yX11_add wsX11_add) := goodIn_app (goodIn_of _ (by decide +kernel)) ggX11_put_X11_add
theorem dX11_put_0 : decode cX11_put 0 = .ok (.iload_n 1, 1) := by decide +kernel
theorem dX11_put_1 : decode cX11_put 1 = .ok (.i2l, 1) := by decide +kernel
theorem dX11_put_2 : decode cX11_put 2 = .ok (.lconst 0, 1) := by decide +kernel
theorem dX11_put_3 : decode cX11_put 3 = .ok (.iconst 1, 1) := by decide +kernel
theorem dX11_put_4 : decode cX11_put 4 = .ok (.aload_n 0, 1) := by decide +kernel
theorem dX11_put_5 : decode cX11_put 5 = .ok (.invokevirtual 48, 3) := by decide +kernel
theorem dX11_put_8 : decode cX11_put 8 = .ok (.ishl, 1) := by decide +kernel
theorem dX11_put_9 : decode cX11_put 9 = .ok (.iconst 1, 1) := by decide +kernel
theorem dX11_put_10 : decode cX11_put 10 = .ok (.isub, 1) := by decide +kernel
theorem dX11_put_11 : decode cX11_put 11 = .ok (.i2l, 1) := by decide +kernel
theorem dX11_put_12 : decode cX11_put 12 = .ok (.invokestatic 118, 3) := by decide +kernel
theorem dX11_put_15 : decode cX11_put 15 = .ok (.ifCond .ne 6, 3) := by decide +kernel
theorem dX11_put_18 : decode cX11_put 18 = .ok (.ldc 143, 2) := by decide +kernel
theorem dX11_put_20 : decode cX11_put 20 = .ok (.ireturn, 1) := by decide +kernel
theorem dX11_put_21 : decode cX11_put 21 = .ok (.aload_n 0, 1) := by decide +kernel
theorem dX11_put_22 : decode cX11_put 22 = .ok (.getfield 7, 3) := by decide +kernel
theorem dX11_put_25 : decode cX11_put 25 = .ok (.iconst 1, 1) := by decide +kernel
theorem dX11_put_26 : decode cX11_put 26 = .ok (.iaload, 1) := by decide +kernel
theorem dX11_put_27 : decode cX11_put 27 = .ok (.bipush 8, 2) := by decide +kernel
theorem dX11_put_29 : decode cX11_put 29 = .ok (.if_icmp .ne 8, 3) := by decide +kernel
theorem dX11_put_32 : decode cX11_put 32 = .ok (.ldc 178, 2) := by decide +kernel
theorem dX11_put_34 : decode cX11_put 34 = .ok (.goto 8, 3) := by decide +kernel
theorem dX11_put_37 : decode cX11_put 37 = .ok (.aload_n 0, 1) := by decide +kernel
theorem dX11_put_38 : decode cX11_put 38 = .ok (.iload_n 1, 1) := by decide +kernel
theorem dX11_put_39 : decode cX11_put 39 = .ok (.invokevirtual 179, 3) := by decide +kernel
theorem dX11_put_42 : decode cX11_put 42 = .ok (.ireturn, 1) := by decide +kernel
set_option maxRecDepth 20000 in
theorem ggX11_isKind_X11_in : GoodIn wsX11_isKind wsX11_in := goodIn_r _ [5] (by decide +kernel) (by decide +kernel)
set_option maxRecDepth 20000 in
theorem gX11_isKind_X11_in : GoodIn wsX11_isKind (va_wsS RX11 118 yX11_in wsX11_in) := goodIn_app (goodIn_of _ (by decide +kernel)) ggX11_isKind_X11_in
set_option maxRecDepth 20000 in
theorem ggX11_isKind_X11_m : GoodIn wsX11_isKind wsX11_m := goodIn_r _ [9, 10, 11, 12, 13, 14, 15, 16, 17, 18, 19, 20, 21, 22, 23, 24, 25, 26, 27] (by decide +kernel) (by decide +kernel)
set_option maxRecDepth 20000 in
theorem gX11_isKind_X11_m : GoodIn wsX11_isKind (wsV RX11 48 RX11 yX11_m wsX11_m) := goodIn_app (goodIn_of _ (by decide +kernel)) ggX11_isKind_X11_m
theorem dX11_isKind_0 : decode cX11_isKind 0 = .ok (.iload_n 1, 1) := by decide +kernel
theorem dX11_isKind_1 : decode cX11_isKind 1 = .ok (.ifCond .eq 13, 3) := by decide +kernel
theorem dX11_isKind_4 : decode cX11_isKind 4 = .ok (.iload_n 1, 1) := by decide +kernel
theorem dX11_isKind_5 : decode cX11_isKind 5 = .ok (.iconst 2, 1) := by decide +kernel
theorem dX11_isKind_6 : decode cX11_isKind 6 = .ok (.if_icmp .eq 8, 3) := by decide +kernel
theorem dX11_isKind_9 : decode cX11_isKind 9 = .ok (.iload_n 1, 1) := by decide +kernel
theorem dX11_isKind_10 : decode cX11_isKind 10 = .ok (.iconst 4, 1) := by decide +kernel
theorem dX11_isKind_11 : decode cX11_isKind 11 = .ok (.if_icmp .ne 7, 3) := by decide +kernel
theorem dX11_isKind_14 : decode cX11_isKind 14 = .ok (.iconst 1, 1) := by decide +kernel
theorem dX11_isKind_15 : decode cX11_isKind 15 = .ok (.goto 4, 3) := by decide +kernel
theorem dX11_isKind_18 : decode cX11_isKind 18 = .ok (.iconst 0, 1) := by decide +kernel
theorem dX11_isKind_19 : decode cX11_isKind 19 = .ok (.istore_n 3, 1) := by decide +kernel
theorem dX11_isKind_20 : decode cX11_isKind 20 = .ok (.iload_n 1, 1) := by decide +kernel
theorem dX11_isKind_21 : decode cX11_isKind 21 = .ok (.i2l, 1) := by decide +kernel
theorem dX11_isKind_22 : decode cX11_isKind 22 = .ok (.lconst 0, 1) := by decide +kernel
theorem dX11_isKind_23 : decode cX11_isKind 23 = .ok (.ldc2_w 171, 3) := by decide +kernel
theorem dX11_isKind_26 : decode cX11_isKind 26 = .ok (.invokestatic 118, 3) := by decide +kernel
theorem dX11_isKind_29 : decode cX11_isKind 29 = .ok (.ifCond .eq 36, 3) := by decide +kernel
theorem dX11_isKind_32 : decode cX11_isKind 32 = .ok (.iload_n 3, 1) := by decide +kernel
theorem dX11_isKind_33 : decode cX11_isKind 33 = .ok (.ifCond .eq 28, 3) := by decide +kernel
theorem dX11_isKind_36 : decode cX11_isKind 36 = .ok (.iload_n 2, 1) := by decide +kernel
theorem dX11_isKind_37 : decode cX11_isKind 37 = .ok (.i2l, 1) := by decide +kernel
theorem dX11_isKind_38 : decode cX11_isKind 38 = .ok (.iload_n 1, 1) := by decide +kernel
theorem dX11_isKind_39 : decode cX11_isKind 39 = .ok (.iconst 2, 1) := by decide +kernel
theorem dX11_isKind_40 : decode cX11_isKind 40 = .ok (.if_icmp .ne 7, 3) := by decide +kernel
theorem dX11_isKind_43 : decode cX11_isKind 43 = .ok (.lconst 1, 1) := by decide +kernel
theorem dX11_isKind_44 : decode cX11_isKind 44 = .ok (.goto 4, 3) := by decide +kernel
theorem dX11_isKind_47 : decode cX11_isKind 47 = .ok (.lconst 0, 1) := by decide +kernel
theorem dX11_isKind_48 : decode cX11_isKind 48 = .ok (.aload_n 0, 1) := by decide +kernel
theorem dX11_isKind_49 : decode cX11_isKind 49 = .ok (.invokevirtual 48, 3) := by decide +kernel
theorem dX11_isKind_52 : decode cX11_isKind 52 = .ok (.iconst 1, 1) := by decide +kernel
theorem dX11_isKind_53 : decode cX11_isKind 53 = .ok (.isub, 1) := by decide +kernel
theorem dX11_isKind_54 : decode cX11_isKind 54 = .ok (.i2l, 1) := by decide +kernel
theorem dX11_isKind_55 : decode cX11_isKind 55 = .ok (.invokestatic 118, 3) := by decide +kernel
theorem dX11_isKind_58 : decode cX11_isKind 58 = .ok (.ifCond .eq 7, 3) := by decide +kernel
theorem dX11_isKind_61 : decode cX11_isKind 61 = .ok (.iconst 1, 1) := by decide +kernel
theorem dX11_isKind_62 : decode cX11_isKind 62 = .ok (.goto 4, 3) := by decide +kernel
theorem dX11_isKind_65 : decode cX11_isKind 65 = .ok (.iconst 0, 1) := by decide +kernel
theorem dX11_isKind_66 : decode cX11_isKind 66 = .ok (.ireturn, 1) := by decide +kernel
set_option maxRecDepth 20000 in
theorem ggX11_share_X11_m : GoodIn wsX11_share wsX11_m := goodIn_r _ [5, 6, 7, 8, 9, 10, 11, 12, 13, 14, 15, 16, 17, 18, 19, 20, 21, 22, 23] (by decide +kernel) (by decide +kernel)
set_option maxRecDepth 20000 in
theorem gX11_share_X11_m : GoodIn wsX11_share (wsV RX11 48 RX11 yX11_m wsX11_m) := goodIn_app (goodIn_of _ (by decide +kernel)) ggX11_share_X11_m
theorem dX11_share_0 : decode cX11_share 0 = .ok (.iconst 0, 1) := by decide +kernel
theorem dX11_share_1 : decode cX11_share 1 = .ok (.istore_n 2, 1) := by decide +kernel
theorem dX11_share_2 : decode cX11_share 2 = .ok (.iconst 2, 1) := by decide +kernel
theorem dX11_share_3 : decode cX11_share 3 = .ok (.istore_n 3, 1) := by decide +kernel
theorem dX11_share_4 : decode cX11_share 4 = .ok (.iload_n 3, 1) := by decide +kernel
theorem dX11_share_5 : decode cX11_share 5 = .ok (.iload_n 1, 1) := by decide +kernel
theorem dX11_share_6 : decode cX11_share 6 = .ok (.if_icmp .gt 34, 3) := by decide +kernel
theorem dX11_share_9 : decode cX11_share 9 = .ok (.iload_n 2, 1) := by decide +kernel
theorem dX11_share_10 : decode cX11_share 10 = .ok (.ifCond .ne 18, 3) := by decide +kernel
theorem dX11_share_13 : decode cX11_share 13 = .ok (.iload_n 1, 1) := by decide +kernel
theorem dX11_share_14 : decode cX11_share 14 = .ok (.iload_n 3, 1) := by decide +kernel
theorem dX11_share_15 : decode cX11_share 15 = .ok (.irem, 1) := by decide +kernel
theorem dX11_share_16 : decode cX11_share 16 = .ok (.ifCond .ne 16, 3) := by decide +kernel
theorem dX11_share_19 : decode cX11_share 19 = .ok (.aload_n 0, 1) := by decide +kernel
theorem dX11_share_20 : decode cX11_share 20 = .ok (.invokevirtual 48, 3) := by decide +kernel
theorem dX11_share_23 : decode cX11_share 23 = .ok (.iload_n 3, 1) := by decide +kernel
theorem dX11_share_24 : decode cX11_share 24 = .ok (.irem, 1) := by decide +kernel
theorem dX11_share_25 : decode cX11_share 25 = .ok (.ifCond .ne 7, 3) := by decide +kernel
theorem dX11_share_28 : decode cX11_share 28 = .ok (.iconst 1, 1) := by decide +kernel
theorem dX11_share_29 : decode cX11_share 29 = .ok (.goto 4, 3) := by decide +kernel
theorem dX11_share_32 : decode cX11_share 32 = .ok (.iconst 0, 1) := by decide +kernel
theorem dX11_share_33 : decode cX11_share 33 = .ok (.istore_n 2, 1) := by decide +kernel
theorem dX11_share_34 : decode cX11_share 34 = .ok (.iinc 3 1, 3) := by decide +kernel
theorem dX11_share_37 : decode cX11_share 37 = .ok (.goto (-33), 3) := by decide +kernel
theorem dX11_share_40 : decode cX11_share 40 = .ok (.iload_n 2, 1) := by decide +kernel
theorem dX11_share_41 : decode cX11_share 41 = .ok (.ireturn, 1) := by decide +kernel
set_option maxRecDepth 20000 in
theorem ggX11_changed_X11_moved : GoodIn wsX11_changed wsX11_moved := goodIn_r _ [5, 6, 7, 8, 4, 9, 10, 11, 12, 13, 22, 23, 24, 25, 26, 27, 28, 29, 30, 31, 32, 33, 34, 35, 36, 37, 38] (by decide +kernel) (by decide +kernel)
set_option maxRecDepth 20000 in
theorem gX11_changed_X11_moved : GoodIn wsX11_changed (wsV RX11 56 RX11 yX11_moved wsX11_moved) := goodIn_app (goodIn_of _ (by decide +kernel)) ggX11_changed_X11_moved
set_option maxRecDepth 20000 in
theorem ggX11_changed_X11_m : GoodIn wsX11_changed wsX11_m := goodIn_r _ [9, 10, 22, 23, 24, 25, 26, 27, 28, 29, 30, 31, 32, 33, 34, 35, 36, 37, 38] (by decide +kernel) (by decide +kernel)
set_option maxRecDepth 20000 in
theorem gX11_changed_X11_m : GoodIn wsX11_changed (wsV RX11 48 RX11 yX11_m wsX11_m) := goodIn_app (goodIn_of _ (by decide +kernel)) ggX11_changed_X11_m
set_option maxRecDepth 20000 in
theorem ggX11_changed_X11_formOf : GoodIn wsX11_changed wsX11_formOf := goodIn_r _ [17, 6, 7, 8, 4, 9, 10, 18, 19, 20, 21, 1, 2, 3, 5, 11, 12, 13, 22, 23, 24, 25, 26, 27, 28, 29, 30, 31, 32, 33, 34, 35, 36, 37, 38] (by decide +kernel) (by decide +kernel)
set_option maxRecDepth 20000 in
theorem gX11_changed_X11_formOf : GoodIn wsX11_changed (wsV RX11 115 RX11 yX11_formOf wsX11_formOf) := goodIn_app (goodIn_of _ (by decide +kernel)) ggX11_changed_X11_formOf
theorem dX11_changed_0 : decode cX11_changed 0 = .ok (.iload_n 2, 1) := by decide +kernel
theorem dX11_changed_1 : decode cX11_changed 1 = .ok (.tableswitch 76 0 4 #[35, 43, 51, 59, 70], 35) := by decide +kernel
theorem dX11_changed_36 : decode cX11_changed 36 = .ok (.aload_n 0, 1) := by decide +kernel
theorem dX11_changed_37 : decode cX11_changed 37 = .ok (.iload_n 1, 1) := by decide +kernel
theorem dX11_changed_38 : decode cX11_changed 38 = .ok (.iconst 1, 1) := by decide +kernel
theorem dX11_changed_39 : decode cX11_changed 39 = .ok (.iload_n 3, 1) := by decide +kernel
theorem dX11_changed_40 : decode cX11_changed 40 = .ok (.invokevirtual 56, 3) := by decide +kernel
theorem dX11_changed_43 : decode cX11_changed 43 = .ok (.ireturn, 1) := by decide +kernel
theorem dX11_changed_44 : decode cX11_changed 44 = .ok (.aload_n 0, 1) := by decide +kernel
theorem dX11_changed_45 : decode cX11_changed 45 = .ok (.iload_n 1, 1) := by decide +kernel
theorem dX11_changed_46 : decode cX11_changed 46 = .ok (.iconst (-1), 1) := by decide +kernel
theorem dX11_changed_47 : decode cX11_changed 47 = .ok (.iconst 0, 1) := by decide +kernel
theorem dX11_changed_48 : decode cX11_changed 48 = .ok (.invokevirtual 56, 3) := by decide +kernel
theorem dX11_changed_51 : decode cX11_changed 51 = .ok (.ireturn, 1) := by decide +kernel
theorem dX11_changed_52 : decode cX11_changed 52 = .ok (.aload_n 0, 1) := by decide +kernel
theorem dX11_changed_53 : decode cX11_changed 53 = .ok (.iload_n 1, 1) := by decide +kernel
theorem dX11_changed_54 : decode cX11_changed 54 = .ok (.iload_n 3, 1) := by decide +kernel
theorem dX11_changed_55 : decode cX11_changed 55 = .ok (.iconst 0, 1) := by decide +kernel
theorem dX11_changed_56 : decode cX11_changed 56 = .ok (.invokevirtual 56, 3) := by decide +kernel
theorem dX11_changed_59 : decode cX11_changed 59 = .ok (.ireturn, 1) := by decide +kernel
theorem dX11_changed_60 : decode cX11_changed 60 = .ok (.iconst 1, 1) := by decide +kernel
theorem dX11_changed_61 : decode cX11_changed 61 = .ok (.aload_n 0, 1) := by decide +kernel
theorem dX11_changed_62 : decode cX11_changed 62 = .ok (.invokevirtual 48, 3) := by decide +kernel
theorem dX11_changed_65 : decode cX11_changed 65 = .ok (.ishl, 1) := by decide +kernel
theorem dX11_changed_66 : decode cX11_changed 66 = .ok (.iconst 1, 1) := by decide +kernel
theorem dX11_changed_67 : decode cX11_changed 67 = .ok (.isub, 1) := by decide +kernel
theorem dX11_changed_68 : decode cX11_changed 68 = .ok (.iload_n 1, 1) := by decide +kernel
theorem dX11_changed_69 : decode cX11_changed 69 = .ok (.isub, 1) := by decide +kernel
theorem dX11_changed_70 : decode cX11_changed 70 = .ok (.ireturn, 1) := by decide +kernel
theorem dX11_changed_71 : decode cX11_changed 71 = .ok (.iload_n 1, 1) := by decide +kernel
theorem dX11_changed_72 : decode cX11_changed 72 = .ok (.iconst 1, 1) := by decide +kernel
theorem dX11_changed_73 : decode cX11_changed 73 = .ok (.iload_n 3, 1) := by decide +kernel
theorem dX11_changed_74 : decode cX11_changed 74 = .ok (.ishl, 1) := by decide +kernel
theorem dX11_changed_75 : decode cX11_changed 75 = .ok (.ixor, 1) := by decide +kernel
theorem dX11_changed_76 : decode cX11_changed 76 = .ok (.ireturn, 1) := by decide +kernel
theorem dX11_changed_77 : decode cX11_changed 77 = .ok (.aload_n 0, 1) := by decide +kernel
theorem dX11_changed_78 : decode cX11_changed 78 = .ok (.iload_n 1, 1) := by decide +kernel
theorem dX11_changed_79 : decode cX11_changed 79 = .ok (.invokevirtual 115, 3) := by decide +kernel
theorem dX11_changed_82 : decode cX11_changed 82 = .ok (.ireturn, 1) := by decide +kernel
set_option maxRecDepth 20000 in
theorem ggX11_change_X11_isPlace : GoodIn wsX11_change wsX11_isPlace := goodIn_r _ [9, 4, 10, 11, 8, 12, 54, 55, 56, 57, 58, 59, 60, 61, 62, 63, 64, 65, 66, 67, 68, 69, 70] (by decide +kernel) (by decide +kernel)
set_option maxRecDepth 20000 in
theorem gX11_change_X11_isPlace : GoodIn wsX11_change (wsV RX11 125 RX11 yX11_isPlace wsX11_isPlace) := goodIn_app (goodIn_of _ (by decide +kernel)) ggX11_change_X11_isPlace
set_option maxRecDepth 20000 in
theorem ggX11_change_X11_isKind : GoodIn wsX11_change wsX11_isKind := goodIn_r _ [16, 17, 10, 11, 8, 12, 18, 19, 20, 21, 4, 54, 55, 56, 57, 58, 59, 60, 61, 62, 63, 64, 65, 66, 67, 68, 69, 70] (by decide +kernel) (by decide +kernel)
set_option maxRecDepth 20000 in
theorem gX11_change_X11_isKind : GoodIn wsX11_change (wsV RX11 182 RX11 yX11_isKind wsX11_isKind) := goodIn_app (goodIn_of _ (by decide +kernel)) ggX11_change_X11_isKind
set_option maxRecDepth 20000 in
theorem ggX11_change_X11_share : GoodIn wsX11_change wsX11_share := goodIn_r _ [25, 18, 19, 20, 8, 21, 4, 54, 55, 56, 57, 58, 59, 60, 61, 62, 63, 64, 65, 66, 67, 68, 69, 70] (by decide +kernel) (by decide +kernel)
set_option maxRecDepth 20000 in
theorem gX11_change_X11_share : GoodIn wsX11_change (wsV RX11 185 RX11 yX11_share wsX11_share) := goodIn_app (goodIn_of _ (by decide +kernel)) ggX11_change_X11_share
set_option maxRecDepth 20000 in
theorem ggX11_change_X11_remember : GoodIn wsX11_change wsX11_remember := goodIn_r _ [29, 30, 31, 32, 33, 8, 34, 4, 54, 55, 56, 57, 58, 59, 60, 61, 62, 63, 64, 65, 66, 67, 68, 69, 70] (by decide +kernel) (by decide +kernel)
set_option maxRecDepth 20000 in
theorem gX11_change_X11_remember : GoodIn wsX11_change (wsV RX11 175 RX11 yX11_remember wsX11_remember) := goodIn_app (goodIn_of _ (by decide +kernel)) ggX11_change_X11_remember
set_option maxRecDepth 20000 in
theorem ggX11_change_X11_changed : GoodIn wsX11_change wsX11_changed := goodIn_r _ [38, 39, 40, 41, 8, 42, 18, 19, 20, 21, 4, 43, 44, 45, 46, 47, 48, 49, 50, 51, 52, 53, 54, 55, 56, 57, 58, 59, 60, 61, 62, 63, 64, 65, 66, 67, 68, 69, 70] (by decide +kernel) (by decide +kernel)
set_option maxRecDepth 20000 in
theorem gX11_change_X11_changed : GoodIn wsX11_change (wsV RX11 188 RX11 yX11_changed wsX11_changed) := goodIn_app (goodIn_of _ (by decide +kernel)) ggX11_change_X11_changed
theorem dX11_change_0 : decode cX11_change 0 = .ok (.aload_n 0, 1) := by decide +kernel
theorem dX11_change_1 : decode cX11_change 1 = .ok (.iload_n 1, 1) := by decide +kernel
theorem dX11_change_2 : decode cX11_change 2 = .ok (.invokevirtual 125, 3) := by decide +kernel
theorem dX11_change_5 : decode cX11_change 5 = .ok (.ifCond .ne 6, 3) := by decide +kernel
theorem dX11_change_8 : decode cX11_change 8 = .ok (.ldc 144, 2) := by decide +kernel
theorem dX11_change_10 : decode cX11_change 10 = .ok (.ireturn, 1) := by decide +kernel
theorem dX11_change_11 : decode cX11_change 11 = .ok (.aload_n 0, 1) := by decide +kernel
theorem dX11_change_12 : decode cX11_change 12 = .ok (.iload_n 2, 1) := by decide +kernel
theorem dX11_change_13 : decode cX11_change 13 = .ok (.iload_n 3, 1) := by decide +kernel
theorem dX11_change_14 : decode cX11_change 14 = .ok (.invokevirtual 182, 3) := by decide +kernel
theorem dX11_change_17 : decode cX11_change 17 = .ok (.ifCond .ne 6, 3) := by decide +kernel
theorem dX11_change_20 : decode cX11_change 20 = .ok (.ldc 143, 2) := by decide +kernel
theorem dX11_change_22 : decode cX11_change 22 = .ok (.ireturn, 1) := by decide +kernel
theorem dX11_change_23 : decode cX11_change 23 = .ok (.iload_n 2, 1) := by decide +kernel
theorem dX11_change_24 : decode cX11_change 24 = .ok (.iconst 2, 1) := by decide +kernel
theorem dX11_change_25 : decode cX11_change 25 = .ok (.if_icmp .ne 14, 3) := by decide +kernel
theorem dX11_change_28 : decode cX11_change 28 = .ok (.aload_n 0, 1) := by decide +kernel
theorem dX11_change_29 : decode cX11_change 29 = .ok (.iload_n 3, 1) := by decide +kernel
theorem dX11_change_30 : decode cX11_change 30 = .ok (.invokevirtual 185, 3) := by decide +kernel
theorem dX11_change_33 : decode cX11_change 33 = .ok (.ifCond .eq 6, 3) := by decide +kernel
theorem dX11_change_36 : decode cX11_change 36 = .ok (.ldc 160, 2) := by decide +kernel
theorem dX11_change_38 : decode cX11_change 38 = .ok (.ireturn, 1) := by decide +kernel
theorem dX11_change_39 : decode cX11_change 39 = .ok (.aload_n 0, 1) := by decide +kernel
theorem dX11_change_40 : decode cX11_change 40 = .ok (.invokevirtual 175, 3) := by decide +kernel
theorem dX11_change_43 : decode cX11_change 43 = .ok (.aload_n 0, 1) := by decide +kernel
theorem dX11_change_44 : decode cX11_change 44 = .ok (.getfield 7, 3) := by decide +kernel
theorem dX11_change_47 : decode cX11_change 47 = .ok (.iconst 2, 1) := by decide +kernel
theorem dX11_change_48 : decode cX11_change 48 = .ok (.iload_n 1, 1) := by decide +kernel
theorem dX11_change_49 : decode cX11_change 49 = .ok (.iadd, 1) := by decide +kernel
theorem dX11_change_50 : decode cX11_change 50 = .ok (.aload_n 0, 1) := by decide +kernel
theorem dX11_change_51 : decode cX11_change 51 = .ok (.aload_n 0, 1) := by decide +kernel
theorem dX11_change_52 : decode cX11_change 52 = .ok (.getfield 7, 3) := by decide +kernel
theorem dX11_change_55 : decode cX11_change 55 = .ok (.iconst 2, 1) := by decide +kernel
theorem dX11_change_56 : decode cX11_change 56 = .ok (.iload_n 1, 1) := by decide +kernel
theorem dX11_change_57 : decode cX11_change 57 = .ok (.iadd, 1) := by decide +kernel
theorem dX11_change_58 : decode cX11_change 58 = .ok (.iaload, 1) := by decide +kernel
theorem dX11_change_59 : decode cX11_change 59 = .ok (.iload_n 2, 1) := by decide +kernel
theorem dX11_change_60 : decode cX11_change 60 = .ok (.iload_n 3, 1) := by decide +kernel
theorem dX11_change_61 : decode cX11_change 61 = .ok (.invokevirtual 188, 3) := by decide +kernel
theorem dX11_change_64 : decode cX11_change 64 = .ok (.iastore, 1) := by decide +kernel
theorem dX11_change_65 : decode cX11_change 65 = .ok (.aload_n 0, 1) := by decide +kernel
theorem dX11_change_66 : decode cX11_change 66 = .ok (.getfield 7, 3) := by decide +kernel
theorem dX11_change_69 : decode cX11_change 69 = .ok (.iconst 2, 1) := by decide +kernel
theorem dX11_change_70 : decode cX11_change 70 = .ok (.iload_n 1, 1) := by decide +kernel
theorem dX11_change_71 : decode cX11_change 71 = .ok (.iadd, 1) := by decide +kernel
theorem dX11_change_72 : decode cX11_change 72 = .ok (.iaload, 1) := by decide +kernel
theorem dX11_change_73 : decode cX11_change 73 = .ok (.ireturn, 1) := by decide +kernel
set_option maxRecDepth 20000 in
theorem ggX11_join_X11_isPlace : GoodIn wsX11_join wsX11_isPlace := goodIn_r _ [9, 4, 10, 11, 8, 12, 22, 23, 24, 25, 26, 27, 28, 29, 30, 31, 32, 33, 34, 35, 36, 37, 38] (by decide +kernel) (by decide +kernel)
set_option maxRecDepth 20000 in
theorem gX11_join_X11_isPlace : GoodIn wsX11_join (wsV RX11 125 RX11 yX11_isPlace wsX11_isPlace) := goodIn_app (goodIn_of _ (by decide +kernel)) ggX11_join_X11_isPlace
set_option maxRecDepth 20000 in
theorem ggX11_join_X11_in : GoodIn wsX11_join wsX11_in := goodIn_r _ [12] (by decide +kernel) (by decide +kernel)
set_option maxRecDepth 20000 in
theorem gX11_join_X11_in : GoodIn wsX11_join (va_wsS RX11 118 yX11_in wsX11_in) := goodIn_app (goodIn_of _ (by decide +kernel)) ggX11_join_X11_in
set_option maxRecDepth 20000 in
theorem ggX11_join_X11_remember : GoodIn wsX11_join wsX11_remember := goodIn_r _ [16, 17, 18, 19, 20, 8, 21, 4, 22, 23, 24, 25, 26, 27, 28, 29, 30, 31, 32, 33, 34, 35, 36, 37, 38] (by decide +kernel) (by decide +kernel)
set_option maxRecDepth 20000 in
theorem gX11_join_X11_remember : GoodIn wsX11_join (wsV RX11 175 RX11 yX11_remember wsX11_remember) := goodIn_app (goodIn_of _ (by decide +kernel)) ggX11_join_X11_remember
theorem dX11_join_0 : decode cX11_join 0 = .ok (.aload_n 0, 1) := by decide +kernel
theorem dX11_join_1 : decode cX11_join 1 = .ok (.iload_n 1, 1) := by decide +kernel
theorem dX11_join_2 : decode cX11_join 2 = .ok (.invokevirtual 125, 3) := by decide +kernel
theorem dX11_join_5 : decode cX11_join 5 = .ok (.ifCond .eq 11, 3) := by decide +kernel
theorem dX11_join_8 : decode cX11_join 8 = .ok (.aload_n 0, 1) := by decide +kernel
theorem dX11_join_9 : decode cX11_join 9 = .ok (.iload_n 2, 1) := by decide +kernel
theorem dX11_join_10 : decode cX11_join 10 = .ok (.invokevirtual 125, 3) := by decide +kernel
theorem dX11_join_13 : decode cX11_join 13 = .ok (.ifCond .ne 6, 3) := by decide +kernel
theorem dX11_join_16 : decode cX11_join 16 = .ok (.ldc 144, 2) := by decide +kernel
theorem dX11_join_18 : decode cX11_join 18 = .ok (.ireturn, 1) := by decide +kernel
theorem dX11_join_19 : decode cX11_join 19 = .ok (.iload_n 3, 1) := by decide +kernel
theorem dX11_join_20 : decode cX11_join 20 = .ok (.i2l, 1) := by decide +kernel
theorem dX11_join_21 : decode cX11_join 21 = .ok (.lconst 0, 1) := by decide +kernel
theorem dX11_join_22 : decode cX11_join 22 = .ok (.ldc2_w 191, 3) := by decide +kernel
theorem dX11_join_25 : decode cX11_join 25 = .ok (.invokestatic 118, 3) := by decide +kernel
theorem dX11_join_28 : decode cX11_join 28 = .ok (.ifCond .ne 6, 3) := by decide +kernel
theorem dX11_join_31 : decode cX11_join 31 = .ok (.ldc 143, 2) := by decide +kernel
theorem dX11_join_33 : decode cX11_join 33 = .ok (.ireturn, 1) := by decide +kernel
theorem dX11_join_34 : decode cX11_join 34 = .ok (.aload_n 0, 1) := by decide +kernel
theorem dX11_join_35 : decode cX11_join 35 = .ok (.invokevirtual 175, 3) := by decide +kernel
theorem dX11_join_38 : decode cX11_join 38 = .ok (.aload_n 0, 1) := by decide +kernel
theorem dX11_join_39 : decode cX11_join 39 = .ok (.getfield 7, 3) := by decide +kernel
theorem dX11_join_42 : decode cX11_join 42 = .ok (.iconst 2, 1) := by decide +kernel
theorem dX11_join_43 : decode cX11_join 43 = .ok (.iload_n 1, 1) := by decide +kernel
theorem dX11_join_44 : decode cX11_join 44 = .ok (.iadd, 1) := by decide +kernel
theorem dX11_join_45 : decode cX11_join 45 = .ok (.iaload, 1) := by decide +kernel
theorem dX11_join_46 : decode cX11_join 46 = .ok (.istore 4, 2) := by decide +kernel
theorem dX11_join_48 : decode cX11_join 48 = .ok (.aload_n 0, 1) := by decide +kernel
theorem dX11_join_49 : decode cX11_join 49 = .ok (.getfield 7, 3) := by decide +kernel
theorem dX11_join_52 : decode cX11_join 52 = .ok (.iconst 2, 1) := by decide +kernel
theorem dX11_join_53 : decode cX11_join 53 = .ok (.iload_n 2, 1) := by decide +kernel
theorem dX11_join_54 : decode cX11_join 54 = .ok (.iadd, 1) := by decide +kernel
theorem dX11_join_55 : decode cX11_join 55 = .ok (.iaload, 1) := by decide +kernel
theorem dX11_join_56 : decode cX11_join 56 = .ok (.istore 5, 2) := by decide +kernel
theorem dX11_join_58 : decode cX11_join 58 = .ok (.aload_n 0, 1) := by decide +kernel
theorem dX11_join_59 : decode cX11_join 59 = .ok (.getfield 7, 3) := by decide +kernel
theorem dX11_join_62 : decode cX11_join 62 = .ok (.iconst 2, 1) := by decide +kernel
theorem dX11_join_63 : decode cX11_join 63 = .ok (.iload_n 1, 1) := by decide +kernel
theorem dX11_join_64 : decode cX11_join 64 = .ok (.iadd, 1) := by decide +kernel
theorem dX11_join_65 : decode cX11_join 65 = .ok (.iload_n 3, 1) := by decide +kernel
theorem dX11_join_66 : decode cX11_join 66 = .ok (.ifCond .ne 11, 3) := by decide +kernel
theorem dX11_join_69 : decode cX11_join 69 = .ok (.iload 4, 2) := by decide +kernel
theorem dX11_join_71 : decode cX11_join 71 = .ok (.iload 5, 2) := by decide +kernel
theorem dX11_join_73 : decode cX11_join 73 = .ok (.iand, 1) := by decide +kernel
theorem dX11_join_74 : decode cX11_join 74 = .ok (.goto 36, 3) := by decide +kernel
theorem dX11_join_77 : decode cX11_join 77 = .ok (.iload_n 3, 1) := by decide +kernel
theorem dX11_join_78 : decode cX11_join 78 = .ok (.iconst 1, 1) := by decide +kernel
theorem dX11_join_79 : decode cX11_join 79 = .ok (.if_icmp .ne 11, 3) := by decide +kernel
theorem dX11_join_82 : decode cX11_join 82 = .ok (.iload 4, 2) := by decide +kernel
theorem dX11_join_84 : decode cX11_join 84 = .ok (.iload 5, 2) := by decide +kernel
theorem dX11_join_86 : decode cX11_join 86 = .ok (.ior, 1) := by decide +kernel
theorem dX11_join_87 : decode cX11_join 87 = .ok (.goto 23, 3) := by decide +kernel
theorem dX11_join_90 : decode cX11_join 90 = .ok (.iload_n 3, 1) := by decide +kernel
theorem dX11_join_91 : decode cX11_join 91 = .ok (.iconst 2, 1) := by decide +kernel
theorem dX11_join_92 : decode cX11_join 92 = .ok (.if_icmp .ne 11, 3) := by decide +kernel
theorem dX11_join_95 : decode cX11_join 95 = .ok (.iload 4, 2) := by decide +kernel
theorem dX11_join_97 : decode cX11_join 97 = .ok (.iload 5, 2) := by decide +kernel
theorem dX11_join_99 : decode cX11_join 99 = .ok (.ixor, 1) := by decide +kernel
theorem dX11_join_100 : decode cX11_join 100 = .ok (.goto 10, 3) := by decide +kernel
theorem dX11_join_103 : decode cX11_join 103 = .ok (.iload 4, 2) := by decide +kernel
theorem dX11_join_105 : decode cX11_join 105 = .ok (.iload 5, 2) := by decide +kernel
theorem dX11_join_107 : decode cX11_join 107 = .ok (.iconst (-1), 1) := by decide +kernel
theorem dX11_join_108 : decode cX11_join 108 = .ok (.ixor, 1) := by decide +kernel
theorem dX11_join_109 : decode cX11_join 109 = .ok (.iand, 1) := by decide +kernel
theorem dX11_join_110 : decode cX11_join 110 = .ok (.iastore, 1) := by decide +kernel
theorem dX11_join_111 : decode cX11_join 111 = .ok (.aload_n 0, 1) := by decide +kernel
theorem dX11_join_112 : decode cX11_join 112 = .ok (.getfield 7, 3) := by decide +kernel
theorem dX11_join_115 : decode cX11_join 115 = .ok (.iconst 2, 1) := by decide +kernel
theorem dX11_join_116 : decode cX11_join 116 = .ok (.iload_n 1, 1) := by decide +kernel
theorem dX11_join_117 : decode cX11_join 117 = .ok (.iadd, 1) := by decide +kernel
theorem dX11_join_118 : decode cX11_join 118 = .ok (.iaload, 1) := by decide +kernel
theorem dX11_join_119 : decode cX11_join 119 = .ok (.ireturn, 1) := by decide +kernel
set_option maxRecDepth 20000 in
theorem ggX11_swap_X11_isPlace : GoodIn wsX11_swap wsX11_isPlace := goodIn_r _ [7, 2, 8, 9, 6, 10, 39, 40, 41, 42, 43, 44, 45, 46, 47, 48, 49, 50, 51, 52, 53, 54, 55] (by decide +kernel) (by decide +kernel)
set_option maxRecDepth 20000 in
theorem gX11_swap_X11_isPlace : GoodIn wsX11_swap (wsV RX11 125 RX11 yX11_isPlace wsX11_isPlace) := goodIn_app (goodIn_of _ (by decide +kernel)) ggX11_swap_X11_isPlace
set_option maxRecDepth 20000 in
theorem ggX11_swap_X11_remember : GoodIn wsX11_swap wsX11_remember := goodIn_r _ [14, 15, 16, 17, 18, 6, 19, 2, 39, 40, 41, 42, 43, 44, 45, 46, 47, 48, 49, 50, 51, 52, 53, 54, 55] (by decide +kernel) (by decide +kernel)
set_option maxRecDepth 20000 in
theorem gX11_swap_X11_remember : GoodIn wsX11_swap (wsV RX11 175 RX11 yX11_remember wsX11_remember) := goodIn_app (goodIn_of _ (by decide +kernel)) ggX11_swap_X11_remember
set_option maxRecDepth 20000 in
theorem ggX11_swap_X11_formOf : GoodIn wsX11_swap wsX11_formOf := goodIn_r _ [23, 24, 25, 26, 6, 27, 2, 28, 29, 30, 31, 32, 33, 34, 35, 36, 37, 38, 39, 40, 41, 42, 43, 44, 45, 46, 47, 48, 49, 50, 51, 52, 53, 54, 55] (by decide +kernel) (by decide +kernel)
set_option maxRecDepth 20000 in
theorem gX11_swap_X11_formOf : GoodIn wsX11_swap (wsV RX11 115 RX11 yX11_formOf wsX11_formOf) := goodIn_app (goodIn_of _ (by decide +kernel)) ggX11_swap_X11_formOf
theorem dX11_swap_0 : decode cX11_swap 0 = .ok (.aload_n 0, 1) := by decide +kernel
theorem dX11_swap_1 : decode cX11_swap 1 = .ok (.iload_n 1, 1) := by decide +kernel
theorem dX11_swap_2 : decode cX11_swap 2 = .ok (.invokevirtual 125, 3) := by decide +kernel
theorem dX11_swap_5 : decode cX11_swap 5 = .ok (.ifCond .eq 11, 3) := by decide +kernel
theorem dX11_swap_8 : decode cX11_swap 8 = .ok (.aload_n 0, 1) := by decide +kernel
theorem dX11_swap_9 : decode cX11_swap 9 = .ok (.iload_n 2, 1) := by decide +kernel
theorem dX11_swap_10 : decode cX11_swap 10 = .ok (.invokevirtual 125, 3) := by decide +kernel
theorem dX11_swap_13 : decode cX11_swap 13 = .ok (.ifCond .ne 6, 3) := by decide +kernel
theorem dX11_swap_16 : decode cX11_swap 16 = .ok (.ldc 144, 2) := by decide +kernel
theorem dX11_swap_18 : decode cX11_swap 18 = .ok (.ireturn, 1) := by decide +kernel
theorem dX11_swap_19 : decode cX11_swap 19 = .ok (.aload_n 0, 1) := by decide +kernel
theorem dX11_swap_20 : decode cX11_swap 20 = .ok (.invokevirtual 175, 3) := by decide +kernel
theorem dX11_swap_23 : decode cX11_swap 23 = .ok (.aload_n 0, 1) := by decide +kernel
theorem dX11_swap_24 : decode cX11_swap 24 = .ok (.getfield 7, 3) := by decide +kernel
theorem dX11_swap_27 : decode cX11_swap 27 = .ok (.iconst 2, 1) := by decide +kernel
theorem dX11_swap_28 : decode cX11_swap 28 = .ok (.iload_n 1, 1) := by decide +kernel
theorem dX11_swap_29 : decode cX11_swap 29 = .ok (.iadd, 1) := by decide +kernel
theorem dX11_swap_30 : decode cX11_swap 30 = .ok (.iaload, 1) := by decide +kernel
theorem dX11_swap_31 : decode cX11_swap 31 = .ok (.istore_n 3, 1) := by decide +kernel
theorem dX11_swap_32 : decode cX11_swap 32 = .ok (.aload_n 0, 1) := by decide +kernel
theorem dX11_swap_33 : decode cX11_swap 33 = .ok (.getfield 7, 3) := by decide +kernel
theorem dX11_swap_36 : decode cX11_swap 36 = .ok (.iconst 2, 1) := by decide +kernel
theorem dX11_swap_37 : decode cX11_swap 37 = .ok (.iload_n 1, 1) := by decide +kernel
theorem dX11_swap_38 : decode cX11_swap 38 = .ok (.iadd, 1) := by decide +kernel
theorem dX11_swap_39 : decode cX11_swap 39 = .ok (.aload_n 0, 1) := by decide +kernel
theorem dX11_swap_40 : decode cX11_swap 40 = .ok (.getfield 7, 3) := by decide +kernel
theorem dX11_swap_43 : decode cX11_swap 43 = .ok (.iconst 2, 1) := by decide +kernel
theorem dX11_swap_44 : decode cX11_swap 44 = .ok (.iload_n 2, 1) := by decide +kernel
theorem dX11_swap_45 : decode cX11_swap 45 = .ok (.iadd, 1) := by decide +kernel
theorem dX11_swap_46 : decode cX11_swap 46 = .ok (.iaload, 1) := by decide +kernel
theorem dX11_swap_47 : decode cX11_swap 47 = .ok (.iastore, 1) := by decide +kernel
theorem dX11_swap_48 : decode cX11_swap 48 = .ok (.aload_n 0, 1) := by decide +kernel
theorem dX11_swap_49 : decode cX11_swap 49 = .ok (.getfield 7, 3) := by decide +kernel
theorem dX11_swap_52 : decode cX11_swap 52 = .ok (.iconst 2, 1) := by decide +kernel
theorem dX11_swap_53 : decode cX11_swap 53 = .ok (.iload_n 2, 1) := by decide +kernel
theorem dX11_swap_54 : decode cX11_swap 54 = .ok (.iadd, 1) := by decide +kernel
theorem dX11_swap_55 : decode cX11_swap 55 = .ok (.iload_n 3, 1) := by decide +kernel
theorem dX11_swap_56 : decode cX11_swap 56 = .ok (.iastore, 1) := by decide +kernel
theorem dX11_swap_57 : decode cX11_swap 57 = .ok (.aload_n 0, 1) := by decide +kernel
theorem dX11_swap_58 : decode cX11_swap 58 = .ok (.aload_n 0, 1) := by decide +kernel
theorem dX11_swap_59 : decode cX11_swap 59 = .ok (.getfield 7, 3) := by decide +kernel
theorem dX11_swap_62 : decode cX11_swap 62 = .ok (.iconst 2, 1) := by decide +kernel
theorem dX11_swap_63 : decode cX11_swap 63 = .ok (.iload_n 1, 1) := by decide +kernel
theorem dX11_swap_64 : decode cX11_swap 64 = .ok (.iadd, 1) := by decide +kernel
theorem dX11_swap_65 : decode cX11_swap 65 = .ok (.iaload, 1) := by decide +kernel
theorem dX11_swap_66 : decode cX11_swap 66 = .ok (.invokevirtual 115, 3) := by decide +kernel
theorem dX11_swap_69 : decode cX11_swap 69 = .ok (.aload_n 0, 1) := by decide +kernel
theorem dX11_swap_70 : decode cX11_swap 70 = .ok (.aload_n 0, 1) := by decide +kernel
theorem dX11_swap_71 : decode cX11_swap 71 = .ok (.getfield 7, 3) := by decide +kernel
theorem dX11_swap_74 : decode cX11_swap 74 = .ok (.iconst 2, 1) := by decide +kernel
theorem dX11_swap_75 : decode cX11_swap 75 = .ok (.iload_n 2, 1) := by decide +kernel
theorem dX11_swap_76 : decode cX11_swap 76 = .ok (.iadd, 1) := by decide +kernel
theorem dX11_swap_77 : decode cX11_swap 77 = .ok (.iaload, 1) := by decide +kernel
theorem dX11_swap_78 : decode cX11_swap 78 = .ok (.invokevirtual 115, 3) := by decide +kernel
theorem dX11_swap_81 : decode cX11_swap 81 = .ok (.if_icmp .eq 7, 3) := by decide +kernel
theorem dX11_swap_84 : decode cX11_swap 84 = .ok (.iconst 1, 1) := by decide +kernel
theorem dX11_swap_85 : decode cX11_swap 85 = .ok (.goto 4, 3) := by decide +kernel
theorem dX11_swap_88 : decode cX11_swap 88 = .ok (.iconst 0, 1) := by decide +kernel
theorem dX11_swap_89 : decode cX11_swap 89 = .ok (.ireturn, 1) := by decide +kernel
set_option maxRecDepth 20000 in
theorem ggX11_take_X11_isPlace : GoodIn wsX11_take wsX11_isPlace := goodIn_r _ [7, 2, 8, 9, 6, 10, 20, 21, 22, 23, 24, 25, 26, 27, 28, 29, 30, 31, 32, 33, 34, 35, 36] (by decide +kernel) (by decide +kernel)
set_option maxRecDepth 20000 in
theorem gX11_take_X11_isPlace : GoodIn wsX11_take (wsV RX11 125 RX11 yX11_isPlace wsX11_isPlace) := goodIn_app (goodIn_of _ (by decide +kernel)) ggX11_take_X11_isPlace
set_option maxRecDepth 20000 in
theorem ggX11_take_X11_remember : GoodIn wsX11_take wsX11_remember := goodIn_r _ [14, 15, 16, 17, 18, 6, 19, 2, 20, 21, 22, 23, 24, 25, 26, 27, 28, 29, 30, 31, 32, 33, 34, 35, 36] (by decide +kernel) (by decide +kernel)
set_option maxRecDepth 20000 in
theorem gX11_take_X11_remember : GoodIn wsX11_take (wsV RX11 175 RX11 yX11_remember wsX11_remember) := goodIn_app (goodIn_of _ (by decide +kernel)) ggX11_take_X11_remember
theorem dX11_take_0 : decode cX11_take 0 = .ok (.aload_n 0, 1) := by decide +kernel
theorem dX11_take_1 : decode cX11_take 1 = .ok (.iload_n 1, 1) := by decide +kernel
theorem dX11_take_2 : decode cX11_take 2 = .ok (.invokevirtual 125, 3) := by decide +kernel
theorem dX11_take_5 : decode cX11_take 5 = .ok (.ifCond .ne 6, 3) := by decide +kernel
theorem dX11_take_8 : decode cX11_take 8 = .ok (.ldc 144, 2) := by decide +kernel
theorem dX11_take_10 : decode cX11_take 10 = .ok (.ireturn, 1) := by decide +kernel
theorem dX11_take_11 : decode cX11_take 11 = .ok (.aload_n 0, 1) := by decide +kernel
theorem dX11_take_12 : decode cX11_take 12 = .ok (.invokevirtual 175, 3) := by decide +kernel
theorem dX11_take_15 : decode cX11_take 15 = .ok (.iload_n 1, 1) := by decide +kernel
theorem dX11_take_16 : decode cX11_take 16 = .ok (.istore_n 2, 1) := by decide +kernel
theorem dX11_take_17 : decode cX11_take 17 = .ok (.iload_n 2, 1) := by decide +kernel
theorem dX11_take_18 : decode cX11_take 18 = .ok (.aload_n 0, 1) := by decide +kernel
theorem dX11_take_19 : decode cX11_take 19 = .ok (.getfield 7, 3) := by decide +kernel
theorem dX11_take_22 : decode cX11_take 22 = .ok (.iconst 1, 1) := by decide +kernel
theorem dX11_take_23 : decode cX11_take 23 = .ok (.iaload, 1) := by decide +kernel
theorem dX11_take_24 : decode cX11_take 24 = .ok (.iconst 1, 1) := by decide +kernel
theorem dX11_take_25 : decode cX11_take 25 = .ok (.isub, 1) := by decide +kernel
theorem dX11_take_26 : decode cX11_take 26 = .ok (.if_icmp .ge 27, 3) := by decide +kernel
theorem dX11_take_29 : decode cX11_take 29 = .ok (.aload_n 0, 1) := by decide +kernel
theorem dX11_take_30 : decode cX11_take 30 = .ok (.getfield 7, 3) := by decide +kernel
theorem dX11_take_33 : decode cX11_take 33 = .ok (.iconst 2, 1) := by decide +kernel
theorem dX11_take_34 : decode cX11_take 34 = .ok (.iload_n 2, 1) := by decide +kernel
theorem dX11_take_35 : decode cX11_take 35 = .ok (.iadd, 1) := by decide +kernel
theorem dX11_take_36 : decode cX11_take 36 = .ok (.aload_n 0, 1) := by decide +kernel
theorem dX11_take_37 : decode cX11_take 37 = .ok (.getfield 7, 3) := by decide +kernel
theorem dX11_take_40 : decode cX11_take 40 = .ok (.iconst 2, 1) := by decide +kernel
theorem dX11_take_41 : decode cX11_take 41 = .ok (.iload_n 2, 1) := by decide +kernel
theorem dX11_take_42 : decode cX11_take 42 = .ok (.iadd, 1) := by decide +kernel
theorem dX11_take_43 : decode cX11_take 43 = .ok (.iconst 1, 1) := by decide +kernel
theorem dX11_take_44 : decode cX11_take 44 = .ok (.iadd, 1) := by decide +kernel
theorem dX11_take_45 : decode cX11_take 45 = .ok (.iaload, 1) := by decide +kernel
theorem dX11_take_46 : decode cX11_take 46 = .ok (.iastore, 1) := by decide +kernel
theorem dX11_take_47 : decode cX11_take 47 = .ok (.iinc 2 1, 3) := by decide +kernel
theorem dX11_take_50 : decode cX11_take 50 = .ok (.goto (-33), 3) := by decide +kernel
theorem dX11_take_53 : decode cX11_take 53 = .ok (.aload_n 0, 1) := by decide +kernel
theorem dX11_take_54 : decode cX11_take 54 = .ok (.getfield 7, 3) := by decide +kernel
theorem dX11_take_57 : decode cX11_take 57 = .ok (.iconst 1, 1) := by decide +kernel
theorem dX11_take_58 : decode cX11_take 58 = .ok (.dup2, 1) := by decide +kernel
theorem dX11_take_59 : decode cX11_take 59 = .ok (.iaload, 1) := by decide +kernel
theorem dX11_take_60 : decode cX11_take 60 = .ok (.iconst 1, 1) := by decide +kernel
theorem dX11_take_61 : decode cX11_take 61 = .ok (.isub, 1) := by decide +kernel
theorem dX11_take_62 : decode cX11_take 62 = .ok (.iastore, 1) := by decide +kernel
theorem dX11_take_63 : decode cX11_take 63 = .ok (.aload_n 0, 1) := by decide +kernel
theorem dX11_take_64 : decode cX11_take 64 = .ok (.getfield 7, 3) := by decide +kernel
theorem dX11_take_67 : decode cX11_take 67 = .ok (.iconst 1, 1) := by decide +kernel
theorem dX11_take_68 : decode cX11_take 68 = .ok (.iaload, 1) := by decide +kernel
theorem dX11_take_69 : decode cX11_take 69 = .ok (.ireturn, 1) := by decide +kernel
theorem dX11_draw_0 : decode cX11_draw 0 = .ok (.aload_n 0, 1) := by decide +kernel
theorem dX11_draw_1 : decode cX11_draw 1 = .ok (.aload_n 0, 1) := by decide +kernel
theorem dX11_draw_2 : decode cX11_draw 2 = .ok (.getfield 140, 3) := by decide +kernel
theorem dX11_draw_5 : decode cX11_draw 5 = .ok (.i2l, 1) := by decide +kernel
theorem dX11_draw_6 : decode cX11_draw 6 = .ok (.ldc2_w 193, 3) := by decide +kernel
theorem dX11_draw_9 : decode cX11_draw 9 = .ok (.lmul, 1) := by decide +kernel
theorem dX11_draw_10 : decode cX11_draw 10 = .ok (.ldc2_w 195, 3) := by decide +kernel
theorem dX11_draw_13 : decode cX11_draw 13 = .ok (.ladd, 1) := by decide +kernel
theorem dX11_draw_14 : decode cX11_draw 14 = .ok (.ldc2_w 197, 3) := by decide +kernel
theorem dX11_draw_17 : decode cX11_draw 17 = .ok (.lrem, 1) := by decide +kernel
theorem dX11_draw_18 : decode cX11_draw 18 = .ok (.l2i, 1) := by decide +kernel
theorem dX11_draw_19 : decode cX11_draw 19 = .ok (.putfield 140, 3) := by decide +kernel
theorem dX11_draw_22 : decode cX11_draw 22 = .ok (.aload_n 0, 1) := by decide +kernel
theorem dX11_draw_23 : decode cX11_draw 23 = .ok (.getfield 140, 3) := by decide +kernel
theorem dX11_draw_26 : decode cX11_draw 26 = .ok (.ldc 199, 2) := by decide +kernel
theorem dX11_draw_28 : decode cX11_draw 28 = .ok (.idiv, 1) := by decide +kernel
theorem dX11_draw_29 : decode cX11_draw 29 = .ok (.iload_n 1, 1) := by decide +kernel
theorem dX11_draw_30 : decode cX11_draw 30 = .ok (.irem, 1) := by decide +kernel
theorem dX11_draw_31 : decode cX11_draw 31 = .ok (.ireturn, 1) := by decide +kernel
set_option maxRecDepth 20000 in
theorem ggX11_drift_X11_in : GoodIn wsX11_drift wsX11_in := goodIn_r _ [8] (by decide +kernel) (by decide +kernel)
set_option maxRecDepth 20000 in
theorem gX11_drift_X11_in : GoodIn wsX11_drift (va_wsS RX11 118 yX11_in wsX11_in) := goodIn_app (goodIn_of _ (by decide +kernel)) ggX11_drift_X11_in
set_option maxRecDepth 20000 in
theorem ggX11_drift_X11_m : GoodIn wsX11_drift wsX11_m := goodIn_r _ [12, 3, 35, 36, 37, 38, 39, 40, 41, 42, 43, 44, 45, 46, 47, 48, 49, 50, 51] (by decide +kernel) (by decide +kernel)
set_option maxRecDepth 20000 in
theorem gX11_drift_X11_m : GoodIn wsX11_drift (wsV RX11 48 RX11 yX11_m wsX11_m) := goodIn_app (goodIn_of _ (by decide +kernel)) ggX11_drift_X11_m
set_option maxRecDepth 20000 in
theorem ggX11_drift_X11_draw : GoodIn wsX11_drift wsX11_draw := goodIn_r _ [16, 17, 18, 19, 20, 21, 35, 36, 37, 38, 39, 40, 41, 42, 43, 44, 45, 46, 47, 48, 49, 50, 51] (by decide +kernel) (by decide +kernel)
set_option maxRecDepth 20000 in
theorem gX11_drift_X11_draw : GoodIn wsX11_drift (wsV RX11 202 RX11 yX11_draw wsX11_draw) := goodIn_app (goodIn_of _ (by decide +kernel)) ggX11_drift_X11_draw
set_option maxRecDepth 20000 in
theorem ggX11_drift_X11_add : GoodIn wsX11_drift wsX11_add := goodIn_r _ [25, 3, 26, 27, 28, 7, 29, 30, 31, 32, 33, 34, 35, 36, 37, 38, 39, 40, 41, 42, 43, 44, 45, 46, 47, 48, 49, 50, 51] (by decide +kernel) (by decide +kernel)
set_option maxRecDepth 20000 in
theorem gX11_drift_X11_add : GoodIn wsX11_drift (wsV RX11 179 RX11 yX11_add wsX11_add) := goodIn_app (goodIn_of _ (by decide +kernel)) ggX11_drift_X11_add
theorem dX11_drift_0 : decode cX11_drift 0 = .ok (.iload_n 1, 1) := by decide +kernel
theorem dX11_drift_1 : decode cX11_drift 1 = .ok (.i2l, 1) := by decide +kernel
theorem dX11_drift_2 : decode cX11_drift 2 = .ok (.lconst 1, 1) := by decide +kernel
theorem dX11_drift_3 : decode cX11_drift 3 = .ok (.ldc2_w 200, 3) := by decide +kernel
theorem dX11_drift_6 : decode cX11_drift 6 = .ok (.invokestatic 118, 3) := by decide +kernel
theorem dX11_drift_9 : decode cX11_drift 9 = .ok (.ifCond .ne 6, 3) := by decide +kernel
theorem dX11_drift_12 : decode cX11_drift 12 = .ok (.ldc 143, 2) := by decide +kernel
theorem dX11_drift_14 : decode cX11_drift 14 = .ok (.ireturn, 1) := by decide +kernel
theorem dX11_drift_15 : decode cX11_drift 15 = .ok (.iconst 0, 1) := by decide +kernel
theorem dX11_drift_16 : decode cX11_drift 16 = .ok (.istore_n 2, 1) := by decide +kernel
theorem dX11_drift_17 : decode cX11_drift 17 = .ok (.iload_n 2, 1) := by decide +kernel
theorem dX11_drift_18 : decode cX11_drift 18 = .ok (.iload_n 1, 1) := by decide +kernel
theorem dX11_drift_19 : decode cX11_drift 19 = .ok (.if_icmp .ge 38, 3) := by decide +kernel
theorem dX11_drift_22 : decode cX11_drift 22 = .ok (.aload_n 0, 1) := by decide +kernel
theorem dX11_drift_23 : decode cX11_drift 23 = .ok (.getfield 7, 3) := by decide +kernel
theorem dX11_drift_26 : decode cX11_drift 26 = .ok (.iconst 1, 1) := by decide +kernel
theorem dX11_drift_27 : decode cX11_drift 27 = .ok (.iaload, 1) := by decide +kernel
theorem dX11_drift_28 : decode cX11_drift 28 = .ok (.bipush 8, 2) := by decide +kernel
theorem dX11_drift_30 : decode cX11_drift 30 = .ok (.if_icmp .ge 27, 3) := by decide +kernel
theorem dX11_drift_33 : decode cX11_drift 33 = .ok (.aload_n 0, 1) := by decide +kernel
theorem dX11_drift_34 : decode cX11_drift 34 = .ok (.aload_n 0, 1) := by decide +kernel
theorem dX11_drift_35 : decode cX11_drift 35 = .ok (.aload_n 0, 1) := by decide +kernel
theorem dX11_drift_36 : decode cX11_drift 36 = .ok (.iconst 1, 1) := by decide +kernel
theorem dX11_drift_37 : decode cX11_drift 37 = .ok (.aload_n 0, 1) := by decide +kernel
theorem dX11_drift_38 : decode cX11_drift 38 = .ok (.invokevirtual 48, 3) := by decide +kernel
theorem dX11_drift_41 : decode cX11_drift 41 = .ok (.ishl, 1) := by decide +kernel
theorem dX11_drift_42 : decode cX11_drift 42 = .ok (.invokevirtual 202, 3) := by decide +kernel
theorem dX11_drift_45 : decode cX11_drift 45 = .ok (.invokevirtual 179, 3) := by decide +kernel
theorem dX11_drift_48 : decode cX11_drift 48 = .ok (.putfield 205, 3) := by decide +kernel
theorem dX11_drift_51 : decode cX11_drift 51 = .ok (.iinc 2 1, 3) := by decide +kernel
theorem dX11_drift_54 : decode cX11_drift 54 = .ok (.goto (-37), 3) := by decide +kernel
theorem dX11_drift_57 : decode cX11_drift 57 = .ok (.aload_n 0, 1) := by decide +kernel
theorem dX11_drift_58 : decode cX11_drift 58 = .ok (.getfield 7, 3) := by decide +kernel
theorem dX11_drift_61 : decode cX11_drift 61 = .ok (.iconst 1, 1) := by decide +kernel
theorem dX11_drift_62 : decode cX11_drift 62 = .ok (.iaload, 1) := by decide +kernel
theorem dX11_drift_63 : decode cX11_drift 63 = .ok (.ireturn, 1) := by decide +kernel
set_option maxRecDepth 20000 in
theorem ggX11_undo_X11_in : GoodIn wsX11_undo wsX11_in := goodIn_r _ [9] (by decide +kernel) (by decide +kernel)
set_option maxRecDepth 20000 in
theorem gX11_undo_X11_in : GoodIn wsX11_undo (va_wsS RX11 118 yX11_in wsX11_in) := goodIn_app (goodIn_of _ (by decide +kernel)) ggX11_undo_X11_in
set_option maxRecDepth 20000 in
theorem ggX11_undo_X11_copyRow : GoodIn wsX11_undo wsX11_copyRow := goodIn_r _ [13, 5, 14, 15, 16, 17, 18, 19, 20, 21, 22, 23, 24, 25, 26, 27, 28, 29, 30] (by decide +kernel) (by decide +kernel)
set_option maxRecDepth 20000 in
theorem gX11_undo_X11_copyRow : GoodIn wsX11_undo (wsV RX11 40 RX11 yX11_copyRow wsX11_copyRow) := goodIn_app (goodIn_of _ (by decide +kernel)) ggX11_undo_X11_copyRow
theorem dX11_undo_0 : decode cX11_undo 0 = .ok (.iload_n 1, 1) := by decide +kernel
theorem dX11_undo_1 : decode cX11_undo 1 = .ok (.i2l, 1) := by decide +kernel
theorem dX11_undo_2 : decode cX11_undo 2 = .ok (.lconst 1, 1) := by decide +kernel
theorem dX11_undo_3 : decode cX11_undo 3 = .ok (.ldc2_w 208, 3) := by decide +kernel
theorem dX11_undo_6 : decode cX11_undo 6 = .ok (.invokestatic 118, 3) := by decide +kernel
theorem dX11_undo_9 : decode cX11_undo 9 = .ok (.ifCond .ne 6, 3) := by decide +kernel
theorem dX11_undo_12 : decode cX11_undo 12 = .ok (.ldc 143, 2) := by decide +kernel
theorem dX11_undo_14 : decode cX11_undo 14 = .ok (.ireturn, 1) := by decide +kernel
theorem dX11_undo_15 : decode cX11_undo 15 = .ok (.iload_n 1, 1) := by decide +kernel
theorem dX11_undo_16 : decode cX11_undo 16 = .ok (.aload_n 0, 1) := by decide +kernel
theorem dX11_undo_17 : decode cX11_undo 17 = .ok (.getfield 44, 3) := by decide +kernel
theorem dX11_undo_20 : decode cX11_undo 20 = .ok (.if_icmp .le 6, 3) := by decide +kernel
theorem dX11_undo_23 : decode cX11_undo 23 = .ok (.ldc 160, 2) := by decide +kernel
theorem dX11_undo_25 : decode cX11_undo 25 = .ok (.ireturn, 1) := by decide +kernel
theorem dX11_undo_26 : decode cX11_undo 26 = .ok (.iconst 0, 1) := by decide +kernel
theorem dX11_undo_27 : decode cX11_undo 27 = .ok (.istore_n 2, 1) := by decide +kernel
theorem dX11_undo_28 : decode cX11_undo 28 = .ok (.iload_n 2, 1) := by decide +kernel
theorem dX11_undo_29 : decode cX11_undo 29 = .ok (.iload_n 1, 1) := by decide +kernel
theorem dX11_undo_30 : decode cX11_undo 30 = .ok (.iadd, 1) := by decide +kernel
theorem dX11_undo_31 : decode cX11_undo 31 = .ok (.bipush 16, 2) := by decide +kernel
theorem dX11_undo_33 : decode cX11_undo 33 = .ok (.if_icmp .gt 23, 3) := by decide +kernel
theorem dX11_undo_36 : decode cX11_undo 36 = .ok (.aload_n 0, 1) := by decide +kernel
theorem dX11_undo_37 : decode cX11_undo 37 = .ok (.bipush 10, 2) := by decide +kernel
theorem dX11_undo_39 : decode cX11_undo 39 = .ok (.iload_n 2, 1) := by decide +kernel
theorem dX11_undo_40 : decode cX11_undo 40 = .ok (.iload_n 1, 1) := by decide +kernel
theorem dX11_undo_41 : decode cX11_undo 41 = .ok (.iadd, 1) := by decide +kernel
theorem dX11_undo_42 : decode cX11_undo 42 = .ok (.imul, 1) := by decide +kernel
theorem dX11_undo_43 : decode cX11_undo 43 = .ok (.bipush 10, 2) := by decide +kernel
theorem dX11_undo_45 : decode cX11_undo 45 = .ok (.iload_n 2, 1) := by decide +kernel
theorem dX11_undo_46 : decode cX11_undo 46 = .ok (.imul, 1) := by decide +kernel
theorem dX11_undo_47 : decode cX11_undo 47 = .ok (.invokevirtual 40, 3) := by decide +kernel
theorem dX11_undo_50 : decode cX11_undo 50 = .ok (.iinc 2 1, 3) := by decide +kernel
theorem dX11_undo_53 : decode cX11_undo 53 = .ok (.goto (-25), 3) := by decide +kernel
theorem dX11_undo_56 : decode cX11_undo 56 = .ok (.aload_n 0, 1) := by decide +kernel
theorem dX11_undo_57 : decode cX11_undo 57 = .ok (.dup, 1) := by decide +kernel
theorem dX11_undo_58 : decode cX11_undo 58 = .ok (.getfield 44, 3) := by decide +kernel
theorem dX11_undo_61 : decode cX11_undo 61 = .ok (.iload_n 1, 1) := by decide +kernel
theorem dX11_undo_62 : decode cX11_undo 62 = .ok (.isub, 1) := by decide +kernel
theorem dX11_undo_63 : decode cX11_undo 63 = .ok (.putfield 44, 3) := by decide +kernel
theorem dX11_undo_66 : decode cX11_undo 66 = .ok (.aload_n 0, 1) := by decide +kernel
theorem dX11_undo_67 : decode cX11_undo 67 = .ok (.getfield 7, 3) := by decide +kernel
theorem dX11_undo_70 : decode cX11_undo 70 = .ok (.iconst 1, 1) := by decide +kernel
theorem dX11_undo_71 : decode cX11_undo 71 = .ok (.iaload, 1) := by decide +kernel
theorem dX11_undo_72 : decode cX11_undo 72 = .ok (.ireturn, 1) := by decide +kernel
set_option maxRecDepth 20000 in
theorem ggX11_write_X11_isPlace : GoodIn wsX11_write wsX11_isPlace := goodIn_r _ [10, 11, 12, 13, 9, 14, 15, 16, 17, 18, 19, 20, 21, 22, 23, 24, 25, 26, 27, 28, 29, 30, 31] (by decide +kernel) (by decide +kernel)
set_option maxRecDepth 20000 in
theorem gX11_write_X11_isPlace : GoodIn wsX11_write (wsV RX11 125 RX11 yX11_isPlace wsX11_isPlace) := goodIn_app (goodIn_of _ (by decide +kernel)) ggX11_write_X11_isPlace
theorem dX11_write_0 : decode cX11_write 0 = .ok (.aload_n 0, 1) := by decide +kernel
theorem dX11_write_1 : decode cX11_write 1 = .ok (.iload_n 1, 1) := by decide +kernel
theorem dX11_write_2 : decode cX11_write 2 = .ok (.invokevirtual 125, 3) := by decide +kernel
theorem dX11_write_5 : decode cX11_write 5 = .ok (.ifCond .ne 6, 3) := by decide +kernel
theorem dX11_write_8 : decode cX11_write 8 = .ok (.ldc 144, 2) := by decide +kernel
theorem dX11_write_10 : decode cX11_write 10 = .ok (.ireturn, 1) := by decide +kernel
theorem dX11_write_11 : decode cX11_write 11 = .ok (.aload_n 0, 1) := by decide +kernel
theorem dX11_write_12 : decode cX11_write 12 = .ok (.getfield 122, 3) := by decide +kernel
theorem dX11_write_15 : decode cX11_write 15 = .ok (.bipush 20, 2) := by decide +kernel
theorem dX11_write_17 : decode cX11_write 17 = .ok (.if_icmp .ne 6, 3) := by decide +kernel
