theorem dX11_moved_42 : decode cX11_moved 42 = .ok (.iadd, 1) := by decide +kernel
theorem dX11_moved_43 : decode cX11_moved 43 = .ok (.aload_n 0, 1) := by decide +kernel
theorem dX11_moved_44 : decode cX11_moved 44 = .ok (.invokevirtual 48, 3) := by decide +kernel
theorem dX11_moved_47 : decode cX11_moved 47 = .ok (.irem, 1) := by decide +kernel
theorem dX11_moved_48 : decode cX11_moved 48 = .ok (.ishl, 1) := by decide +kernel
theorem dX11_moved_49 : decode cX11_moved 49 = .ok (.goto 4, 3) := by decide +kernel
theorem dX11_moved_52 : decode cX11_moved 52 = .ok (.iconst 0, 1) := by decide +kernel
theorem dX11_moved_53 : decode cX11_moved 53 = .ok (.ior, 1) := by decide +kernel
theorem dX11_moved_54 : decode cX11_moved 54 = .ok (.istore 4, 2) := by decide +kernel
theorem dX11_moved_56 : decode cX11_moved 56 = .ok (.iinc 5 1, 3) := by decide +kernel
theorem dX11_moved_59 : decode cX11_moved 59 = .ok (.goto (-53), 3) := by decide +kernel
theorem dX11_moved_62 : decode cX11_moved 62 = .ok (.iload 4, 2) := by decide +kernel
theorem dX11_moved_64 : decode cX11_moved 64 = .ok (.ireturn, 1) := by decide +kernel
set_option maxRecDepth 20000 in
theorem ggX11_imageOf_X11_m : GoodIn wsX11_imageOf wsX11_m := goodIn_r _ [5, 6, 14, 15, 16, 17, 18, 19, 20, 21, 22, 23, 24, 25, 26, 27, 28, 29, 30] (by decide +kernel) (by decide +kernel)
set_option maxRecDepth 20000 in
theorem gX11_imageOf_X11_m : GoodIn wsX11_imageOf (wsV RX11 48 RX11 yX11_m wsX11_m) := goodIn_app (goodIn_of _ (by decide +kernel)) ggX11_imageOf_X11_m
set_option maxRecDepth 20000 in
theorem ggX11_imageOf_X11_moved : GoodIn wsX11_imageOf wsX11_moved := goodIn_r _ [10, 1, 2, 3, 4, 5, 6, 11, 12, 13, 14, 15, 16, 17, 18, 19, 20, 21, 22, 23, 24, 25, 26, 27, 28, 29, 30] (by decide +kernel) (by decide +kernel)
set_option maxRecDepth 20000 in
theorem gX11_imageOf_X11_moved : GoodIn wsX11_imageOf (wsV RX11 56 RX11 yX11_moved wsX11_moved) := goodIn_app (goodIn_of _ (by decide +kernel)) ggX11_imageOf_X11_moved
theorem dX11_imageOf_0 : decode cX11_imageOf 0 = .ok (.iload_n 2, 1) := by decide +kernel
theorem dX11_imageOf_1 : decode cX11_imageOf 1 = .ok (.aload_n 0, 1) := by decide +kernel
theorem dX11_imageOf_2 : decode cX11_imageOf 2 = .ok (.invokevirtual 48, 3) := by decide +kernel
theorem dX11_imageOf_5 : decode cX11_imageOf 5 = .ok (.if_icmp .ge 13, 3) := by decide +kernel
theorem dX11_imageOf_8 : decode cX11_imageOf 8 = .ok (.aload_n 0, 1) := by decide +kernel
theorem dX11_imageOf_9 : decode cX11_imageOf 9 = .ok (.iload_n 1, 1) := by decide +kernel
theorem dX11_imageOf_10 : decode cX11_imageOf 10 = .ok (.iconst 1, 1) := by decide +kernel
theorem dX11_imageOf_11 : decode cX11_imageOf 11 = .ok (.iload_n 2, 1) := by decide +kernel
theorem dX11_imageOf_12 : decode cX11_imageOf 12 = .ok (.invokevirtual 56, 3) := by decide +kernel
theorem dX11_imageOf_15 : decode cX11_imageOf 15 = .ok (.goto 15, 3) := by decide +kernel
theorem dX11_imageOf_18 : decode cX11_imageOf 18 = .ok (.aload_n 0, 1) := by decide +kernel
theorem dX11_imageOf_19 : decode cX11_imageOf 19 = .ok (.iload_n 1, 1) := by decide +kernel
theorem dX11_imageOf_20 : decode cX11_imageOf 20 = .ok (.iconst (-1), 1) := by decide +kernel
theorem dX11_imageOf_21 : decode cX11_imageOf 21 = .ok (.iload_n 2, 1) := by decide +kernel
theorem dX11_imageOf_22 : decode cX11_imageOf 22 = .ok (.aload_n 0, 1) := by decide +kernel
theorem dX11_imageOf_23 : decode cX11_imageOf 23 = .ok (.invokevirtual 48, 3) := by decide +kernel
theorem dX11_imageOf_26 : decode cX11_imageOf 26 = .ok (.isub, 1) := by decide +kernel
theorem dX11_imageOf_27 : decode cX11_imageOf 27 = .ok (.invokevirtual 56, 3) := by decide +kernel
theorem dX11_imageOf_30 : decode cX11_imageOf 30 = .ok (.ireturn, 1) := by decide +kernel
set_option maxRecDepth 20000 in
theorem ggX11_formOf_X11_m : GoodIn wsX11_formOf wsX11_m := goodIn_r _ [5, 6, 18, 19, 20, 21, 22, 23, 24, 25, 26, 27, 28, 29, 30, 31, 32, 33, 34] (by decide +kernel) (by decide +kernel)
set_option maxRecDepth 20000 in
theorem gX11_formOf_X11_m : GoodIn wsX11_formOf (wsV RX11 48 RX11 yX11_m wsX11_m) := goodIn_app (goodIn_of _ (by decide +kernel)) ggX11_formOf_X11_m
set_option maxRecDepth 20000 in
theorem ggX11_formOf_X11_imageOf : GoodIn wsX11_formOf wsX11_imageOf := goodIn_r _ [10, 1, 2, 3, 4, 5, 6, 11, 12, 13, 14, 15, 16, 17, 18, 19, 20, 21, 22, 23, 24, 25, 26, 27, 28, 29, 30, 31, 32, 33, 34] (by decide +kernel) (by decide +kernel)
set_option maxRecDepth 20000 in
theorem gX11_formOf_X11_imageOf : GoodIn wsX11_formOf (wsV RX11 60 RX11 yX11_imageOf wsX11_imageOf) := goodIn_app (goodIn_of _ (by decide +kernel)) ggX11_formOf_X11_imageOf
theorem dX11_formOf_0 : decode cX11_formOf 0 = .ok (.iload_n 1, 1) := by decide +kernel
theorem dX11_formOf_1 : decode cX11_formOf 1 = .ok (.istore_n 2, 1) := by decide +kernel
theorem dX11_formOf_2 : decode cX11_formOf 2 = .ok (.iconst 0, 1) := by decide +kernel
theorem dX11_formOf_3 : decode cX11_formOf 3 = .ok (.istore_n 3, 1) := by decide +kernel
theorem dX11_formOf_4 : decode cX11_formOf 4 = .ok (.iload_n 3, 1) := by decide +kernel
theorem dX11_formOf_5 : decode cX11_formOf 5 = .ok (.iconst 2, 1) := by decide +kernel
theorem dX11_formOf_6 : decode cX11_formOf 6 = .ok (.aload_n 0, 1) := by decide +kernel
theorem dX11_formOf_7 : decode cX11_formOf 7 = .ok (.invokevirtual 48, 3) := by decide +kernel
theorem dX11_formOf_10 : decode cX11_formOf 10 = .ok (.imul, 1) := by decide +kernel
theorem dX11_formOf_11 : decode cX11_formOf 11 = .ok (.if_icmp .ge 30, 3) := by decide +kernel
theorem dX11_formOf_14 : decode cX11_formOf 14 = .ok (.aload_n 0, 1) := by decide +kernel
theorem dX11_formOf_15 : decode cX11_formOf 15 = .ok (.iload_n 1, 1) := by decide +kernel
theorem dX11_formOf_16 : decode cX11_formOf 16 = .ok (.iload_n 3, 1) := by decide +kernel
theorem dX11_formOf_17 : decode cX11_formOf 17 = .ok (.invokevirtual 60, 3) := by decide +kernel
theorem dX11_formOf_20 : decode cX11_formOf 20 = .ok (.istore 4, 2) := by decide +kernel
theorem dX11_formOf_22 : decode cX11_formOf 22 = .ok (.iload 4, 2) := by decide +kernel
theorem dX11_formOf_24 : decode cX11_formOf 24 = .ok (.iload_n 2, 1) := by decide +kernel
theorem dX11_formOf_25 : decode cX11_formOf 25 = .ok (.if_icmp .ge 8, 3) := by decide +kernel
theorem dX11_formOf_28 : decode cX11_formOf 28 = .ok (.iload 4, 2) := by decide +kernel
theorem dX11_formOf_30 : decode cX11_formOf 30 = .ok (.goto 4, 3) := by decide +kernel
theorem dX11_formOf_33 : decode cX11_formOf 33 = .ok (.iload_n 2, 1) := by decide +kernel
theorem dX11_formOf_34 : decode cX11_formOf 34 = .ok (.istore_n 2, 1) := by decide +kernel
theorem dX11_formOf_35 : decode cX11_formOf 35 = .ok (.iinc 3 1, 3) := by decide +kernel
theorem dX11_formOf_38 : decode cX11_formOf 38 = .ok (.goto (-34), 3) := by decide +kernel
theorem dX11_formOf_41 : decode cX11_formOf 41 = .ok (.iload_n 2, 1) := by decide +kernel
theorem dX11_formOf_42 : decode cX11_formOf 42 = .ok (.ireturn, 1) := by decide +kernel
set_option maxRecDepth 20000 in
theorem ggX11_firstImage_X11_imageOf : GoodIn wsX11_firstImage wsX11_imageOf := goodIn_r _ [5, 6, 7, 8, 4, 9, 10, 11, 12, 13, 14, 15, 16, 17, 18, 19, 20, 21, 22, 23, 24, 25, 26, 27, 28, 29, 30, 31, 32, 33, 34] (by decide +kernel) (by decide +kernel)
set_option maxRecDepth 20000 in
theorem gX11_firstImage_X11_imageOf : GoodIn wsX11_firstImage (wsV RX11 60 RX11 yX11_imageOf wsX11_imageOf) := goodIn_app (goodIn_of _ (by decide +kernel)) ggX11_firstImage_X11_imageOf
theorem dX11_firstImage_0 : decode cX11_firstImage 0 = .ok (.iconst 0, 1) := by decide +kernel
theorem dX11_firstImage_1 : decode cX11_firstImage 1 = .ok (.istore_n 3, 1) := by decide +kernel
theorem dX11_firstImage_2 : decode cX11_firstImage 2 = .ok (.aload_n 0, 1) := by decide +kernel
theorem dX11_firstImage_3 : decode cX11_firstImage 3 = .ok (.iload_n 1, 1) := by decide +kernel
theorem dX11_firstImage_4 : decode cX11_firstImage 4 = .ok (.iload_n 3, 1) := by decide +kernel
theorem dX11_firstImage_5 : decode cX11_firstImage 5 = .ok (.invokevirtual 60, 3) := by decide +kernel
theorem dX11_firstImage_8 : decode cX11_firstImage 8 = .ok (.iload_n 2, 1) := by decide +kernel
theorem dX11_firstImage_9 : decode cX11_firstImage 9 = .ok (.if_icmp .eq 9, 3) := by decide +kernel
theorem dX11_firstImage_12 : decode cX11_firstImage 12 = .ok (.iinc 3 1, 3) := by decide +kernel
theorem dX11_firstImage_15 : decode cX11_firstImage 15 = .ok (.goto (-13), 3) := by decide +kernel
theorem dX11_firstImage_18 : decode cX11_firstImage 18 = .ok (.iload_n 3, 1) := by decide +kernel
theorem dX11_firstImage_19 : decode cX11_firstImage 19 = .ok (.ireturn, 1) := by decide +kernel
set_option maxRecDepth 20000 in
theorem ggX11_kin_X11_m : GoodIn wsX11_kin wsX11_m := goodIn_r _ [5, 6, 18, 19, 20, 21, 22, 23, 24, 25, 26, 27, 28, 29, 30, 31, 32, 33, 34] (by decide +kernel) (by decide +kernel)
set_option maxRecDepth 20000 in
theorem gX11_kin_X11_m : GoodIn wsX11_kin (wsV RX11 48 RX11 yX11_m wsX11_m) := goodIn_app (goodIn_of _ (by decide +kernel)) ggX11_kin_X11_m
set_option maxRecDepth 20000 in
theorem ggX11_kin_X11_imageOf : GoodIn wsX11_kin wsX11_imageOf := goodIn_r _ [10, 1, 2, 3, 4, 5, 6, 11, 12, 13, 14, 15, 16, 17, 18, 19, 20, 21, 22, 23, 24, 25, 26, 27, 28, 29, 30, 31, 32, 33, 34] (by decide +kernel) (by decide +kernel)
set_option maxRecDepth 20000 in
theorem gX11_kin_X11_imageOf : GoodIn wsX11_kin (wsV RX11 60 RX11 yX11_imageOf wsX11_imageOf) := goodIn_app (goodIn_of _ (by decide +kernel)) ggX11_kin_X11_imageOf
theorem dX11_kin_0 : decode cX11_kin 0 = .ok (.iconst 0, 1) := by decide +kernel
theorem dX11_kin_1 : decode cX11_kin 1 = .ok (.istore_n 2, 1) := by decide +kernel
theorem dX11_kin_2 : decode cX11_kin 2 = .ok (.iconst 0, 1) := by decide +kernel
theorem dX11_kin_3 : decode cX11_kin 3 = .ok (.istore_n 3, 1) := by decide +kernel
theorem dX11_kin_4 : decode cX11_kin 4 = .ok (.iload_n 3, 1) := by decide +kernel
theorem dX11_kin_5 : decode cX11_kin 5 = .ok (.iconst 2, 1) := by decide +kernel
theorem dX11_kin_6 : decode cX11_kin 6 = .ok (.aload_n 0, 1) := by decide +kernel
theorem dX11_kin_7 : decode cX11_kin 7 = .ok (.invokevirtual 48, 3) := by decide +kernel
theorem dX11_kin_10 : decode cX11_kin 10 = .ok (.imul, 1) := by decide +kernel
theorem dX11_kin_11 : decode cX11_kin 11 = .ok (.if_icmp .ge 27, 3) := by decide +kernel
theorem dX11_kin_14 : decode cX11_kin 14 = .ok (.iload_n 2, 1) := by decide +kernel
theorem dX11_kin_15 : decode cX11_kin 15 = .ok (.aload_n 0, 1) := by decide +kernel
theorem dX11_kin_16 : decode cX11_kin 16 = .ok (.iload_n 1, 1) := by decide +kernel
theorem dX11_kin_17 : decode cX11_kin 17 = .ok (.iload_n 3, 1) := by decide +kernel
theorem dX11_kin_18 : decode cX11_kin 18 = .ok (.invokevirtual 60, 3) := by decide +kernel
theorem dX11_kin_21 : decode cX11_kin 21 = .ok (.iload_n 1, 1) := by decide +kernel
theorem dX11_kin_22 : decode cX11_kin 22 = .ok (.if_icmp .ne 7, 3) := by decide +kernel
theorem dX11_kin_25 : decode cX11_kin 25 = .ok (.iconst 1, 1) := by decide +kernel
theorem dX11_kin_26 : decode cX11_kin 26 = .ok (.goto 4, 3) := by decide +kernel
theorem dX11_kin_29 : decode cX11_kin 29 = .ok (.iconst 0, 1) := by decide +kernel
theorem dX11_kin_30 : decode cX11_kin 30 = .ok (.iadd, 1) := by decide +kernel
theorem dX11_kin_31 : decode cX11_kin 31 = .ok (.istore_n 2, 1) := by decide +kernel
theorem dX11_kin_32 : decode cX11_kin 32 = .ok (.iinc 3 1, 3) := by decide +kernel
theorem dX11_kin_35 : decode cX11_kin 35 = .ok (.goto (-31), 3) := by decide +kernel
theorem dX11_kin_38 : decode cX11_kin 38 = .ok (.iload_n 2, 1) := by decide +kernel
theorem dX11_kin_39 : decode cX11_kin 39 = .ok (.ireturn, 1) := by decide +kernel
set_option maxRecDepth 20000 in
theorem ggX11_apart_X11_m : GoodIn wsX11_apart wsX11_m := goodIn_r _ [5, 6, 7, 8, 9, 10, 11, 12, 13, 14, 15, 16, 17, 18, 19, 20, 21, 22, 23] (by decide +kernel) (by decide +kernel)
set_option maxRecDepth 20000 in
theorem gX11_apart_X11_m : GoodIn wsX11_apart (wsV RX11 48 RX11 yX11_m wsX11_m) := goodIn_app (goodIn_of _ (by decide +kernel)) ggX11_apart_X11_m
theorem dX11_apart_0 : decode cX11_apart 0 = .ok (.iload_n 1, 1) := by decide +kernel
theorem dX11_apart_1 : decode cX11_apart 1 = .ok (.iload_n 2, 1) := by decide +kernel
theorem dX11_apart_2 : decode cX11_apart 2 = .ok (.if_icmp .ge 9, 3) := by decide +kernel
theorem dX11_apart_5 : decode cX11_apart 5 = .ok (.iload_n 2, 1) := by decide +kernel
theorem dX11_apart_6 : decode cX11_apart 6 = .ok (.iload_n 1, 1) := by decide +kernel
theorem dX11_apart_7 : decode cX11_apart 7 = .ok (.isub, 1) := by decide +kernel
theorem dX11_apart_8 : decode cX11_apart 8 = .ok (.goto 6, 3) := by decide +kernel
theorem dX11_apart_11 : decode cX11_apart 11 = .ok (.iload_n 1, 1) := by decide +kernel
theorem dX11_apart_12 : decode cX11_apart 12 = .ok (.iload_n 2, 1) := by decide +kernel
theorem dX11_apart_13 : decode cX11_apart 13 = .ok (.isub, 1) := by decide +kernel
theorem dX11_apart_14 : decode cX11_apart 14 = .ok (.istore_n 3, 1) := by decide +kernel
theorem dX11_apart_15 : decode cX11_apart 15 = .ok (.iload_n 3, 1) := by decide +kernel
theorem dX11_apart_16 : decode cX11_apart 16 = .ok (.aload_n 0, 1) := by decide +kernel
theorem dX11_apart_17 : decode cX11_apart 17 = .ok (.invokevirtual 48, 3) := by decide +kernel
theorem dX11_apart_20 : decode cX11_apart 20 = .ok (.iload_n 3, 1) := by decide +kernel
theorem dX11_apart_21 : decode cX11_apart 21 = .ok (.isub, 1) := by decide +kernel
theorem dX11_apart_22 : decode cX11_apart 22 = .ok (.if_icmp .ge 7, 3) := by decide +kernel
theorem dX11_apart_25 : decode cX11_apart 25 = .ok (.iload_n 3, 1) := by decide +kernel
theorem dX11_apart_26 : decode cX11_apart 26 = .ok (.goto 9, 3) := by decide +kernel
theorem dX11_apart_29 : decode cX11_apart 29 = .ok (.aload_n 0, 1) := by decide +kernel
theorem dX11_apart_30 : decode cX11_apart 30 = .ok (.invokevirtual 48, 3) := by decide +kernel
theorem dX11_apart_33 : decode cX11_apart 33 = .ok (.iload_n 3, 1) := by decide +kernel
theorem dX11_apart_34 : decode cX11_apart 34 = .ok (.isub, 1) := by decide +kernel
theorem dX11_apart_35 : decode cX11_apart 35 = .ok (.ireturn, 1) := by decide +kernel
set_option maxRecDepth 20000 in
theorem ggX11_pairsApart_X11_m : GoodIn wsX11_pairsApart wsX11_m := goodIn_r _ [5, 6, 14, 15, 16, 17, 18, 19, 20, 21, 22, 23, 24, 25, 26, 27, 28, 29, 30] (by decide +kernel) (by decide +kernel)
set_option maxRecDepth 20000 in
theorem gX11_pairsApart_X11_m : GoodIn wsX11_pairsApart (wsV RX11 48 RX11 yX11_m wsX11_m) := goodIn_app (goodIn_of _ (by decide +kernel)) ggX11_pairsApart_X11_m
set_option maxRecDepth 20000 in
theorem ggX11_pairsApart_X11_has : GoodIn wsX11_pairsApart wsX11_has := goodIn_r _ [9] (by decide +kernel) (by decide +kernel)
set_option maxRecDepth 20000 in
theorem gX11_pairsApart_X11_has : GoodIn wsX11_pairsApart (va_wsS RX11 52 yX11_has wsX11_has) := goodIn_app (goodIn_of _ (by decide +kernel)) ggX11_pairsApart_X11_has
set_option maxRecDepth 20000 in
theorem ggX11_pairsApart_X11_apart : GoodIn wsX11_pairsApart wsX11_apart := goodIn_r _ [13, 1, 2, 3, 4, 5, 6, 14, 15, 16, 17, 18, 19, 20, 21, 22, 23, 24, 25, 26, 27, 28, 29, 30] (by decide +kernel) (by decide +kernel)
set_option maxRecDepth 20000 in
theorem gX11_pairsApart_X11_apart : GoodIn wsX11_pairsApart (wsV RX11 64 RX11 yX11_apart wsX11_apart) := goodIn_app (goodIn_of _ (by decide +kernel)) ggX11_pairsApart_X11_apart
theorem dX11_pairsApart_0 : decode cX11_pairsApart 0 = .ok (.iconst 0, 1) := by decide +kernel
theorem dX11_pairsApart_1 : decode cX11_pairsApart 1 = .ok (.istore_n 3, 1) := by decide +kernel
theorem dX11_pairsApart_2 : decode cX11_pairsApart 2 = .ok (.iconst 0, 1) := by decide +kernel
theorem dX11_pairsApart_3 : decode cX11_pairsApart 3 = .ok (.istore 4, 2) := by decide +kernel
theorem dX11_pairsApart_5 : decode cX11_pairsApart 5 = .ok (.iload 4, 2) := by decide +kernel
theorem dX11_pairsApart_7 : decode cX11_pairsApart 7 = .ok (.aload_n 0, 1) := by decide +kernel
theorem dX11_pairsApart_8 : decode cX11_pairsApart 8 = .ok (.invokevirtual 48, 3) := by decide +kernel
theorem dX11_pairsApart_11 : decode cX11_pairsApart 11 = .ok (.if_icmp .ge 63, 3) := by decide +kernel
theorem dX11_pairsApart_14 : decode cX11_pairsApart 14 = .ok (.iconst 0, 1) := by decide +kernel
theorem dX11_pairsApart_15 : decode cX11_pairsApart 15 = .ok (.istore 5, 2) := by decide +kernel
theorem dX11_pairsApart_17 : decode cX11_pairsApart 17 = .ok (.iload 5, 2) := by decide +kernel
theorem dX11_pairsApart_19 : decode cX11_pairsApart 19 = .ok (.iload 4, 2) := by decide +kernel
theorem dX11_pairsApart_21 : decode cX11_pairsApart 21 = .ok (.if_icmp .ge 47, 3) := by decide +kernel
theorem dX11_pairsApart_24 : decode cX11_pairsApart 24 = .ok (.iload_n 3, 1) := by decide +kernel
theorem dX11_pairsApart_25 : decode cX11_pairsApart 25 = .ok (.iload_n 1, 1) := by decide +kernel
theorem dX11_pairsApart_26 : decode cX11_pairsApart 26 = .ok (.iload 4, 2) := by decide +kernel
theorem dX11_pairsApart_28 : decode cX11_pairsApart 28 = .ok (.invokestatic 52, 3) := by decide +kernel
theorem dX11_pairsApart_31 : decode cX11_pairsApart 31 = .ok (.ifCond .eq 28, 3) := by decide +kernel
theorem dX11_pairsApart_34 : decode cX11_pairsApart 34 = .ok (.iload_n 1, 1) := by decide +kernel
theorem dX11_pairsApart_35 : decode cX11_pairsApart 35 = .ok (.iload 5, 2) := by decide +kernel
theorem dX11_pairsApart_37 : decode cX11_pairsApart 37 = .ok (.invokestatic 52, 3) := by decide +kernel
theorem dX11_pairsApart_40 : decode cX11_pairsApart 40 = .ok (.ifCond .eq 19, 3) := by decide +kernel
theorem dX11_pairsApart_43 : decode cX11_pairsApart 43 = .ok (.aload_n 0, 1) := by decide +kernel
theorem dX11_pairsApart_44 : decode cX11_pairsApart 44 = .ok (.iload 4, 2) := by decide +kernel
theorem dX11_pairsApart_46 : decode cX11_pairsApart 46 = .ok (.iload 5, 2) := by decide +kernel
theorem dX11_pairsApart_48 : decode cX11_pairsApart 48 = .ok (.invokevirtual 64, 3) := by decide +kernel
theorem dX11_pairsApart_51 : decode cX11_pairsApart 51 = .ok (.iload_n 2, 1) := by decide +kernel
theorem dX11_pairsApart_52 : decode cX11_pairsApart 52 = .ok (.if_icmp .ne 7, 3) := by decide +kernel
theorem dX11_pairsApart_55 : decode cX11_pairsApart 55 = .ok (.iconst 1, 1) := by decide +kernel
theorem dX11_pairsApart_56 : decode cX11_pairsApart 56 = .ok (.goto 4, 3) := by decide +kernel
theorem dX11_pairsApart_59 : decode cX11_pairsApart 59 = .ok (.iconst 0, 1) := by decide +kernel
theorem dX11_pairsApart_60 : decode cX11_pairsApart 60 = .ok (.iadd, 1) := by decide +kernel
theorem dX11_pairsApart_61 : decode cX11_pairsApart 61 = .ok (.istore_n 3, 1) := by decide +kernel
theorem dX11_pairsApart_62 : decode cX11_pairsApart 62 = .ok (.iinc 5 1, 3) := by decide +kernel
theorem dX11_pairsApart_65 : decode cX11_pairsApart 65 = .ok (.goto (-48), 3) := by decide +kernel
theorem dX11_pairsApart_68 : decode cX11_pairsApart 68 = .ok (.iinc 4 1, 3) := by decide +kernel
theorem dX11_pairsApart_71 : decode cX11_pairsApart 71 = .ok (.goto (-66), 3) := by decide +kernel
theorem dX11_pairsApart_74 : decode cX11_pairsApart 74 = .ok (.iload_n 3, 1) := by decide +kernel
theorem dX11_pairsApart_75 : decode cX11_pairsApart 75 = .ok (.ireturn, 1) := by decide +kernel
set_option maxRecDepth 20000 in
theorem ggX11_areLike_X11_ones : GoodIn wsX11_areLike wsX11_ones := goodIn_r _ [4] (by decide +kernel) (by decide +kernel)
set_option maxRecDepth 20000 in
theorem gX11_areLike_X11_ones : GoodIn wsX11_areLike (va_wsS RX11 67 yX11_ones wsX11_ones) := goodIn_app (goodIn_of _ (by decide +kernel)) ggX11_areLike_X11_ones
set_option maxRecDepth 20000 in
theorem ggX11_areLike_X11_m : GoodIn wsX11_areLike wsX11_m := goodIn_r _ [8, 9, 21, 22, 23, 24, 25, 26, 27, 28, 29, 30, 31, 32, 33, 34, 35, 36, 37] (by decide +kernel) (by decide +kernel)
set_option maxRecDepth 20000 in
theorem gX11_areLike_X11_m : GoodIn wsX11_areLike (wsV RX11 48 RX11 yX11_m wsX11_m) := goodIn_app (goodIn_of _ (by decide +kernel)) ggX11_areLike_X11_m
set_option maxRecDepth 20000 in
theorem ggX11_areLike_X11_pairsApart : GoodIn wsX11_areLike wsX11_pairsApart := goodIn_r _ [13, 5, 6, 7, 3, 8, 9, 14, 15, 16, 17, 18, 19, 20, 21, 22, 23, 24, 25, 26, 27, 28, 29, 30, 31, 32, 33, 34, 35, 36, 37] (by decide +kernel) (by decide +kernel)
set_option maxRecDepth 20000 in
theorem gX11_areLike_X11_pairsApart : GoodIn wsX11_areLike (wsV RX11 71 RX11 yX11_pairsApart wsX11_pairsApart) := goodIn_app (goodIn_of _ (by decide +kernel)) ggX11_areLike_X11_pairsApart
theorem dX11_areLike_0 : decode cX11_areLike 0 = .ok (.iload_n 1, 1) := by decide +kernel
theorem dX11_areLike_1 : decode cX11_areLike 1 = .ok (.invokestatic 67, 3) := by decide +kernel
theorem dX11_areLike_4 : decode cX11_areLike 4 = .ok (.iload_n 2, 1) := by decide +kernel
theorem dX11_areLike_5 : decode cX11_areLike 5 = .ok (.invokestatic 67, 3) := by decide +kernel
theorem dX11_areLike_8 : decode cX11_areLike 8 = .ok (.if_icmp .ne 7, 3) := by decide +kernel
theorem dX11_areLike_11 : decode cX11_areLike 11 = .ok (.iconst 1, 1) := by decide +kernel
theorem dX11_areLike_12 : decode cX11_areLike 12 = .ok (.goto 4, 3) := by decide +kernel
theorem dX11_areLike_15 : decode cX11_areLike 15 = .ok (.iconst 0, 1) := by decide +kernel
theorem dX11_areLike_16 : decode cX11_areLike 16 = .ok (.istore_n 3, 1) := by decide +kernel
theorem dX11_areLike_17 : decode cX11_areLike 17 = .ok (.iconst 1, 1) := by decide +kernel
theorem dX11_areLike_18 : decode cX11_areLike 18 = .ok (.istore 4, 2) := by decide +kernel
theorem dX11_areLike_20 : decode cX11_areLike 20 = .ok (.iload 4, 2) := by decide +kernel
theorem dX11_areLike_22 : decode cX11_areLike 22 = .ok (.aload_n 0, 1) := by decide +kernel
theorem dX11_areLike_23 : decode cX11_areLike 23 = .ok (.invokevirtual 48, 3) := by decide +kernel
theorem dX11_areLike_26 : decode cX11_areLike 26 = .ok (.iconst 2, 1) := by decide +kernel
theorem dX11_areLike_27 : decode cX11_areLike 27 = .ok (.idiv, 1) := by decide +kernel
theorem dX11_areLike_28 : decode cX11_areLike 28 = .ok (.if_icmp .gt 36, 3) := by decide +kernel
theorem dX11_areLike_31 : decode cX11_areLike 31 = .ok (.iload_n 3, 1) := by decide +kernel
theorem dX11_areLike_32 : decode cX11_areLike 32 = .ok (.ifCond .eq 32, 3) := by decide +kernel
theorem dX11_areLike_35 : decode cX11_areLike 35 = .ok (.aload_n 0, 1) := by decide +kernel
theorem dX11_areLike_36 : decode cX11_areLike 36 = .ok (.iload_n 1, 1) := by decide +kernel
theorem dX11_areLike_37 : decode cX11_areLike 37 = .ok (.iload 4, 2) := by decide +kernel
theorem dX11_areLike_39 : decode cX11_areLike 39 = .ok (.invokevirtual 71, 3) := by decide +kernel
theorem dX11_areLike_42 : decode cX11_areLike 42 = .ok (.aload_n 0, 1) := by decide +kernel
theorem dX11_areLike_43 : decode cX11_areLike 43 = .ok (.iload_n 2, 1) := by decide +kernel
theorem dX11_areLike_44 : decode cX11_areLike 44 = .ok (.iload 4, 2) := by decide +kernel
theorem dX11_areLike_46 : decode cX11_areLike 46 = .ok (.invokevirtual 71, 3) := by decide +kernel
theorem dX11_areLike_49 : decode cX11_areLike 49 = .ok (.if_icmp .ne 7, 3) := by decide +kernel
theorem dX11_areLike_52 : decode cX11_areLike 52 = .ok (.iconst 1, 1) := by decide +kernel
theorem dX11_areLike_53 : decode cX11_areLike 53 = .ok (.goto 4, 3) := by decide +kernel
theorem dX11_areLike_56 : decode cX11_areLike 56 = .ok (.iconst 0, 1) := by decide +kernel
theorem dX11_areLike_57 : decode cX11_areLike 57 = .ok (.istore_n 3, 1) := by decide +kernel
theorem dX11_areLike_58 : decode cX11_areLike 58 = .ok (.iinc 4 1, 3) := by decide +kernel
theorem dX11_areLike_61 : decode cX11_areLike 61 = .ok (.goto (-41), 3) := by decide +kernel
theorem dX11_areLike_64 : decode cX11_areLike 64 = .ok (.iload_n 3, 1) := by decide +kernel
theorem dX11_areLike_65 : decode cX11_areLike 65 = .ok (.ireturn, 1) := by decide +kernel
set_option maxRecDepth 20000 in
theorem ggX11_isForm_X11_m : GoodIn wsX11_isForm wsX11_m := goodIn_r _ [5, 6, 18, 19, 20, 21, 22, 23, 24, 25, 26, 27, 28, 29, 30, 31, 32, 33, 34] (by decide +kernel) (by decide +kernel)
set_option maxRecDepth 20000 in
theorem gX11_isForm_X11_m : GoodIn wsX11_isForm (wsV RX11 48 RX11 yX11_m wsX11_m) := goodIn_app (goodIn_of _ (by decide +kernel)) ggX11_isForm_X11_m
set_option maxRecDepth 20000 in
theorem ggX11_isForm_X11_imageOf : GoodIn wsX11_isForm wsX11_imageOf := goodIn_r _ [10, 1, 2, 3, 4, 5, 6, 11, 12, 13, 14, 15, 16, 17, 18, 19, 20, 21, 22, 23, 24, 25, 26, 27, 28, 29, 30, 31, 32, 33, 34] (by decide +kernel) (by decide +kernel)
set_option maxRecDepth 20000 in
theorem gX11_isForm_X11_imageOf : GoodIn wsX11_isForm (wsV RX11 60 RX11 yX11_imageOf wsX11_imageOf) := goodIn_app (goodIn_of _ (by decide +kernel)) ggX11_isForm_X11_imageOf
theorem dX11_isForm_0 : decode cX11_isForm 0 = .ok (.iconst 1, 1) := by decide +kernel
theorem dX11_isForm_1 : decode cX11_isForm 1 = .ok (.istore_n 2, 1) := by decide +kernel
theorem dX11_isForm_2 : decode cX11_isForm 2 = .ok (.iconst 0, 1) := by decide +kernel
theorem dX11_isForm_3 : decode cX11_isForm 3 = .ok (.istore_n 3, 1) := by decide +kernel
theorem dX11_isForm_4 : decode cX11_isForm 4 = .ok (.iload_n 3, 1) := by decide +kernel
theorem dX11_isForm_5 : decode cX11_isForm 5 = .ok (.iconst 2, 1) := by decide +kernel
theorem dX11_isForm_6 : decode cX11_isForm 6 = .ok (.aload_n 0, 1) := by decide +kernel
theorem dX11_isForm_7 : decode cX11_isForm 7 = .ok (.invokevirtual 48, 3) := by decide +kernel
theorem dX11_isForm_10 : decode cX11_isForm 10 = .ok (.imul, 1) := by decide +kernel
theorem dX11_isForm_11 : decode cX11_isForm 11 = .ok (.if_icmp .ge 29, 3) := by decide +kernel
theorem dX11_isForm_14 : decode cX11_isForm 14 = .ok (.iload_n 2, 1) := by decide +kernel
theorem dX11_isForm_15 : decode cX11_isForm 15 = .ok (.ifCond .eq 25, 3) := by decide +kernel
theorem dX11_isForm_18 : decode cX11_isForm 18 = .ok (.aload_n 0, 1) := by decide +kernel
theorem dX11_isForm_19 : decode cX11_isForm 19 = .ok (.iload_n 1, 1) := by decide +kernel
theorem dX11_isForm_20 : decode cX11_isForm 20 = .ok (.iload_n 3, 1) := by decide +kernel
theorem dX11_isForm_21 : decode cX11_isForm 21 = .ok (.invokevirtual 60, 3) := by decide +kernel
theorem dX11_isForm_24 : decode cX11_isForm 24 = .ok (.iload_n 1, 1) := by decide +kernel
theorem dX11_isForm_25 : decode cX11_isForm 25 = .ok (.if_icmp .lt 7, 3) := by decide +kernel
theorem dX11_isForm_28 : decode cX11_isForm 28 = .ok (.iconst 1, 1) := by decide +kernel
theorem dX11_isForm_29 : decode cX11_isForm 29 = .ok (.goto 4, 3) := by decide +kernel
theorem dX11_isForm_32 : decode cX11_isForm 32 = .ok (.iconst 0, 1) := by decide +kernel
theorem dX11_isForm_33 : decode cX11_isForm 33 = .ok (.istore_n 2, 1) := by decide +kernel
theorem dX11_isForm_34 : decode cX11_isForm 34 = .ok (.iinc 3 1, 3) := by decide +kernel
theorem dX11_isForm_37 : decode cX11_isForm 37 = .ok (.goto (-33), 3) := by decide +kernel
theorem dX11_isForm_40 : decode cX11_isForm 40 = .ok (.iload_n 2, 1) := by decide +kernel
theorem dX11_isForm_41 : decode cX11_isForm 41 = .ok (.ireturn, 1) := by decide +kernel
set_option maxRecDepth 20000 in
theorem ggX11_layForms_X11_m : GoodIn wsX11_layForms wsX11_m := goodIn_r _ [8, 9, 25, 26, 27, 28, 29, 30, 31, 32, 33, 34, 35, 36, 37, 38, 39, 40, 41] (by decide +kernel) (by decide +kernel)
set_option maxRecDepth 20000 in
theorem gX11_layForms_X11_m : GoodIn wsX11_layForms (wsV RX11 48 RX11 yX11_m wsX11_m) := goodIn_app (goodIn_of _ (by decide +kernel)) ggX11_layForms_X11_m
set_option maxRecDepth 20000 in
theorem ggX11_layForms_X11_isForm : GoodIn wsX11_layForms wsX11_isForm := goodIn_r _ [13, 4, 5, 6, 7, 8, 9, 14, 15, 16, 17, 18, 19, 20, 21, 22, 23, 24, 25, 26, 27, 28, 29, 30, 31, 32, 33, 34, 35, 36, 37, 38, 39, 40, 41] (by decide +kernel) (by decide +kernel)
set_option maxRecDepth 20000 in
theorem gX11_layForms_X11_isForm : GoodIn wsX11_layForms (wsV RX11 80 RX11 yX11_isForm wsX11_isForm) := goodIn_app (goodIn_of _ (by decide +kernel)) ggX11_layForms_X11_isForm
theorem dX11_layForms_0 : decode cX11_layForms 0 = .ok (.aload_n 0, 1) := by decide +kernel
theorem dX11_layForms_1 : decode cX11_layForms 1 = .ok (.getfield 74, 3) := by decide +kernel
theorem dX11_layForms_4 : decode cX11_layForms 4 = .ok (.aload_n 0, 1) := by decide +kernel
theorem dX11_layForms_5 : decode cX11_layForms 5 = .ok (.invokevirtual 48, 3) := by decide +kernel
theorem dX11_layForms_8 : decode cX11_layForms 8 = .ok (.if_icmp .ne 4, 3) := by decide +kernel
theorem dX11_layForms_11 : decode cX11_layForms 11 = .ok (.return_, 1) := by decide +kernel
theorem dX11_layForms_12 : decode cX11_layForms 12 = .ok (.aload_n 0, 1) := by decide +kernel
theorem dX11_layForms_13 : decode cX11_layForms 13 = .ok (.aload_n 0, 1) := by decide +kernel
theorem dX11_layForms_14 : decode cX11_layForms 14 = .ok (.invokevirtual 48, 3) := by decide +kernel
theorem dX11_layForms_17 : decode cX11_layForms 17 = .ok (.putfield 74, 3) := by decide +kernel
theorem dX11_layForms_20 : decode cX11_layForms 20 = .ok (.aload_n 0, 1) := by decide +kernel
theorem dX11_layForms_21 : decode cX11_layForms 21 = .ok (.iconst 0, 1) := by decide +kernel
theorem dX11_layForms_22 : decode cX11_layForms 22 = .ok (.putfield 77, 3) := by decide +kernel
theorem dX11_layForms_25 : decode cX11_layForms 25 = .ok (.iconst 0, 1) := by decide +kernel
theorem dX11_layForms_26 : decode cX11_layForms 26 = .ok (.istore_n 1, 1) := by decide +kernel
theorem dX11_layForms_27 : decode cX11_layForms 27 = .ok (.iload_n 1, 1) := by decide +kernel
theorem dX11_layForms_28 : decode cX11_layForms 28 = .ok (.iconst 1, 1) := by decide +kernel
theorem dX11_layForms_29 : decode cX11_layForms 29 = .ok (.aload_n 0, 1) := by decide +kernel
theorem dX11_layForms_30 : decode cX11_layForms 30 = .ok (.invokevirtual 48, 3) := by decide +kernel
theorem dX11_layForms_33 : decode cX11_layForms 33 = .ok (.ishl, 1) := by decide +kernel
theorem dX11_layForms_34 : decode cX11_layForms 34 = .ok (.if_icmp .ge 47, 3) := by decide +kernel
theorem dX11_layForms_37 : decode cX11_layForms 37 = .ok (.aload_n 0, 1) := by decide +kernel
theorem dX11_layForms_38 : decode cX11_layForms 38 = .ok (.iload_n 1, 1) := by decide +kernel
theorem dX11_layForms_39 : decode cX11_layForms 39 = .ok (.invokevirtual 80, 3) := by decide +kernel
theorem dX11_layForms_42 : decode cX11_layForms 42 = .ok (.ifCond .eq 33, 3) := by decide +kernel
theorem dX11_layForms_45 : decode cX11_layForms 45 = .ok (.aload_n 0, 1) := by decide +kernel
theorem dX11_layForms_46 : decode cX11_layForms 46 = .ok (.getfield 77, 3) := by decide +kernel
theorem dX11_layForms_49 : decode cX11_layForms 49 = .ok (.sipush 400, 3) := by decide +kernel
theorem dX11_layForms_52 : decode cX11_layForms 52 = .ok (.if_icmp .ge 23, 3) := by decide +kernel
theorem dX11_layForms_55 : decode cX11_layForms 55 = .ok (.aload_n 0, 1) := by decide +kernel
theorem dX11_layForms_56 : decode cX11_layForms 56 = .ok (.getfield 22, 3) := by decide +kernel
theorem dX11_layForms_59 : decode cX11_layForms 59 = .ok (.aload_n 0, 1) := by decide +kernel
theorem dX11_layForms_60 : decode cX11_layForms 60 = .ok (.getfield 77, 3) := by decide +kernel
theorem dX11_layForms_63 : decode cX11_layForms 63 = .ok (.iload_n 1, 1) := by decide +kernel
theorem dX11_layForms_64 : decode cX11_layForms 64 = .ok (.iastore, 1) := by decide +kernel
theorem dX11_layForms_65 : decode cX11_layForms 65 = .ok (.aload_n 0, 1) := by decide +kernel
theorem dX11_layForms_66 : decode cX11_layForms 66 = .ok (.dup, 1) := by decide +kernel
theorem dX11_layForms_67 : decode cX11_layForms 67 = .ok (.getfield 77, 3) := by decide +kernel
theorem dX11_layForms_70 : decode cX11_layForms 70 = .ok (.iconst 1, 1) := by decide +kernel
theorem dX11_layForms_71 : decode cX11_layForms 71 = .ok (.iadd, 1) := by decide +kernel
theorem dX11_layForms_72 : decode cX11_layForms 72 = .ok (.putfield 77, 3) := by decide +kernel
theorem dX11_layForms_75 : decode cX11_layForms 75 = .ok (.iinc 1 1, 3) := by decide +kernel
theorem dX11_layForms_78 : decode cX11_layForms 78 = .ok (.goto (-51), 3) := by decide +kernel
theorem dX11_layForms_81 : decode cX11_layForms 81 = .ok (.return_, 1) := by decide +kernel
set_option maxRecDepth 20000 in
theorem ggX11_formsOf_X11_layForms : GoodIn wsX11_formsOf wsX11_layForms := goodIn_r _ [7, 8, 1, 2, 9, 10, 11, 6, 12, 13, 14, 15, 16, 17, 18, 19, 20, 21, 22, 23, 24, 25, 26, 27, 28, 32, 33, 34, 35, 36, 37, 38, 39, 40, 41, 42, 43, 44, 45, 46, 47, 48] (by decide +kernel) (by decide +kernel)
set_option maxRecDepth 20000 in
theorem gX11_formsOf_X11_layForms : GoodIn wsX11_formsOf (wsV RX11 84 RX11 yX11_layForms wsX11_layForms) := goodIn_app (goodIn_of _ (by decide +kernel)) ggX11_formsOf_X11_layForms
set_option maxRecDepth 20000 in
theorem ggX11_formsOf_X11_ones : GoodIn wsX11_formsOf wsX11_ones := goodIn_r _ [31] (by decide +kernel) (by decide +kernel)
set_option maxRecDepth 20000 in
theorem gX11_formsOf_X11_ones : GoodIn wsX11_formsOf (va_wsS RX11 67 yX11_ones wsX11_ones) := goodIn_app (goodIn_of _ (by decide +kernel)) ggX11_formsOf_X11_ones
theorem dX11_formsOf_0 : decode cX11_formsOf 0 = .ok (.aload_n 0, 1) := by decide +kernel
theorem dX11_formsOf_1 : decode cX11_formsOf 1 = .ok (.invokevirtual 84, 3) := by decide +kernel
theorem dX11_formsOf_4 : decode cX11_formsOf 4 = .ok (.iconst 0, 1) := by decide +kernel
theorem dX11_formsOf_5 : decode cX11_formsOf 5 = .ok (.istore_n 2, 1) := by decide +kernel
theorem dX11_formsOf_6 : decode cX11_formsOf 6 = .ok (.iconst 0, 1) := by decide +kernel
theorem dX11_formsOf_7 : decode cX11_formsOf 7 = .ok (.istore_n 3, 1) := by decide +kernel
theorem dX11_formsOf_8 : decode cX11_formsOf 8 = .ok (.iload_n 3, 1) := by decide +kernel
theorem dX11_formsOf_9 : decode cX11_formsOf 9 = .ok (.aload_n 0, 1) := by decide +kernel
theorem dX11_formsOf_10 : decode cX11_formsOf 10 = .ok (.getfield 77, 3) := by decide +kernel
theorem dX11_formsOf_13 : decode cX11_formsOf 13 = .ok (.if_icmp .ge 30, 3) := by decide +kernel
theorem dX11_formsOf_16 : decode cX11_formsOf 16 = .ok (.iload_n 2, 1) := by decide +kernel
theorem dX11_formsOf_17 : decode cX11_formsOf 17 = .ok (.aload_n 0, 1) := by decide +kernel
theorem dX11_formsOf_18 : decode cX11_formsOf 18 = .ok (.getfield 22, 3) := by decide +kernel
theorem dX11_formsOf_21 : decode cX11_formsOf 21 = .ok (.iload_n 3, 1) := by decide +kernel
theorem dX11_formsOf_22 : decode cX11_formsOf 22 = .ok (.iaload, 1) := by decide +kernel
theorem dX11_formsOf_23 : decode cX11_formsOf 23 = .ok (.invokestatic 67, 3) := by decide +kernel
theorem dX11_formsOf_26 : decode cX11_formsOf 26 = .ok (.iload_n 1, 1) := by decide +kernel
theorem dX11_formsOf_27 : decode cX11_formsOf 27 = .ok (.if_icmp .ne 7, 3) := by decide +kernel
theorem dX11_formsOf_30 : decode cX11_formsOf 30 = .ok (.iconst 1, 1) := by decide +kernel
theorem dX11_formsOf_31 : decode cX11_formsOf 31 = .ok (.goto 4, 3) := by decide +kernel
theorem dX11_formsOf_34 : decode cX11_formsOf 34 = .ok (.iconst 0, 1) := by decide +kernel
theorem dX11_formsOf_35 : decode cX11_formsOf 35 = .ok (.iadd, 1) := by decide +kernel
theorem dX11_formsOf_36 : decode cX11_formsOf 36 = .ok (.istore_n 2, 1) := by decide +kernel
theorem dX11_formsOf_37 : decode cX11_formsOf 37 = .ok (.iinc 3 1, 3) := by decide +kernel
theorem dX11_formsOf_40 : decode cX11_formsOf 40 = .ok (.goto (-32), 3) := by decide +kernel
theorem dX11_formsOf_43 : decode cX11_formsOf 43 = .ok (.iload_n 2, 1) := by decide +kernel
theorem dX11_formsOf_44 : decode cX11_formsOf 44 = .ok (.ireturn, 1) := by decide +kernel
set_option maxRecDepth 20000 in
theorem ggX11_formAtOf_X11_layForms : GoodIn wsX11_formAtOf wsX11_layForms := goodIn_r _ [7, 8, 1, 2, 9, 10, 11, 6, 12, 13, 14, 15, 16, 17, 18, 19, 20, 21, 22, 23, 24, 25, 26, 27, 28, 32, 33, 34, 35, 36, 37, 38, 39, 40, 41, 42, 43, 44, 45, 46, 47, 48] (by decide +kernel) (by decide +kernel)
set_option maxRecDepth 20000 in
theorem gX11_formAtOf_X11_layForms : GoodIn wsX11_formAtOf (wsV RX11 84 RX11 yX11_layForms wsX11_layForms) := goodIn_app (goodIn_of _ (by decide +kernel)) ggX11_formAtOf_X11_layForms
set_option maxRecDepth 20000 in
theorem ggX11_formAtOf_X11_ones : GoodIn wsX11_formAtOf wsX11_ones := goodIn_r _ [31] (by decide +kernel) (by decide +kernel)
set_option maxRecDepth 20000 in
theorem gX11_formAtOf_X11_ones : GoodIn wsX11_formAtOf (va_wsS RX11 67 yX11_ones wsX11_ones) := goodIn_app (goodIn_of _ (by decide +kernel)) ggX11_formAtOf_X11_ones
theorem dX11_formAtOf_0 : decode cX11_formAtOf 0 = .ok (.aload_n 0, 1) := by decide +kernel
theorem dX11_formAtOf_1 : decode cX11_formAtOf 1 = .ok (.invokevirtual 84, 3) := by decide +kernel
theorem dX11_formAtOf_4 : decode cX11_formAtOf 4 = .ok (.iconst 0, 1) := by decide +kernel
theorem dX11_formAtOf_5 : decode cX11_formAtOf 5 = .ok (.istore_n 3, 1) := by decide +kernel
theorem dX11_formAtOf_6 : decode cX11_formAtOf 6 = .ok (.iconst 0, 1) := by decide +kernel
theorem dX11_formAtOf_7 : decode cX11_formAtOf 7 = .ok (.istore 4, 2) := by decide +kernel
theorem dX11_formAtOf_9 : decode cX11_formAtOf 9 = .ok (.iload 4, 2) := by decide +kernel
theorem dX11_formAtOf_11 : decode cX11_formAtOf 11 = .ok (.aload_n 0, 1) := by decide +kernel
theorem dX11_formAtOf_12 : decode cX11_formAtOf 12 = .ok (.getfield 77, 3) := by decide +kernel
theorem dX11_formAtOf_15 : decode cX11_formAtOf 15 = .ok (.if_icmp .ge 39, 3) := by decide +kernel
theorem dX11_formAtOf_18 : decode cX11_formAtOf 18 = .ok (.aload_n 0, 1) := by decide +kernel
theorem dX11_formAtOf_19 : decode cX11_formAtOf 19 = .ok (.getfield 22, 3) := by decide +kernel
theorem dX11_formAtOf_22 : decode cX11_formAtOf 22 = .ok (.iload 4, 2) := by decide +kernel
theorem dX11_formAtOf_24 : decode cX11_formAtOf 24 = .ok (.iaload, 1) := by decide +kernel
theorem dX11_formAtOf_25 : decode cX11_formAtOf 25 = .ok (.invokestatic 67, 3) := by decide +kernel
theorem dX11_formAtOf_28 : decode cX11_formAtOf 28 = .ok (.iload_n 1, 1) := by decide +kernel
theorem dX11_formAtOf_29 : decode cX11_formAtOf 29 = .ok (.if_icmp .ne 19, 3) := by decide +kernel
theorem dX11_formAtOf_32 : decode cX11_formAtOf 32 = .ok (.iload_n 3, 1) := by decide +kernel
theorem dX11_formAtOf_33 : decode cX11_formAtOf 33 = .ok (.iload_n 2, 1) := by decide +kernel
theorem dX11_formAtOf_34 : decode cX11_formAtOf 34 = .ok (.if_icmp .ne 11, 3) := by decide +kernel
theorem dX11_formAtOf_37 : decode cX11_formAtOf 37 = .ok (.aload_n 0, 1) := by decide +kernel
theorem dX11_formAtOf_38 : decode cX11_formAtOf 38 = .ok (.getfield 22, 3) := by decide +kernel
theorem dX11_formAtOf_41 : decode cX11_formAtOf 41 = .ok (.iload 4, 2) := by decide +kernel
theorem dX11_formAtOf_43 : decode cX11_formAtOf 43 = .ok (.iaload, 1) := by decide +kernel
theorem dX11_formAtOf_44 : decode cX11_formAtOf 44 = .ok (.ireturn, 1) := by decide +kernel
theorem dX11_formAtOf_45 : decode cX11_formAtOf 45 = .ok (.iinc 3 1, 3) := by decide +kernel
theorem dX11_formAtOf_48 : decode cX11_formAtOf 48 = .ok (.iinc 4 1, 3) := by decide +kernel
theorem dX11_formAtOf_51 : decode cX11_formAtOf 51 = .ok (.goto (-42), 3) := by decide +kernel
theorem dX11_formAtOf_54 : decode cX11_formAtOf 54 = .ok (.iconst (-1), 1) := by decide +kernel
theorem dX11_formAtOf_55 : decode cX11_formAtOf 55 = .ok (.ireturn, 1) := by decide +kernel
set_option maxRecDepth 20000 in
theorem ggX11_twins_X11_layForms : GoodIn wsX11_twins wsX11_layForms := goodIn_r _ [7, 8, 1, 2, 9, 10, 11, 6, 12, 13, 14, 15, 16, 17, 18, 19, 20, 21, 22, 23, 24, 25, 26, 27, 28, 44, 45, 46, 47, 48, 49, 50, 51, 52, 53, 54, 55, 56, 57, 58, 59, 60] (by decide +kernel) (by decide +kernel)
set_option maxRecDepth 20000 in
theorem gX11_twins_X11_layForms : GoodIn wsX11_twins (wsV RX11 84 RX11 yX11_layForms wsX11_layForms) := goodIn_app (goodIn_of _ (by decide +kernel)) ggX11_twins_X11_layForms
set_option maxRecDepth 20000 in
theorem ggX11_twins_X11_areLike : GoodIn wsX11_twins wsX11_areLike := goodIn_r _ [32, 33, 34, 6, 35, 9, 10, 11, 12, 13, 36, 37, 38, 39, 26, 27, 28, 40, 41, 42, 43, 44, 45, 46, 47, 48, 49, 50, 51, 52, 53, 54, 55, 56, 57, 58, 59, 60] (by decide +kernel) (by decide +kernel)
set_option maxRecDepth 20000 in
theorem gX11_twins_X11_areLike : GoodIn wsX11_twins (wsV RX11 87 RX11 yX11_areLike wsX11_areLike) := goodIn_app (goodIn_of _ (by decide +kernel)) ggX11_twins_X11_areLike
theorem dX11_twins_0 : decode cX11_twins 0 = .ok (.aload_n 0, 1) := by decide +kernel
theorem dX11_twins_1 : decode cX11_twins 1 = .ok (.invokevirtual 84, 3) := by decide +kernel
theorem dX11_twins_4 : decode cX11_twins 4 = .ok (.iconst 0, 1) := by decide +kernel
theorem dX11_twins_5 : decode cX11_twins 5 = .ok (.istore_n 2, 1) := by decide +kernel
theorem dX11_twins_6 : decode cX11_twins 6 = .ok (.iconst 0, 1) := by decide +kernel
theorem dX11_twins_7 : decode cX11_twins 7 = .ok (.istore_n 3, 1) := by decide +kernel
theorem dX11_twins_8 : decode cX11_twins 8 = .ok (.iload_n 3, 1) := by decide +kernel
theorem dX11_twins_9 : decode cX11_twins 9 = .ok (.aload_n 0, 1) := by decide +kernel
theorem dX11_twins_10 : decode cX11_twins 10 = .ok (.getfield 77, 3) := by decide +kernel
theorem dX11_twins_13 : decode cX11_twins 13 = .ok (.if_icmp .ge 41, 3) := by decide +kernel
theorem dX11_twins_16 : decode cX11_twins 16 = .ok (.iload_n 2, 1) := by decide +kernel
theorem dX11_twins_17 : decode cX11_twins 17 = .ok (.aload_n 0, 1) := by decide +kernel
theorem dX11_twins_18 : decode cX11_twins 18 = .ok (.getfield 22, 3) := by decide +kernel
theorem dX11_twins_21 : decode cX11_twins 21 = .ok (.iload_n 3, 1) := by decide +kernel
theorem dX11_twins_22 : decode cX11_twins 22 = .ok (.iaload, 1) := by decide +kernel
theorem dX11_twins_23 : decode cX11_twins 23 = .ok (.iload_n 1, 1) := by decide +kernel
theorem dX11_twins_24 : decode cX11_twins 24 = .ok (.if_icmp .eq 21, 3) := by decide +kernel
theorem dX11_twins_27 : decode cX11_twins 27 = .ok (.aload_n 0, 1) := by decide +kernel
theorem dX11_twins_28 : decode cX11_twins 28 = .ok (.aload_n 0, 1) := by decide +kernel
theorem dX11_twins_29 : decode cX11_twins 29 = .ok (.getfield 22, 3) := by decide +kernel
theorem dX11_twins_32 : decode cX11_twins 32 = .ok (.iload_n 3, 1) := by decide +kernel
theorem dX11_twins_33 : decode cX11_twins 33 = .ok (.iaload, 1) := by decide +kernel
theorem dX11_twins_34 : decode cX11_twins 34 = .ok (.iload_n 1, 1) := by decide +kernel
theorem dX11_twins_35 : decode cX11_twins 35 = .ok (.invokevirtual 87, 3) := by decide +kernel
theorem dX11_twins_38 : decode cX11_twins 38 = .ok (.ifCond .eq 7, 3) := by decide +kernel
theorem dX11_twins_41 : decode cX11_twins 41 = .ok (.iconst 1, 1) := by decide +kernel
theorem dX11_twins_42 : decode cX11_twins 42 = .ok (.goto 4, 3) := by decide +kernel
theorem dX11_twins_45 : decode cX11_twins 45 = .ok (.iconst 0, 1) := by decide +kernel
theorem dX11_twins_46 : decode cX11_twins 46 = .ok (.iadd, 1) := by decide +kernel
theorem dX11_twins_47 : decode cX11_twins 47 = .ok (.istore_n 2, 1) := by decide +kernel
theorem dX11_twins_48 : decode cX11_twins 48 = .ok (.iinc 3 1, 3) := by decide +kernel
theorem dX11_twins_51 : decode cX11_twins 51 = .ok (.goto (-43), 3) := by decide +kernel
theorem dX11_twins_54 : decode cX11_twins 54 = .ok (.iload_n 2, 1) := by decide +kernel
theorem dX11_twins_55 : decode cX11_twins 55 = .ok (.ireturn, 1) := by decide +kernel
set_option maxRecDepth 20000 in
theorem ggX11_twinPairs_X11_layForms : GoodIn wsX11_twinPairs wsX11_layForms := goodIn_r _ [7, 8, 1, 2, 9, 10, 11, 6, 12, 13, 14, 15, 16, 17, 18, 19, 20, 21, 22, 23, 24, 25, 26, 27, 28, 48, 49, 50, 51, 52, 53, 54, 55, 56, 57, 58, 59, 60, 61, 62, 63, 64] (by decide +kernel) (by decide +kernel)
set_option maxRecDepth 20000 in
theorem gX11_twinPairs_X11_layForms : GoodIn wsX11_twinPairs (wsV RX11 84 RX11 yX11_layForms wsX11_layForms) := goodIn_app (goodIn_of _ (by decide +kernel)) ggX11_twinPairs_X11_layForms
set_option maxRecDepth 20000 in
theorem ggX11_twinPairs_X11_twins : GoodIn wsX11_twinPairs wsX11_twins := goodIn_r _ [32, 1, 2, 3, 4, 5, 6, 7, 8, 9, 10, 11, 12, 13, 14, 15, 16, 17, 18, 19, 20, 21, 22, 23, 24, 25, 26, 27, 28, 33, 34, 35, 36, 37, 38, 39, 40, 41, 42, 43, 44, 45, 46, 47, 48, 49, 50, 51, 52, 53, 54, 55, 56, 57, 58, 59, 60, 61, 62, 63, 64] (by decide +kernel) (by decide +kernel)
set_option maxRecDepth 20000 in
theorem gX11_twinPairs_X11_twins : GoodIn wsX11_twinPairs (wsV RX11 90 RX11 yX11_twins wsX11_twins) := goodIn_app (goodIn_of _ (by decide +kernel)) ggX11_twinPairs_X11_twins
theorem dX11_twinPairs_0 : decode cX11_twinPairs 0 = .ok (.aload_n 0, 1) := by decide +kernel
theorem dX11_twinPairs_1 : decode cX11_twinPairs 1 = .ok (.invokevirtual 84, 3) := by decide +kernel
theorem dX11_twinPairs_4 : decode cX11_twinPairs 4 = .ok (.iconst 0, 1) := by decide +kernel
theorem dX11_twinPairs_5 : decode cX11_twinPairs 5 = .ok (.istore_n 1, 1) := by decide +kernel
theorem dX11_twinPairs_6 : decode cX11_twinPairs 6 = .ok (.iconst 0, 1) := by decide +kernel
theorem dX11_twinPairs_7 : decode cX11_twinPairs 7 = .ok (.istore_n 2, 1) := by decide +kernel
theorem dX11_twinPairs_8 : decode cX11_twinPairs 8 = .ok (.iload_n 2, 1) := by decide +kernel
theorem dX11_twinPairs_9 : decode cX11_twinPairs 9 = .ok (.aload_n 0, 1) := by decide +kernel
theorem dX11_twinPairs_10 : decode cX11_twinPairs 10 = .ok (.getfield 77, 3) := by decide +kernel
theorem dX11_twinPairs_13 : decode cX11_twinPairs 13 = .ok (.if_icmp .ge 22, 3) := by decide +kernel
theorem dX11_twinPairs_16 : decode cX11_twinPairs 16 = .ok (.iload_n 1, 1) := by decide +kernel
theorem dX11_twinPairs_17 : decode cX11_twinPairs 17 = .ok (.aload_n 0, 1) := by decide +kernel
theorem dX11_twinPairs_18 : decode cX11_twinPairs 18 = .ok (.aload_n 0, 1) := by decide +kernel
theorem dX11_twinPairs_19 : decode cX11_twinPairs 19 = .ok (.getfield 22, 3) := by decide +kernel
theorem dX11_twinPairs_22 : decode cX11_twinPairs 22 = .ok (.iload_n 2, 1) := by decide +kernel
theorem dX11_twinPairs_23 : decode cX11_twinPairs 23 = .ok (.iaload, 1) := by decide +kernel
theorem dX11_twinPairs_24 : decode cX11_twinPairs 24 = .ok (.invokevirtual 90, 3) := by decide +kernel
theorem dX11_twinPairs_27 : decode cX11_twinPairs 27 = .ok (.iadd, 1) := by decide +kernel
theorem dX11_twinPairs_28 : decode cX11_twinPairs 28 = .ok (.istore_n 1, 1) := by decide +kernel
theorem dX11_twinPairs_29 : decode cX11_twinPairs 29 = .ok (.iinc 2 1, 3) := by decide +kernel
theorem dX11_twinPairs_32 : decode cX11_twinPairs 32 = .ok (.goto (-24), 3) := by decide +kernel
theorem dX11_twinPairs_35 : decode cX11_twinPairs 35 = .ok (.iload_n 1, 1) := by decide +kernel
theorem dX11_twinPairs_36 : decode cX11_twinPairs 36 = .ok (.iconst 2, 1) := by decide +kernel
theorem dX11_twinPairs_37 : decode cX11_twinPairs 37 = .ok (.idiv, 1) := by decide +kernel
theorem dX11_twinPairs_38 : decode cX11_twinPairs 38 = .ok (.ireturn, 1) := by decide +kernel
set_option maxRecDepth 20000 in
theorem ggX11_numberOf_X11_ones : GoodIn wsX11_numberOf wsX11_ones := goodIn_r _ [4] (by decide +kernel) (by decide +kernel)
set_option maxRecDepth 20000 in
theorem gX11_numberOf_X11_ones : GoodIn wsX11_numberOf (va_wsS RX11 67 yX11_ones wsX11_ones) := goodIn_app (goodIn_of _ (by decide +kernel)) ggX11_numberOf_X11_ones
set_option maxRecDepth 20000 in
theorem ggX11_numberOf_X11_formAtOf : GoodIn wsX11_numberOf wsX11_formAtOf := goodIn_r _ [8, 9, 10, 11, 12, 13, 3, 14, 15, 16, 17, 18, 19, 20, 21, 22, 23, 24, 25, 26, 27, 28, 29, 30, 31, 32, 33, 34, 35, 1, 2, 4, 36, 37, 38, 39, 40, 41, 42, 43, 44, 45, 46, 47, 48, 49, 50, 51, 52] (by decide +kernel) (by decide +kernel)
set_option maxRecDepth 20000 in
theorem gX11_numberOf_X11_formAtOf : GoodIn wsX11_numberOf (wsV RX11 93 RX11 yX11_formAtOf wsX11_formAtOf) := goodIn_app (goodIn_of _ (by decide +kernel)) ggX11_numberOf_X11_formAtOf
theorem dX11_numberOf_0 : decode cX11_numberOf 0 = .ok (.iload_n 1, 1) := by decide +kernel
theorem dX11_numberOf_1 : decode cX11_numberOf 1 = .ok (.invokestatic 67, 3) := by decide +kernel
theorem dX11_numberOf_4 : decode cX11_numberOf 4 = .ok (.istore_n 2, 1) := by decide +kernel
theorem dX11_numberOf_5 : decode cX11_numberOf 5 = .ok (.iconst 0, 1) := by decide +kernel
theorem dX11_numberOf_6 : decode cX11_numberOf 6 = .ok (.istore_n 3, 1) := by decide +kernel
theorem dX11_numberOf_7 : decode cX11_numberOf 7 = .ok (.aload_n 0, 1) := by decide +kernel
theorem dX11_numberOf_8 : decode cX11_numberOf 8 = .ok (.iload_n 2, 1) := by decide +kernel
theorem dX11_numberOf_9 : decode cX11_numberOf 9 = .ok (.iload_n 3, 1) := by decide +kernel
theorem dX11_numberOf_10 : decode cX11_numberOf 10 = .ok (.invokevirtual 93, 3) := by decide +kernel
theorem dX11_numberOf_13 : decode cX11_numberOf 13 = .ok (.iload_n 1, 1) := by decide +kernel
theorem dX11_numberOf_14 : decode cX11_numberOf 14 = .ok (.if_icmp .eq 9, 3) := by decide +kernel
theorem dX11_numberOf_17 : decode cX11_numberOf 17 = .ok (.iinc 3 1, 3) := by decide +kernel
theorem dX11_numberOf_20 : decode cX11_numberOf 20 = .ok (.goto (-13), 3) := by decide +kernel
theorem dX11_numberOf_23 : decode cX11_numberOf 23 = .ok (.iload_n 3, 1) := by decide +kernel
theorem dX11_numberOf_24 : decode cX11_numberOf 24 = .ok (.ireturn, 1) := by decide +kernel
set_option maxRecDepth 20000 in
theorem ggX11_wayDown_X11_m : GoodIn wsX11_wayDown wsX11_m := goodIn_r _ [7, 8, 21, 22, 23, 24, 25, 26, 27, 28, 29, 30, 31, 32, 33, 34, 35, 36, 37] (by decide +kernel) (by decide +kernel)
set_option maxRecDepth 20000 in
theorem gX11_wayDown_X11_m : GoodIn wsX11_wayDown (wsV RX11 48 RX11 yX11_m wsX11_m) := goodIn_app (goodIn_of _ (by decide +kernel)) ggX11_wayDown_X11_m
set_option maxRecDepth 20000 in
theorem ggX11_wayDown_X11_has : GoodIn wsX11_wayDown wsX11_has := goodIn_r _ [11] (by decide +kernel) (by decide +kernel)
set_option maxRecDepth 20000 in
theorem gX11_wayDown_X11_has : GoodIn wsX11_wayDown (va_wsS RX11 52 yX11_has wsX11_has) := goodIn_app (goodIn_of _ (by decide +kernel)) ggX11_wayDown_X11_has
set_option maxRecDepth 20000 in
theorem ggX11_wayDown_X11_wayOn : GoodIn wsX11_wayDown wsX11_wayOn := goodIn_r _ [15, 16, 2, 1, 3, 4, 5, 6, 7, 8, 17, 18, 19, 20, 9, 10, 11, 21, 22, 23, 24, 25, 26, 27, 28, 29, 30, 31, 32, 33, 34, 35, 36, 37] (by decide +kernel) (by decide +kernel)
set_option maxRecDepth 20000 in
theorem gX11_wayDown_X11_wayOn : GoodIn wsX11_wayDown (wsV RX11 97 RX11 yX11_wayOn wsX11_wayOn) := goodIn_app (goodIn_of _ (by decide +kernel)) ggX11_wayDown_X11_wayOn
theorem dX11_wayDown_0 : decode cX11_wayDown 0 = .ok (.iconst 0, 1) := by decide +kernel
theorem dX11_wayDown_1 : decode cX11_wayDown 1 = .ok (.istore_n 3, 1) := by decide +kernel
theorem dX11_wayDown_2 : decode cX11_wayDown 2 = .ok (.iload_n 3, 1) := by decide +kernel
theorem dX11_wayDown_3 : decode cX11_wayDown 3 = .ok (.iconst 1, 1) := by decide +kernel
theorem dX11_wayDown_4 : decode cX11_wayDown 4 = .ok (.aload_n 0, 1) := by decide +kernel
theorem dX11_wayDown_5 : decode cX11_wayDown 5 = .ok (.invokevirtual 48, 3) := by decide +kernel
theorem dX11_wayDown_8 : decode cX11_wayDown 8 = .ok (.ishl, 1) := by decide +kernel
theorem dX11_wayDown_9 : decode cX11_wayDown 9 = .ok (.if_icmp .ge 25, 3) := by decide +kernel
theorem dX11_wayDown_12 : decode cX11_wayDown 12 = .ok (.aload_n 0, 1) := by decide +kernel
theorem dX11_wayDown_13 : decode cX11_wayDown 13 = .ok (.getfield 25, 3) := by decide +kernel
theorem dX11_wayDown_16 : decode cX11_wayDown 16 = .ok (.iload_n 3, 1) := by decide +kernel
theorem dX11_wayDown_17 : decode cX11_wayDown 17 = .ok (.iload_n 3, 1) := by decide +kernel
theorem dX11_wayDown_18 : decode cX11_wayDown 18 = .ok (.ifCond .ne 7, 3) := by decide +kernel
theorem dX11_wayDown_21 : decode cX11_wayDown 21 = .ok (.iconst 0, 1) := by decide +kernel
theorem dX11_wayDown_22 : decode cX11_wayDown 22 = .ok (.goto 5, 3) := by decide +kernel
theorem dX11_wayDown_25 : decode cX11_wayDown 25 = .ok (.ldc 96, 2) := by decide +kernel
theorem dX11_wayDown_27 : decode cX11_wayDown 27 = .ok (.iastore, 1) := by decide +kernel
theorem dX11_wayDown_28 : decode cX11_wayDown 28 = .ok (.iinc 3 1, 3) := by decide +kernel
theorem dX11_wayDown_31 : decode cX11_wayDown 31 = .ok (.goto (-29), 3) := by decide +kernel
theorem dX11_wayDown_34 : decode cX11_wayDown 34 = .ok (.iconst 0, 1) := by decide +kernel
theorem dX11_wayDown_35 : decode cX11_wayDown 35 = .ok (.istore_n 3, 1) := by decide +kernel
theorem dX11_wayDown_36 : decode cX11_wayDown 36 = .ok (.iload_n 3, 1) := by decide +kernel
theorem dX11_wayDown_37 : decode cX11_wayDown 37 = .ok (.aload_n 0, 1) := by decide +kernel
theorem dX11_wayDown_38 : decode cX11_wayDown 38 = .ok (.invokevirtual 48, 3) := by decide +kernel
theorem dX11_wayDown_41 : decode cX11_wayDown 41 = .ok (.if_icmp .ge 23, 3) := by decide +kernel
theorem dX11_wayDown_44 : decode cX11_wayDown 44 = .ok (.iload_n 1, 1) := by decide +kernel
theorem dX11_wayDown_45 : decode cX11_wayDown 45 = .ok (.iload_n 3, 1) := by decide +kernel
theorem dX11_wayDown_46 : decode cX11_wayDown 46 = .ok (.invokestatic 52, 3) := by decide +kernel
theorem dX11_wayDown_49 : decode cX11_wayDown 49 = .ok (.ifCond .eq 9, 3) := by decide +kernel
theorem dX11_wayDown_52 : decode cX11_wayDown 52 = .ok (.aload_n 0, 1) := by decide +kernel
theorem dX11_wayDown_53 : decode cX11_wayDown 53 = .ok (.iload_n 3, 1) := by decide +kernel
theorem dX11_wayDown_54 : decode cX11_wayDown 54 = .ok (.iload_n 2, 1) := by decide +kernel
theorem dX11_wayDown_55 : decode cX11_wayDown 55 = .ok (.invokevirtual 97, 3) := by decide +kernel
theorem dX11_wayDown_58 : decode cX11_wayDown 58 = .ok (.iinc 3 1, 3) := by decide +kernel
theorem dX11_wayDown_61 : decode cX11_wayDown 61 = .ok (.goto (-25), 3) := by decide +kernel
theorem dX11_wayDown_64 : decode cX11_wayDown 64 = .ok (.aload_n 0, 1) := by decide +kernel
theorem dX11_wayDown_65 : decode cX11_wayDown 65 = .ok (.getfield 25, 3) := by decide +kernel
theorem dX11_wayDown_68 : decode cX11_wayDown 68 = .ok (.iload_n 2, 1) := by decide +kernel
theorem dX11_wayDown_69 : decode cX11_wayDown 69 = .ok (.iaload, 1) := by decide +kernel
theorem dX11_wayDown_70 : decode cX11_wayDown 70 = .ok (.ireturn, 1) := by decide +kernel
set_option maxRecDepth 20000 in
theorem ggX11_wayOn_X11_m : GoodIn wsX11_wayOn wsX11_m := goodIn_r _ [8, 9, 17, 18, 19, 20, 21, 22, 23, 24, 25, 26, 27, 28, 29, 30, 31, 32, 33] (by decide +kernel) (by decide +kernel)
set_option maxRecDepth 20000 in
theorem gX11_wayOn_X11_m : GoodIn wsX11_wayOn (wsV RX11 48 RX11 yX11_m wsX11_m) := goodIn_app (goodIn_of _ (by decide +kernel)) ggX11_wayOn_X11_m
set_option maxRecDepth 20000 in
theorem ggX11_wayOn_X11_apart : GoodIn wsX11_wayOn wsX11_apart := goodIn_r _ [13, 4, 5, 6, 7, 8, 9, 17, 18, 19, 20, 21, 22, 23, 24, 25, 26, 27, 28, 29, 30, 31, 32, 33] (by decide +kernel) (by decide +kernel)
set_option maxRecDepth 20000 in
theorem gX11_wayOn_X11_apart : GoodIn wsX11_wayOn (wsV RX11 64 RX11 yX11_apart wsX11_apart) := goodIn_app (goodIn_of _ (by decide +kernel)) ggX11_wayOn_X11_apart
set_option maxRecDepth 20000 in
theorem ggX11_wayOn_X11_has : GoodIn wsX11_wayOn wsX11_has := goodIn_r _ [16] (by decide +kernel) (by decide +kernel)
set_option maxRecDepth 20000 in
theorem gX11_wayOn_X11_has : GoodIn wsX11_wayOn (va_wsS RX11 52 yX11_has wsX11_has) := goodIn_app (goodIn_of _ (by decide +kernel)) ggX11_wayOn_X11_has
theorem dX11_wayOn_0 : decode cX11_wayOn 0 = .ok (.iconst 0, 1) := by decide +kernel
theorem dX11_wayOn_1 : decode cX11_wayOn 1 = .ok (.istore_n 3, 1) := by decide +kernel
theorem dX11_wayOn_2 : decode cX11_wayOn 2 = .ok (.iload_n 3, 1) := by decide +kernel
theorem dX11_wayOn_3 : decode cX11_wayOn 3 = .ok (.iconst 1, 1) := by decide +kernel
theorem dX11_wayOn_4 : decode cX11_wayOn 4 = .ok (.aload_n 0, 1) := by decide +kernel
theorem dX11_wayOn_5 : decode cX11_wayOn 5 = .ok (.invokevirtual 48, 3) := by decide +kernel
theorem dX11_wayOn_8 : decode cX11_wayOn 8 = .ok (.ishl, 1) := by decide +kernel
theorem dX11_wayOn_9 : decode cX11_wayOn 9 = .ok (.if_icmp .ge 17, 3) := by decide +kernel
theorem dX11_wayOn_12 : decode cX11_wayOn 12 = .ok (.aload_n 0, 1) := by decide +kernel
theorem dX11_wayOn_13 : decode cX11_wayOn 13 = .ok (.getfield 28, 3) := by decide +kernel
theorem dX11_wayOn_16 : decode cX11_wayOn 16 = .ok (.iload_n 3, 1) := by decide +kernel
theorem dX11_wayOn_17 : decode cX11_wayOn 17 = .ok (.ldc 96, 2) := by decide +kernel
theorem dX11_wayOn_19 : decode cX11_wayOn 19 = .ok (.iastore, 1) := by decide +kernel
theorem dX11_wayOn_20 : decode cX11_wayOn 20 = .ok (.iinc 3 1, 3) := by decide +kernel
theorem dX11_wayOn_23 : decode cX11_wayOn 23 = .ok (.goto (-21), 3) := by decide +kernel
theorem dX11_wayOn_26 : decode cX11_wayOn 26 = .ok (.iconst 0, 1) := by decide +kernel
theorem dX11_wayOn_27 : decode cX11_wayOn 27 = .ok (.istore_n 3, 1) := by decide +kernel
theorem dX11_wayOn_28 : decode cX11_wayOn 28 = .ok (.iload_n 3, 1) := by decide +kernel
theorem dX11_wayOn_29 : decode cX11_wayOn 29 = .ok (.iconst 1, 1) := by decide +kernel
theorem dX11_wayOn_30 : decode cX11_wayOn 30 = .ok (.aload_n 0, 1) := by decide +kernel
theorem dX11_wayOn_31 : decode cX11_wayOn 31 = .ok (.invokevirtual 48, 3) := by decide +kernel
theorem dX11_wayOn_34 : decode cX11_wayOn 34 = .ok (.ishl, 1) := by decide +kernel
theorem dX11_wayOn_35 : decode cX11_wayOn 35 = .ok (.if_icmp .ge 102, 3) := by decide +kernel
theorem dX11_wayOn_38 : decode cX11_wayOn 38 = .ok (.iconst 0, 1) := by decide +kernel
theorem dX11_wayOn_39 : decode cX11_wayOn 39 = .ok (.istore 4, 2) := by decide +kernel
theorem dX11_wayOn_41 : decode cX11_wayOn 41 = .ok (.iload 4, 2) := by decide +kernel
theorem dX11_wayOn_43 : decode cX11_wayOn 43 = .ok (.aload_n 0, 1) := by decide +kernel
theorem dX11_wayOn_44 : decode cX11_wayOn 44 = .ok (.invokevirtual 48, 3) := by decide +kernel
theorem dX11_wayOn_47 : decode cX11_wayOn 47 = .ok (.if_icmp .ge 84, 3) := by decide +kernel
theorem dX11_wayOn_50 : decode cX11_wayOn 50 = .ok (.aload_n 0, 1) := by decide +kernel
theorem dX11_wayOn_51 : decode cX11_wayOn 51 = .ok (.getfield 25, 3) := by decide +kernel
theorem dX11_wayOn_54 : decode cX11_wayOn 54 = .ok (.iload_n 3, 1) := by decide +kernel
theorem dX11_wayOn_55 : decode cX11_wayOn 55 = .ok (.iaload, 1) := by decide +kernel
theorem dX11_wayOn_56 : decode cX11_wayOn 56 = .ok (.ldc 96, 2) := by decide +kernel
theorem dX11_wayOn_58 : decode cX11_wayOn 58 = .ok (.if_icmp .ge 73, 3) := by decide +kernel
theorem dX11_wayOn_61 : decode cX11_wayOn 61 = .ok (.iload_n 3, 1) := by decide +kernel
theorem dX11_wayOn_62 : decode cX11_wayOn 62 = .ok (.iconst 1, 1) := by decide +kernel
theorem dX11_wayOn_63 : decode cX11_wayOn 63 = .ok (.iload 4, 2) := by decide +kernel
theorem dX11_wayOn_65 : decode cX11_wayOn 65 = .ok (.ishl, 1) := by decide +kernel
theorem dX11_wayOn_66 : decode cX11_wayOn 66 = .ok (.ior, 1) := by decide +kernel
theorem dX11_wayOn_67 : decode cX11_wayOn 67 = .ok (.istore 5, 2) := by decide +kernel
theorem dX11_wayOn_69 : decode cX11_wayOn 69 = .ok (.aload_n 0, 1) := by decide +kernel
theorem dX11_wayOn_70 : decode cX11_wayOn 70 = .ok (.getfield 25, 3) := by decide +kernel
theorem dX11_wayOn_73 : decode cX11_wayOn 73 = .ok (.iload_n 3, 1) := by decide +kernel
theorem dX11_wayOn_74 : decode cX11_wayOn 74 = .ok (.iaload, 1) := by decide +kernel
theorem dX11_wayOn_75 : decode cX11_wayOn 75 = .ok (.aload_n 0, 1) := by decide +kernel
theorem dX11_wayOn_76 : decode cX11_wayOn 76 = .ok (.iload_n 1, 1) := by decide +kernel
theorem dX11_wayOn_77 : decode cX11_wayOn 77 = .ok (.iload 4, 2) := by decide +kernel
theorem dX11_wayOn_79 : decode cX11_wayOn 79 = .ok (.invokevirtual 64, 3) := by decide +kernel
theorem dX11_wayOn_82 : decode cX11_wayOn 82 = .ok (.iadd, 1) := by decide +kernel
theorem dX11_wayOn_83 : decode cX11_wayOn 83 = .ok (.istore 6, 2) := by decide +kernel
theorem dX11_wayOn_85 : decode cX11_wayOn 85 = .ok (.aload_n 0, 1) := by decide +kernel
theorem dX11_wayOn_86 : decode cX11_wayOn 86 = .ok (.getfield 28, 3) := by decide +kernel
theorem dX11_wayOn_89 : decode cX11_wayOn 89 = .ok (.iload 5, 2) := by decide +kernel
theorem dX11_wayOn_91 : decode cX11_wayOn 91 = .ok (.iload_n 2, 1) := by decide +kernel
theorem dX11_wayOn_92 : decode cX11_wayOn 92 = .ok (.iload 4, 2) := by decide +kernel
theorem dX11_wayOn_94 : decode cX11_wayOn 94 = .ok (.invokestatic 52, 3) := by decide +kernel
theorem dX11_wayOn_97 : decode cX11_wayOn 97 = .ok (.ifCond .eq 20, 3) := by decide +kernel
theorem dX11_wayOn_100 : decode cX11_wayOn 100 = .ok (.iload 6, 2) := by decide +kernel
theorem dX11_wayOn_102 : decode cX11_wayOn 102 = .ok (.aload_n 0, 1) := by decide +kernel
theorem dX11_wayOn_103 : decode cX11_wayOn 103 = .ok (.getfield 28, 3) := by decide +kernel
theorem dX11_wayOn_106 : decode cX11_wayOn 106 = .ok (.iload 5, 2) := by decide +kernel
theorem dX11_wayOn_108 : decode cX11_wayOn 108 = .ok (.iaload, 1) := by decide +kernel
theorem dX11_wayOn_109 : decode cX11_wayOn 109 = .ok (.if_icmp .ge 8, 3) := by decide +kernel
theorem dX11_wayOn_112 : decode cX11_wayOn 112 = .ok (.iload 6, 2) := by decide +kernel
theorem dX11_wayOn_114 : decode cX11_wayOn 114 = .ok (.goto 10, 3) := by decide +kernel
theorem dX11_wayOn_117 : decode cX11_wayOn 117 = .ok (.aload_n 0, 1) := by decide +kernel
theorem dX11_wayOn_118 : decode cX11_wayOn 118 = .ok (.getfield 28, 3) := by decide +kernel
theorem dX11_wayOn_121 : decode cX11_wayOn 121 = .ok (.iload 5, 2) := by decide +kernel
theorem dX11_wayOn_123 : decode cX11_wayOn 123 = .ok (.iaload, 1) := by decide +kernel
theorem dX11_wayOn_124 : decode cX11_wayOn 124 = .ok (.iastore, 1) := by decide +kernel
theorem dX11_wayOn_125 : decode cX11_wayOn 125 = .ok (.iinc 4 1, 3) := by decide +kernel
theorem dX11_wayOn_128 : decode cX11_wayOn 128 = .ok (.goto (-87), 3) := by decide +kernel
theorem dX11_wayOn_131 : decode cX11_wayOn 131 = .ok (.iinc 3 1, 3) := by decide +kernel
theorem dX11_wayOn_134 : decode cX11_wayOn 134 = .ok (.goto (-106), 3) := by decide +kernel
theorem dX11_wayOn_137 : decode cX11_wayOn 137 = .ok (.iconst 0, 1) := by decide +kernel
theorem dX11_wayOn_138 : decode cX11_wayOn 138 = .ok (.istore_n 3, 1) := by decide +kernel
theorem dX11_wayOn_139 : decode cX11_wayOn 139 = .ok (.iload_n 3, 1) := by decide +kernel
theorem dX11_wayOn_140 : decode cX11_wayOn 140 = .ok (.iconst 1, 1) := by decide +kernel
theorem dX11_wayOn_141 : decode cX11_wayOn 141 = .ok (.aload_n 0, 1) := by decide +kernel
theorem dX11_wayOn_142 : decode cX11_wayOn 142 = .ok (.invokevirtual 48, 3) := by decide +kernel
theorem dX11_wayOn_145 : decode cX11_wayOn 145 = .ok (.ishl, 1) := by decide +kernel
theorem dX11_wayOn_146 : decode cX11_wayOn 146 = .ok (.if_icmp .ge 21, 3) := by decide +kernel
theorem dX11_wayOn_149 : decode cX11_wayOn 149 = .ok (.aload_n 0, 1) := by decide +kernel
theorem dX11_wayOn_150 : decode cX11_wayOn 150 = .ok (.getfield 25, 3) := by decide +kernel
theorem dX11_wayOn_153 : decode cX11_wayOn 153 = .ok (.iload_n 3, 1) := by decide +kernel
theorem dX11_wayOn_154 : decode cX11_wayOn 154 = .ok (.aload_n 0, 1) := by decide +kernel
theorem dX11_wayOn_155 : decode cX11_wayOn 155 = .ok (.getfield 28, 3) := by decide +kernel
theorem dX11_wayOn_158 : decode cX11_wayOn 158 = .ok (.iload_n 3, 1) := by decide +kernel
theorem dX11_wayOn_159 : decode cX11_wayOn 159 = .ok (.iaload, 1) := by decide +kernel
theorem dX11_wayOn_160 : decode cX11_wayOn 160 = .ok (.iastore, 1) := by decide +kernel
theorem dX11_wayOn_161 : decode cX11_wayOn 161 = .ok (.iinc 3 1, 3) := by decide +kernel
theorem dX11_wayOn_164 : decode cX11_wayOn 164 = .ok (.goto (-25), 3) := by decide +kernel
theorem dX11_wayOn_167 : decode cX11_wayOn 167 = .ok (.return_, 1) := by decide +kernel
set_option maxRecDepth 20000 in
theorem ggX11_wayOf_X11_ones : GoodIn wsX11_wayOf wsX11_ones := goodIn_r _ [4] (by decide +kernel) (by decide +kernel)
set_option maxRecDepth 20000 in
theorem gX11_wayOf_X11_ones : GoodIn wsX11_wayOf (va_wsS RX11 67 yX11_ones wsX11_ones) := goodIn_app (goodIn_of _ (by decide +kernel)) ggX11_wayOf_X11_ones
set_option maxRecDepth 20000 in
theorem ggX11_wayOf_X11_wayDown : GoodIn wsX11_wayOf wsX11_wayDown := goodIn_r _ [8, 9, 10, 11, 12, 13, 3, 14, 15, 16, 17, 18, 19, 20, 21, 22, 23, 24, 25, 26, 27, 28, 29, 30, 31, 32, 33, 34, 35, 36, 37, 38, 39, 40, 41, 42, 43, 44] (by decide +kernel) (by decide +kernel)
set_option maxRecDepth 20000 in
theorem gX11_wayOf_X11_wayDown : GoodIn wsX11_wayOf (wsV RX11 100 RX11 yX11_wayDown wsX11_wayDown) := goodIn_app (goodIn_of _ (by decide +kernel)) ggX11_wayOf_X11_wayDown
theorem dX11_wayOf_0 : decode cX11_wayOf 0 = .ok (.iload_n 1, 1) := by decide +kernel
theorem dX11_wayOf_1 : decode cX11_wayOf 1 = .ok (.invokestatic 67, 3) := by decide +kernel
theorem dX11_wayOf_4 : decode cX11_wayOf 4 = .ok (.iload_n 2, 1) := by decide +kernel
theorem dX11_wayOf_5 : decode cX11_wayOf 5 = .ok (.invokestatic 67, 3) := by decide +kernel
theorem dX11_wayOf_8 : decode cX11_wayOf 8 = .ok (.if_icmp .lt 12, 3) := by decide +kernel
theorem dX11_wayOf_11 : decode cX11_wayOf 11 = .ok (.aload_n 0, 1) := by decide +kernel
theorem dX11_wayOf_12 : decode cX11_wayOf 12 = .ok (.iload_n 1, 1) := by decide +kernel
theorem dX11_wayOf_13 : decode cX11_wayOf 13 = .ok (.iload_n 2, 1) := by decide +kernel
theorem dX11_wayOf_14 : decode cX11_wayOf 14 = .ok (.invokevirtual 100, 3) := by decide +kernel
theorem dX11_wayOf_17 : decode cX11_wayOf 17 = .ok (.goto 9, 3) := by decide +kernel
theorem dX11_wayOf_20 : decode cX11_wayOf 20 = .ok (.aload_n 0, 1) := by decide +kernel
theorem dX11_wayOf_21 : decode cX11_wayOf 21 = .ok (.iload_n 2, 1) := by decide +kernel
theorem dX11_wayOf_22 : decode cX11_wayOf 22 = .ok (.iload_n 1, 1) := by decide +kernel
theorem dX11_wayOf_23 : decode cX11_wayOf 23 = .ok (.invokevirtual 100, 3) := by decide +kernel
theorem dX11_wayOf_26 : decode cX11_wayOf 26 = .ok (.ireturn, 1) := by decide +kernel
set_option maxRecDepth 20000 in
theorem ggX11_nearestOf_X11_m : GoodIn wsX11_nearestOf wsX11_m := goodIn_r _ [6, 7, 40, 41, 42, 43, 44, 45, 46, 47, 48, 49, 50, 51, 52, 53, 54, 55, 56] (by decide +kernel) (by decide +kernel)
set_option maxRecDepth 20000 in
theorem gX11_nearestOf_X11_m : GoodIn wsX11_nearestOf (wsV RX11 48 RX11 yX11_m wsX11_m) := goodIn_app (goodIn_of _ (by decide +kernel)) ggX11_nearestOf_X11_m
set_option maxRecDepth 20000 in
theorem ggX11_nearestOf_X11_imageOf : GoodIn wsX11_nearestOf wsX11_imageOf := goodIn_r _ [11, 2, 3, 4, 5, 6, 7, 12, 13, 14, 15, 16, 17, 18, 40, 41, 42, 43, 44, 45, 46, 47, 48, 49, 50, 51, 52, 53, 54, 55, 56] (by decide +kernel) (by decide +kernel)
set_option maxRecDepth 20000 in
theorem gX11_nearestOf_X11_imageOf : GoodIn wsX11_nearestOf (wsV RX11 60 RX11 yX11_imageOf wsX11_imageOf) := goodIn_app (goodIn_of _ (by decide +kernel)) ggX11_nearestOf_X11_imageOf
set_option maxRecDepth 20000 in
theorem ggX11_nearestOf_X11_wayOf : GoodIn wsX11_nearestOf wsX11_wayOf := goodIn_r _ [22, 23, 24, 5, 25, 26, 27, 28, 29, 30, 1, 2, 3, 4, 6, 7, 16, 17, 18, 31, 32, 33, 34, 35, 36, 37, 38, 39, 40, 41, 42, 43, 44, 45, 46, 47, 48, 49, 50, 51, 52, 53, 54, 55, 56] (by decide +kernel) (by decide +kernel)
set_option maxRecDepth 20000 in
theorem gX11_nearestOf_X11_wayOf : GoodIn wsX11_nearestOf (wsV RX11 103 RX11 yX11_wayOf wsX11_wayOf) := goodIn_app (goodIn_of _ (by decide +kernel)) ggX11_nearestOf_X11_wayOf
theorem dX11_nearestOf_0 : decode cX11_nearestOf 0 = .ok (.iconst 0, 1) := by decide +kernel
theorem dX11_nearestOf_1 : decode cX11_nearestOf 1 = .ok (.istore_n 3, 1) := by decide +kernel
theorem dX11_nearestOf_2 : decode cX11_nearestOf 2 = .ok (.ldc 96, 2) := by decide +kernel
theorem dX11_nearestOf_4 : decode cX11_nearestOf 4 = .ok (.istore 4, 2) := by decide +kernel
theorem dX11_nearestOf_6 : decode cX11_nearestOf 6 = .ok (.iconst 0, 1) := by decide +kernel
theorem dX11_nearestOf_7 : decode cX11_nearestOf 7 = .ok (.istore 5, 2) := by decide +kernel
theorem dX11_nearestOf_9 : decode cX11_nearestOf 9 = .ok (.iload 5, 2) := by decide +kernel
theorem dX11_nearestOf_11 : decode cX11_nearestOf 11 = .ok (.iconst 2, 1) := by decide +kernel
theorem dX11_nearestOf_12 : decode cX11_nearestOf 12 = .ok (.aload_n 0, 1) := by decide +kernel
theorem dX11_nearestOf_13 : decode cX11_nearestOf 13 = .ok (.invokevirtual 48, 3) := by decide +kernel
theorem dX11_nearestOf_16 : decode cX11_nearestOf 16 = .ok (.imul, 1) := by decide +kernel
theorem dX11_nearestOf_17 : decode cX11_nearestOf 17 = .ok (.if_icmp .ge 53, 3) := by decide +kernel
theorem dX11_nearestOf_20 : decode cX11_nearestOf 20 = .ok (.aload_n 0, 1) := by decide +kernel
theorem dX11_nearestOf_21 : decode cX11_nearestOf 21 = .ok (.iload_n 1, 1) := by decide +kernel
theorem dX11_nearestOf_22 : decode cX11_nearestOf 22 = .ok (.aload_n 0, 1) := by decide +kernel
theorem dX11_nearestOf_23 : decode cX11_nearestOf 23 = .ok (.iload_n 2, 1) := by decide +kernel
theorem dX11_nearestOf_24 : decode cX11_nearestOf 24 = .ok (.iload 5, 2) := by decide +kernel
theorem dX11_nearestOf_26 : decode cX11_nearestOf 26 = .ok (.invokevirtual 60, 3) := by decide +kernel
theorem dX11_nearestOf_29 : decode cX11_nearestOf 29 = .ok (.invokevirtual 103, 3) := by decide +kernel
theorem dX11_nearestOf_32 : decode cX11_nearestOf 32 = .ok (.istore 6, 2) := by decide +kernel
theorem dX11_nearestOf_34 : decode cX11_nearestOf 34 = .ok (.iload 6, 2) := by decide +kernel
theorem dX11_nearestOf_36 : decode cX11_nearestOf 36 = .ok (.iload 4, 2) := by decide +kernel
theorem dX11_nearestOf_38 : decode cX11_nearestOf 38 = .ok (.if_icmp .ge 8, 3) := by decide +kernel
theorem dX11_nearestOf_41 : decode cX11_nearestOf 41 = .ok (.iload 5, 2) := by decide +kernel
theorem dX11_nearestOf_43 : decode cX11_nearestOf 43 = .ok (.goto 4, 3) := by decide +kernel
theorem dX11_nearestOf_46 : decode cX11_nearestOf 46 = .ok (.iload_n 3, 1) := by decide +kernel
theorem dX11_nearestOf_47 : decode cX11_nearestOf 47 = .ok (.istore_n 3, 1) := by decide +kernel
theorem dX11_nearestOf_48 : decode cX11_nearestOf 48 = .ok (.iload 6, 2) := by decide +kernel
theorem dX11_nearestOf_50 : decode cX11_nearestOf 50 = .ok (.iload 4, 2) := by decide +kernel
theorem dX11_nearestOf_52 : decode cX11_nearestOf 52 = .ok (.if_icmp .ge 8, 3) := by decide +kernel
theorem dX11_nearestOf_55 : decode cX11_nearestOf 55 = .ok (.iload 6, 2) := by decide +kernel
theorem dX11_nearestOf_57 : decode cX11_nearestOf 57 = .ok (.goto 5, 3) := by decide +kernel
theorem dX11_nearestOf_60 : decode cX11_nearestOf 60 = .ok (.iload 4, 2) := by decide +kernel
theorem dX11_nearestOf_62 : decode cX11_nearestOf 62 = .ok (.istore 4, 2) := by decide +kernel
theorem dX11_nearestOf_64 : decode cX11_nearestOf 64 = .ok (.iinc 5 1, 3) := by decide +kernel
theorem dX11_nearestOf_67 : decode cX11_nearestOf 67 = .ok (.goto (-58), 3) := by decide +kernel
theorem dX11_nearestOf_70 : decode cX11_nearestOf 70 = .ok (.iload_n 3, 1) := by decide +kernel
theorem dX11_nearestOf_71 : decode cX11_nearestOf 71 = .ok (.ireturn, 1) := by decide +kernel
set_option maxRecDepth 20000 in
theorem ggX11_layWays_X11_wayOf : GoodIn wsX11_layWays wsX11_wayOf := goodIn_r _ [7, 8, 9, 6, 10, 11, 12, 13, 14, 15, 16, 17, 18, 19, 20, 1, 21, 22, 23, 24, 25, 26, 27, 28, 29, 30, 31, 32, 33, 34, 35, 36, 37, 38, 39, 40, 41, 42, 43, 44, 45, 46, 47, 48, 49] (by decide +kernel) (by decide +kernel)
set_option maxRecDepth 20000 in
theorem gX11_layWays_X11_wayOf : GoodIn wsX11_layWays (wsV RX11 103 RX11 yX11_wayOf wsX11_wayOf) := goodIn_app (goodIn_of _ (by decide +kernel)) ggX11_layWays_X11_wayOf
theorem dX11_layWays_0 : decode cX11_layWays 0 = .ok (.iconst 0, 1) := by decide +kernel
theorem dX11_layWays_1 : decode cX11_layWays 1 = .ok (.istore_n 1, 1) := by decide +kernel
theorem dX11_layWays_2 : decode cX11_layWays 2 = .ok (.iload_n 1, 1) := by decide +kernel
theorem dX11_layWays_3 : decode cX11_layWays 3 = .ok (.bipush 8, 2) := by decide +kernel
theorem dX11_layWays_5 : decode cX11_layWays 5 = .ok (.aload_n 0, 1) := by decide +kernel
theorem dX11_layWays_6 : decode cX11_layWays 6 = .ok (.getfield 7, 3) := by decide +kernel
theorem dX11_layWays_9 : decode cX11_layWays 9 = .ok (.iconst 1, 1) := by decide +kernel
theorem dX11_layWays_10 : decode cX11_layWays 10 = .ok (.iaload, 1) := by decide +kernel
theorem dX11_layWays_11 : decode cX11_layWays 11 = .ok (.imul, 1) := by decide +kernel
theorem dX11_layWays_12 : decode cX11_layWays 12 = .ok (.if_icmp .ge 121, 3) := by decide +kernel
theorem dX11_layWays_15 : decode cX11_layWays 15 = .ok (.iload_n 1, 1) := by decide +kernel
theorem dX11_layWays_16 : decode cX11_layWays 16 = .ok (.bipush 8, 2) := by decide +kernel
theorem dX11_layWays_18 : decode cX11_layWays 18 = .ok (.idiv, 1) := by decide +kernel
theorem dX11_layWays_19 : decode cX11_layWays 19 = .ok (.istore_n 2, 1) := by decide +kernel
theorem dX11_layWays_20 : decode cX11_layWays 20 = .ok (.iload_n 1, 1) := by decide +kernel
theorem dX11_layWays_21 : decode cX11_layWays 21 = .ok (.bipush 8, 2) := by decide +kernel
theorem dX11_layWays_23 : decode cX11_layWays 23 = .ok (.irem, 1) := by decide +kernel
theorem dX11_layWays_24 : decode cX11_layWays 24 = .ok (.istore_n 3, 1) := by decide +kernel
theorem dX11_layWays_25 : decode cX11_layWays 25 = .ok (.iload_n 3, 1) := by decide +kernel
theorem dX11_layWays_26 : decode cX11_layWays 26 = .ok (.aload_n 0, 1) := by decide +kernel
theorem dX11_layWays_27 : decode cX11_layWays 27 = .ok (.getfield 7, 3) := by decide +kernel
theorem dX11_layWays_30 : decode cX11_layWays 30 = .ok (.iconst 1, 1) := by decide +kernel
theorem dX11_layWays_31 : decode cX11_layWays 31 = .ok (.iaload, 1) := by decide +kernel
theorem dX11_layWays_32 : decode cX11_layWays 32 = .ok (.if_icmp .ge 34, 3) := by decide +kernel
theorem dX11_layWays_35 : decode cX11_layWays 35 = .ok (.aload_n 0, 1) := by decide +kernel
theorem dX11_layWays_36 : decode cX11_layWays 36 = .ok (.getfield 7, 3) := by decide +kernel
theorem dX11_layWays_39 : decode cX11_layWays 39 = .ok (.iconst 2, 1) := by decide +kernel
theorem dX11_layWays_40 : decode cX11_layWays 40 = .ok (.iload_n 2, 1) := by decide +kernel
theorem dX11_layWays_41 : decode cX11_layWays 41 = .ok (.iadd, 1) := by decide +kernel
theorem dX11_layWays_42 : decode cX11_layWays 42 = .ok (.iaload, 1) := by decide +kernel
theorem dX11_layWays_43 : decode cX11_layWays 43 = .ok (.ifCond .eq 23, 3) := by decide +kernel
theorem dX11_layWays_46 : decode cX11_layWays 46 = .ok (.iload_n 3, 1) := by decide +kernel
theorem dX11_layWays_47 : decode cX11_layWays 47 = .ok (.iload_n 2, 1) := by decide +kernel
theorem dX11_layWays_48 : decode cX11_layWays 48 = .ok (.if_icmp .ge 18, 3) := by decide +kernel
theorem dX11_layWays_51 : decode cX11_layWays 51 = .ok (.aload_n 0, 1) := by decide +kernel
theorem dX11_layWays_52 : decode cX11_layWays 52 = .ok (.getfield 7, 3) := by decide +kernel
theorem dX11_layWays_55 : decode cX11_layWays 55 = .ok (.iconst 2, 1) := by decide +kernel
theorem dX11_layWays_56 : decode cX11_layWays 56 = .ok (.iload_n 3, 1) := by decide +kernel
theorem dX11_layWays_57 : decode cX11_layWays 57 = .ok (.iadd, 1) := by decide +kernel
theorem dX11_layWays_58 : decode cX11_layWays 58 = .ok (.iaload, 1) := by decide +kernel
theorem dX11_layWays_59 : decode cX11_layWays 59 = .ok (.ifCond .eq 7, 3) := by decide +kernel
theorem dX11_layWays_62 : decode cX11_layWays 62 = .ok (.iconst 1, 1) := by decide +kernel
theorem dX11_layWays_63 : decode cX11_layWays 63 = .ok (.goto 4, 3) := by decide +kernel
theorem dX11_layWays_66 : decode cX11_layWays 66 = .ok (.iconst 0, 1) := by decide +kernel
theorem dX11_layWays_67 : decode cX11_layWays 67 = .ok (.istore 4, 2) := by decide +kernel
theorem dX11_layWays_69 : decode cX11_layWays 69 = .ok (.iload 4, 2) := by decide +kernel
theorem dX11_layWays_71 : decode cX11_layWays 71 = .ok (.ifCond .eq 56, 3) := by decide +kernel
theorem dX11_layWays_74 : decode cX11_layWays 74 = .ok (.aload_n 0, 1) := by decide +kernel
theorem dX11_layWays_75 : decode cX11_layWays 75 = .ok (.getfield 31, 3) := by decide +kernel
theorem dX11_layWays_78 : decode cX11_layWays 78 = .ok (.bipush 8, 2) := by decide +kernel
theorem dX11_layWays_80 : decode cX11_layWays 80 = .ok (.iload_n 2, 1) := by decide +kernel
theorem dX11_layWays_81 : decode cX11_layWays 81 = .ok (.imul, 1) := by decide +kernel
theorem dX11_layWays_82 : decode cX11_layWays 82 = .ok (.iload_n 3, 1) := by decide +kernel
theorem dX11_layWays_83 : decode cX11_layWays 83 = .ok (.iadd, 1) := by decide +kernel
theorem dX11_layWays_84 : decode cX11_layWays 84 = .ok (.aload_n 0, 1) := by decide +kernel
theorem dX11_layWays_85 : decode cX11_layWays 85 = .ok (.aload_n 0, 1) := by decide +kernel
theorem dX11_layWays_86 : decode cX11_layWays 86 = .ok (.getfield 7, 3) := by decide +kernel
theorem dX11_layWays_89 : decode cX11_layWays 89 = .ok (.iconst 2, 1) := by decide +kernel
theorem dX11_layWays_90 : decode cX11_layWays 90 = .ok (.iload_n 2, 1) := by decide +kernel
theorem dX11_layWays_91 : decode cX11_layWays 91 = .ok (.iadd, 1) := by decide +kernel
theorem dX11_layWays_92 : decode cX11_layWays 92 = .ok (.iaload, 1) := by decide +kernel
theorem dX11_layWays_93 : decode cX11_layWays 93 = .ok (.aload_n 0, 1) := by decide +kernel
theorem dX11_layWays_94 : decode cX11_layWays 94 = .ok (.getfield 7, 3) := by decide +kernel
theorem dX11_layWays_97 : decode cX11_layWays 97 = .ok (.iconst 2, 1) := by decide +kernel
theorem dX11_layWays_98 : decode cX11_layWays 98 = .ok (.iload_n 3, 1) := by decide +kernel
theorem dX11_layWays_99 : decode cX11_layWays 99 = .ok (.iadd, 1) := by decide +kernel
theorem dX11_layWays_100 : decode cX11_layWays 100 = .ok (.iaload, 1) := by decide +kernel
theorem dX11_layWays_101 : decode cX11_layWays 101 = .ok (.invokevirtual 103, 3) := by decide +kernel
theorem dX11_layWays_104 : decode cX11_layWays 104 = .ok (.iastore, 1) := by decide +kernel
theorem dX11_layWays_105 : decode cX11_layWays 105 = .ok (.aload_n 0, 1) := by decide +kernel
theorem dX11_layWays_106 : decode cX11_layWays 106 = .ok (.getfield 31, 3) := by decide +kernel
theorem dX11_layWays_109 : decode cX11_layWays 109 = .ok (.bipush 8, 2) := by decide +kernel
theorem dX11_layWays_111 : decode cX11_layWays 111 = .ok (.iload_n 3, 1) := by decide +kernel
theorem dX11_layWays_112 : decode cX11_layWays 112 = .ok (.imul, 1) := by decide +kernel
theorem dX11_layWays_113 : decode cX11_layWays 113 = .ok (.iload_n 2, 1) := by decide +kernel
theorem dX11_layWays_114 : decode cX11_layWays 114 = .ok (.iadd, 1) := by decide +kernel
theorem dX11_layWays_115 : decode cX11_layWays 115 = .ok (.aload_n 0, 1) := by decide +kernel
theorem dX11_layWays_116 : decode cX11_layWays 116 = .ok (.getfield 31, 3) := by decide +kernel
theorem dX11_layWays_119 : decode cX11_layWays 119 = .ok (.bipush 8, 2) := by decide +kernel
theorem dX11_layWays_121 : decode cX11_layWays 121 = .ok (.iload_n 2, 1) := by decide +kernel
theorem dX11_layWays_122 : decode cX11_layWays 122 = .ok (.imul, 1) := by decide +kernel
theorem dX11_layWays_123 : decode cX11_layWays 123 = .ok (.iload_n 3, 1) := by decide +kernel
theorem dX11_layWays_124 : decode cX11_layWays 124 = .ok (.iadd, 1) := by decide +kernel
theorem dX11_layWays_125 : decode cX11_layWays 125 = .ok (.iaload, 1) := by decide +kernel
theorem dX11_layWays_126 : decode cX11_layWays 126 = .ok (.iastore, 1) := by decide +kernel
theorem dX11_layWays_127 : decode cX11_layWays 127 = .ok (.iinc 1 1, 3) := by decide +kernel
theorem dX11_layWays_130 : decode cX11_layWays 130 = .ok (.goto (-128), 3) := by decide +kernel
theorem dX11_layWays_133 : decode cX11_layWays 133 = .ok (.return_, 1) := by decide +kernel
set_option maxRecDepth 20000 in
theorem ggX11_roundNow_X11_layWays : GoodIn wsX11_roundNow wsX11_layWays := goodIn_r _ [9, 1, 4, 10, 11, 12, 8, 13, 14, 15, 16, 17, 18, 19, 20, 21, 3, 22, 23, 24, 25, 26, 27, 28, 29, 30, 31, 32, 33, 34, 35, 36, 37, 38, 39, 40, 41, 42, 43, 44, 45, 46, 47, 48, 49, 50, 51, 52, 53, 54] (by decide +kernel) (by decide +kernel)
set_option maxRecDepth 20000 in
theorem gX11_roundNow_X11_layWays : GoodIn wsX11_roundNow (wsV RX11 106 RX11 yX11_layWays wsX11_layWays) := goodIn_app (goodIn_of _ (by decide +kernel)) ggX11_roundNow_X11_layWays
set_option maxRecDepth 20000 in
theorem ggX11_roundNow_X11_has : GoodIn wsX11_roundNow wsX11_has := goodIn_r _ [28] (by decide +kernel) (by decide +kernel)
set_option maxRecDepth 20000 in
theorem gX11_roundNow_X11_has : GoodIn wsX11_roundNow (va_wsS RX11 52 yX11_has wsX11_has) := goodIn_app (goodIn_of _ (by decide +kernel)) ggX11_roundNow_X11_has
theorem dX11_roundNow_0 : decode cX11_roundNow 0 = .ok (.iconst 0, 1) := by decide +kernel
theorem dX11_roundNow_1 : decode cX11_roundNow 1 = .ok (.istore_n 1, 1) := by decide +kernel
theorem dX11_roundNow_2 : decode cX11_roundNow 2 = .ok (.aload_n 0, 1) := by decide +kernel
theorem dX11_roundNow_3 : decode cX11_roundNow 3 = .ok (.getfield 7, 3) := by decide +kernel
theorem dX11_roundNow_6 : decode cX11_roundNow 6 = .ok (.iconst 1, 1) := by decide +kernel
theorem dX11_roundNow_7 : decode cX11_roundNow 7 = .ok (.iaload, 1) := by decide +kernel
theorem dX11_roundNow_8 : decode cX11_roundNow 8 = .ok (.iconst 1, 1) := by decide +kernel
theorem dX11_roundNow_9 : decode cX11_roundNow 9 = .ok (.isub, 1) := by decide +kernel
theorem dX11_roundNow_10 : decode cX11_roundNow 10 = .ok (.istore_n 2, 1) := by decide +kernel
theorem dX11_roundNow_11 : decode cX11_roundNow 11 = .ok (.iload_n 2, 1) := by decide +kernel
theorem dX11_roundNow_12 : decode cX11_roundNow 12 = .ok (.ifCond .lt 30, 3) := by decide +kernel
theorem dX11_roundNow_15 : decode cX11_roundNow 15 = .ok (.iload_n 1, 1) := by decide +kernel
theorem dX11_roundNow_16 : decode cX11_roundNow 16 = .ok (.aload_n 0, 1) := by decide +kernel
theorem dX11_roundNow_17 : decode cX11_roundNow 17 = .ok (.getfield 7, 3) := by decide +kernel
theorem dX11_roundNow_20 : decode cX11_roundNow 20 = .ok (.iconst 2, 1) := by decide +kernel
theorem dX11_roundNow_21 : decode cX11_roundNow 21 = .ok (.iload_n 2, 1) := by decide +kernel
theorem dX11_roundNow_22 : decode cX11_roundNow 22 = .ok (.iadd, 1) := by decide +kernel
theorem dX11_roundNow_23 : decode cX11_roundNow 23 = .ok (.iaload, 1) := by decide +kernel
theorem dX11_roundNow_24 : decode cX11_roundNow 24 = .ok (.ifCond .eq 9, 3) := by decide +kernel
theorem dX11_roundNow_27 : decode cX11_roundNow 27 = .ok (.iconst 1, 1) := by decide +kernel
theorem dX11_roundNow_28 : decode cX11_roundNow 28 = .ok (.iload_n 2, 1) := by decide +kernel
theorem dX11_roundNow_29 : decode cX11_roundNow 29 = .ok (.ishl, 1) := by decide +kernel
theorem dX11_roundNow_30 : decode cX11_roundNow 30 = .ok (.goto 4, 3) := by decide +kernel
theorem dX11_roundNow_33 : decode cX11_roundNow 33 = .ok (.iconst 0, 1) := by decide +kernel
theorem dX11_roundNow_34 : decode cX11_roundNow 34 = .ok (.ior, 1) := by decide +kernel
theorem dX11_roundNow_35 : decode cX11_roundNow 35 = .ok (.istore_n 1, 1) := by decide +kernel
theorem dX11_roundNow_36 : decode cX11_roundNow 36 = .ok (.iinc 2 (-1), 3) := by decide +kernel
theorem dX11_roundNow_39 : decode cX11_roundNow 39 = .ok (.goto (-28), 3) := by decide +kernel
theorem dX11_roundNow_42 : decode cX11_roundNow 42 = .ok (.iload_n 1, 1) := by decide +kernel
theorem dX11_roundNow_43 : decode cX11_roundNow 43 = .ok (.ifCond .ne 5, 3) := by decide +kernel
theorem dX11_roundNow_46 : decode cX11_roundNow 46 = .ok (.iconst 0, 1) := by decide +kernel
theorem dX11_roundNow_47 : decode cX11_roundNow 47 = .ok (.ireturn, 1) := by decide +kernel
theorem dX11_roundNow_48 : decode cX11_roundNow 48 = .ok (.aload_n 0, 1) := by decide +kernel
theorem dX11_roundNow_49 : decode cX11_roundNow 49 = .ok (.invokevirtual 106, 3) := by decide +kernel
theorem dX11_roundNow_52 : decode cX11_roundNow 52 = .ok (.iconst 0, 1) := by decide +kernel
theorem dX11_roundNow_53 : decode cX11_roundNow 53 = .ok (.istore_n 2, 1) := by decide +kernel
theorem dX11_roundNow_54 : decode cX11_roundNow 54 = .ok (.iload_n 2, 1) := by decide +kernel
theorem dX11_roundNow_55 : decode cX11_roundNow 55 = .ok (.sipush 2048, 3) := by decide +kernel
theorem dX11_roundNow_58 : decode cX11_roundNow 58 = .ok (.if_icmp .ge 17, 3) := by decide +kernel
theorem dX11_roundNow_61 : decode cX11_roundNow 61 = .ok (.aload_n 0, 1) := by decide +kernel
theorem dX11_roundNow_62 : decode cX11_roundNow 62 = .ok (.getfield 34, 3) := by decide +kernel
theorem dX11_roundNow_65 : decode cX11_roundNow 65 = .ok (.iload_n 2, 1) := by decide +kernel
theorem dX11_roundNow_66 : decode cX11_roundNow 66 = .ok (.ldc 96, 2) := by decide +kernel
theorem dX11_roundNow_68 : decode cX11_roundNow 68 = .ok (.iastore, 1) := by decide +kernel
theorem dX11_roundNow_69 : decode cX11_roundNow 69 = .ok (.iinc 2 1, 3) := by decide +kernel
theorem dX11_roundNow_72 : decode cX11_roundNow 72 = .ok (.goto (-18), 3) := by decide +kernel
theorem dX11_roundNow_75 : decode cX11_roundNow 75 = .ok (.iconst 0, 1) := by decide +kernel
theorem dX11_roundNow_76 : decode cX11_roundNow 76 = .ok (.istore_n 2, 1) := by decide +kernel
theorem dX11_roundNow_77 : decode cX11_roundNow 77 = .ok (.iload_n 1, 1) := by decide +kernel
theorem dX11_roundNow_78 : decode cX11_roundNow 78 = .ok (.iload_n 2, 1) := by decide +kernel
theorem dX11_roundNow_79 : decode cX11_roundNow 79 = .ok (.invokestatic 52, 3) := by decide +kernel
theorem dX11_roundNow_82 : decode cX11_roundNow 82 = .ok (.ifCond .ne 9, 3) := by decide +kernel
theorem dX11_roundNow_85 : decode cX11_roundNow 85 = .ok (.iinc 2 1, 3) := by decide +kernel
theorem dX11_roundNow_88 : decode cX11_roundNow 88 = .ok (.goto (-11), 3) := by decide +kernel
theorem dX11_roundNow_91 : decode cX11_roundNow 91 = .ok (.aload_n 0, 1) := by decide +kernel
theorem dX11_roundNow_92 : decode cX11_roundNow 92 = .ok (.getfield 34, 3) := by decide +kernel
theorem dX11_roundNow_95 : decode cX11_roundNow 95 = .ok (.bipush 8, 2) := by decide +kernel
theorem dX11_roundNow_97 : decode cX11_roundNow 97 = .ok (.iconst 1, 1) := by decide +kernel
theorem dX11_roundNow_98 : decode cX11_roundNow 98 = .ok (.iload_n 2, 1) := by decide +kernel
theorem dX11_roundNow_99 : decode cX11_roundNow 99 = .ok (.ishl, 1) := by decide +kernel
theorem dX11_roundNow_100 : decode cX11_roundNow 100 = .ok (.imul, 1) := by decide +kernel
theorem dX11_roundNow_101 : decode cX11_roundNow 101 = .ok (.iload_n 2, 1) := by decide +kernel
theorem dX11_roundNow_102 : decode cX11_roundNow 102 = .ok (.iadd, 1) := by decide +kernel
theorem dX11_roundNow_103 : decode cX11_roundNow 103 = .ok (.iconst 0, 1) := by decide +kernel
theorem dX11_roundNow_104 : decode cX11_roundNow 104 = .ok (.iastore, 1) := by decide +kernel
theorem dX11_roundNow_105 : decode cX11_roundNow 105 = .ok (.ldc 96, 2) := by decide +kernel
theorem dX11_roundNow_107 : decode cX11_roundNow 107 = .ok (.istore_n 3, 1) := by decide +kernel
theorem dX11_roundNow_108 : decode cX11_roundNow 108 = .ok (.iconst 0, 1) := by decide +kernel
theorem dX11_roundNow_109 : decode cX11_roundNow 109 = .ok (.istore 4, 2) := by decide +kernel
theorem dX11_roundNow_111 : decode cX11_roundNow 111 = .ok (.iload 4, 2) := by decide +kernel
theorem dX11_roundNow_113 : decode cX11_roundNow 113 = .ok (.sipush 2048, 3) := by decide +kernel
theorem dX11_roundNow_116 : decode cX11_roundNow 116 = .ok (.if_icmp .ge 184, 3) := by decide +kernel
theorem dX11_roundNow_119 : decode cX11_roundNow 119 = .ok (.iload 4, 2) := by decide +kernel
theorem dX11_roundNow_121 : decode cX11_roundNow 121 = .ok (.bipush 8, 2) := by decide +kernel
theorem dX11_roundNow_123 : decode cX11_roundNow 123 = .ok (.idiv, 1) := by decide +kernel
theorem dX11_roundNow_124 : decode cX11_roundNow 124 = .ok (.istore 5, 2) := by decide +kernel
theorem dX11_roundNow_126 : decode cX11_roundNow 126 = .ok (.iload 4, 2) := by decide +kernel
theorem dX11_roundNow_128 : decode cX11_roundNow 128 = .ok (.bipush 8, 2) := by decide +kernel
theorem dX11_roundNow_130 : decode cX11_roundNow 130 = .ok (.irem, 1) := by decide +kernel
theorem dX11_roundNow_131 : decode cX11_roundNow 131 = .ok (.istore 6, 2) := by decide +kernel
theorem dX11_roundNow_133 : decode cX11_roundNow 133 = .ok (.iload 5, 2) := by decide +kernel
theorem dX11_roundNow_135 : decode cX11_roundNow 135 = .ok (.iload_n 1, 1) := by decide +kernel
theorem dX11_roundNow_136 : decode cX11_roundNow 136 = .ok (.if_icmp .ne 24, 3) := by decide +kernel
theorem dX11_roundNow_139 : decode cX11_roundNow 139 = .ok (.aload_n 0, 1) := by decide +kernel
theorem dX11_roundNow_140 : decode cX11_roundNow 140 = .ok (.getfield 34, 3) := by decide +kernel
theorem dX11_roundNow_143 : decode cX11_roundNow 143 = .ok (.iload 4, 2) := by decide +kernel
theorem dX11_roundNow_145 : decode cX11_roundNow 145 = .ok (.iaload, 1) := by decide +kernel
theorem dX11_roundNow_146 : decode cX11_roundNow 146 = .ok (.iload_n 3, 1) := by decide +kernel
theorem dX11_roundNow_147 : decode cX11_roundNow 147 = .ok (.if_icmp .ge 13, 3) := by decide +kernel
theorem dX11_roundNow_150 : decode cX11_roundNow 150 = .ok (.aload_n 0, 1) := by decide +kernel
theorem dX11_roundNow_151 : decode cX11_roundNow 151 = .ok (.getfield 34, 3) := by decide +kernel
theorem dX11_roundNow_154 : decode cX11_roundNow 154 = .ok (.iload 4, 2) := by decide +kernel
theorem dX11_roundNow_156 : decode cX11_roundNow 156 = .ok (.iaload, 1) := by decide +kernel
theorem dX11_roundNow_157 : decode cX11_roundNow 157 = .ok (.goto 4, 3) := by decide +kernel
theorem dX11_roundNow_160 : decode cX11_roundNow 160 = .ok (.iload_n 3, 1) := by decide +kernel
theorem dX11_roundNow_161 : decode cX11_roundNow 161 = .ok (.istore_n 3, 1) := by decide +kernel
theorem dX11_roundNow_162 : decode cX11_roundNow 162 = .ok (.iconst 0, 1) := by decide +kernel
theorem dX11_roundNow_163 : decode cX11_roundNow 163 = .ok (.istore 7, 2) := by decide +kernel
theorem dX11_roundNow_165 : decode cX11_roundNow 165 = .ok (.iload 7, 2) := by decide +kernel
theorem dX11_roundNow_167 : decode cX11_roundNow 167 = .ok (.aload_n 0, 1) := by decide +kernel
theorem dX11_roundNow_168 : decode cX11_roundNow 168 = .ok (.getfield 7, 3) := by decide +kernel
theorem dX11_roundNow_171 : decode cX11_roundNow 171 = .ok (.iconst 1, 1) := by decide +kernel
theorem dX11_roundNow_172 : decode cX11_roundNow 172 = .ok (.iaload, 1) := by decide +kernel
theorem dX11_roundNow_173 : decode cX11_roundNow 173 = .ok (.if_icmp .ge 121, 3) := by decide +kernel
theorem dX11_roundNow_176 : decode cX11_roundNow 176 = .ok (.aload_n 0, 1) := by decide +kernel
theorem dX11_roundNow_177 : decode cX11_roundNow 177 = .ok (.getfield 34, 3) := by decide +kernel
theorem dX11_roundNow_180 : decode cX11_roundNow 180 = .ok (.iload 4, 2) := by decide +kernel
theorem dX11_roundNow_182 : decode cX11_roundNow 182 = .ok (.iaload, 1) := by decide +kernel
theorem dX11_roundNow_183 : decode cX11_roundNow 183 = .ok (.ldc 96, 2) := by decide +kernel
theorem dX11_roundNow_185 : decode cX11_roundNow 185 = .ok (.if_icmp .ge 109, 3) := by decide +kernel
theorem dX11_roundNow_188 : decode cX11_roundNow 188 = .ok (.bipush 8, 2) := by decide +kernel
theorem dX11_roundNow_190 : decode cX11_roundNow 190 = .ok (.iload 5, 2) := by decide +kernel
theorem dX11_roundNow_192 : decode cX11_roundNow 192 = .ok (.iconst 1, 1) := by decide +kernel
theorem dX11_roundNow_193 : decode cX11_roundNow 193 = .ok (.iload 7, 2) := by decide +kernel
theorem dX11_roundNow_195 : decode cX11_roundNow 195 = .ok (.ishl, 1) := by decide +kernel
theorem dX11_roundNow_196 : decode cX11_roundNow 196 = .ok (.ior, 1) := by decide +kernel
theorem dX11_roundNow_197 : decode cX11_roundNow 197 = .ok (.imul, 1) := by decide +kernel
theorem dX11_roundNow_198 : decode cX11_roundNow 198 = .ok (.iload 7, 2) := by decide +kernel
theorem dX11_roundNow_200 : decode cX11_roundNow 200 = .ok (.iadd, 1) := by decide +kernel
theorem dX11_roundNow_201 : decode cX11_roundNow 201 = .ok (.istore 8, 2) := by decide +kernel
theorem dX11_roundNow_203 : decode cX11_roundNow 203 = .ok (.aload_n 0, 1) := by decide +kernel
theorem dX11_roundNow_204 : decode cX11_roundNow 204 = .ok (.getfield 34, 3) := by decide +kernel
theorem dX11_roundNow_207 : decode cX11_roundNow 207 = .ok (.iload 4, 2) := by decide +kernel
theorem dX11_roundNow_209 : decode cX11_roundNow 209 = .ok (.iaload, 1) := by decide +kernel
theorem dX11_roundNow_210 : decode cX11_roundNow 210 = .ok (.aload_n 0, 1) := by decide +kernel
theorem dX11_roundNow_211 : decode cX11_roundNow 211 = .ok (.getfield 31, 3) := by decide +kernel
theorem dX11_roundNow_214 : decode cX11_roundNow 214 = .ok (.bipush 8, 2) := by decide +kernel
theorem dX11_roundNow_216 : decode cX11_roundNow 216 = .ok (.iload 6, 2) := by decide +kernel
theorem dX11_roundNow_218 : decode cX11_roundNow 218 = .ok (.imul, 1) := by decide +kernel
theorem dX11_roundNow_219 : decode cX11_roundNow 219 = .ok (.iload 7, 2) := by decide +kernel
theorem dX11_roundNow_221 : decode cX11_roundNow 221 = .ok (.iadd, 1) := by decide +kernel
theorem dX11_roundNow_222 : decode cX11_roundNow 222 = .ok (.iaload, 1) := by decide +kernel
theorem dX11_roundNow_223 : decode cX11_roundNow 223 = .ok (.iadd, 1) := by decide +kernel
theorem dX11_roundNow_224 : decode cX11_roundNow 224 = .ok (.istore 9, 2) := by decide +kernel
theorem dX11_roundNow_226 : decode cX11_roundNow 226 = .ok (.iload_n 1, 1) := by decide +kernel
theorem dX11_roundNow_227 : decode cX11_roundNow 227 = .ok (.iload 7, 2) := by decide +kernel
theorem dX11_roundNow_229 : decode cX11_roundNow 229 = .ok (.invokestatic 52, 3) := by decide +kernel
theorem dX11_roundNow_232 : decode cX11_roundNow 232 = .ok (.ifCond .eq 29, 3) := by decide +kernel
theorem dX11_roundNow_235 : decode cX11_roundNow 235 = .ok (.iload 5, 2) := by decide +kernel
theorem dX11_roundNow_237 : decode cX11_roundNow 237 = .ok (.iload 7, 2) := by decide +kernel
theorem dX11_roundNow_239 : decode cX11_roundNow 239 = .ok (.invokestatic 52, 3) := by decide +kernel
theorem dX11_roundNow_242 : decode cX11_roundNow 242 = .ok (.ifCond .ne 19, 3) := by decide +kernel
theorem dX11_roundNow_245 : decode cX11_roundNow 245 = .ok (.iload 9, 2) := by decide +kernel
theorem dX11_roundNow_247 : decode cX11_roundNow 247 = .ok (.aload_n 0, 1) := by decide +kernel
theorem dX11_roundNow_248 : decode cX11_roundNow 248 = .ok (.getfield 34, 3) := by decide +kernel
theorem dX11_roundNow_251 : decode cX11_roundNow 251 = .ok (.iload 8, 2) := by decide +kernel
theorem dX11_roundNow_253 : decode cX11_roundNow 253 = .ok (.iaload, 1) := by decide +kernel
theorem dX11_roundNow_254 : decode cX11_roundNow 254 = .ok (.if_icmp .ge 7, 3) := by decide +kernel
theorem dX11_roundNow_257 : decode cX11_roundNow 257 = .ok (.iconst 1, 1) := by decide +kernel
theorem dX11_roundNow_258 : decode cX11_roundNow 258 = .ok (.goto 4, 3) := by decide +kernel
theorem dX11_roundNow_261 : decode cX11_roundNow 261 = .ok (.iconst 0, 1) := by decide +kernel
theorem dX11_roundNow_262 : decode cX11_roundNow 262 = .ok (.istore 10, 2) := by decide +kernel
theorem dX11_roundNow_264 : decode cX11_roundNow 264 = .ok (.aload_n 0, 1) := by decide +kernel
theorem dX11_roundNow_265 : decode cX11_roundNow 265 = .ok (.getfield 34, 3) := by decide +kernel
theorem dX11_roundNow_268 : decode cX11_roundNow 268 = .ok (.iload 8, 2) := by decide +kernel
theorem dX11_roundNow_270 : decode cX11_roundNow 270 = .ok (.iload 10, 2) := by decide +kernel
theorem dX11_roundNow_272 : decode cX11_roundNow 272 = .ok (.ifCond .eq 8, 3) := by decide +kernel
theorem dX11_roundNow_275 : decode cX11_roundNow 275 = .ok (.iload 9, 2) := by decide +kernel
theorem dX11_roundNow_277 : decode cX11_roundNow 277 = .ok (.goto 10, 3) := by decide +kernel
theorem dX11_roundNow_280 : decode cX11_roundNow 280 = .ok (.aload_n 0, 1) := by decide +kernel
theorem dX11_roundNow_281 : decode cX11_roundNow 281 = .ok (.getfield 34, 3) := by decide +kernel
theorem dX11_roundNow_284 : decode cX11_roundNow 284 = .ok (.iload 8, 2) := by decide +kernel
theorem dX11_roundNow_286 : decode cX11_roundNow 286 = .ok (.iaload, 1) := by decide +kernel
theorem dX11_roundNow_287 : decode cX11_roundNow 287 = .ok (.iastore, 1) := by decide +kernel
theorem dX11_roundNow_288 : decode cX11_roundNow 288 = .ok (.iinc 7 1, 3) := by decide +kernel
theorem dX11_roundNow_291 : decode cX11_roundNow 291 = .ok (.goto (-126), 3) := by decide +kernel
theorem dX11_roundNow_294 : decode cX11_roundNow 294 = .ok (.iinc 4 1, 3) := by decide +kernel
theorem dX11_roundNow_297 : decode cX11_roundNow 297 = .ok (.goto (-186), 3) := by decide +kernel
theorem dX11_roundNow_300 : decode cX11_roundNow 300 = .ok (.iload_n 3, 1) := by decide +kernel
theorem dX11_roundNow_301 : decode cX11_roundNow 301 = .ok (.ireturn, 1) := by decide +kernel
set_option maxRecDepth 20000 in
theorem ggX11_rough_X11_pairsApart : GoodIn wsX11_rough wsX11_pairsApart := goodIn_r _ [5, 6, 7, 8, 4, 9, 10, 11, 12, 13, 14, 15, 16, 17, 18, 19, 20, 21, 22, 23, 24, 25, 26, 27, 28, 29, 30, 31, 32, 33, 34] (by decide +kernel) (by decide +kernel)
set_option maxRecDepth 20000 in
theorem gX11_rough_X11_pairsApart : GoodIn wsX11_rough (wsV RX11 71 RX11 yX11_pairsApart wsX11_pairsApart) := goodIn_app (goodIn_of _ (by decide +kernel)) ggX11_rough_X11_pairsApart
theorem dX11_rough_0 : decode cX11_rough 0 = .ok (.iconst 1, 1) := by decide +kernel
theorem dX11_rough_1 : decode cX11_rough 1 = .ok (.aload_n 0, 1) := by decide +kernel
theorem dX11_rough_2 : decode cX11_rough 2 = .ok (.iload_n 1, 1) := by decide +kernel
theorem dX11_rough_3 : decode cX11_rough 3 = .ok (.iconst 1, 1) := by decide +kernel
theorem dX11_rough_4 : decode cX11_rough 4 = .ok (.invokevirtual 71, 3) := by decide +kernel
theorem dX11_rough_7 : decode cX11_rough 7 = .ok (.iadd, 1) := by decide +kernel
theorem dX11_rough_8 : decode cX11_rough 8 = .ok (.ireturn, 1) := by decide +kernel
set_option maxRecDepth 20000 in
theorem ggX11_moveOf_X11_m : GoodIn wsX11_moveOf wsX11_m := goodIn_r _ [5, 6, 10, 11, 12, 13, 14, 15, 16, 17, 18, 19, 20, 21, 22, 23, 24, 25, 26] (by decide +kernel) (by decide +kernel)
set_option maxRecDepth 20000 in
theorem gX11_moveOf_X11_m : GoodIn wsX11_moveOf (wsV RX11 48 RX11 yX11_m wsX11_m) := goodIn_app (goodIn_of _ (by decide +kernel)) ggX11_moveOf_X11_m
set_option maxRecDepth 20000 in
theorem ggX11_moveOf_X11_has : GoodIn wsX11_moveOf wsX11_has := goodIn_r _ [9] (by decide +kernel) (by decide +kernel)
set_option maxRecDepth 20000 in
theorem gX11_moveOf_X11_has : GoodIn wsX11_moveOf (va_wsS RX11 52 yX11_has wsX11_has) := goodIn_app (goodIn_of _ (by decide +kernel)) ggX11_moveOf_X11_has
theorem dX11_moveOf_0 : decode cX11_moveOf 0 = .ok (.iload_n 2, 1) := by decide +kernel
theorem dX11_moveOf_1 : decode cX11_moveOf 1 = .ok (.iconst 2, 1) := by decide +kernel
theorem dX11_moveOf_2 : decode cX11_moveOf 2 = .ok (.idiv, 1) := by decide +kernel
theorem dX11_moveOf_3 : decode cX11_moveOf 3 = .ok (.istore_n 3, 1) := by decide +kernel
theorem dX11_moveOf_4 : decode cX11_moveOf 4 = .ok (.iload_n 3, 1) := by decide +kernel
theorem dX11_moveOf_5 : decode cX11_moveOf 5 = .ok (.iload_n 2, 1) := by decide +kernel
theorem dX11_moveOf_6 : decode cX11_moveOf 6 = .ok (.iconst 2, 1) := by decide +kernel
theorem dX11_moveOf_7 : decode cX11_moveOf 7 = .ok (.irem, 1) := by decide +kernel
theorem dX11_moveOf_8 : decode cX11_moveOf 8 = .ok (.ifCond .ne 7, 3) := by decide +kernel
theorem dX11_moveOf_11 : decode cX11_moveOf 11 = .ok (.iconst 1, 1) := by decide +kernel
theorem dX11_moveOf_12 : decode cX11_moveOf 12 = .ok (.goto 9, 3) := by decide +kernel
theorem dX11_moveOf_15 : decode cX11_moveOf 15 = .ok (.aload_n 0, 1) := by decide +kernel
theorem dX11_moveOf_16 : decode cX11_moveOf 16 = .ok (.invokevirtual 48, 3) := by decide +kernel
theorem dX11_moveOf_19 : decode cX11_moveOf 19 = .ok (.iconst 1, 1) := by decide +kernel
theorem dX11_moveOf_20 : decode cX11_moveOf 20 = .ok (.isub, 1) := by decide +kernel
theorem dX11_moveOf_21 : decode cX11_moveOf 21 = .ok (.iadd, 1) := by decide +kernel
theorem dX11_moveOf_22 : decode cX11_moveOf 22 = .ok (.aload_n 0, 1) := by decide +kernel
theorem dX11_moveOf_23 : decode cX11_moveOf 23 = .ok (.invokevirtual 48, 3) := by decide +kernel
theorem dX11_moveOf_26 : decode cX11_moveOf 26 = .ok (.irem, 1) := by decide +kernel
theorem dX11_moveOf_27 : decode cX11_moveOf 27 = .ok (.istore 4, 2) := by decide +kernel
theorem dX11_moveOf_29 : decode cX11_moveOf 29 = .ok (.iload_n 1, 1) := by decide +kernel
theorem dX11_moveOf_30 : decode cX11_moveOf 30 = .ok (.iload_n 3, 1) := by decide +kernel
theorem dX11_moveOf_31 : decode cX11_moveOf 31 = .ok (.invokestatic 52, 3) := by decide +kernel
theorem dX11_moveOf_34 : decode cX11_moveOf 34 = .ok (.ifCond .eq 27, 3) := by decide +kernel
theorem dX11_moveOf_37 : decode cX11_moveOf 37 = .ok (.iload_n 1, 1) := by decide +kernel
theorem dX11_moveOf_38 : decode cX11_moveOf 38 = .ok (.iload 4, 2) := by decide +kernel
theorem dX11_moveOf_40 : decode cX11_moveOf 40 = .ok (.invokestatic 52, 3) := by decide +kernel
theorem dX11_moveOf_43 : decode cX11_moveOf 43 = .ok (.ifCond .ne 18, 3) := by decide +kernel
theorem dX11_moveOf_46 : decode cX11_moveOf 46 = .ok (.iload_n 1, 1) := by decide +kernel
theorem dX11_moveOf_47 : decode cX11_moveOf 47 = .ok (.iconst 1, 1) := by decide +kernel
theorem dX11_moveOf_48 : decode cX11_moveOf 48 = .ok (.iload_n 3, 1) := by decide +kernel
theorem dX11_moveOf_49 : decode cX11_moveOf 49 = .ok (.ishl, 1) := by decide +kernel
theorem dX11_moveOf_50 : decode cX11_moveOf 50 = .ok (.iconst (-1), 1) := by decide +kernel
theorem dX11_moveOf_51 : decode cX11_moveOf 51 = .ok (.ixor, 1) := by decide +kernel
theorem dX11_moveOf_52 : decode cX11_moveOf 52 = .ok (.iand, 1) := by decide +kernel
theorem dX11_moveOf_53 : decode cX11_moveOf 53 = .ok (.iconst 1, 1) := by decide +kernel
theorem dX11_moveOf_54 : decode cX11_moveOf 54 = .ok (.iload 4, 2) := by decide +kernel
theorem dX11_moveOf_56 : decode cX11_moveOf 56 = .ok (.ishl, 1) := by decide +kernel
theorem dX11_moveOf_57 : decode cX11_moveOf 57 = .ok (.ior, 1) := by decide +kernel
theorem dX11_moveOf_58 : decode cX11_moveOf 58 = .ok (.goto 4, 3) := by decide +kernel
theorem dX11_moveOf_61 : decode cX11_moveOf 61 = .ok (.iconst 0, 1) := by decide +kernel
theorem dX11_moveOf_62 : decode cX11_moveOf 62 = .ok (.ireturn, 1) := by decide +kernel
set_option maxRecDepth 20000 in
theorem ggX11_layEasy_X11_ones : GoodIn wsX11_layEasy wsX11_ones := goodIn_r _ [7] (by decide +kernel) (by decide +kernel)
set_option maxRecDepth 20000 in
theorem gX11_layEasy_X11_ones : GoodIn wsX11_layEasy (va_wsS RX11 67 yX11_ones wsX11_ones) := goodIn_app (goodIn_of _ (by decide +kernel)) ggX11_layEasy_X11_ones
set_option maxRecDepth 20000 in
theorem ggX11_layEasy_X11_m : GoodIn wsX11_layEasy wsX11_m := goodIn_r _ [11, 12, 32, 33, 34, 35, 36, 37, 38, 39, 40, 41, 42, 43, 44, 45, 46, 47, 48] (by decide +kernel) (by decide +kernel)
set_option maxRecDepth 20000 in
theorem gX11_layEasy_X11_m : GoodIn wsX11_layEasy (wsV RX11 48 RX11 yX11_m wsX11_m) := goodIn_app (goodIn_of _ (by decide +kernel)) ggX11_layEasy_X11_m
set_option maxRecDepth 20000 in
theorem ggX11_layEasy_X11_rough : GoodIn wsX11_layEasy wsX11_rough := goodIn_r _ [16, 17, 18, 19, 6, 20, 8, 9, 10, 11, 12, 21, 22, 23, 24, 25, 26, 27, 32, 33, 34, 35, 36, 37, 38, 39, 40, 41, 42, 43, 44, 45, 46, 47, 48] (by decide +kernel) (by decide +kernel)
set_option maxRecDepth 20000 in
theorem gX11_layEasy_X11_rough : GoodIn wsX11_layEasy (wsV RX11 109 RX11 yX11_rough wsX11_rough) := goodIn_app (goodIn_of _ (by decide +kernel)) ggX11_layEasy_X11_rough
set_option maxRecDepth 20000 in
theorem ggX11_layEasy_X11_moveOf : GoodIn wsX11_layEasy wsX11_moveOf := goodIn_r _ [31, 8, 9, 10, 6, 11, 12, 21, 22, 23, 32, 33, 34, 35, 36, 37, 38, 39, 40, 41, 42, 43, 44, 45, 46, 47, 48] (by decide +kernel) (by decide +kernel)
set_option maxRecDepth 20000 in
theorem gX11_layEasy_X11_moveOf : GoodIn wsX11_layEasy (wsV RX11 112 RX11 yX11_moveOf wsX11_moveOf) := goodIn_app (goodIn_of _ (by decide +kernel)) ggX11_layEasy_X11_moveOf
theorem dX11_layEasy_0 : decode cX11_layEasy 0 = .ok (.iload_n 1, 1) := by decide +kernel
theorem dX11_layEasy_1 : decode cX11_layEasy 1 = .ok (.invokestatic 67, 3) := by decide +kernel
theorem dX11_layEasy_4 : decode cX11_layEasy 4 = .ok (.istore_n 2, 1) := by decide +kernel
theorem dX11_layEasy_5 : decode cX11_layEasy 5 = .ok (.iconst 0, 1) := by decide +kernel
theorem dX11_layEasy_6 : decode cX11_layEasy 6 = .ok (.istore_n 3, 1) := by decide +kernel
theorem dX11_layEasy_7 : decode cX11_layEasy 7 = .ok (.iload_n 3, 1) := by decide +kernel
theorem dX11_layEasy_8 : decode cX11_layEasy 8 = .ok (.iconst 1, 1) := by decide +kernel
theorem dX11_layEasy_9 : decode cX11_layEasy 9 = .ok (.aload_n 0, 1) := by decide +kernel
theorem dX11_layEasy_10 : decode cX11_layEasy 10 = .ok (.invokevirtual 48, 3) := by decide +kernel
theorem dX11_layEasy_13 : decode cX11_layEasy 13 = .ok (.ishl, 1) := by decide +kernel
theorem dX11_layEasy_14 : decode cX11_layEasy 14 = .ok (.if_icmp .ge 49, 3) := by decide +kernel
theorem dX11_layEasy_17 : decode cX11_layEasy 17 = .ok (.aload_n 0, 1) := by decide +kernel
theorem dX11_layEasy_18 : decode cX11_layEasy 18 = .ok (.getfield 25, 3) := by decide +kernel
theorem dX11_layEasy_21 : decode cX11_layEasy 21 = .ok (.iload_n 3, 1) := by decide +kernel
theorem dX11_layEasy_22 : decode cX11_layEasy 22 = .ok (.iload_n 3, 1) := by decide +kernel
theorem dX11_layEasy_23 : decode cX11_layEasy 23 = .ok (.iload_n 1, 1) := by decide +kernel
theorem dX11_layEasy_24 : decode cX11_layEasy 24 = .ok (.if_icmp .ne 7, 3) := by decide +kernel
theorem dX11_layEasy_27 : decode cX11_layEasy 27 = .ok (.iconst 0, 1) := by decide +kernel
theorem dX11_layEasy_28 : decode cX11_layEasy 28 = .ok (.goto 5, 3) := by decide +kernel
theorem dX11_layEasy_31 : decode cX11_layEasy 31 = .ok (.ldc 96, 2) := by decide +kernel
theorem dX11_layEasy_33 : decode cX11_layEasy 33 = .ok (.iastore, 1) := by decide +kernel
theorem dX11_layEasy_34 : decode cX11_layEasy 34 = .ok (.aload_n 0, 1) := by decide +kernel
theorem dX11_layEasy_35 : decode cX11_layEasy 35 = .ok (.getfield 37, 3) := by decide +kernel
theorem dX11_layEasy_38 : decode cX11_layEasy 38 = .ok (.iload_n 3, 1) := by decide +kernel
theorem dX11_layEasy_39 : decode cX11_layEasy 39 = .ok (.iload_n 3, 1) := by decide +kernel
theorem dX11_layEasy_40 : decode cX11_layEasy 40 = .ok (.invokestatic 67, 3) := by decide +kernel
theorem dX11_layEasy_43 : decode cX11_layEasy 43 = .ok (.iload_n 2, 1) := by decide +kernel
theorem dX11_layEasy_44 : decode cX11_layEasy 44 = .ok (.if_icmp .ne 11, 3) := by decide +kernel
theorem dX11_layEasy_47 : decode cX11_layEasy 47 = .ok (.aload_n 0, 1) := by decide +kernel
theorem dX11_layEasy_48 : decode cX11_layEasy 48 = .ok (.iload_n 3, 1) := by decide +kernel
theorem dX11_layEasy_49 : decode cX11_layEasy 49 = .ok (.invokevirtual 109, 3) := by decide +kernel
theorem dX11_layEasy_52 : decode cX11_layEasy 52 = .ok (.goto 4, 3) := by decide +kernel
theorem dX11_layEasy_55 : decode cX11_layEasy 55 = .ok (.iconst 0, 1) := by decide +kernel
theorem dX11_layEasy_56 : decode cX11_layEasy 56 = .ok (.iastore, 1) := by decide +kernel
theorem dX11_layEasy_57 : decode cX11_layEasy 57 = .ok (.iinc 3 1, 3) := by decide +kernel
theorem dX11_layEasy_60 : decode cX11_layEasy 60 = .ok (.goto (-53), 3) := by decide +kernel
theorem dX11_layEasy_63 : decode cX11_layEasy 63 = .ok (.iconst 1, 1) := by decide +kernel
theorem dX11_layEasy_64 : decode cX11_layEasy 64 = .ok (.istore_n 3, 1) := by decide +kernel
theorem dX11_layEasy_65 : decode cX11_layEasy 65 = .ok (.iload_n 3, 1) := by decide +kernel
theorem dX11_layEasy_66 : decode cX11_layEasy 66 = .ok (.ifCond .eq 122, 3) := by decide +kernel
theorem dX11_layEasy_69 : decode cX11_layEasy 69 = .ok (.iconst 0, 1) := by decide +kernel
theorem dX11_layEasy_70 : decode cX11_layEasy 70 = .ok (.istore_n 3, 1) := by decide +kernel
theorem dX11_layEasy_71 : decode cX11_layEasy 71 = .ok (.iconst 0, 1) := by decide +kernel
theorem dX11_layEasy_72 : decode cX11_layEasy 72 = .ok (.istore 4, 2) := by decide +kernel
theorem dX11_layEasy_74 : decode cX11_layEasy 74 = .ok (.iload 4, 2) := by decide +kernel
theorem dX11_layEasy_76 : decode cX11_layEasy 76 = .ok (.iconst 1, 1) := by decide +kernel
theorem dX11_layEasy_77 : decode cX11_layEasy 77 = .ok (.aload_n 0, 1) := by decide +kernel
theorem dX11_layEasy_78 : decode cX11_layEasy 78 = .ok (.invokevirtual 48, 3) := by decide +kernel
theorem dX11_layEasy_81 : decode cX11_layEasy 81 = .ok (.ishl, 1) := by decide +kernel
theorem dX11_layEasy_82 : decode cX11_layEasy 82 = .ok (.if_icmp .ge 103, 3) := by decide +kernel
theorem dX11_layEasy_85 : decode cX11_layEasy 85 = .ok (.iconst 0, 1) := by decide +kernel
theorem dX11_layEasy_86 : decode cX11_layEasy 86 = .ok (.istore 5, 2) := by decide +kernel
theorem dX11_layEasy_88 : decode cX11_layEasy 88 = .ok (.iload 5, 2) := by decide +kernel
theorem dX11_layEasy_90 : decode cX11_layEasy 90 = .ok (.iconst 2, 1) := by decide +kernel
theorem dX11_layEasy_91 : decode cX11_layEasy 91 = .ok (.aload_n 0, 1) := by decide +kernel
theorem dX11_layEasy_92 : decode cX11_layEasy 92 = .ok (.invokevirtual 48, 3) := by decide +kernel
theorem dX11_layEasy_95 : decode cX11_layEasy 95 = .ok (.imul, 1) := by decide +kernel
theorem dX11_layEasy_96 : decode cX11_layEasy 96 = .ok (.if_icmp .ge 83, 3) := by decide +kernel
theorem dX11_layEasy_99 : decode cX11_layEasy 99 = .ok (.aload_n 0, 1) := by decide +kernel
theorem dX11_layEasy_100 : decode cX11_layEasy 100 = .ok (.getfield 37, 3) := by decide +kernel
theorem dX11_layEasy_103 : decode cX11_layEasy 103 = .ok (.iload 4, 2) := by decide +kernel
theorem dX11_layEasy_105 : decode cX11_layEasy 105 = .ok (.iaload, 1) := by decide +kernel
theorem dX11_layEasy_106 : decode cX11_layEasy 106 = .ok (.ifCond .le 73, 3) := by decide +kernel
theorem dX11_layEasy_109 : decode cX11_layEasy 109 = .ok (.aload_n 0, 1) := by decide +kernel
theorem dX11_layEasy_110 : decode cX11_layEasy 110 = .ok (.iload 4, 2) := by decide +kernel
theorem dX11_layEasy_112 : decode cX11_layEasy 112 = .ok (.iload 5, 2) := by decide +kernel
theorem dX11_layEasy_114 : decode cX11_layEasy 114 = .ok (.invokevirtual 112, 3) := by decide +kernel
theorem dX11_layEasy_117 : decode cX11_layEasy 117 = .ok (.istore 6, 2) := by decide +kernel
theorem dX11_layEasy_119 : decode cX11_layEasy 119 = .ok (.iload 6, 2) := by decide +kernel
theorem dX11_layEasy_121 : decode cX11_layEasy 121 = .ok (.ifCond .le 52, 3) := by decide +kernel
theorem dX11_layEasy_124 : decode cX11_layEasy 124 = .ok (.aload_n 0, 1) := by decide +kernel
theorem dX11_layEasy_125 : decode cX11_layEasy 125 = .ok (.getfield 25, 3) := by decide +kernel
theorem dX11_layEasy_128 : decode cX11_layEasy 128 = .ok (.iload 6, 2) := by decide +kernel
theorem dX11_layEasy_130 : decode cX11_layEasy 130 = .ok (.iaload, 1) := by decide +kernel
theorem dX11_layEasy_131 : decode cX11_layEasy 131 = .ok (.aload_n 0, 1) := by decide +kernel
theorem dX11_layEasy_132 : decode cX11_layEasy 132 = .ok (.getfield 37, 3) := by decide +kernel
theorem dX11_layEasy_135 : decode cX11_layEasy 135 = .ok (.iload 6, 2) := by decide +kernel
theorem dX11_layEasy_137 : decode cX11_layEasy 137 = .ok (.iaload, 1) := by decide +kernel
theorem dX11_layEasy_138 : decode cX11_layEasy 138 = .ok (.iadd, 1) := by decide +kernel
theorem dX11_layEasy_139 : decode cX11_layEasy 139 = .ok (.aload_n 0, 1) := by decide +kernel
theorem dX11_layEasy_140 : decode cX11_layEasy 140 = .ok (.getfield 25, 3) := by decide +kernel
theorem dX11_layEasy_143 : decode cX11_layEasy 143 = .ok (.iload 4, 2) := by decide +kernel
theorem dX11_layEasy_145 : decode cX11_layEasy 145 = .ok (.iaload, 1) := by decide +kernel
theorem dX11_layEasy_146 : decode cX11_layEasy 146 = .ok (.if_icmp .ge 27, 3) := by decide +kernel
theorem dX11_layEasy_149 : decode cX11_layEasy 149 = .ok (.aload_n 0, 1) := by decide +kernel
theorem dX11_layEasy_150 : decode cX11_layEasy 150 = .ok (.getfield 25, 3) := by decide +kernel
theorem dX11_layEasy_153 : decode cX11_layEasy 153 = .ok (.iload 4, 2) := by decide +kernel
theorem dX11_layEasy_155 : decode cX11_layEasy 155 = .ok (.aload_n 0, 1) := by decide +kernel
theorem dX11_layEasy_156 : decode cX11_layEasy 156 = .ok (.getfield 25, 3) := by decide +kernel
theorem dX11_layEasy_159 : decode cX11_layEasy 159 = .ok (.iload 6, 2) := by decide +kernel
theorem dX11_layEasy_161 : decode cX11_layEasy 161 = .ok (.iaload, 1) := by decide +kernel
theorem dX11_layEasy_162 : decode cX11_layEasy 162 = .ok (.aload_n 0, 1) := by decide +kernel
theorem dX11_layEasy_163 : decode cX11_layEasy 163 = .ok (.getfield 37, 3) := by decide +kernel
theorem dX11_layEasy_166 : decode cX11_layEasy 166 = .ok (.iload 6, 2) := by decide +kernel
theorem dX11_layEasy_168 : decode cX11_layEasy 168 = .ok (.iaload, 1) := by decide +kernel
theorem dX11_layEasy_169 : decode cX11_layEasy 169 = .ok (.iadd, 1) := by decide +kernel
theorem dX11_layEasy_170 : decode cX11_layEasy 170 = .ok (.iastore, 1) := by decide +kernel
theorem dX11_layEasy_171 : decode cX11_layEasy 171 = .ok (.iconst 1, 1) := by decide +kernel
theorem dX11_layEasy_172 : decode cX11_layEasy 172 = .ok (.istore_n 3, 1) := by decide +kernel
theorem dX11_layEasy_173 : decode cX11_layEasy 173 = .ok (.iinc 5 1, 3) := by decide +kernel
theorem dX11_layEasy_176 : decode cX11_layEasy 176 = .ok (.goto (-88), 3) := by decide +kernel
theorem dX11_layEasy_179 : decode cX11_layEasy 179 = .ok (.iinc 4 1, 3) := by decide +kernel
theorem dX11_layEasy_182 : decode cX11_layEasy 182 = .ok (.goto (-108), 3) := by decide +kernel
theorem dX11_layEasy_185 : decode cX11_layEasy 185 = .ok (.goto (-120), 3) := by decide +kernel
theorem dX11_layEasy_188 : decode cX11_layEasy 188 = .ok (.return_, 1) := by decide +kernel
set_option maxRecDepth 20000 in
theorem ggX11_easyNext_X11_m : GoodIn wsX11_easyNext wsX11_m := goodIn_r _ [8, 9, 17, 18, 19, 20, 21, 22, 23, 24, 25, 26, 27, 28, 29, 30, 31, 32, 33] (by decide +kernel) (by decide +kernel)
set_option maxRecDepth 20000 in
theorem gX11_easyNext_X11_m : GoodIn wsX11_easyNext (wsV RX11 48 RX11 yX11_m wsX11_m) := goodIn_app (goodIn_of _ (by decide +kernel)) ggX11_easyNext_X11_m
set_option maxRecDepth 20000 in
theorem ggX11_easyNext_X11_moveOf : GoodIn wsX11_easyNext wsX11_moveOf := goodIn_r _ [13, 4, 5, 6, 7, 8, 9, 14, 15, 16, 17, 18, 19, 20, 21, 22, 23, 24, 25, 26, 27, 28, 29, 30, 31, 32, 33] (by decide +kernel) (by decide +kernel)
set_option maxRecDepth 20000 in
theorem gX11_easyNext_X11_moveOf : GoodIn wsX11_easyNext (wsV RX11 112 RX11 yX11_moveOf wsX11_moveOf) := goodIn_app (goodIn_of _ (by decide +kernel)) ggX11_easyNext_X11_moveOf
theorem dX11_easyNext_0 : decode cX11_easyNext 0 = .ok (.iload_n 1, 1) := by decide +kernel
theorem dX11_easyNext_1 : decode cX11_easyNext 1 = .ok (.iload_n 2, 1) := by decide +kernel
theorem dX11_easyNext_2 : decode cX11_easyNext 2 = .ok (.if_icmp .ne 5, 3) := by decide +kernel
theorem dX11_easyNext_5 : decode cX11_easyNext 5 = .ok (.iconst (-1), 1) := by decide +kernel
theorem dX11_easyNext_6 : decode cX11_easyNext 6 = .ok (.ireturn, 1) := by decide +kernel
theorem dX11_easyNext_7 : decode cX11_easyNext 7 = .ok (.ldc 96, 2) := by decide +kernel
theorem dX11_easyNext_9 : decode cX11_easyNext 9 = .ok (.istore_n 3, 1) := by decide +kernel
theorem dX11_easyNext_10 : decode cX11_easyNext 10 = .ok (.iconst 0, 1) := by decide +kernel
theorem dX11_easyNext_11 : decode cX11_easyNext 11 = .ok (.istore 4, 2) := by decide +kernel
theorem dX11_easyNext_13 : decode cX11_easyNext 13 = .ok (.iload 4, 2) := by decide +kernel
theorem dX11_easyNext_15 : decode cX11_easyNext 15 = .ok (.iconst 2, 1) := by decide +kernel
theorem dX11_easyNext_16 : decode cX11_easyNext 16 = .ok (.aload_n 0, 1) := by decide +kernel
theorem dX11_easyNext_17 : decode cX11_easyNext 17 = .ok (.invokevirtual 48, 3) := by decide +kernel
theorem dX11_easyNext_20 : decode cX11_easyNext 20 = .ok (.imul, 1) := by decide +kernel
theorem dX11_easyNext_21 : decode cX11_easyNext 21 = .ok (.if_icmp .ge 72, 3) := by decide +kernel
theorem dX11_easyNext_24 : decode cX11_easyNext 24 = .ok (.aload_n 0, 1) := by decide +kernel
theorem dX11_easyNext_25 : decode cX11_easyNext 25 = .ok (.iload_n 1, 1) := by decide +kernel
theorem dX11_easyNext_26 : decode cX11_easyNext 26 = .ok (.iload 4, 2) := by decide +kernel
theorem dX11_easyNext_28 : decode cX11_easyNext 28 = .ok (.invokevirtual 112, 3) := by decide +kernel
theorem dX11_easyNext_31 : decode cX11_easyNext 31 = .ok (.istore 5, 2) := by decide +kernel
theorem dX11_easyNext_33 : decode cX11_easyNext 33 = .ok (.iload 5, 2) := by decide +kernel
theorem dX11_easyNext_35 : decode cX11_easyNext 35 = .ok (.ifCond .le 31, 3) := by decide +kernel
theorem dX11_easyNext_38 : decode cX11_easyNext 38 = .ok (.aload_n 0, 1) := by decide +kernel
theorem dX11_easyNext_39 : decode cX11_easyNext 39 = .ok (.getfield 25, 3) := by decide +kernel
theorem dX11_easyNext_42 : decode cX11_easyNext 42 = .ok (.iload 5, 2) := by decide +kernel
theorem dX11_easyNext_44 : decode cX11_easyNext 44 = .ok (.iaload, 1) := by decide +kernel
theorem dX11_easyNext_45 : decode cX11_easyNext 45 = .ok (.aload_n 0, 1) := by decide +kernel
theorem dX11_easyNext_46 : decode cX11_easyNext 46 = .ok (.getfield 37, 3) := by decide +kernel
theorem dX11_easyNext_49 : decode cX11_easyNext 49 = .ok (.iload 5, 2) := by decide +kernel
theorem dX11_easyNext_51 : decode cX11_easyNext 51 = .ok (.iaload, 1) := by decide +kernel
theorem dX11_easyNext_52 : decode cX11_easyNext 52 = .ok (.iadd, 1) := by decide +kernel
theorem dX11_easyNext_53 : decode cX11_easyNext 53 = .ok (.aload_n 0, 1) := by decide +kernel
theorem dX11_easyNext_54 : decode cX11_easyNext 54 = .ok (.getfield 25, 3) := by decide +kernel
theorem dX11_easyNext_57 : decode cX11_easyNext 57 = .ok (.iload_n 1, 1) := by decide +kernel
theorem dX11_easyNext_58 : decode cX11_easyNext 58 = .ok (.iaload, 1) := by decide +kernel
theorem dX11_easyNext_59 : decode cX11_easyNext 59 = .ok (.if_icmp .ne 7, 3) := by decide +kernel
theorem dX11_easyNext_62 : decode cX11_easyNext 62 = .ok (.iconst 1, 1) := by decide +kernel
theorem dX11_easyNext_63 : decode cX11_easyNext 63 = .ok (.goto 4, 3) := by decide +kernel
theorem dX11_easyNext_66 : decode cX11_easyNext 66 = .ok (.iconst 0, 1) := by decide +kernel
theorem dX11_easyNext_67 : decode cX11_easyNext 67 = .ok (.istore 6, 2) := by decide +kernel
theorem dX11_easyNext_69 : decode cX11_easyNext 69 = .ok (.iload 6, 2) := by decide +kernel
theorem dX11_easyNext_71 : decode cX11_easyNext 71 = .ok (.ifCond .eq 14, 3) := by decide +kernel
theorem dX11_easyNext_74 : decode cX11_easyNext 74 = .ok (.iload 5, 2) := by decide +kernel
theorem dX11_easyNext_76 : decode cX11_easyNext 76 = .ok (.iload_n 3, 1) := by decide +kernel
theorem dX11_easyNext_77 : decode cX11_easyNext 77 = .ok (.if_icmp .ge 8, 3) := by decide +kernel
theorem dX11_easyNext_80 : decode cX11_easyNext 80 = .ok (.iload 5, 2) := by decide +kernel
theorem dX11_easyNext_82 : decode cX11_easyNext 82 = .ok (.goto 4, 3) := by decide +kernel
theorem dX11_easyNext_85 : decode cX11_easyNext 85 = .ok (.iload_n 3, 1) := by decide +kernel
theorem dX11_easyNext_86 : decode cX11_easyNext 86 = .ok (.istore_n 3, 1) := by decide +kernel
theorem dX11_easyNext_87 : decode cX11_easyNext 87 = .ok (.iinc 4 1, 3) := by decide +kernel
theorem dX11_easyNext_90 : decode cX11_easyNext 90 = .ok (.goto (-77), 3) := by decide +kernel
theorem dX11_easyNext_93 : decode cX11_easyNext 93 = .ok (.iload_n 3, 1) := by decide +kernel
theorem dX11_easyNext_94 : decode cX11_easyNext 94 = .ok (.ireturn, 1) := by decide +kernel
set_option maxRecDepth 20000 in
theorem ggX11_unlikeForms_X11_formOf : GoodIn wsX11_unlikeForms wsX11_formOf := goodIn_r _ [6, 7, 8, 9, 5, 10, 1, 11, 12, 13, 14, 15, 16, 17, 18, 19, 20, 21, 22, 23, 24, 25, 26, 27, 28, 29, 30, 31, 32, 33, 34, 35, 36, 37, 38] (by decide +kernel) (by decide +kernel)
set_option maxRecDepth 20000 in
theorem gX11_unlikeForms_X11_formOf : GoodIn wsX11_unlikeForms (wsV RX11 115 RX11 yX11_formOf wsX11_formOf) := goodIn_app (goodIn_of _ (by decide +kernel)) ggX11_unlikeForms_X11_formOf
theorem dX11_unlikeForms_0 : decode cX11_unlikeForms 0 = .ok (.iconst 0, 1) := by decide +kernel
theorem dX11_unlikeForms_1 : decode cX11_unlikeForms 1 = .ok (.istore_n 1, 1) := by decide +kernel
theorem dX11_unlikeForms_2 : decode cX11_unlikeForms 2 = .ok (.iconst 0, 1) := by decide +kernel
theorem dX11_unlikeForms_3 : decode cX11_unlikeForms 3 = .ok (.istore_n 2, 1) := by decide +kernel
theorem dX11_unlikeForms_4 : decode cX11_unlikeForms 4 = .ok (.iload_n 2, 1) := by decide +kernel
theorem dX11_unlikeForms_5 : decode cX11_unlikeForms 5 = .ok (.aload_n 0, 1) := by decide +kernel
theorem dX11_unlikeForms_6 : decode cX11_unlikeForms 6 = .ok (.getfield 7, 3) := by decide +kernel
theorem dX11_unlikeForms_9 : decode cX11_unlikeForms 9 = .ok (.iconst 1, 1) := by decide +kernel
theorem dX11_unlikeForms_10 : decode cX11_unlikeForms 10 = .ok (.iaload, 1) := by decide +kernel
theorem dX11_unlikeForms_11 : decode cX11_unlikeForms 11 = .ok (.if_icmp .ge 76, 3) := by decide +kernel
theorem dX11_unlikeForms_14 : decode cX11_unlikeForms 14 = .ok (.iconst 1, 1) := by decide +kernel
theorem dX11_unlikeForms_15 : decode cX11_unlikeForms 15 = .ok (.istore_n 3, 1) := by decide +kernel
theorem dX11_unlikeForms_16 : decode cX11_unlikeForms 16 = .ok (.iconst 0, 1) := by decide +kernel
theorem dX11_unlikeForms_17 : decode cX11_unlikeForms 17 = .ok (.istore 4, 2) := by decide +kernel
theorem dX11_unlikeForms_19 : decode cX11_unlikeForms 19 = .ok (.iload 4, 2) := by decide +kernel
theorem dX11_unlikeForms_21 : decode cX11_unlikeForms 21 = .ok (.iload_n 2, 1) := by decide +kernel
theorem dX11_unlikeForms_22 : decode cX11_unlikeForms 22 = .ok (.if_icmp .ge 47, 3) := by decide +kernel
theorem dX11_unlikeForms_25 : decode cX11_unlikeForms 25 = .ok (.iload_n 3, 1) := by decide +kernel
theorem dX11_unlikeForms_26 : decode cX11_unlikeForms 26 = .ok (.ifCond .eq 35, 3) := by decide +kernel
theorem dX11_unlikeForms_29 : decode cX11_unlikeForms 29 = .ok (.aload_n 0, 1) := by decide +kernel
theorem dX11_unlikeForms_30 : decode cX11_unlikeForms 30 = .ok (.aload_n 0, 1) := by decide +kernel
theorem dX11_unlikeForms_31 : decode cX11_unlikeForms 31 = .ok (.getfield 7, 3) := by decide +kernel
theorem dX11_unlikeForms_34 : decode cX11_unlikeForms 34 = .ok (.iconst 2, 1) := by decide +kernel
theorem dX11_unlikeForms_35 : decode cX11_unlikeForms 35 = .ok (.iload 4, 2) := by decide +kernel
theorem dX11_unlikeForms_37 : decode cX11_unlikeForms 37 = .ok (.iadd, 1) := by decide +kernel
theorem dX11_unlikeForms_38 : decode cX11_unlikeForms 38 = .ok (.iaload, 1) := by decide +kernel
theorem dX11_unlikeForms_39 : decode cX11_unlikeForms 39 = .ok (.invokevirtual 115, 3) := by decide +kernel
theorem dX11_unlikeForms_42 : decode cX11_unlikeForms 42 = .ok (.aload_n 0, 1) := by decide +kernel
theorem dX11_unlikeForms_43 : decode cX11_unlikeForms 43 = .ok (.aload_n 0, 1) := by decide +kernel
theorem dX11_unlikeForms_44 : decode cX11_unlikeForms 44 = .ok (.getfield 7, 3) := by decide +kernel
theorem dX11_unlikeForms_47 : decode cX11_unlikeForms 47 = .ok (.iconst 2, 1) := by decide +kernel
theorem dX11_unlikeForms_48 : decode cX11_unlikeForms 48 = .ok (.iload_n 2, 1) := by decide +kernel
theorem dX11_unlikeForms_49 : decode cX11_unlikeForms 49 = .ok (.iadd, 1) := by decide +kernel
theorem dX11_unlikeForms_50 : decode cX11_unlikeForms 50 = .ok (.iaload, 1) := by decide +kernel
theorem dX11_unlikeForms_51 : decode cX11_unlikeForms 51 = .ok (.invokevirtual 115, 3) := by decide +kernel
theorem dX11_unlikeForms_54 : decode cX11_unlikeForms 54 = .ok (.if_icmp .eq 7, 3) := by decide +kernel
theorem dX11_unlikeForms_57 : decode cX11_unlikeForms 57 = .ok (.iconst 1, 1) := by decide +kernel
theorem dX11_unlikeForms_58 : decode cX11_unlikeForms 58 = .ok (.goto 4, 3) := by decide +kernel
theorem dX11_unlikeForms_61 : decode cX11_unlikeForms 61 = .ok (.iconst 0, 1) := by decide +kernel
theorem dX11_unlikeForms_62 : decode cX11_unlikeForms 62 = .ok (.istore_n 3, 1) := by decide +kernel
theorem dX11_unlikeForms_63 : decode cX11_unlikeForms 63 = .ok (.iinc 4 1, 3) := by decide +kernel
theorem dX11_unlikeForms_66 : decode cX11_unlikeForms 66 = .ok (.goto (-47), 3) := by decide +kernel
theorem dX11_unlikeForms_69 : decode cX11_unlikeForms 69 = .ok (.iload_n 1, 1) := by decide +kernel
theorem dX11_unlikeForms_70 : decode cX11_unlikeForms 70 = .ok (.iload_n 3, 1) := by decide +kernel
theorem dX11_unlikeForms_71 : decode cX11_unlikeForms 71 = .ok (.ifCond .eq 7, 3) := by decide +kernel
