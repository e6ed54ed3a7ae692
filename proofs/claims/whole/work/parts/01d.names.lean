theorem dX4_listStops_39 : decode cX4_listStops 39 = .ok (.invokevirtual 51, 3) := by decide +kernel
theorem dX4_listStops_42 : decode cX4_listStops 42 = .ok (.iastore, 1) := by decide +kernel
theorem dX4_listStops_43 : decode cX4_listStops 43 = .ok (.aload_n 0, 1) := by decide +kernel
theorem dX4_listStops_44 : decode cX4_listStops 44 = .ok (.dup, 1) := by decide +kernel
theorem dX4_listStops_45 : decode cX4_listStops 45 = .ok (.getfield 9, 3) := by decide +kernel
theorem dX4_listStops_48 : decode cX4_listStops 48 = .ok (.iconst 1, 1) := by decide +kernel
theorem dX4_listStops_49 : decode cX4_listStops 49 = .ok (.iadd, 1) := by decide +kernel
theorem dX4_listStops_50 : decode cX4_listStops 50 = .ok (.putfield 9, 3) := by decide +kernel
theorem dX4_listStops_53 : decode cX4_listStops 53 = .ok (.iinc 2 1, 3) := by decide +kernel
theorem dX4_listStops_56 : decode cX4_listStops 56 = .ok (.goto (-49), 3) := by decide +kernel
theorem dX4_listStops_59 : decode cX4_listStops 59 = .ok (.return_, 1) := by decide +kernel
set_option maxRecDepth 20000 in
theorem ggX4_measure_X9_least : GoodIn wsX4_measure wsX9_least := goodIn_r _ [8, 9, 10, 11, 12, 13, 14, 15, 16, 17, 18, 19, 20, 21, 22, 23, 24, 25, 7, 26, 27, 28, 29, 30, 31, 32, 33, 34, 35, 36, 37, 38, 39, 40, 41, 42, 43, 44, 45, 46, 47, 48, 49, 50, 51, 52, 53, 54, 55, 56, 57, 58, 59, 60, 61, 62, 63, 64, 65, 66, 71, 72, 73, 74, 75, 76, 77, 78, 79, 80, 81, 82, 83] (by decide +kernel) (by decide +kernel)
set_option maxRecDepth 20000 in
theorem gX4_measure_X9_least : GoodIn wsX4_measure (wsV RX4 55 RX9 yX9_least wsX9_least) := goodIn_app (goodIn_of _ (by decide +kernel)) ggX4_measure_X9_least
theorem dX4_measure_0 : decode cX4_measure 0 = .ok (.iconst 0, 1) := by decide +kernel
theorem dX4_measure_1 : decode cX4_measure 1 = .ok (.istore_n 3, 1) := by decide +kernel
theorem dX4_measure_2 : decode cX4_measure 2 = .ok (.iload_n 3, 1) := by decide +kernel
theorem dX4_measure_3 : decode cX4_measure 3 = .ok (.aload_n 0, 1) := by decide +kernel
theorem dX4_measure_4 : decode cX4_measure 4 = .ok (.getfield 9, 3) := by decide +kernel
theorem dX4_measure_7 : decode cX4_measure 7 = .ok (.if_icmp .ge 77, 3) := by decide +kernel
theorem dX4_measure_10 : decode cX4_measure 10 = .ok (.iload_n 3, 1) := by decide +kernel
theorem dX4_measure_11 : decode cX4_measure 11 = .ok (.iconst 1, 1) := by decide +kernel
theorem dX4_measure_12 : decode cX4_measure 12 = .ok (.iadd, 1) := by decide +kernel
theorem dX4_measure_13 : decode cX4_measure 13 = .ok (.istore 4, 2) := by decide +kernel
theorem dX4_measure_15 : decode cX4_measure 15 = .ok (.iload 4, 2) := by decide +kernel
theorem dX4_measure_17 : decode cX4_measure 17 = .ok (.aload_n 0, 1) := by decide +kernel
theorem dX4_measure_18 : decode cX4_measure 18 = .ok (.getfield 9, 3) := by decide +kernel
theorem dX4_measure_21 : decode cX4_measure 21 = .ok (.if_icmp .ge 57, 3) := by decide +kernel
theorem dX4_measure_24 : decode cX4_measure 24 = .ok (.aload_n 2, 1) := by decide +kernel
theorem dX4_measure_25 : decode cX4_measure 25 = .ok (.aload_n 0, 1) := by decide +kernel
theorem dX4_measure_26 : decode cX4_measure 26 = .ok (.getfield 15, 3) := by decide +kernel
theorem dX4_measure_29 : decode cX4_measure 29 = .ok (.iload_n 3, 1) := by decide +kernel
theorem dX4_measure_30 : decode cX4_measure 30 = .ok (.iaload, 1) := by decide +kernel
theorem dX4_measure_31 : decode cX4_measure 31 = .ok (.aload_n 0, 1) := by decide +kernel
theorem dX4_measure_32 : decode cX4_measure 32 = .ok (.getfield 15, 3) := by decide +kernel
theorem dX4_measure_35 : decode cX4_measure 35 = .ok (.iload 4, 2) := by decide +kernel
theorem dX4_measure_37 : decode cX4_measure 37 = .ok (.iaload, 1) := by decide +kernel
theorem dX4_measure_38 : decode cX4_measure 38 = .ok (.iload_n 1, 1) := by decide +kernel
theorem dX4_measure_39 : decode cX4_measure 39 = .ok (.invokevirtual 55, 3) := by decide +kernel
theorem dX4_measure_42 : decode cX4_measure 42 = .ok (.istore 5, 2) := by decide +kernel
theorem dX4_measure_44 : decode cX4_measure 44 = .ok (.aload_n 0, 1) := by decide +kernel
theorem dX4_measure_45 : decode cX4_measure 45 = .ok (.getfield 19, 3) := by decide +kernel
theorem dX4_measure_48 : decode cX4_measure 48 = .ok (.iload_n 3, 1) := by decide +kernel
theorem dX4_measure_49 : decode cX4_measure 49 = .ok (.bipush 8, 2) := by decide +kernel
theorem dX4_measure_51 : decode cX4_measure 51 = .ok (.imul, 1) := by decide +kernel
theorem dX4_measure_52 : decode cX4_measure 52 = .ok (.iload 4, 2) := by decide +kernel
theorem dX4_measure_54 : decode cX4_measure 54 = .ok (.iadd, 1) := by decide +kernel
theorem dX4_measure_55 : decode cX4_measure 55 = .ok (.iload 5, 2) := by decide +kernel
theorem dX4_measure_57 : decode cX4_measure 57 = .ok (.iastore, 1) := by decide +kernel
theorem dX4_measure_58 : decode cX4_measure 58 = .ok (.aload_n 0, 1) := by decide +kernel
theorem dX4_measure_59 : decode cX4_measure 59 = .ok (.getfield 19, 3) := by decide +kernel
theorem dX4_measure_62 : decode cX4_measure 62 = .ok (.iload 4, 2) := by decide +kernel
theorem dX4_measure_64 : decode cX4_measure 64 = .ok (.bipush 8, 2) := by decide +kernel
theorem dX4_measure_66 : decode cX4_measure 66 = .ok (.imul, 1) := by decide +kernel
theorem dX4_measure_67 : decode cX4_measure 67 = .ok (.iload_n 3, 1) := by decide +kernel
theorem dX4_measure_68 : decode cX4_measure 68 = .ok (.iadd, 1) := by decide +kernel
theorem dX4_measure_69 : decode cX4_measure 69 = .ok (.iload 5, 2) := by decide +kernel
theorem dX4_measure_71 : decode cX4_measure 71 = .ok (.iastore, 1) := by decide +kernel
theorem dX4_measure_72 : decode cX4_measure 72 = .ok (.iinc 4 1, 3) := by decide +kernel
theorem dX4_measure_75 : decode cX4_measure 75 = .ok (.goto (-60), 3) := by decide +kernel
theorem dX4_measure_78 : decode cX4_measure 78 = .ok (.iinc 3 1, 3) := by decide +kernel
theorem dX4_measure_81 : decode cX4_measure 81 = .ok (.goto (-79), 3) := by decide +kernel
theorem dX4_measure_84 : decode cX4_measure 84 = .ok (.return_, 1) := by decide +kernel
theorem dX4_leastTo_0 : decode cX4_leastTo 0 = .ok (.iload_n 2, 1) := by decide +kernel
theorem dX4_leastTo_1 : decode cX4_leastTo 1 = .ok (.ifCond .ne 12, 3) := by decide +kernel
theorem dX4_leastTo_4 : decode cX4_leastTo 4 = .ok (.aload_n 0, 1) := by decide +kernel
theorem dX4_leastTo_5 : decode cX4_leastTo 5 = .ok (.getfield 19, 3) := by decide +kernel
theorem dX4_leastTo_8 : decode cX4_leastTo 8 = .ok (.iload_n 1, 1) := by decide +kernel
theorem dX4_leastTo_9 : decode cX4_leastTo 9 = .ok (.iconst 1, 1) := by decide +kernel
theorem dX4_leastTo_10 : decode cX4_leastTo 10 = .ok (.iadd, 1) := by decide +kernel
theorem dX4_leastTo_11 : decode cX4_leastTo 11 = .ok (.iaload, 1) := by decide +kernel
theorem dX4_leastTo_12 : decode cX4_leastTo 12 = .ok (.ireturn, 1) := by decide +kernel
theorem dX4_leastTo_13 : decode cX4_leastTo 13 = .ok (.ldc 60, 2) := by decide +kernel
theorem dX4_leastTo_15 : decode cX4_leastTo 15 = .ok (.istore 4, 2) := by decide +kernel
theorem dX4_leastTo_17 : decode cX4_leastTo 17 = .ok (.iconst 0, 1) := by decide +kernel
theorem dX4_leastTo_18 : decode cX4_leastTo 18 = .ok (.istore 5, 2) := by decide +kernel
theorem dX4_leastTo_20 : decode cX4_leastTo 20 = .ok (.iload 5, 2) := by decide +kernel
theorem dX4_leastTo_22 : decode cX4_leastTo 22 = .ok (.iload_n 3, 1) := by decide +kernel
theorem dX4_leastTo_23 : decode cX4_leastTo 23 = .ok (.if_icmp .ge 58, 3) := by decide +kernel
theorem dX4_leastTo_26 : decode cX4_leastTo 26 = .ok (.iload_n 2, 1) := by decide +kernel
theorem dX4_leastTo_27 : decode cX4_leastTo 27 = .ok (.iconst 1, 1) := by decide +kernel
theorem dX4_leastTo_28 : decode cX4_leastTo 28 = .ok (.iload 5, 2) := by decide +kernel
theorem dX4_leastTo_30 : decode cX4_leastTo 30 = .ok (.ishl, 1) := by decide +kernel
theorem dX4_leastTo_31 : decode cX4_leastTo 31 = .ok (.iand, 1) := by decide +kernel
theorem dX4_leastTo_32 : decode cX4_leastTo 32 = .ok (.ifCond .eq 43, 3) := by decide +kernel
theorem dX4_leastTo_35 : decode cX4_leastTo 35 = .ok (.aload_n 0, 1) := by decide +kernel
theorem dX4_leastTo_36 : decode cX4_leastTo 36 = .ok (.getfield 22, 3) := by decide +kernel
theorem dX4_leastTo_39 : decode cX4_leastTo 39 = .ok (.iload_n 2, 1) := by decide +kernel
theorem dX4_leastTo_40 : decode cX4_leastTo 40 = .ok (.bipush 7, 2) := by decide +kernel
theorem dX4_leastTo_42 : decode cX4_leastTo 42 = .ok (.imul, 1) := by decide +kernel
theorem dX4_leastTo_43 : decode cX4_leastTo 43 = .ok (.iload 5, 2) := by decide +kernel
theorem dX4_leastTo_45 : decode cX4_leastTo 45 = .ok (.iadd, 1) := by decide +kernel
theorem dX4_leastTo_46 : decode cX4_leastTo 46 = .ok (.iaload, 1) := by decide +kernel
theorem dX4_leastTo_47 : decode cX4_leastTo 47 = .ok (.aload_n 0, 1) := by decide +kernel
theorem dX4_leastTo_48 : decode cX4_leastTo 48 = .ok (.getfield 19, 3) := by decide +kernel
theorem dX4_leastTo_51 : decode cX4_leastTo 51 = .ok (.iload 5, 2) := by decide +kernel
theorem dX4_leastTo_53 : decode cX4_leastTo 53 = .ok (.iconst 1, 1) := by decide +kernel
theorem dX4_leastTo_54 : decode cX4_leastTo 54 = .ok (.iadd, 1) := by decide +kernel
theorem dX4_leastTo_55 : decode cX4_leastTo 55 = .ok (.bipush 8, 2) := by decide +kernel
theorem dX4_leastTo_57 : decode cX4_leastTo 57 = .ok (.imul, 1) := by decide +kernel
theorem dX4_leastTo_58 : decode cX4_leastTo 58 = .ok (.iload_n 1, 1) := by decide +kernel
theorem dX4_leastTo_59 : decode cX4_leastTo 59 = .ok (.iadd, 1) := by decide +kernel
theorem dX4_leastTo_60 : decode cX4_leastTo 60 = .ok (.iconst 1, 1) := by decide +kernel
theorem dX4_leastTo_61 : decode cX4_leastTo 61 = .ok (.iadd, 1) := by decide +kernel
theorem dX4_leastTo_62 : decode cX4_leastTo 62 = .ok (.iaload, 1) := by decide +kernel
theorem dX4_leastTo_63 : decode cX4_leastTo 63 = .ok (.iadd, 1) := by decide +kernel
theorem dX4_leastTo_64 : decode cX4_leastTo 64 = .ok (.istore 6, 2) := by decide +kernel
theorem dX4_leastTo_66 : decode cX4_leastTo 66 = .ok (.iload 4, 2) := by decide +kernel
theorem dX4_leastTo_68 : decode cX4_leastTo 68 = .ok (.iload 6, 2) := by decide +kernel
theorem dX4_leastTo_70 : decode cX4_leastTo 70 = .ok (.invokestatic 42, 3) := by decide +kernel
theorem dX4_leastTo_73 : decode cX4_leastTo 73 = .ok (.istore 4, 2) := by decide +kernel
theorem dX4_leastTo_75 : decode cX4_leastTo 75 = .ok (.iinc 5 1, 3) := by decide +kernel
theorem dX4_leastTo_78 : decode cX4_leastTo 78 = .ok (.goto (-58), 3) := by decide +kernel
theorem dX4_leastTo_81 : decode cX4_leastTo 81 = .ok (.iload 4, 2) := by decide +kernel
theorem dX4_leastTo_83 : decode cX4_leastTo 83 = .ok (.ireturn, 1) := by decide +kernel
theorem dX5_init_0 : decode cX5_init 0 = .ok (.aload_n 0, 1) := by decide +kernel
theorem dX5_init_1 : decode cX5_init 1 = .ok (.invokespecial 5, 3) := by decide +kernel
theorem dX5_init_4 : decode cX5_init 4 = .ok (.aload_n 0, 1) := by decide +kernel
theorem dX5_init_5 : decode cX5_init 5 = .ok (.iconst 0, 1) := by decide +kernel
theorem dX5_init_6 : decode cX5_init 6 = .ok (.iload_n 1, 1) := by decide +kernel
theorem dX5_init_7 : decode cX5_init 7 = .ok (.bipush 16, 2) := by decide +kernel
theorem dX5_init_9 : decode cX5_init 9 = .ok (.invokestatic 11, 3) := by decide +kernel
theorem dX5_init_12 : decode cX5_init 12 = .ok (.invokestatic 17, 3) := by decide +kernel
theorem dX5_init_15 : decode cX5_init 15 = .ok (.putfield 20, 3) := by decide +kernel
theorem dX5_init_18 : decode cX5_init 18 = .ok (.aload_n 0, 1) := by decide +kernel
theorem dX5_init_19 : decode cX5_init 19 = .ok (.aload_n 0, 1) := by decide +kernel
theorem dX5_init_20 : decode cX5_init 20 = .ok (.getfield 20, 3) := by decide +kernel
theorem dX5_init_23 : decode cX5_init 23 = .ok (.bipush 11, 2) := by decide +kernel
theorem dX5_init_25 : decode cX5_init 25 = .ok (.imul, 1) := by decide +kernel
theorem dX5_init_26 : decode cX5_init 26 = .ok (.newarray .int, 2) := by decide +kernel
theorem dX5_init_28 : decode cX5_init 28 = .ok (.putfield 24, 3) := by decide +kernel
theorem dX5_init_31 : decode cX5_init 31 = .ok (.return_, 1) := by decide +kernel
theorem dX5_has_0 : decode cX5_has 0 = .ok (.iload_n 1, 1) := by decide +kernel
theorem dX5_has_1 : decode cX5_has 1 = .ok (.ifCond .lt 15, 3) := by decide +kernel
theorem dX5_has_4 : decode cX5_has 4 = .ok (.iload_n 1, 1) := by decide +kernel
theorem dX5_has_5 : decode cX5_has 5 = .ok (.aload_n 0, 1) := by decide +kernel
theorem dX5_has_6 : decode cX5_has 6 = .ok (.getfield 20, 3) := by decide +kernel
theorem dX5_has_9 : decode cX5_has 9 = .ok (.if_icmp .ge 7, 3) := by decide +kernel
theorem dX5_has_12 : decode cX5_has 12 = .ok (.iconst 1, 1) := by decide +kernel
theorem dX5_has_13 : decode cX5_has 13 = .ok (.goto 4, 3) := by decide +kernel
theorem dX5_has_16 : decode cX5_has 16 = .ok (.iconst 0, 1) := by decide +kernel
theorem dX5_has_17 : decode cX5_has 17 = .ok (.ireturn, 1) := by decide +kernel
set_option maxRecDepth 20000 in
theorem ggX5_isStored_X5_has : GoodIn wsX5_isStored wsX5_has := goodIn_r _ [6, 7, 8, 9] (by decide +kernel) (by decide +kernel)
set_option maxRecDepth 20000 in
theorem gX5_isStored_X5_has : GoodIn wsX5_isStored (wsV RX5 28 RX5 yX5_has wsX5_has) := goodIn_app (goodIn_of _ (by decide +kernel)) ggX5_isStored_X5_has
theorem dX5_isStored_0 : decode cX5_isStored 0 = .ok (.aload_n 0, 1) := by decide +kernel
theorem dX5_isStored_1 : decode cX5_isStored 1 = .ok (.iload_n 1, 1) := by decide +kernel
theorem dX5_isStored_2 : decode cX5_isStored 2 = .ok (.invokevirtual 28, 3) := by decide +kernel
theorem dX5_isStored_5 : decode cX5_isStored 5 = .ok (.ifCond .eq 21, 3) := by decide +kernel
theorem dX5_isStored_8 : decode cX5_isStored 8 = .ok (.aload_n 0, 1) := by decide +kernel
theorem dX5_isStored_9 : decode cX5_isStored 9 = .ok (.getfield 24, 3) := by decide +kernel
theorem dX5_isStored_12 : decode cX5_isStored 12 = .ok (.iload_n 1, 1) := by decide +kernel
theorem dX5_isStored_13 : decode cX5_isStored 13 = .ok (.bipush 11, 2) := by decide +kernel
theorem dX5_isStored_15 : decode cX5_isStored 15 = .ok (.imul, 1) := by decide +kernel
theorem dX5_isStored_16 : decode cX5_isStored 16 = .ok (.iconst 0, 1) := by decide +kernel
theorem dX5_isStored_17 : decode cX5_isStored 17 = .ok (.iadd, 1) := by decide +kernel
theorem dX5_isStored_18 : decode cX5_isStored 18 = .ok (.iaload, 1) := by decide +kernel
theorem dX5_isStored_19 : decode cX5_isStored 19 = .ok (.ifCond .eq 7, 3) := by decide +kernel
theorem dX5_isStored_22 : decode cX5_isStored 22 = .ok (.iconst 1, 1) := by decide +kernel
theorem dX5_isStored_23 : decode cX5_isStored 23 = .ok (.goto 4, 3) := by decide +kernel
theorem dX5_isStored_26 : decode cX5_isStored 26 = .ok (.iconst 0, 1) := by decide +kernel
theorem dX5_isStored_27 : decode cX5_isStored 27 = .ok (.ireturn, 1) := by decide +kernel
set_option maxRecDepth 20000 in
theorem ggX5_store_X5_has : GoodIn wsX5_store wsX5_has := goodIn_r _ [9, 10, 22, 23] (by decide +kernel) (by decide +kernel)
set_option maxRecDepth 20000 in
theorem gX5_store_X5_has : GoodIn wsX5_store (wsV RX5 28 RX5 yX5_has wsX5_has) := goodIn_app (goodIn_of _ (by decide +kernel)) ggX5_store_X5_has
set_option maxRecDepth 20000 in
theorem ggX5_store_X7_setAt : GoodIn wsX5_store wsX7_setAt := goodIn_r _ [15, 16, 17, 18, 19, 14, 20, 21, 24, 25, 26, 27] (by decide +kernel) (by decide +kernel)
set_option maxRecDepth 20000 in
theorem gX5_store_X7_setAt : GoodIn wsX5_store (wsV RX5 43 RX7 yX7_setAt wsX7_setAt) := goodIn_app (goodIn_of _ (by decide +kernel)) ggX5_store_X7_setAt
theorem dX5_store_0 : decode cX5_store 0 = .ok (.aload_n 0, 1) := by decide +kernel
theorem dX5_store_1 : decode cX5_store 1 = .ok (.iload_n 1, 1) := by decide +kernel
theorem dX5_store_2 : decode cX5_store 2 = .ok (.invokevirtual 28, 3) := by decide +kernel
theorem dX5_store_5 : decode cX5_store 5 = .ok (.ifCond .ne 4, 3) := by decide +kernel
theorem dX5_store_8 : decode cX5_store 8 = .ok (.return_, 1) := by decide +kernel
theorem dX5_store_9 : decode cX5_store 9 = .ok (.iload_n 1, 1) := by decide +kernel
theorem dX5_store_10 : decode cX5_store 10 = .ok (.bipush 11, 2) := by decide +kernel
theorem dX5_store_12 : decode cX5_store 12 = .ok (.imul, 1) := by decide +kernel
theorem dX5_store_13 : decode cX5_store 13 = .ok (.istore_n 3, 1) := by decide +kernel
theorem dX5_store_14 : decode cX5_store 14 = .ok (.aload_n 0, 1) := by decide +kernel
theorem dX5_store_15 : decode cX5_store 15 = .ok (.getfield 24, 3) := by decide +kernel
theorem dX5_store_18 : decode cX5_store 18 = .ok (.iload_n 3, 1) := by decide +kernel
theorem dX5_store_19 : decode cX5_store 19 = .ok (.iconst 0, 1) := by decide +kernel
theorem dX5_store_20 : decode cX5_store 20 = .ok (.iadd, 1) := by decide +kernel
theorem dX5_store_21 : decode cX5_store 21 = .ok (.aload_n 2, 1) := by decide +kernel
theorem dX5_store_22 : decode cX5_store 22 = .ok (.getfield 32, 3) := by decide +kernel
theorem dX5_store_25 : decode cX5_store 25 = .ok (.iastore, 1) := by decide +kernel
theorem dX5_store_26 : decode cX5_store 26 = .ok (.aload_n 0, 1) := by decide +kernel
theorem dX5_store_27 : decode cX5_store 27 = .ok (.getfield 24, 3) := by decide +kernel
theorem dX5_store_30 : decode cX5_store 30 = .ok (.iload_n 3, 1) := by decide +kernel
theorem dX5_store_31 : decode cX5_store 31 = .ok (.iconst 1, 1) := by decide +kernel
theorem dX5_store_32 : decode cX5_store 32 = .ok (.iadd, 1) := by decide +kernel
theorem dX5_store_33 : decode cX5_store 33 = .ok (.aload_n 2, 1) := by decide +kernel
theorem dX5_store_34 : decode cX5_store 34 = .ok (.getfield 37, 3) := by decide +kernel
theorem dX5_store_37 : decode cX5_store 37 = .ok (.iastore, 1) := by decide +kernel
theorem dX5_store_38 : decode cX5_store 38 = .ok (.aload_n 0, 1) := by decide +kernel
theorem dX5_store_39 : decode cX5_store 39 = .ok (.getfield 24, 3) := by decide +kernel
theorem dX5_store_42 : decode cX5_store 42 = .ok (.iload_n 3, 1) := by decide +kernel
theorem dX5_store_43 : decode cX5_store 43 = .ok (.iconst 2, 1) := by decide +kernel
theorem dX5_store_44 : decode cX5_store 44 = .ok (.iadd, 1) := by decide +kernel
theorem dX5_store_45 : decode cX5_store 45 = .ok (.aload_n 2, 1) := by decide +kernel
theorem dX5_store_46 : decode cX5_store 46 = .ok (.getfield 40, 3) := by decide +kernel
theorem dX5_store_49 : decode cX5_store 49 = .ok (.iastore, 1) := by decide +kernel
theorem dX5_store_50 : decode cX5_store 50 = .ok (.iconst 0, 1) := by decide +kernel
theorem dX5_store_51 : decode cX5_store 51 = .ok (.istore 4, 2) := by decide +kernel
theorem dX5_store_53 : decode cX5_store 53 = .ok (.iload 4, 2) := by decide +kernel
theorem dX5_store_55 : decode cX5_store 55 = .ok (.bipush 8, 2) := by decide +kernel
theorem dX5_store_57 : decode cX5_store 57 = .ok (.if_icmp .ge 26, 3) := by decide +kernel
theorem dX5_store_60 : decode cX5_store 60 = .ok (.aload_n 0, 1) := by decide +kernel
theorem dX5_store_61 : decode cX5_store 61 = .ok (.getfield 24, 3) := by decide +kernel
theorem dX5_store_64 : decode cX5_store 64 = .ok (.iload_n 3, 1) := by decide +kernel
theorem dX5_store_65 : decode cX5_store 65 = .ok (.iconst 3, 1) := by decide +kernel
theorem dX5_store_66 : decode cX5_store 66 = .ok (.iadd, 1) := by decide +kernel
theorem dX5_store_67 : decode cX5_store 67 = .ok (.iload 4, 2) := by decide +kernel
theorem dX5_store_69 : decode cX5_store 69 = .ok (.iadd, 1) := by decide +kernel
theorem dX5_store_70 : decode cX5_store 70 = .ok (.aload_n 2, 1) := by decide +kernel
theorem dX5_store_71 : decode cX5_store 71 = .ok (.iload 4, 2) := by decide +kernel
theorem dX5_store_73 : decode cX5_store 73 = .ok (.invokevirtual 43, 3) := by decide +kernel
theorem dX5_store_76 : decode cX5_store 76 = .ok (.iastore, 1) := by decide +kernel
theorem dX5_store_77 : decode cX5_store 77 = .ok (.iinc 4 1, 3) := by decide +kernel
theorem dX5_store_80 : decode cX5_store 80 = .ok (.goto (-27), 3) := by decide +kernel
theorem dX5_store_83 : decode cX5_store 83 = .ok (.return_, 1) := by decide +kernel
set_option maxRecDepth 20000 in
theorem ggX5_load_X5_isStored : GoodIn wsX5_load wsX5_isStored := goodIn_r _ [8, 1, 9, 10, 11, 7, 12, 13, 25, 26] (by decide +kernel) (by decide +kernel)
set_option maxRecDepth 20000 in
theorem gX5_load_X5_isStored : GoodIn wsX5_load (wsV RX5 47 RX5 yX5_isStored wsX5_isStored) := goodIn_app (goodIn_of _ (by decide +kernel)) ggX5_load_X5_isStored
set_option maxRecDepth 20000 in
theorem ggX5_load_X7_append : GoodIn wsX5_load wsX7_append := goodIn_r _ [18, 19, 20, 21, 22, 23, 17, 24, 27, 28, 29, 30] (by decide +kernel) (by decide +kernel)
set_option maxRecDepth 20000 in
theorem gX5_load_X7_append : GoodIn wsX5_load (wsV RX5 50 RX7 yX7_append wsX7_append) := goodIn_app (goodIn_of _ (by decide +kernel)) ggX5_load_X7_append
theorem dX5_load_0 : decode cX5_load 0 = .ok (.aload_n 0, 1) := by decide +kernel
theorem dX5_load_1 : decode cX5_load 1 = .ok (.iload_n 1, 1) := by decide +kernel
theorem dX5_load_2 : decode cX5_load 2 = .ok (.invokevirtual 47, 3) := by decide +kernel
theorem dX5_load_5 : decode cX5_load 5 = .ok (.ifCond .ne 4, 3) := by decide +kernel
theorem dX5_load_8 : decode cX5_load 8 = .ok (.return_, 1) := by decide +kernel
theorem dX5_load_9 : decode cX5_load 9 = .ok (.iload_n 1, 1) := by decide +kernel
theorem dX5_load_10 : decode cX5_load 10 = .ok (.bipush 11, 2) := by decide +kernel
theorem dX5_load_12 : decode cX5_load 12 = .ok (.imul, 1) := by decide +kernel
theorem dX5_load_13 : decode cX5_load 13 = .ok (.istore_n 3, 1) := by decide +kernel
theorem dX5_load_14 : decode cX5_load 14 = .ok (.aload_n 2, 1) := by decide +kernel
theorem dX5_load_15 : decode cX5_load 15 = .ok (.aload_n 0, 1) := by decide +kernel
theorem dX5_load_16 : decode cX5_load 16 = .ok (.getfield 24, 3) := by decide +kernel
theorem dX5_load_19 : decode cX5_load 19 = .ok (.iload_n 3, 1) := by decide +kernel
theorem dX5_load_20 : decode cX5_load 20 = .ok (.iconst 0, 1) := by decide +kernel
theorem dX5_load_21 : decode cX5_load 21 = .ok (.iadd, 1) := by decide +kernel
theorem dX5_load_22 : decode cX5_load 22 = .ok (.iaload, 1) := by decide +kernel
theorem dX5_load_23 : decode cX5_load 23 = .ok (.putfield 32, 3) := by decide +kernel
theorem dX5_load_26 : decode cX5_load 26 = .ok (.aload_n 2, 1) := by decide +kernel
theorem dX5_load_27 : decode cX5_load 27 = .ok (.iconst 0, 1) := by decide +kernel
theorem dX5_load_28 : decode cX5_load 28 = .ok (.putfield 37, 3) := by decide +kernel
theorem dX5_load_31 : decode cX5_load 31 = .ok (.iconst 0, 1) := by decide +kernel
theorem dX5_load_32 : decode cX5_load 32 = .ok (.istore 4, 2) := by decide +kernel
theorem dX5_load_34 : decode cX5_load 34 = .ok (.iload 4, 2) := by decide +kernel
theorem dX5_load_36 : decode cX5_load 36 = .ok (.aload_n 0, 1) := by decide +kernel
theorem dX5_load_37 : decode cX5_load 37 = .ok (.getfield 24, 3) := by decide +kernel
theorem dX5_load_40 : decode cX5_load 40 = .ok (.iload_n 3, 1) := by decide +kernel
theorem dX5_load_41 : decode cX5_load 41 = .ok (.iconst 1, 1) := by decide +kernel
theorem dX5_load_42 : decode cX5_load 42 = .ok (.iadd, 1) := by decide +kernel
theorem dX5_load_43 : decode cX5_load 43 = .ok (.iaload, 1) := by decide +kernel
theorem dX5_load_44 : decode cX5_load 44 = .ok (.if_icmp .ge 31, 3) := by decide +kernel
theorem dX5_load_47 : decode cX5_load 47 = .ok (.iload 4, 2) := by decide +kernel
theorem dX5_load_49 : decode cX5_load 49 = .ok (.bipush 8, 2) := by decide +kernel
theorem dX5_load_51 : decode cX5_load 51 = .ok (.if_icmp .ge 24, 3) := by decide +kernel
theorem dX5_load_54 : decode cX5_load 54 = .ok (.aload_n 2, 1) := by decide +kernel
theorem dX5_load_55 : decode cX5_load 55 = .ok (.aload_n 0, 1) := by decide +kernel
theorem dX5_load_56 : decode cX5_load 56 = .ok (.getfield 24, 3) := by decide +kernel
theorem dX5_load_59 : decode cX5_load 59 = .ok (.iload_n 3, 1) := by decide +kernel
theorem dX5_load_60 : decode cX5_load 60 = .ok (.iconst 3, 1) := by decide +kernel
theorem dX5_load_61 : decode cX5_load 61 = .ok (.iadd, 1) := by decide +kernel
theorem dX5_load_62 : decode cX5_load 62 = .ok (.iload 4, 2) := by decide +kernel
theorem dX5_load_64 : decode cX5_load 64 = .ok (.iadd, 1) := by decide +kernel
theorem dX5_load_65 : decode cX5_load 65 = .ok (.iaload, 1) := by decide +kernel
theorem dX5_load_66 : decode cX5_load 66 = .ok (.invokevirtual 50, 3) := by decide +kernel
theorem dX5_load_69 : decode cX5_load 69 = .ok (.iinc 4 1, 3) := by decide +kernel
theorem dX5_load_72 : decode cX5_load 72 = .ok (.goto (-38), 3) := by decide +kernel
theorem dX5_load_75 : decode cX5_load 75 = .ok (.return_, 1) := by decide +kernel
set_option maxRecDepth 20000 in
theorem ggX5_drawnOf_X5_isStored : GoodIn wsX5_drawnOf wsX5_isStored := goodIn_r _ [6, 1, 7, 8, 9, 5, 10, 11, 12, 13] (by decide +kernel) (by decide +kernel)
set_option maxRecDepth 20000 in
theorem gX5_drawnOf_X5_isStored : GoodIn wsX5_drawnOf (wsV RX5 47 RX5 yX5_isStored wsX5_isStored) := goodIn_app (goodIn_of _ (by decide +kernel)) ggX5_drawnOf_X5_isStored
theorem dX5_drawnOf_0 : decode cX5_drawnOf 0 = .ok (.aload_n 0, 1) := by decide +kernel
theorem dX5_drawnOf_1 : decode cX5_drawnOf 1 = .ok (.iload_n 1, 1) := by decide +kernel
theorem dX5_drawnOf_2 : decode cX5_drawnOf 2 = .ok (.invokevirtual 47, 3) := by decide +kernel
theorem dX5_drawnOf_5 : decode cX5_drawnOf 5 = .ok (.ifCond .eq 17, 3) := by decide +kernel
theorem dX5_drawnOf_8 : decode cX5_drawnOf 8 = .ok (.aload_n 0, 1) := by decide +kernel
theorem dX5_drawnOf_9 : decode cX5_drawnOf 9 = .ok (.getfield 24, 3) := by decide +kernel
theorem dX5_drawnOf_12 : decode cX5_drawnOf 12 = .ok (.iload_n 1, 1) := by decide +kernel
theorem dX5_drawnOf_13 : decode cX5_drawnOf 13 = .ok (.bipush 11, 2) := by decide +kernel
theorem dX5_drawnOf_15 : decode cX5_drawnOf 15 = .ok (.imul, 1) := by decide +kernel
theorem dX5_drawnOf_16 : decode cX5_drawnOf 16 = .ok (.iconst 2, 1) := by decide +kernel
theorem dX5_drawnOf_17 : decode cX5_drawnOf 17 = .ok (.iadd, 1) := by decide +kernel
theorem dX5_drawnOf_18 : decode cX5_drawnOf 18 = .ok (.iaload, 1) := by decide +kernel
theorem dX5_drawnOf_19 : decode cX5_drawnOf 19 = .ok (.goto 4, 3) := by decide +kernel
theorem dX5_drawnOf_22 : decode cX5_drawnOf 22 = .ok (.iconst 0, 1) := by decide +kernel
theorem dX5_drawnOf_23 : decode cX5_drawnOf 23 = .ok (.ireturn, 1) := by decide +kernel
theorem dX6_init_0 : decode cX6_init 0 = .ok (.aload_n 0, 1) := by decide +kernel
theorem dX6_init_1 : decode cX6_init 1 = .ok (.invokespecial 3, 3) := by decide +kernel
theorem dX6_init_4 : decode cX6_init 4 = .ok (.aload_n 0, 1) := by decide +kernel
theorem dX6_init_5 : decode cX6_init 5 = .ok (.sipush 128, 3) := by decide +kernel
theorem dX6_init_8 : decode cX6_init 8 = .ok (.newarray .int, 2) := by decide +kernel
theorem dX6_init_10 : decode cX6_init 10 = .ok (.putfield 9, 3) := by decide +kernel
theorem dX6_init_13 : decode cX6_init 13 = .ok (.return_, 1) := by decide +kernel
set_option maxRecDepth 20000 in
theorem ggX6_clear_J7_fill_53178 : GoodIn wsX6_clear wsJ7_fill_53178 := goodIn_r _ [5] (by decide +kernel) (by decide +kernel)
set_option maxRecDepth 20000 in
theorem gX6_clear_J7_fill_53178 : GoodIn wsX6_clear (va_wsS RX6 15 yJ7_fill_53178 wsJ7_fill_53178) := goodIn_app (goodIn_of _ (by decide +kernel)) ggX6_clear_J7_fill_53178
theorem dX6_clear_0 : decode cX6_clear 0 = .ok (.aload_n 0, 1) := by decide +kernel
theorem dX6_clear_1 : decode cX6_clear 1 = .ok (.getfield 9, 3) := by decide +kernel
theorem dX6_clear_4 : decode cX6_clear 4 = .ok (.iconst 0, 1) := by decide +kernel
theorem dX6_clear_5 : decode cX6_clear 5 = .ok (.invokestatic 15, 3) := by decide +kernel
theorem dX6_clear_8 : decode cX6_clear 8 = .ok (.return_, 1) := by decide +kernel
theorem dX6_has_0 : decode cX6_has 0 = .ok (.iload_n 1, 1) := by decide +kernel
theorem dX6_has_1 : decode cX6_has 1 = .ok (.iconst 5, 1) := by decide +kernel
theorem dX6_has_2 : decode cX6_has 2 = .ok (.ishr, 1) := by decide +kernel
theorem dX6_has_3 : decode cX6_has 3 = .ok (.istore_n 2, 1) := by decide +kernel
theorem dX6_has_4 : decode cX6_has 4 = .ok (.iload_n 2, 1) := by decide +kernel
theorem dX6_has_5 : decode cX6_has 5 = .ok (.ifCond .lt 32, 3) := by decide +kernel
theorem dX6_has_8 : decode cX6_has 8 = .ok (.iload_n 2, 1) := by decide +kernel
theorem dX6_has_9 : decode cX6_has 9 = .ok (.aload_n 0, 1) := by decide +kernel
theorem dX6_has_10 : decode cX6_has 10 = .ok (.getfield 9, 3) := by decide +kernel
theorem dX6_has_13 : decode cX6_has 13 = .ok (.arraylength, 1) := by decide +kernel
theorem dX6_has_14 : decode cX6_has 14 = .ok (.if_icmp .ge 23, 3) := by decide +kernel
theorem dX6_has_17 : decode cX6_has 17 = .ok (.aload_n 0, 1) := by decide +kernel
theorem dX6_has_18 : decode cX6_has 18 = .ok (.getfield 9, 3) := by decide +kernel
theorem dX6_has_21 : decode cX6_has 21 = .ok (.iload_n 2, 1) := by decide +kernel
theorem dX6_has_22 : decode cX6_has 22 = .ok (.iaload, 1) := by decide +kernel
theorem dX6_has_23 : decode cX6_has 23 = .ok (.iconst 1, 1) := by decide +kernel
theorem dX6_has_24 : decode cX6_has 24 = .ok (.iload_n 1, 1) := by decide +kernel
theorem dX6_has_25 : decode cX6_has 25 = .ok (.bipush 31, 2) := by decide +kernel
theorem dX6_has_27 : decode cX6_has 27 = .ok (.iand, 1) := by decide +kernel
theorem dX6_has_28 : decode cX6_has 28 = .ok (.ishl, 1) := by decide +kernel
theorem dX6_has_29 : decode cX6_has 29 = .ok (.iand, 1) := by decide +kernel
theorem dX6_has_30 : decode cX6_has 30 = .ok (.ifCond .eq 7, 3) := by decide +kernel
theorem dX6_has_33 : decode cX6_has 33 = .ok (.iconst 1, 1) := by decide +kernel
theorem dX6_has_34 : decode cX6_has 34 = .ok (.goto 4, 3) := by decide +kernel
theorem dX6_has_37 : decode cX6_has 37 = .ok (.iconst 0, 1) := by decide +kernel
theorem dX6_has_38 : decode cX6_has 38 = .ok (.ireturn, 1) := by decide +kernel
theorem dX6_add_0 : decode cX6_add 0 = .ok (.iload_n 1, 1) := by decide +kernel
theorem dX6_add_1 : decode cX6_add 1 = .ok (.iconst 5, 1) := by decide +kernel
theorem dX6_add_2 : decode cX6_add 2 = .ok (.ishr, 1) := by decide +kernel
theorem dX6_add_3 : decode cX6_add 3 = .ok (.istore_n 2, 1) := by decide +kernel
theorem dX6_add_4 : decode cX6_add 4 = .ok (.iload_n 2, 1) := by decide +kernel
theorem dX6_add_5 : decode cX6_add 5 = .ok (.ifCond .lt 27, 3) := by decide +kernel
theorem dX6_add_8 : decode cX6_add 8 = .ok (.iload_n 2, 1) := by decide +kernel
theorem dX6_add_9 : decode cX6_add 9 = .ok (.aload_n 0, 1) := by decide +kernel
theorem dX6_add_10 : decode cX6_add 10 = .ok (.getfield 9, 3) := by decide +kernel
theorem dX6_add_13 : decode cX6_add 13 = .ok (.arraylength, 1) := by decide +kernel
theorem dX6_add_14 : decode cX6_add 14 = .ok (.if_icmp .ge 18, 3) := by decide +kernel
theorem dX6_add_17 : decode cX6_add 17 = .ok (.aload_n 0, 1) := by decide +kernel
theorem dX6_add_18 : decode cX6_add 18 = .ok (.getfield 9, 3) := by decide +kernel
theorem dX6_add_21 : decode cX6_add 21 = .ok (.iload_n 2, 1) := by decide +kernel
theorem dX6_add_22 : decode cX6_add 22 = .ok (.dup2, 1) := by decide +kernel
theorem dX6_add_23 : decode cX6_add 23 = .ok (.iaload, 1) := by decide +kernel
theorem dX6_add_24 : decode cX6_add 24 = .ok (.iconst 1, 1) := by decide +kernel
theorem dX6_add_25 : decode cX6_add 25 = .ok (.iload_n 1, 1) := by decide +kernel
theorem dX6_add_26 : decode cX6_add 26 = .ok (.bipush 31, 2) := by decide +kernel
theorem dX6_add_28 : decode cX6_add 28 = .ok (.iand, 1) := by decide +kernel
theorem dX6_add_29 : decode cX6_add 29 = .ok (.ishl, 1) := by decide +kernel
theorem dX6_add_30 : decode cX6_add 30 = .ok (.ior, 1) := by decide +kernel
theorem dX6_add_31 : decode cX6_add 31 = .ok (.iastore, 1) := by decide +kernel
theorem dX6_add_32 : decode cX6_add 32 = .ok (.return_, 1) := by decide +kernel
theorem dX7_init_0 : decode cX7_init 0 = .ok (.aload_n 0, 1) := by decide +kernel
theorem dX7_init_1 : decode cX7_init 1 = .ok (.invokespecial 3, 3) := by decide +kernel
theorem dX7_init_4 : decode cX7_init 4 = .ok (.aload_n 0, 1) := by decide +kernel
theorem dX7_init_5 : decode cX7_init 5 = .ok (.bipush 12, 2) := by decide +kernel
theorem dX7_init_7 : decode cX7_init 7 = .ok (.putfield 9, 3) := by decide +kernel
theorem dX7_init_10 : decode cX7_init 10 = .ok (.aload_n 0, 1) := by decide +kernel
theorem dX7_init_11 : decode cX7_init 11 = .ok (.iconst 0, 1) := by decide +kernel
theorem dX7_init_12 : decode cX7_init 12 = .ok (.putfield 15, 3) := by decide +kernel
theorem dX7_init_15 : decode cX7_init 15 = .ok (.aload_n 0, 1) := by decide +kernel
theorem dX7_init_16 : decode cX7_init 16 = .ok (.iconst 0, 1) := by decide +kernel
theorem dX7_init_17 : decode cX7_init 17 = .ok (.putfield 18, 3) := by decide +kernel
theorem dX7_init_20 : decode cX7_init 20 = .ok (.aload_n 0, 1) := by decide +kernel
theorem dX7_init_21 : decode cX7_init 21 = .ok (.bipush 8, 2) := by decide +kernel
theorem dX7_init_23 : decode cX7_init 23 = .ok (.newarray .int, 2) := by decide +kernel
theorem dX7_init_25 : decode cX7_init 25 = .ok (.putfield 21, 3) := by decide +kernel
theorem dX7_init_28 : decode cX7_init 28 = .ok (.return_, 1) := by decide +kernel
theorem dX7_has_0 : decode cX7_has 0 = .ok (.iload_n 1, 1) := by decide +kernel
theorem dX7_has_1 : decode cX7_has 1 = .ok (.ifCond .lt 15, 3) := by decide +kernel
theorem dX7_has_4 : decode cX7_has 4 = .ok (.iload_n 1, 1) := by decide +kernel
theorem dX7_has_5 : decode cX7_has 5 = .ok (.aload_n 0, 1) := by decide +kernel
theorem dX7_has_6 : decode cX7_has 6 = .ok (.getfield 15, 3) := by decide +kernel
theorem dX7_has_9 : decode cX7_has 9 = .ok (.if_icmp .ge 7, 3) := by decide +kernel
theorem dX7_has_12 : decode cX7_has 12 = .ok (.iconst 1, 1) := by decide +kernel
theorem dX7_has_13 : decode cX7_has 13 = .ok (.goto 4, 3) := by decide +kernel
theorem dX7_has_16 : decode cX7_has 16 = .ok (.iconst 0, 1) := by decide +kernel
theorem dX7_has_17 : decode cX7_has 17 = .ok (.ireturn, 1) := by decide +kernel
theorem dX7_hasRoom_0 : decode cX7_hasRoom 0 = .ok (.aload_n 0, 1) := by decide +kernel
theorem dX7_hasRoom_1 : decode cX7_hasRoom 1 = .ok (.getfield 15, 3) := by decide +kernel
theorem dX7_hasRoom_4 : decode cX7_hasRoom 4 = .ok (.bipush 8, 2) := by decide +kernel
theorem dX7_hasRoom_6 : decode cX7_hasRoom 6 = .ok (.if_icmp .ge 7, 3) := by decide +kernel
theorem dX7_hasRoom_9 : decode cX7_hasRoom 9 = .ok (.iconst 1, 1) := by decide +kernel
theorem dX7_hasRoom_10 : decode cX7_hasRoom 10 = .ok (.goto 4, 3) := by decide +kernel
theorem dX7_hasRoom_13 : decode cX7_hasRoom 13 = .ok (.iconst 0, 1) := by decide +kernel
theorem dX7_hasRoom_14 : decode cX7_hasRoom 14 = .ok (.ireturn, 1) := by decide +kernel
set_option maxRecDepth 20000 in
theorem ggX7_setAt_X7_has : GoodIn wsX7_setAt wsX7_has := goodIn_r _ [6, 7, 8, 9, 10, 11] (by decide +kernel) (by decide +kernel)
set_option maxRecDepth 20000 in
theorem gX7_setAt_X7_has : GoodIn wsX7_setAt (wsV RX7 25 RX7 yX7_has wsX7_has) := goodIn_app (goodIn_of _ (by decide +kernel)) ggX7_setAt_X7_has
theorem dX7_setAt_0 : decode cX7_setAt 0 = .ok (.aload_n 0, 1) := by decide +kernel
theorem dX7_setAt_1 : decode cX7_setAt 1 = .ok (.iload_n 1, 1) := by decide +kernel
theorem dX7_setAt_2 : decode cX7_setAt 2 = .ok (.invokevirtual 25, 3) := by decide +kernel
theorem dX7_setAt_5 : decode cX7_setAt 5 = .ok (.ifCond .eq 12, 3) := by decide +kernel
theorem dX7_setAt_8 : decode cX7_setAt 8 = .ok (.aload_n 0, 1) := by decide +kernel
theorem dX7_setAt_9 : decode cX7_setAt 9 = .ok (.getfield 21, 3) := by decide +kernel
theorem dX7_setAt_12 : decode cX7_setAt 12 = .ok (.iload_n 1, 1) := by decide +kernel
theorem dX7_setAt_13 : decode cX7_setAt 13 = .ok (.iaload, 1) := by decide +kernel
theorem dX7_setAt_14 : decode cX7_setAt 14 = .ok (.goto 4, 3) := by decide +kernel
theorem dX7_setAt_17 : decode cX7_setAt 17 = .ok (.iconst 0, 1) := by decide +kernel
theorem dX7_setAt_18 : decode cX7_setAt 18 = .ok (.ireturn, 1) := by decide +kernel
set_option maxRecDepth 20000 in
theorem ggX7_replace_X7_has : GoodIn wsX7_replace wsX7_has := goodIn_r _ [6, 7, 8, 9, 10, 11] (by decide +kernel) (by decide +kernel)
set_option maxRecDepth 20000 in
theorem gX7_replace_X7_has : GoodIn wsX7_replace (wsV RX7 25 RX7 yX7_has wsX7_has) := goodIn_app (goodIn_of _ (by decide +kernel)) ggX7_replace_X7_has
theorem dX7_replace_0 : decode cX7_replace 0 = .ok (.aload_n 0, 1) := by decide +kernel
theorem dX7_replace_1 : decode cX7_replace 1 = .ok (.iload_n 1, 1) := by decide +kernel
theorem dX7_replace_2 : decode cX7_replace 2 = .ok (.invokevirtual 25, 3) := by decide +kernel
theorem dX7_replace_5 : decode cX7_replace 5 = .ok (.ifCond .eq 10, 3) := by decide +kernel
theorem dX7_replace_8 : decode cX7_replace 8 = .ok (.aload_n 0, 1) := by decide +kernel
theorem dX7_replace_9 : decode cX7_replace 9 = .ok (.getfield 21, 3) := by decide +kernel
theorem dX7_replace_12 : decode cX7_replace 12 = .ok (.iload_n 1, 1) := by decide +kernel
theorem dX7_replace_13 : decode cX7_replace 13 = .ok (.iload_n 2, 1) := by decide +kernel
theorem dX7_replace_14 : decode cX7_replace 14 = .ok (.iastore, 1) := by decide +kernel
theorem dX7_replace_15 : decode cX7_replace 15 = .ok (.return_, 1) := by decide +kernel
set_option maxRecDepth 20000 in
theorem ggX7_append_X7_hasRoom : GoodIn wsX7_append wsX7_hasRoom := goodIn_r _ [7, 2, 8, 9, 10, 11] (by decide +kernel) (by decide +kernel)
set_option maxRecDepth 20000 in
theorem gX7_append_X7_hasRoom : GoodIn wsX7_append (wsV RX7 29 RX7 yX7_hasRoom wsX7_hasRoom) := goodIn_app (goodIn_of _ (by decide +kernel)) ggX7_append_X7_hasRoom
theorem dX7_append_0 : decode cX7_append 0 = .ok (.aload_n 0, 1) := by decide +kernel
theorem dX7_append_1 : decode cX7_append 1 = .ok (.invokevirtual 29, 3) := by decide +kernel
theorem dX7_append_4 : decode cX7_append 4 = .ok (.ifCond .eq 23, 3) := by decide +kernel
theorem dX7_append_7 : decode cX7_append 7 = .ok (.aload_n 0, 1) := by decide +kernel
theorem dX7_append_8 : decode cX7_append 8 = .ok (.getfield 21, 3) := by decide +kernel
theorem dX7_append_11 : decode cX7_append 11 = .ok (.aload_n 0, 1) := by decide +kernel
theorem dX7_append_12 : decode cX7_append 12 = .ok (.getfield 15, 3) := by decide +kernel
theorem dX7_append_15 : decode cX7_append 15 = .ok (.iload_n 1, 1) := by decide +kernel
theorem dX7_append_16 : decode cX7_append 16 = .ok (.iastore, 1) := by decide +kernel
theorem dX7_append_17 : decode cX7_append 17 = .ok (.aload_n 0, 1) := by decide +kernel
theorem dX7_append_18 : decode cX7_append 18 = .ok (.dup, 1) := by decide +kernel
theorem dX7_append_19 : decode cX7_append 19 = .ok (.getfield 15, 3) := by decide +kernel
theorem dX7_append_22 : decode cX7_append 22 = .ok (.iconst 1, 1) := by decide +kernel
theorem dX7_append_23 : decode cX7_append 23 = .ok (.iadd, 1) := by decide +kernel
theorem dX7_append_24 : decode cX7_append 24 = .ok (.putfield 15, 3) := by decide +kernel
theorem dX7_append_27 : decode cX7_append 27 = .ok (.return_, 1) := by decide +kernel
set_option maxRecDepth 20000 in
theorem ggX7_remove_X7_has : GoodIn wsX7_remove wsX7_has := goodIn_r _ [7, 1, 8, 9, 10, 11] (by decide +kernel) (by decide +kernel)
set_option maxRecDepth 20000 in
theorem gX7_remove_X7_has : GoodIn wsX7_remove (wsV RX7 25 RX7 yX7_has wsX7_has) := goodIn_app (goodIn_of _ (by decide +kernel)) ggX7_remove_X7_has
theorem dX7_remove_0 : decode cX7_remove 0 = .ok (.aload_n 0, 1) := by decide +kernel
theorem dX7_remove_1 : decode cX7_remove 1 = .ok (.iload_n 1, 1) := by decide +kernel
theorem dX7_remove_2 : decode cX7_remove 2 = .ok (.invokevirtual 25, 3) := by decide +kernel
theorem dX7_remove_5 : decode cX7_remove 5 = .ok (.ifCond .eq 45, 3) := by decide +kernel
theorem dX7_remove_8 : decode cX7_remove 8 = .ok (.iload_n 1, 1) := by decide +kernel
theorem dX7_remove_9 : decode cX7_remove 9 = .ok (.iconst 1, 1) := by decide +kernel
theorem dX7_remove_10 : decode cX7_remove 10 = .ok (.iadd, 1) := by decide +kernel
theorem dX7_remove_11 : decode cX7_remove 11 = .ok (.istore_n 2, 1) := by decide +kernel
theorem dX7_remove_12 : decode cX7_remove 12 = .ok (.iload_n 2, 1) := by decide +kernel
theorem dX7_remove_13 : decode cX7_remove 13 = .ok (.aload_n 0, 1) := by decide +kernel
theorem dX7_remove_14 : decode cX7_remove 14 = .ok (.getfield 15, 3) := by decide +kernel
theorem dX7_remove_17 : decode cX7_remove 17 = .ok (.if_icmp .ge 23, 3) := by decide +kernel
theorem dX7_remove_20 : decode cX7_remove 20 = .ok (.aload_n 0, 1) := by decide +kernel
theorem dX7_remove_21 : decode cX7_remove 21 = .ok (.getfield 21, 3) := by decide +kernel
theorem dX7_remove_24 : decode cX7_remove 24 = .ok (.iload_n 2, 1) := by decide +kernel
theorem dX7_remove_25 : decode cX7_remove 25 = .ok (.iconst 1, 1) := by decide +kernel
theorem dX7_remove_26 : decode cX7_remove 26 = .ok (.isub, 1) := by decide +kernel
theorem dX7_remove_27 : decode cX7_remove 27 = .ok (.aload_n 0, 1) := by decide +kernel
theorem dX7_remove_28 : decode cX7_remove 28 = .ok (.getfield 21, 3) := by decide +kernel
theorem dX7_remove_31 : decode cX7_remove 31 = .ok (.iload_n 2, 1) := by decide +kernel
theorem dX7_remove_32 : decode cX7_remove 32 = .ok (.iaload, 1) := by decide +kernel
theorem dX7_remove_33 : decode cX7_remove 33 = .ok (.iastore, 1) := by decide +kernel
theorem dX7_remove_34 : decode cX7_remove 34 = .ok (.iinc 2 1, 3) := by decide +kernel
theorem dX7_remove_37 : decode cX7_remove 37 = .ok (.goto (-25), 3) := by decide +kernel
theorem dX7_remove_40 : decode cX7_remove 40 = .ok (.aload_n 0, 1) := by decide +kernel
theorem dX7_remove_41 : decode cX7_remove 41 = .ok (.dup, 1) := by decide +kernel
theorem dX7_remove_42 : decode cX7_remove 42 = .ok (.getfield 15, 3) := by decide +kernel
theorem dX7_remove_45 : decode cX7_remove 45 = .ok (.iconst 1, 1) := by decide +kernel
theorem dX7_remove_46 : decode cX7_remove 46 = .ok (.isub, 1) := by decide +kernel
theorem dX7_remove_47 : decode cX7_remove 47 = .ok (.putfield 15, 3) := by decide +kernel
theorem dX7_remove_50 : decode cX7_remove 50 = .ok (.return_, 1) := by decide +kernel
set_option maxRecDepth 20000 in
theorem ggX7_drawSet_X3_allTones : GoodIn wsX7_drawSet wsX3_allTones := goodIn_r _ [9] (by decide +kernel) (by decide +kernel)
set_option maxRecDepth 20000 in
theorem gX7_drawSet_X3_allTones : GoodIn wsX7_drawSet (va_wsS RX7 36 yX3_allTones wsX3_allTones) := goodIn_app (goodIn_of _ (by decide +kernel)) ggX7_drawSet_X3_allTones
theorem dX7_drawSet_0 : decode cX7_drawSet 0 = .ok (.aload_n 0, 1) := by decide +kernel
theorem dX7_drawSet_1 : decode cX7_drawSet 1 = .ok (.aload_n 0, 1) := by decide +kernel
theorem dX7_drawSet_2 : decode cX7_drawSet 2 = .ok (.getfield 18, 3) := by decide +kernel
theorem dX7_drawSet_5 : decode cX7_drawSet 5 = .ok (.ldc 33, 2) := by decide +kernel
theorem dX7_drawSet_7 : decode cX7_drawSet 7 = .ok (.imul, 1) := by decide +kernel
theorem dX7_drawSet_8 : decode cX7_drawSet 8 = .ok (.sipush 12345, 3) := by decide +kernel
theorem dX7_drawSet_11 : decode cX7_drawSet 11 = .ok (.iadd, 1) := by decide +kernel
theorem dX7_drawSet_12 : decode cX7_drawSet 12 = .ok (.ldc 34, 2) := by decide +kernel
theorem dX7_drawSet_14 : decode cX7_drawSet 14 = .ok (.iand, 1) := by decide +kernel
theorem dX7_drawSet_15 : decode cX7_drawSet 15 = .ok (.putfield 18, 3) := by decide +kernel
theorem dX7_drawSet_18 : decode cX7_drawSet 18 = .ok (.aload_n 0, 1) := by decide +kernel
theorem dX7_drawSet_19 : decode cX7_drawSet 19 = .ok (.getfield 18, 3) := by decide +kernel
theorem dX7_drawSet_22 : decode cX7_drawSet 22 = .ok (.ldc 35, 2) := by decide +kernel
theorem dX7_drawSet_24 : decode cX7_drawSet 24 = .ok (.idiv, 1) := by decide +kernel
theorem dX7_drawSet_25 : decode cX7_drawSet 25 = .ok (.aload_n 0, 1) := by decide +kernel
theorem dX7_drawSet_26 : decode cX7_drawSet 26 = .ok (.getfield 9, 3) := by decide +kernel
theorem dX7_drawSet_29 : decode cX7_drawSet 29 = .ok (.invokestatic 36, 3) := by decide +kernel
theorem dX7_drawSet_32 : decode cX7_drawSet 32 = .ok (.iand, 1) := by decide +kernel
theorem dX7_drawSet_33 : decode cX7_drawSet 33 = .ok (.ireturn, 1) := by decide +kernel
set_option maxRecDepth 20000 in
theorem ggX7_countUnlikeForms_X7_isFormAhead : GoodIn wsX7_countUnlikeForms wsX7_isFormAhead := goodIn_r _ [6, 7, 8, 9, 10, 5, 11, 12, 13, 14, 15, 16, 1, 17, 18, 19, 20, 21, 22, 23, 24, 25, 26, 27, 28, 29, 30, 31, 32, 33, 34, 35, 36, 37] (by decide +kernel) (by decide +kernel)
set_option maxRecDepth 20000 in
theorem gX7_countUnlikeForms_X7_isFormAhead : GoodIn wsX7_countUnlikeForms (wsV RX7 42 RX7 yX7_isFormAhead wsX7_isFormAhead) := goodIn_app (goodIn_of _ (by decide +kernel)) ggX7_countUnlikeForms_X7_isFormAhead
theorem dX7_countUnlikeForms_0 : decode cX7_countUnlikeForms 0 = .ok (.iconst 0, 1) := by decide +kernel
theorem dX7_countUnlikeForms_1 : decode cX7_countUnlikeForms 1 = .ok (.istore_n 1, 1) := by decide +kernel
theorem dX7_countUnlikeForms_2 : decode cX7_countUnlikeForms 2 = .ok (.iconst 0, 1) := by decide +kernel
theorem dX7_countUnlikeForms_3 : decode cX7_countUnlikeForms 3 = .ok (.istore_n 2, 1) := by decide +kernel
theorem dX7_countUnlikeForms_4 : decode cX7_countUnlikeForms 4 = .ok (.iload_n 2, 1) := by decide +kernel
theorem dX7_countUnlikeForms_5 : decode cX7_countUnlikeForms 5 = .ok (.aload_n 0, 1) := by decide +kernel
theorem dX7_countUnlikeForms_6 : decode cX7_countUnlikeForms 6 = .ok (.getfield 15, 3) := by decide +kernel
theorem dX7_countUnlikeForms_9 : decode cX7_countUnlikeForms 9 = .ok (.if_icmp .ge 20, 3) := by decide +kernel
theorem dX7_countUnlikeForms_12 : decode cX7_countUnlikeForms 12 = .ok (.aload_n 0, 1) := by decide +kernel
theorem dX7_countUnlikeForms_13 : decode cX7_countUnlikeForms 13 = .ok (.iload_n 2, 1) := by decide +kernel
theorem dX7_countUnlikeForms_14 : decode cX7_countUnlikeForms 14 = .ok (.invokevirtual 42, 3) := by decide +kernel
theorem dX7_countUnlikeForms_17 : decode cX7_countUnlikeForms 17 = .ok (.ifCond .ne 6, 3) := by decide +kernel
theorem dX7_countUnlikeForms_20 : decode cX7_countUnlikeForms 20 = .ok (.iinc 1 1, 3) := by decide +kernel
theorem dX7_countUnlikeForms_23 : decode cX7_countUnlikeForms 23 = .ok (.iinc 2 1, 3) := by decide +kernel
theorem dX7_countUnlikeForms_26 : decode cX7_countUnlikeForms 26 = .ok (.goto (-22), 3) := by decide +kernel
theorem dX7_countUnlikeForms_29 : decode cX7_countUnlikeForms 29 = .ok (.iload_n 1, 1) := by decide +kernel
theorem dX7_countUnlikeForms_30 : decode cX7_countUnlikeForms 30 = .ok (.ireturn, 1) := by decide +kernel
set_option maxRecDepth 20000 in
theorem ggX7_isFormAhead_X7_setAt : GoodIn wsX7_isFormAhead wsX7_setAt := goodIn_r _ [6, 7, 8, 9, 10, 5, 11, 12, 30, 31, 32, 33] (by decide +kernel) (by decide +kernel)
set_option maxRecDepth 20000 in
theorem gX7_isFormAhead_X7_setAt : GoodIn wsX7_isFormAhead (wsV RX7 45 RX7 yX7_setAt wsX7_setAt) := goodIn_app (goodIn_of _ (by decide +kernel)) ggX7_isFormAhead_X7_setAt
set_option maxRecDepth 20000 in
theorem ggX7_isFormAhead_X3_formOf : GoodIn wsX7_isFormAhead wsX3_formOf := goodIn_r _ [16, 17, 18, 19, 20, 21, 22, 15, 23, 24, 25, 26, 27, 28, 29] (by decide +kernel) (by decide +kernel)
set_option maxRecDepth 20000 in
theorem gX7_isFormAhead_X3_formOf : GoodIn wsX7_isFormAhead (va_wsS RX7 48 yX3_formOf wsX3_formOf) := goodIn_app (goodIn_of _ (by decide +kernel)) ggX7_isFormAhead_X3_formOf
theorem dX7_isFormAhead_0 : decode cX7_isFormAhead 0 = .ok (.aload_n 0, 1) := by decide +kernel
theorem dX7_isFormAhead_1 : decode cX7_isFormAhead 1 = .ok (.iload_n 1, 1) := by decide +kernel
theorem dX7_isFormAhead_2 : decode cX7_isFormAhead 2 = .ok (.invokevirtual 45, 3) := by decide +kernel
theorem dX7_isFormAhead_5 : decode cX7_isFormAhead 5 = .ok (.aload_n 0, 1) := by decide +kernel
theorem dX7_isFormAhead_6 : decode cX7_isFormAhead 6 = .ok (.getfield 9, 3) := by decide +kernel
theorem dX7_isFormAhead_9 : decode cX7_isFormAhead 9 = .ok (.invokestatic 48, 3) := by decide +kernel
theorem dX7_isFormAhead_12 : decode cX7_isFormAhead 12 = .ok (.istore_n 2, 1) := by decide +kernel
theorem dX7_isFormAhead_13 : decode cX7_isFormAhead 13 = .ok (.iconst 0, 1) := by decide +kernel
theorem dX7_isFormAhead_14 : decode cX7_isFormAhead 14 = .ok (.istore_n 3, 1) := by decide +kernel
theorem dX7_isFormAhead_15 : decode cX7_isFormAhead 15 = .ok (.iload_n 3, 1) := by decide +kernel
theorem dX7_isFormAhead_16 : decode cX7_isFormAhead 16 = .ok (.iload_n 1, 1) := by decide +kernel
theorem dX7_isFormAhead_17 : decode cX7_isFormAhead 17 = .ok (.if_icmp .ge 27, 3) := by decide +kernel
theorem dX7_isFormAhead_20 : decode cX7_isFormAhead 20 = .ok (.aload_n 0, 1) := by decide +kernel
theorem dX7_isFormAhead_21 : decode cX7_isFormAhead 21 = .ok (.iload_n 3, 1) := by decide +kernel
theorem dX7_isFormAhead_22 : decode cX7_isFormAhead 22 = .ok (.invokevirtual 45, 3) := by decide +kernel
theorem dX7_isFormAhead_25 : decode cX7_isFormAhead 25 = .ok (.aload_n 0, 1) := by decide +kernel
theorem dX7_isFormAhead_26 : decode cX7_isFormAhead 26 = .ok (.getfield 9, 3) := by decide +kernel
theorem dX7_isFormAhead_29 : decode cX7_isFormAhead 29 = .ok (.invokestatic 48, 3) := by decide +kernel
theorem dX7_isFormAhead_32 : decode cX7_isFormAhead 32 = .ok (.iload_n 2, 1) := by decide +kernel
theorem dX7_isFormAhead_33 : decode cX7_isFormAhead 33 = .ok (.if_icmp .ne 5, 3) := by decide +kernel
theorem dX7_isFormAhead_36 : decode cX7_isFormAhead 36 = .ok (.iconst 1, 1) := by decide +kernel
theorem dX7_isFormAhead_37 : decode cX7_isFormAhead 37 = .ok (.ireturn, 1) := by decide +kernel
theorem dX7_isFormAhead_38 : decode cX7_isFormAhead 38 = .ok (.iinc 3 1, 3) := by decide +kernel
theorem dX7_isFormAhead_41 : decode cX7_isFormAhead 41 = .ok (.goto (-26), 3) := by decide +kernel
theorem dX7_isFormAhead_44 : decode cX7_isFormAhead 44 = .ok (.iconst 0, 1) := by decide +kernel
theorem dX7_isFormAhead_45 : decode cX7_isFormAhead 45 = .ok (.ireturn, 1) := by decide +kernel
set_option maxRecDepth 20000 in
theorem ggX8_init_X6_init : GoodIn wsX8_init wsX6_init := goodIn_r _ [16, 17, 2, 3, 7, 18, 26] (by decide +kernel) (by decide +kernel)
set_option maxRecDepth 20000 in
theorem gX8_init_X6_init_n33 : GoodIn wsX8_init (wsX6_init) := ggX8_init_X6_init
theorem dX8_init_0 : decode cX8_init 0 = .ok (.aload_n 0, 1) := by decide +kernel
theorem dX8_init_1 : decode cX8_init 1 = .ok (.invokespecial 5, 3) := by decide +kernel
theorem dX8_init_4 : decode cX8_init 4 = .ok (.aload_n 0, 1) := by decide +kernel
theorem dX8_init_5 : decode cX8_init 5 = .ok (.iconst 0, 1) := by decide +kernel
theorem dX8_init_6 : decode cX8_init 6 = .ok (.putfield 11, 3) := by decide +kernel
theorem dX8_init_9 : decode cX8_init 9 = .ok (.aload_n 0, 1) := by decide +kernel
theorem dX8_init_10 : decode cX8_init 10 = .ok (.iconst (-1), 1) := by decide +kernel
theorem dX8_init_11 : decode cX8_init 11 = .ok (.putfield 15, 3) := by decide +kernel
theorem dX8_init_14 : decode cX8_init 14 = .ok (.aload_n 0, 1) := by decide +kernel
theorem dX8_init_15 : decode cX8_init 15 = .ok (.iconst 0, 1) := by decide +kernel
theorem dX8_init_16 : decode cX8_init 16 = .ok (.putfield 18, 3) := by decide +kernel
theorem dX8_init_19 : decode cX8_init 19 = .ok (.aload_n 0, 1) := by decide +kernel
theorem dX8_init_20 : decode cX8_init 20 = .ok (.sipush 924, 3) := by decide +kernel
theorem dX8_init_23 : decode cX8_init 23 = .ok (.newarray .int, 2) := by decide +kernel
theorem dX8_init_25 : decode cX8_init 25 = .ok (.putfield 21, 3) := by decide +kernel
theorem dX8_init_28 : decode cX8_init 28 = .ok (.aload_n 0, 1) := by decide +kernel
theorem dX8_init_29 : decode cX8_init 29 = .ok (.sipush 924, 3) := by decide +kernel
theorem dX8_init_32 : decode cX8_init 32 = .ok (.newarray .int, 2) := by decide +kernel
theorem dX8_init_34 : decode cX8_init 34 = .ok (.putfield 25, 3) := by decide +kernel
theorem dX8_init_37 : decode cX8_init 37 = .ok (.aload_n 0, 1) := by decide +kernel
theorem dX8_init_38 : decode cX8_init 38 = .ok (.bipush 16, 2) := by decide +kernel
theorem dX8_init_40 : decode cX8_init 40 = .ok (.newarray .int, 2) := by decide +kernel
theorem dX8_init_42 : decode cX8_init 42 = .ok (.putfield 28, 3) := by decide +kernel
theorem dX8_init_45 : decode cX8_init 45 = .ok (.aload_n 0, 1) := by decide +kernel
theorem dX8_init_46 : decode cX8_init 46 = .ok (.new 31, 3) := by decide +kernel
theorem dX8_init_49 : decode cX8_init 49 = .ok (.dup, 1) := by decide +kernel
theorem dX8_init_50 : decode cX8_init 50 = .ok (.invokespecial 33, 3) := by decide +kernel
theorem dX8_init_53 : decode cX8_init 53 = .ok (.putfield 34, 3) := by decide +kernel
theorem dX8_init_56 : decode cX8_init 56 = .ok (.return_, 1) := by decide +kernel
set_option maxRecDepth 20000 in
theorem ggX8_search_X6_clear : GoodIn wsX8_search wsX6_clear := goodIn_r _ [10, 11, 12, 13, 14, 15, 68] (by decide +kernel) (by decide +kernel)
set_option maxRecDepth 20000 in
theorem gX8_search_X6_clear : GoodIn wsX8_search (wsV RX8 38 RX6 yX6_clear wsX6_clear) := goodIn_app (goodIn_of _ (by decide +kernel)) ggX8_search_X6_clear
set_option maxRecDepth 20000 in
theorem ggX8_search_J7_fill_53178 : GoodIn wsX8_search wsJ7_fill_53178 := goodIn_r _ [15] (by decide +kernel) (by decide +kernel)
set_option maxRecDepth 20000 in
theorem gX8_search_J7_fill_53178 : GoodIn wsX8_search (va_wsS RX8 41 yJ7_fill_53178 wsJ7_fill_53178) := goodIn_app (goodIn_of _ (by decide +kernel)) ggX8_search_J7_fill_53178
set_option maxRecDepth 20000 in
theorem ggX8_search_X8_meet : GoodIn wsX8_search wsX8_meet := goodIn_r _ [21, 3, 4, 22, 23, 5, 24, 25, 26, 27, 28, 29, 30, 31, 32, 33, 34, 35, 36, 37, 38, 39, 40, 41, 42, 43, 9, 44, 11, 61, 62, 63, 64, 65, 66, 67, 68] (by decide +kernel) (by decide +kernel)
set_option maxRecDepth 20000 in
theorem gX8_search_X8_meet : GoodIn wsX8_search (wsV RX8 47 RX8 yX8_meet wsX8_meet) := goodIn_app (goodIn_of _ (by decide +kernel)) ggX8_search_X8_meet
set_option maxRecDepth 20000 in
theorem ggX8_search_X8_takeUp : GoodIn wsX8_search wsX8_takeUp := goodIn_r _ [48, 5, 22, 23, 49, 50, 51, 20, 52, 2, 53, 54, 55, 56, 1, 4, 57, 58, 59, 9, 60, 11, 17, 18, 19, 21, 3, 24, 25, 26, 27, 28, 29, 30, 31, 32, 33, 34, 35, 36, 37, 38, 39, 40, 41, 42, 43, 44, 61, 62, 63, 64, 65, 66, 67, 68] (by decide +kernel) (by decide +kernel)
set_option maxRecDepth 20000 in
theorem gX8_search_X8_takeUp : GoodIn wsX8_search (wsV RX8 51 RX8 yX8_takeUp wsX8_takeUp) := goodIn_app (goodIn_of _ (by decide +kernel)) ggX8_search_X8_takeUp
theorem dX8_search_0 : decode cX8_search 0 = .ok (.aload_n 0, 1) := by decide +kernel
theorem dX8_search_1 : decode cX8_search 1 = .ok (.iconst 0, 1) := by decide +kernel
theorem dX8_search_2 : decode cX8_search 2 = .ok (.putfield 11, 3) := by decide +kernel
theorem dX8_search_5 : decode cX8_search 5 = .ok (.aload_n 0, 1) := by decide +kernel
theorem dX8_search_6 : decode cX8_search 6 = .ok (.iconst (-1), 1) := by decide +kernel
theorem dX8_search_7 : decode cX8_search 7 = .ok (.putfield 15, 3) := by decide +kernel
theorem dX8_search_10 : decode cX8_search 10 = .ok (.iload_n 1, 1) := by decide +kernel
theorem dX8_search_11 : decode cX8_search 11 = .ok (.iload_n 2, 1) := by decide +kernel
theorem dX8_search_12 : decode cX8_search 12 = .ok (.if_icmp .ne 4, 3) := by decide +kernel
theorem dX8_search_15 : decode cX8_search 15 = .ok (.return_, 1) := by decide +kernel
theorem dX8_search_16 : decode cX8_search 16 = .ok (.aload_n 0, 1) := by decide +kernel
theorem dX8_search_17 : decode cX8_search 17 = .ok (.iconst 0, 1) := by decide +kernel
theorem dX8_search_18 : decode cX8_search 18 = .ok (.putfield 18, 3) := by decide +kernel
theorem dX8_search_21 : decode cX8_search 21 = .ok (.aload_n 0, 1) := by decide +kernel
theorem dX8_search_22 : decode cX8_search 22 = .ok (.getfield 34, 3) := by decide +kernel
theorem dX8_search_25 : decode cX8_search 25 = .ok (.invokevirtual 38, 3) := by decide +kernel
theorem dX8_search_28 : decode cX8_search 28 = .ok (.aload_n 0, 1) := by decide +kernel
theorem dX8_search_29 : decode cX8_search 29 = .ok (.getfield 28, 3) := by decide +kernel
theorem dX8_search_32 : decode cX8_search 32 = .ok (.iconst (-1), 1) := by decide +kernel
theorem dX8_search_33 : decode cX8_search 33 = .ok (.invokestatic 41, 3) := by decide +kernel
theorem dX8_search_36 : decode cX8_search 36 = .ok (.aload_n 0, 1) := by decide +kernel
theorem dX8_search_37 : decode cX8_search 37 = .ok (.iload_n 2, 1) := by decide +kernel
theorem dX8_search_38 : decode cX8_search 38 = .ok (.iconst 0, 1) := by decide +kernel
theorem dX8_search_39 : decode cX8_search 39 = .ok (.iload_n 3, 1) := by decide +kernel
theorem dX8_search_40 : decode cX8_search 40 = .ok (.invokevirtual 47, 3) := by decide +kernel
theorem dX8_search_43 : decode cX8_search 43 = .ok (.iconst 1, 1) := by decide +kernel
theorem dX8_search_44 : decode cX8_search 44 = .ok (.istore 4, 2) := by decide +kernel
theorem dX8_search_46 : decode cX8_search 46 = .ok (.iload 4, 2) := by decide +kernel
theorem dX8_search_48 : decode cX8_search 48 = .ok (.sipush 14784, 3) := by decide +kernel
theorem dX8_search_51 : decode cX8_search 51 = .ok (.if_icmp .gt 25, 3) := by decide +kernel
theorem dX8_search_54 : decode cX8_search 54 = .ok (.aload_n 0, 1) := by decide +kernel
theorem dX8_search_55 : decode cX8_search 55 = .ok (.getfield 15, 3) := by decide +kernel
theorem dX8_search_58 : decode cX8_search 58 = .ok (.iconst (-1), 1) := by decide +kernel
theorem dX8_search_59 : decode cX8_search 59 = .ok (.if_icmp .ne 17, 3) := by decide +kernel
theorem dX8_search_62 : decode cX8_search 62 = .ok (.aload_n 0, 1) := by decide +kernel
theorem dX8_search_63 : decode cX8_search 63 = .ok (.iload 4, 2) := by decide +kernel
theorem dX8_search_65 : decode cX8_search 65 = .ok (.iload_n 1, 1) := by decide +kernel
theorem dX8_search_66 : decode cX8_search 66 = .ok (.iload_n 3, 1) := by decide +kernel
theorem dX8_search_67 : decode cX8_search 67 = .ok (.invokevirtual 51, 3) := by decide +kernel
theorem dX8_search_70 : decode cX8_search 70 = .ok (.iinc 4 1, 3) := by decide +kernel
theorem dX8_search_73 : decode cX8_search 73 = .ok (.goto (-27), 3) := by decide +kernel
theorem dX8_search_76 : decode cX8_search 76 = .ok (.return_, 1) := by decide +kernel
set_option maxRecDepth 20000 in
theorem ggX8_takeUp_X8_spread : GoodIn wsX8_takeUp wsX8_spread := goodIn_r _ [8, 9, 10, 11, 12, 13, 14, 15, 16, 17, 18, 19, 20, 21, 22, 23, 24, 7, 25, 26, 2, 3, 1, 27, 28, 29, 30, 31, 32, 33, 34, 35, 36, 37, 38, 39, 40, 41, 42, 43, 44, 45, 46, 47, 48, 49, 50, 51, 52, 53, 54, 55] (by decide +kernel) (by decide +kernel)
set_option maxRecDepth 20000 in
theorem gX8_takeUp_X8_spread : GoodIn wsX8_takeUp (wsV RX8 54 RX8 yX8_spread wsX8_spread) := goodIn_app (goodIn_of _ (by decide +kernel)) ggX8_takeUp_X8_spread
theorem dX8_takeUp_0 : decode cX8_takeUp 0 = .ok (.iload_n 1, 1) := by decide +kernel
theorem dX8_takeUp_1 : decode cX8_takeUp 1 = .ok (.bipush 15, 2) := by decide +kernel
theorem dX8_takeUp_3 : decode cX8_takeUp 3 = .ok (.iand, 1) := by decide +kernel
theorem dX8_takeUp_4 : decode cX8_takeUp 4 = .ok (.istore 4, 2) := by decide +kernel
theorem dX8_takeUp_6 : decode cX8_takeUp 6 = .ok (.aload_n 0, 1) := by decide +kernel
theorem dX8_takeUp_7 : decode cX8_takeUp 7 = .ok (.getfield 28, 3) := by decide +kernel
theorem dX8_takeUp_10 : decode cX8_takeUp 10 = .ok (.iload 4, 2) := by decide +kernel
theorem dX8_takeUp_12 : decode cX8_takeUp 12 = .ok (.iaload, 1) := by decide +kernel
theorem dX8_takeUp_13 : decode cX8_takeUp 13 = .ok (.istore 5, 2) := by decide +kernel
theorem dX8_takeUp_15 : decode cX8_takeUp 15 = .ok (.aload_n 0, 1) := by decide +kernel
theorem dX8_takeUp_16 : decode cX8_takeUp 16 = .ok (.getfield 28, 3) := by decide +kernel
theorem dX8_takeUp_19 : decode cX8_takeUp 19 = .ok (.iload 4, 2) := by decide +kernel
theorem dX8_takeUp_21 : decode cX8_takeUp 21 = .ok (.iconst (-1), 1) := by decide +kernel
theorem dX8_takeUp_22 : decode cX8_takeUp 22 = .ok (.iastore, 1) := by decide +kernel
theorem dX8_takeUp_23 : decode cX8_takeUp 23 = .ok (.iconst 0, 1) := by decide +kernel
theorem dX8_takeUp_24 : decode cX8_takeUp 24 = .ok (.istore 6, 2) := by decide +kernel
theorem dX8_takeUp_26 : decode cX8_takeUp 26 = .ok (.iload 6, 2) := by decide +kernel
theorem dX8_takeUp_28 : decode cX8_takeUp 28 = .ok (.sipush 924, 3) := by decide +kernel
theorem dX8_takeUp_31 : decode cX8_takeUp 31 = .ok (.if_icmp .ge 45, 3) := by decide +kernel
theorem dX8_takeUp_34 : decode cX8_takeUp 34 = .ok (.iload 5, 2) := by decide +kernel
theorem dX8_takeUp_36 : decode cX8_takeUp 36 = .ok (.ifCond .lt 40, 3) := by decide +kernel
theorem dX8_takeUp_39 : decode cX8_takeUp 39 = .ok (.iload 5, 2) := by decide +kernel
theorem dX8_takeUp_41 : decode cX8_takeUp 41 = .ok (.sipush 924, 3) := by decide +kernel
theorem dX8_takeUp_44 : decode cX8_takeUp 44 = .ok (.if_icmp .ge 32, 3) := by decide +kernel
theorem dX8_takeUp_47 : decode cX8_takeUp 47 = .ok (.aload_n 0, 1) := by decide +kernel
theorem dX8_takeUp_48 : decode cX8_takeUp 48 = .ok (.aload_n 0, 1) := by decide +kernel
theorem dX8_takeUp_49 : decode cX8_takeUp 49 = .ok (.getfield 21, 3) := by decide +kernel
theorem dX8_takeUp_52 : decode cX8_takeUp 52 = .ok (.iload 5, 2) := by decide +kernel
theorem dX8_takeUp_54 : decode cX8_takeUp 54 = .ok (.iaload, 1) := by decide +kernel
theorem dX8_takeUp_55 : decode cX8_takeUp 55 = .ok (.iload_n 1, 1) := by decide +kernel
theorem dX8_takeUp_56 : decode cX8_takeUp 56 = .ok (.iload_n 2, 1) := by decide +kernel
theorem dX8_takeUp_57 : decode cX8_takeUp 57 = .ok (.iload_n 3, 1) := by decide +kernel
theorem dX8_takeUp_58 : decode cX8_takeUp 58 = .ok (.invokevirtual 54, 3) := by decide +kernel
theorem dX8_takeUp_61 : decode cX8_takeUp 61 = .ok (.aload_n 0, 1) := by decide +kernel
theorem dX8_takeUp_62 : decode cX8_takeUp 62 = .ok (.getfield 25, 3) := by decide +kernel
theorem dX8_takeUp_65 : decode cX8_takeUp 65 = .ok (.iload 5, 2) := by decide +kernel
theorem dX8_takeUp_67 : decode cX8_takeUp 67 = .ok (.iaload, 1) := by decide +kernel
theorem dX8_takeUp_68 : decode cX8_takeUp 68 = .ok (.istore 5, 2) := by decide +kernel
theorem dX8_takeUp_70 : decode cX8_takeUp 70 = .ok (.iinc 6 1, 3) := by decide +kernel
theorem dX8_takeUp_73 : decode cX8_takeUp 73 = .ok (.goto (-47), 3) := by decide +kernel
theorem dX8_takeUp_76 : decode cX8_takeUp 76 = .ok (.return_, 1) := by decide +kernel
set_option maxRecDepth 20000 in
theorem ggX8_spread_X6_has : GoodIn wsX8_spread wsX6_has := goodIn_r _ [12, 13, 51] (by decide +kernel) (by decide +kernel)
set_option maxRecDepth 20000 in
theorem gX8_spread_X6_has : GoodIn wsX8_spread (wsV RX8 64 RX6 yX6_has wsX6_has) := goodIn_app (goodIn_of _ (by decide +kernel)) ggX8_spread_X6_has
set_option maxRecDepth 20000 in
theorem ggX8_spread_X8_meet : GoodIn wsX8_spread wsX8_meet := goodIn_r _ [18, 19, 7, 20, 21, 22, 23, 24, 25, 26, 27, 28, 29, 30, 31, 32, 33, 34, 35, 36, 37, 38, 39, 40, 41, 42, 11, 43, 13, 44, 45, 46, 47, 48, 49, 50, 51] (by decide +kernel) (by decide +kernel)
set_option maxRecDepth 20000 in
theorem gX8_spread_X8_meet : GoodIn wsX8_spread (wsV RX8 47 RX8 yX8_meet wsX8_meet) := goodIn_app (goodIn_of _ (by decide +kernel)) ggX8_spread_X8_meet
theorem dX8_spread_0 : decode cX8_spread 0 = .ok (.iconst 0, 1) := by decide +kernel
theorem dX8_spread_1 : decode cX8_spread 1 = .ok (.istore 5, 2) := by decide +kernel
theorem dX8_spread_3 : decode cX8_spread 3 = .ok (.iload 5, 2) := by decide +kernel
theorem dX8_spread_5 : decode cX8_spread 5 = .ok (.iload 4, 2) := by decide +kernel
theorem dX8_spread_7 : decode cX8_spread 7 = .ok (.if_icmp .ge 118, 3) := by decide +kernel
theorem dX8_spread_10 : decode cX8_spread 10 = .ok (.iload 5, 2) := by decide +kernel
theorem dX8_spread_12 : decode cX8_spread 12 = .ok (.iconst 1, 1) := by decide +kernel
theorem dX8_spread_13 : decode cX8_spread 13 = .ok (.iadd, 1) := by decide +kernel
theorem dX8_spread_14 : decode cX8_spread 14 = .ok (.iload 4, 2) := by decide +kernel
theorem dX8_spread_16 : decode cX8_spread 16 = .ok (.if_icmp .ge 10, 3) := by decide +kernel
theorem dX8_spread_19 : decode cX8_spread 19 = .ok (.iload 5, 2) := by decide +kernel
theorem dX8_spread_21 : decode cX8_spread 21 = .ok (.iconst 1, 1) := by decide +kernel
theorem dX8_spread_22 : decode cX8_spread 22 = .ok (.iadd, 1) := by decide +kernel
theorem dX8_spread_23 : decode cX8_spread 23 = .ok (.goto 4, 3) := by decide +kernel
theorem dX8_spread_26 : decode cX8_spread 26 = .ok (.iconst 0, 1) := by decide +kernel
theorem dX8_spread_27 : decode cX8_spread 27 = .ok (.istore 6, 2) := by decide +kernel
theorem dX8_spread_29 : decode cX8_spread 29 = .ok (.iload_n 1, 1) := by decide +kernel
theorem dX8_spread_30 : decode cX8_spread 30 = .ok (.iload 5, 2) := by decide +kernel
theorem dX8_spread_32 : decode cX8_spread 32 = .ok (.ishr, 1) := by decide +kernel
theorem dX8_spread_33 : decode cX8_spread 33 = .ok (.iconst 1, 1) := by decide +kernel
theorem dX8_spread_34 : decode cX8_spread 34 = .ok (.iand, 1) := by decide +kernel
theorem dX8_spread_35 : decode cX8_spread 35 = .ok (.iload_n 1, 1) := by decide +kernel
theorem dX8_spread_36 : decode cX8_spread 36 = .ok (.iload 6, 2) := by decide +kernel
theorem dX8_spread_38 : decode cX8_spread 38 = .ok (.ishr, 1) := by decide +kernel
theorem dX8_spread_39 : decode cX8_spread 39 = .ok (.iconst 1, 1) := by decide +kernel
theorem dX8_spread_40 : decode cX8_spread 40 = .ok (.iand, 1) := by decide +kernel
theorem dX8_spread_41 : decode cX8_spread 41 = .ok (.if_icmp .ne 6, 3) := by decide +kernel
theorem dX8_spread_44 : decode cX8_spread 44 = .ok (.goto 75, 3) := by decide +kernel
theorem dX8_spread_47 : decode cX8_spread 47 = .ok (.iload_n 1, 1) := by decide +kernel
theorem dX8_spread_48 : decode cX8_spread 48 = .ok (.iconst 1, 1) := by decide +kernel
theorem dX8_spread_49 : decode cX8_spread 49 = .ok (.iload 5, 2) := by decide +kernel
theorem dX8_spread_51 : decode cX8_spread 51 = .ok (.ishl, 1) := by decide +kernel
theorem dX8_spread_52 : decode cX8_spread 52 = .ok (.ixor, 1) := by decide +kernel
theorem dX8_spread_53 : decode cX8_spread 53 = .ok (.iconst 1, 1) := by decide +kernel
theorem dX8_spread_54 : decode cX8_spread 54 = .ok (.iload 6, 2) := by decide +kernel
theorem dX8_spread_56 : decode cX8_spread 56 = .ok (.ishl, 1) := by decide +kernel
theorem dX8_spread_57 : decode cX8_spread 57 = .ok (.ixor, 1) := by decide +kernel
theorem dX8_spread_58 : decode cX8_spread 58 = .ok (.istore 7, 2) := by decide +kernel
theorem dX8_spread_60 : decode cX8_spread 60 = .ok (.iload 7, 2) := by decide +kernel
theorem dX8_spread_62 : decode cX8_spread 62 = .ok (.iload_n 3, 1) := by decide +kernel
theorem dX8_spread_63 : decode cX8_spread 63 = .ok (.if_icmp .ne 35, 3) := by decide +kernel
theorem dX8_spread_66 : decode cX8_spread 66 = .ok (.aload_n 0, 1) := by decide +kernel
theorem dX8_spread_67 : decode cX8_spread 67 = .ok (.aload_n 0, 1) := by decide +kernel
theorem dX8_spread_68 : decode cX8_spread 68 = .ok (.getfield 15, 3) := by decide +kernel
theorem dX8_spread_71 : decode cX8_spread 71 = .ok (.iconst (-1), 1) := by decide +kernel
theorem dX8_spread_72 : decode cX8_spread 72 = .ok (.if_icmp .ne 7, 3) := by decide +kernel
theorem dX8_spread_75 : decode cX8_spread 75 = .ok (.iload_n 1, 1) := by decide +kernel
theorem dX8_spread_76 : decode cX8_spread 76 = .ok (.goto 11, 3) := by decide +kernel
theorem dX8_spread_79 : decode cX8_spread 79 = .ok (.aload_n 0, 1) := by decide +kernel
theorem dX8_spread_80 : decode cX8_spread 80 = .ok (.getfield 15, 3) := by decide +kernel
theorem dX8_spread_83 : decode cX8_spread 83 = .ok (.iload_n 1, 1) := by decide +kernel
theorem dX8_spread_84 : decode cX8_spread 84 = .ok (.invokestatic 58, 3) := by decide +kernel
theorem dX8_spread_87 : decode cX8_spread 87 = .ok (.putfield 15, 3) := by decide +kernel
theorem dX8_spread_90 : decode cX8_spread 90 = .ok (.aload_n 0, 1) := by decide +kernel
theorem dX8_spread_91 : decode cX8_spread 91 = .ok (.iload_n 2, 1) := by decide +kernel
theorem dX8_spread_92 : decode cX8_spread 92 = .ok (.putfield 11, 3) := by decide +kernel
theorem dX8_spread_95 : decode cX8_spread 95 = .ok (.goto 24, 3) := by decide +kernel
theorem dX8_spread_98 : decode cX8_spread 98 = .ok (.aload_n 0, 1) := by decide +kernel
theorem dX8_spread_99 : decode cX8_spread 99 = .ok (.getfield 34, 3) := by decide +kernel
theorem dX8_spread_102 : decode cX8_spread 102 = .ok (.iload 7, 2) := by decide +kernel
theorem dX8_spread_104 : decode cX8_spread 104 = .ok (.invokevirtual 64, 3) := by decide +kernel
theorem dX8_spread_107 : decode cX8_spread 107 = .ok (.ifCond .ne 12, 3) := by decide +kernel
theorem dX8_spread_110 : decode cX8_spread 110 = .ok (.aload_n 0, 1) := by decide +kernel
theorem dX8_spread_111 : decode cX8_spread 111 = .ok (.iload 7, 2) := by decide +kernel
theorem dX8_spread_113 : decode cX8_spread 113 = .ok (.iload_n 2, 1) := by decide +kernel
theorem dX8_spread_114 : decode cX8_spread 114 = .ok (.iload 4, 2) := by decide +kernel
theorem dX8_spread_116 : decode cX8_spread 116 = .ok (.invokevirtual 47, 3) := by decide +kernel
theorem dX8_spread_119 : decode cX8_spread 119 = .ok (.iinc 5 1, 3) := by decide +kernel
theorem dX8_spread_122 : decode cX8_spread 122 = .ok (.goto (-119), 3) := by decide +kernel
theorem dX8_spread_125 : decode cX8_spread 125 = .ok (.return_, 1) := by decide +kernel
set_option maxRecDepth 20000 in
theorem ggX8_meet_X3_pairsApart : GoodIn wsX8_meet wsX3_pairsApart := goodIn_r _ [9, 10, 11, 8, 12, 13, 14, 15, 16, 17, 18, 19, 20, 21, 22] (by decide +kernel) (by decide +kernel)
set_option maxRecDepth 20000 in
theorem gX8_meet_X3_pairsApart : GoodIn wsX8_meet (va_wsS RX8 68 yX3_pairsApart wsX3_pairsApart) := goodIn_app (goodIn_of _ (by decide +kernel)) ggX8_meet_X3_pairsApart
set_option maxRecDepth 20000 in
theorem ggX8_meet_X6_add : GoodIn wsX8_meet wsX6_add := goodIn_r _ [27, 28, 36] (by decide +kernel) (by decide +kernel)
set_option maxRecDepth 20000 in
theorem gX8_meet_X6_add : GoodIn wsX8_meet (wsV RX8 74 RX6 yX6_add wsX6_add) := goodIn_app (goodIn_of _ (by decide +kernel)) ggX8_meet_X6_add
theorem dX8_meet_0 : decode cX8_meet 0 = .ok (.aload_n 0, 1) := by decide +kernel
theorem dX8_meet_1 : decode cX8_meet 1 = .ok (.getfield 18, 3) := by decide +kernel
theorem dX8_meet_4 : decode cX8_meet 4 = .ok (.sipush 924, 3) := by decide +kernel
theorem dX8_meet_7 : decode cX8_meet 7 = .ok (.if_icmp .lt 4, 3) := by decide +kernel
theorem dX8_meet_10 : decode cX8_meet 10 = .ok (.return_, 1) := by decide +kernel
theorem dX8_meet_11 : decode cX8_meet 11 = .ok (.iload_n 2, 1) := by decide +kernel
theorem dX8_meet_12 : decode cX8_meet 12 = .ok (.iconst 1, 1) := by decide +kernel
theorem dX8_meet_13 : decode cX8_meet 13 = .ok (.iadd, 1) := by decide +kernel
theorem dX8_meet_14 : decode cX8_meet 14 = .ok (.iload_n 1, 1) := by decide +kernel
theorem dX8_meet_15 : decode cX8_meet 15 = .ok (.iconst 1, 1) := by decide +kernel
theorem dX8_meet_16 : decode cX8_meet 16 = .ok (.iload_n 3, 1) := by decide +kernel
theorem dX8_meet_17 : decode cX8_meet 17 = .ok (.invokestatic 68, 3) := by decide +kernel
theorem dX8_meet_20 : decode cX8_meet 20 = .ok (.iadd, 1) := by decide +kernel
theorem dX8_meet_21 : decode cX8_meet 21 = .ok (.bipush 15, 2) := by decide +kernel
theorem dX8_meet_23 : decode cX8_meet 23 = .ok (.iand, 1) := by decide +kernel
theorem dX8_meet_24 : decode cX8_meet 24 = .ok (.istore 4, 2) := by decide +kernel
theorem dX8_meet_26 : decode cX8_meet 26 = .ok (.aload_n 0, 1) := by decide +kernel
theorem dX8_meet_27 : decode cX8_meet 27 = .ok (.getfield 34, 3) := by decide +kernel
theorem dX8_meet_30 : decode cX8_meet 30 = .ok (.iload_n 1, 1) := by decide +kernel
theorem dX8_meet_31 : decode cX8_meet 31 = .ok (.invokevirtual 74, 3) := by decide +kernel
theorem dX8_meet_34 : decode cX8_meet 34 = .ok (.aload_n 0, 1) := by decide +kernel
theorem dX8_meet_35 : decode cX8_meet 35 = .ok (.getfield 21, 3) := by decide +kernel
theorem dX8_meet_38 : decode cX8_meet 38 = .ok (.aload_n 0, 1) := by decide +kernel
theorem dX8_meet_39 : decode cX8_meet 39 = .ok (.getfield 18, 3) := by decide +kernel
theorem dX8_meet_42 : decode cX8_meet 42 = .ok (.iload_n 1, 1) := by decide +kernel
theorem dX8_meet_43 : decode cX8_meet 43 = .ok (.iastore, 1) := by decide +kernel
theorem dX8_meet_44 : decode cX8_meet 44 = .ok (.aload_n 0, 1) := by decide +kernel
theorem dX8_meet_45 : decode cX8_meet 45 = .ok (.getfield 25, 3) := by decide +kernel
theorem dX8_meet_48 : decode cX8_meet 48 = .ok (.aload_n 0, 1) := by decide +kernel
theorem dX8_meet_49 : decode cX8_meet 49 = .ok (.getfield 18, 3) := by decide +kernel
theorem dX8_meet_52 : decode cX8_meet 52 = .ok (.aload_n 0, 1) := by decide +kernel
theorem dX8_meet_53 : decode cX8_meet 53 = .ok (.getfield 28, 3) := by decide +kernel
theorem dX8_meet_56 : decode cX8_meet 56 = .ok (.iload 4, 2) := by decide +kernel
theorem dX8_meet_58 : decode cX8_meet 58 = .ok (.iaload, 1) := by decide +kernel
theorem dX8_meet_59 : decode cX8_meet 59 = .ok (.iastore, 1) := by decide +kernel
theorem dX8_meet_60 : decode cX8_meet 60 = .ok (.aload_n 0, 1) := by decide +kernel
theorem dX8_meet_61 : decode cX8_meet 61 = .ok (.getfield 28, 3) := by decide +kernel
theorem dX8_meet_64 : decode cX8_meet 64 = .ok (.iload 4, 2) := by decide +kernel
theorem dX8_meet_66 : decode cX8_meet 66 = .ok (.aload_n 0, 1) := by decide +kernel
theorem dX8_meet_67 : decode cX8_meet 67 = .ok (.getfield 18, 3) := by decide +kernel
theorem dX8_meet_70 : decode cX8_meet 70 = .ok (.iastore, 1) := by decide +kernel
theorem dX8_meet_71 : decode cX8_meet 71 = .ok (.aload_n 0, 1) := by decide +kernel
theorem dX8_meet_72 : decode cX8_meet 72 = .ok (.dup, 1) := by decide +kernel
theorem dX8_meet_73 : decode cX8_meet 73 = .ok (.getfield 18, 3) := by decide +kernel
theorem dX8_meet_76 : decode cX8_meet 76 = .ok (.iconst 1, 1) := by decide +kernel
theorem dX8_meet_77 : decode cX8_meet 77 = .ok (.iadd, 1) := by decide +kernel
theorem dX8_meet_78 : decode cX8_meet 78 = .ok (.putfield 18, 3) := by decide +kernel
theorem dX8_meet_81 : decode cX8_meet 81 = .ok (.return_, 1) := by decide +kernel
theorem dX9_init_0 : decode cX9_init 0 = .ok (.aload_n 0, 1) := by decide +kernel
theorem dX9_init_1 : decode cX9_init 1 = .ok (.invokespecial 3, 3) := by decide +kernel
theorem dX9_init_4 : decode cX9_init 4 = .ok (.aload_n 0, 1) := by decide +kernel
theorem dX9_init_5 : decode cX9_init 5 = .ok (.iconst 0, 1) := by decide +kernel
theorem dX9_init_6 : decode cX9_init 6 = .ok (.putfield 9, 3) := by decide +kernel
theorem dX9_init_9 : decode cX9_init 9 = .ok (.aload_n 0, 1) := by decide +kernel
theorem dX9_init_10 : decode cX9_init 10 = .ok (.iconst 0, 1) := by decide +kernel
theorem dX9_init_11 : decode cX9_init 11 = .ok (.putfield 15, 3) := by decide +kernel
theorem dX9_init_14 : decode cX9_init 14 = .ok (.aload_n 0, 1) := by decide +kernel
theorem dX9_init_15 : decode cX9_init 15 = .ok (.iconst 0, 1) := by decide +kernel
theorem dX9_init_16 : decode cX9_init 16 = .ok (.putfield 18, 3) := by decide +kernel
theorem dX9_init_19 : decode cX9_init 19 = .ok (.aload_n 0, 1) := by decide +kernel
theorem dX9_init_20 : decode cX9_init 20 = .ok (.iconst 0, 1) := by decide +kernel
theorem dX9_init_21 : decode cX9_init 21 = .ok (.putfield 21, 3) := by decide +kernel
theorem dX9_init_24 : decode cX9_init 24 = .ok (.aload_n 0, 1) := by decide +kernel
theorem dX9_init_25 : decode cX9_init 25 = .ok (.iconst 0, 1) := by decide +kernel
theorem dX9_init_26 : decode cX9_init 26 = .ok (.putfield 24, 3) := by decide +kernel
theorem dX9_init_29 : decode cX9_init 29 = .ok (.aload_n 0, 1) := by decide +kernel
theorem dX9_init_30 : decode cX9_init 30 = .ok (.bipush 13, 2) := by decide +kernel
theorem dX9_init_32 : decode cX9_init 32 = .ok (.newarray .int, 2) := by decide +kernel
theorem dX9_init_34 : decode cX9_init 34 = .ok (.putfield 27, 3) := by decide +kernel
theorem dX9_init_37 : decode cX9_init 37 = .ok (.aload_n 0, 1) := by decide +kernel
theorem dX9_init_38 : decode cX9_init 38 = .ok (.bipush 13, 2) := by decide +kernel
theorem dX9_init_40 : decode cX9_init 40 = .ok (.newarray .int, 2) := by decide +kernel
theorem dX9_init_42 : decode cX9_init 42 = .ok (.putfield 31, 3) := by decide +kernel
theorem dX9_init_45 : decode cX9_init 45 = .ok (.aload_n 0, 1) := by decide +kernel
theorem dX9_init_46 : decode cX9_init 46 = .ok (.sipush 169, 3) := by decide +kernel
theorem dX9_init_49 : decode cX9_init 49 = .ok (.newarray .int, 2) := by decide +kernel
theorem dX9_init_51 : decode cX9_init 51 = .ok (.putfield 34, 3) := by decide +kernel
theorem dX9_init_54 : decode cX9_init 54 = .ok (.aload_n 0, 1) := by decide +kernel
theorem dX9_init_55 : decode cX9_init 55 = .ok (.bipush 13, 2) := by decide +kernel
theorem dX9_init_57 : decode cX9_init 57 = .ok (.newarray .int, 2) := by decide +kernel
theorem dX9_init_59 : decode cX9_init 59 = .ok (.putfield 37, 3) := by decide +kernel
theorem dX9_init_62 : decode cX9_init 62 = .ok (.aload_n 0, 1) := by decide +kernel
theorem dX9_init_63 : decode cX9_init 63 = .ok (.bipush 13, 2) := by decide +kernel
theorem dX9_init_65 : decode cX9_init 65 = .ok (.newarray .int, 2) := by decide +kernel
theorem dX9_init_67 : decode cX9_init 67 = .ok (.putfield 40, 3) := by decide +kernel
theorem dX9_init_70 : decode cX9_init 70 = .ok (.aload_n 0, 1) := by decide +kernel
theorem dX9_init_71 : decode cX9_init 71 = .ok (.bipush 13, 2) := by decide +kernel
theorem dX9_init_73 : decode cX9_init 73 = .ok (.newarray .int, 2) := by decide +kernel
theorem dX9_init_75 : decode cX9_init 75 = .ok (.putfield 43, 3) := by decide +kernel
theorem dX9_init_78 : decode cX9_init 78 = .ok (.aload_n 0, 1) := by decide +kernel
theorem dX9_init_79 : decode cX9_init 79 = .ok (.bipush 13, 2) := by decide +kernel
theorem dX9_init_81 : decode cX9_init 81 = .ok (.newarray .int, 2) := by decide +kernel
theorem dX9_init_83 : decode cX9_init 83 = .ok (.putfield 46, 3) := by decide +kernel
theorem dX9_init_86 : decode cX9_init 86 = .ok (.aload_n 0, 1) := by decide +kernel
theorem dX9_init_87 : decode cX9_init 87 = .ok (.bipush 13, 2) := by decide +kernel
theorem dX9_init_89 : decode cX9_init 89 = .ok (.newarray .int, 2) := by decide +kernel
theorem dX9_init_91 : decode cX9_init 91 = .ok (.putfield 49, 3) := by decide +kernel
theorem dX9_init_94 : decode cX9_init 94 = .ok (.return_, 1) := by decide +kernel
set_option maxRecDepth 20000 in
theorem ggX9_least_J6_bitCount_0f7a4 : GoodIn wsX9_least wsJ6_bitCount_0f7a4 := goodIn_r _ [11, 12, 13, 14] (by decide +kernel) (by decide +kernel)
set_option maxRecDepth 20000 in
theorem gX9_least_J6_bitCount_0f7a4 : GoodIn wsX9_least (va_wsS RX9 52 yJ6_bitCount_0f7a4 wsJ6_bitCount_0f7a4) := goodIn_app (goodIn_of _ (by decide +kernel)) ggX9_least_J6_bitCount_0f7a4
set_option maxRecDepth 20000 in
theorem ggX9_least_X9_listTones : GoodIn wsX9_least wsX9_listTones := goodIn_r _ [19] (by decide +kernel) (by decide +kernel)
set_option maxRecDepth 20000 in
theorem gX9_least_X9_listTones : GoodIn wsX9_least (wsV RX9 58 RX9 yX9_listTones wsX9_listTones) := goodIn_app (goodIn_of _ (by decide +kernel)) ggX9_least_X9_listTones
set_option maxRecDepth 20000 in
theorem ggX9_least_X9_measure : GoodIn wsX9_least wsX9_measure := goodIn_r _ [23, 2, 24, 4, 1, 3, 25, 26, 27, 28, 29, 30, 31, 32, 60, 61, 62, 63, 64, 65, 66, 67, 68, 69, 70, 71, 72] (by decide +kernel) (by decide +kernel)
set_option maxRecDepth 20000 in
theorem gX9_least_X9_measure : GoodIn wsX9_least (wsV RX9 62 RX9 yX9_measure wsX9_measure) := goodIn_app (goodIn_of _ (by decide +kernel)) ggX9_least_X9_measure
set_option maxRecDepth 20000 in
theorem ggX9_least_J7_fill_53178 : GoodIn wsX9_least wsJ7_fill_53178 := goodIn_r _ [36] (by decide +kernel) (by decide +kernel)
set_option maxRecDepth 20000 in
theorem gX9_least_J7_fill_53178 : GoodIn wsX9_least (va_wsS RX9 65 yJ7_fill_53178 wsJ7_fill_53178) := goodIn_app (goodIn_of _ (by decide +kernel)) ggX9_least_J7_fill_53178
set_option maxRecDepth 20000 in
theorem ggX9_least_X9_findFreeGoer : GoodIn wsX9_least wsX9_findFreeGoer := goodIn_r _ [40, 41, 24, 42, 7, 2, 33, 34, 35, 36, 43, 44, 45, 18, 46, 32, 5, 6, 47, 48, 49, 50, 51, 52, 53, 54, 55, 60, 61, 62, 63, 64, 65, 66, 67, 68, 69, 70, 71, 72] (by decide +kernel) (by decide +kernel)
set_option maxRecDepth 20000 in
theorem gX9_least_X9_findFreeGoer : GoodIn wsX9_least (wsV RX9 71 RX9 yX9_findFreeGoer wsX9_findFreeGoer) := goodIn_app (goodIn_of _ (by decide +kernel)) ggX9_least_X9_findFreeGoer
set_option maxRecDepth 20000 in
theorem ggX9_least_X9_passOn : GoodIn wsX9_least wsX9_passOn := goodIn_r _ [59, 2, 47, 7, 60, 61, 62, 63, 64, 65, 66, 67, 68, 69, 70, 71, 72] (by decide +kernel) (by decide +kernel)
set_option maxRecDepth 20000 in
theorem gX9_least_X9_passOn : GoodIn wsX9_least (wsV RX9 74 RX9 yX9_passOn wsX9_passOn) := goodIn_app (goodIn_of _ (by decide +kernel)) ggX9_least_X9_passOn
theorem dX9_least_0 : decode cX9_least 0 = .ok (.iload_n 1, 1) := by decide +kernel
theorem dX9_least_1 : decode cX9_least 1 = .ok (.invokestatic 52, 3) := by decide +kernel
theorem dX9_least_4 : decode cX9_least 4 = .ok (.iload_n 2, 1) := by decide +kernel
theorem dX9_least_5 : decode cX9_least 5 = .ok (.invokestatic 52, 3) := by decide +kernel
theorem dX9_least_8 : decode cX9_least 8 = .ok (.if_icmp .ge 7, 3) := by decide +kernel
theorem dX9_least_11 : decode cX9_least 11 = .ok (.iconst 1, 1) := by decide +kernel
theorem dX9_least_12 : decode cX9_least 12 = .ok (.goto 4, 3) := by decide +kernel
theorem dX9_least_15 : decode cX9_least 15 = .ok (.iconst 0, 1) := by decide +kernel
theorem dX9_least_16 : decode cX9_least 16 = .ok (.istore 4, 2) := by decide +kernel
theorem dX9_least_18 : decode cX9_least 18 = .ok (.aload_n 0, 1) := by decide +kernel
theorem dX9_least_19 : decode cX9_least 19 = .ok (.aload_n 0, 1) := by decide +kernel
theorem dX9_least_20 : decode cX9_least 20 = .ok (.iload 4, 2) := by decide +kernel
theorem dX9_least_22 : decode cX9_least 22 = .ok (.ifCond .eq 7, 3) := by decide +kernel
theorem dX9_least_25 : decode cX9_least 25 = .ok (.iload_n 2, 1) := by decide +kernel
theorem dX9_least_26 : decode cX9_least 26 = .ok (.goto 4, 3) := by decide +kernel
theorem dX9_least_29 : decode cX9_least 29 = .ok (.iload_n 1, 1) := by decide +kernel
theorem dX9_least_30 : decode cX9_least 30 = .ok (.aload_n 0, 1) := by decide +kernel
theorem dX9_least_31 : decode cX9_least 31 = .ok (.getfield 31, 3) := by decide +kernel
theorem dX9_least_34 : decode cX9_least 34 = .ok (.invokevirtual 58, 3) := by decide +kernel
theorem dX9_least_37 : decode cX9_least 37 = .ok (.putfield 21, 3) := by decide +kernel
theorem dX9_least_40 : decode cX9_least 40 = .ok (.aload_n 0, 1) := by decide +kernel
theorem dX9_least_41 : decode cX9_least 41 = .ok (.aload_n 0, 1) := by decide +kernel
theorem dX9_least_42 : decode cX9_least 42 = .ok (.iload 4, 2) := by decide +kernel
theorem dX9_least_44 : decode cX9_least 44 = .ok (.ifCond .eq 7, 3) := by decide +kernel
theorem dX9_least_47 : decode cX9_least 47 = .ok (.iload_n 1, 1) := by decide +kernel
theorem dX9_least_48 : decode cX9_least 48 = .ok (.goto 4, 3) := by decide +kernel
theorem dX9_least_51 : decode cX9_least 51 = .ok (.iload_n 2, 1) := by decide +kernel
theorem dX9_least_52 : decode cX9_least 52 = .ok (.aload_n 0, 1) := by decide +kernel
theorem dX9_least_53 : decode cX9_least 53 = .ok (.getfield 27, 3) := by decide +kernel
theorem dX9_least_56 : decode cX9_least 56 = .ok (.invokevirtual 58, 3) := by decide +kernel
theorem dX9_least_59 : decode cX9_least 59 = .ok (.putfield 18, 3) := by decide +kernel
theorem dX9_least_62 : decode cX9_least 62 = .ok (.aload_n 0, 1) := by decide +kernel
theorem dX9_least_63 : decode cX9_least 63 = .ok (.iload_n 3, 1) := by decide +kernel
theorem dX9_least_64 : decode cX9_least 64 = .ok (.invokevirtual 62, 3) := by decide +kernel
theorem dX9_least_67 : decode cX9_least 67 = .ok (.istore 5, 2) := by decide +kernel
theorem dX9_least_69 : decode cX9_least 69 = .ok (.aload_n 0, 1) := by decide +kernel
theorem dX9_least_70 : decode cX9_least 70 = .ok (.getfield 37, 3) := by decide +kernel
theorem dX9_least_73 : decode cX9_least 73 = .ok (.iconst 0, 1) := by decide +kernel
theorem dX9_least_74 : decode cX9_least 74 = .ok (.invokestatic 65, 3) := by decide +kernel
theorem dX9_least_77 : decode cX9_least 77 = .ok (.aload_n 0, 1) := by decide +kernel
theorem dX9_least_78 : decode cX9_least 78 = .ok (.getfield 40, 3) := by decide +kernel
theorem dX9_least_81 : decode cX9_least 81 = .ok (.iconst 0, 1) := by decide +kernel
theorem dX9_least_82 : decode cX9_least 82 = .ok (.invokestatic 65, 3) := by decide +kernel
theorem dX9_least_85 : decode cX9_least 85 = .ok (.aload_n 0, 1) := by decide +kernel
theorem dX9_least_86 : decode cX9_least 86 = .ok (.getfield 43, 3) := by decide +kernel
theorem dX9_least_89 : decode cX9_least 89 = .ok (.iconst 0, 1) := by decide +kernel
theorem dX9_least_90 : decode cX9_least 90 = .ok (.invokestatic 65, 3) := by decide +kernel
theorem dX9_least_93 : decode cX9_least 93 = .ok (.iconst 1, 1) := by decide +kernel
theorem dX9_least_94 : decode cX9_least 94 = .ok (.istore 6, 2) := by decide +kernel
theorem dX9_least_96 : decode cX9_least 96 = .ok (.iload 6, 2) := by decide +kernel
theorem dX9_least_98 : decode cX9_least 98 = .ok (.aload_n 0, 1) := by decide +kernel
theorem dX9_least_99 : decode cX9_least 99 = .ok (.getfield 18, 3) := by decide +kernel
theorem dX9_least_102 : decode cX9_least 102 = .ok (.if_icmp .gt 23, 3) := by decide +kernel
theorem dX9_least_105 : decode cX9_least 105 = .ok (.aload_n 0, 1) := by decide +kernel
theorem dX9_least_106 : decode cX9_least 106 = .ok (.iload 6, 2) := by decide +kernel
theorem dX9_least_108 : decode cX9_least 108 = .ok (.invokevirtual 71, 3) := by decide +kernel
theorem dX9_least_111 : decode cX9_least 111 = .ok (.istore 7, 2) := by decide +kernel
theorem dX9_least_113 : decode cX9_least 113 = .ok (.aload_n 0, 1) := by decide +kernel
theorem dX9_least_114 : decode cX9_least 114 = .ok (.iload 7, 2) := by decide +kernel
theorem dX9_least_116 : decode cX9_least 116 = .ok (.invokevirtual 74, 3) := by decide +kernel
theorem dX9_least_119 : decode cX9_least 119 = .ok (.iinc 6 1, 3) := by decide +kernel
theorem dX9_least_122 : decode cX9_least 122 = .ok (.goto (-26), 3) := by decide +kernel
theorem dX9_least_125 : decode cX9_least 125 = .ok (.iload 5, 2) := by decide +kernel
theorem dX9_least_127 : decode cX9_least 127 = .ok (.aload_n 0, 1) := by decide +kernel
theorem dX9_least_128 : decode cX9_least 128 = .ok (.getfield 40, 3) := by decide +kernel
theorem dX9_least_131 : decode cX9_least 131 = .ok (.iconst 0, 1) := by decide +kernel
theorem dX9_least_132 : decode cX9_least 132 = .ok (.iaload, 1) := by decide +kernel
theorem dX9_least_133 : decode cX9_least 133 = .ok (.isub, 1) := by decide +kernel
theorem dX9_least_134 : decode cX9_least 134 = .ok (.ireturn, 1) := by decide +kernel
set_option maxRecDepth 20000 in
theorem ggX9_findNearestImage_X3_mirrored : GoodIn wsX9_findNearestImage wsX3_mirrored := goodIn_r _ [7] (by decide +kernel) (by decide +kernel)
set_option maxRecDepth 20000 in
theorem gX9_findNearestImage_X3_mirrored : GoodIn wsX9_findNearestImage (va_wsS RX9 78 yX3_mirrored wsX3_mirrored) := goodIn_app (goodIn_of _ (by decide +kernel)) ggX9_findNearestImage_X3_mirrored
set_option maxRecDepth 20000 in
theorem ggX9_findNearestImage_X3_turned : GoodIn wsX9_findNearestImage wsX3_turned := goodIn_r _ [10, 11, 12, 6, 13] (by decide +kernel) (by decide +kernel)
set_option maxRecDepth 20000 in
theorem gX9_findNearestImage_X3_turned : GoodIn wsX9_findNearestImage (va_wsS RX9 85 yX3_turned wsX3_turned) := goodIn_app (goodIn_of _ (by decide +kernel)) ggX9_findNearestImage_X3_turned
set_option maxRecDepth 20000 in
theorem ggX9_findNearestImage_X9_least : GoodIn wsX9_findNearestImage wsX9_least := goodIn_r _ [18, 19, 20, 21, 22, 23, 24, 25, 26, 27, 28, 29, 30, 31, 32, 33, 34, 35, 17, 36, 37, 38, 39, 40, 2, 41, 42, 43, 44, 45, 46, 47, 48, 49, 50, 51, 52, 53, 54, 55, 56, 57, 58, 59, 60, 61, 62, 63, 64, 65, 66, 67, 68, 69, 70, 71, 72, 73, 74, 75, 76, 77, 78, 79, 80, 81, 82, 83, 84, 85, 86, 87, 88] (by decide +kernel) (by decide +kernel)
set_option maxRecDepth 20000 in
theorem gX9_findNearestImage_X9_least : GoodIn wsX9_findNearestImage (wsV RX9 89 RX9 yX9_least wsX9_least) := goodIn_app (goodIn_of _ (by decide +kernel)) ggX9_findNearestImage_X9_least
theorem dX9_findNearestImage_0 : decode cX9_findNearestImage 0 = .ok (.iload_n 2, 1) := by decide +kernel
theorem dX9_findNearestImage_1 : decode cX9_findNearestImage 1 = .ok (.iload_n 3, 1) := by decide +kernel
theorem dX9_findNearestImage_2 : decode cX9_findNearestImage 2 = .ok (.invokestatic 78, 3) := by decide +kernel
theorem dX9_findNearestImage_5 : decode cX9_findNearestImage 5 = .ok (.istore 4, 2) := by decide +kernel
theorem dX9_findNearestImage_7 : decode cX9_findNearestImage 7 = .ok (.aload_n 0, 1) := by decide +kernel
theorem dX9_findNearestImage_8 : decode cX9_findNearestImage 8 = .ok (.iconst 0, 1) := by decide +kernel
theorem dX9_findNearestImage_9 : decode cX9_findNearestImage 9 = .ok (.putfield 9, 3) := by decide +kernel
theorem dX9_findNearestImage_12 : decode cX9_findNearestImage 12 = .ok (.aload_n 0, 1) := by decide +kernel
theorem dX9_findNearestImage_13 : decode cX9_findNearestImage 13 = .ok (.ldc 84, 2) := by decide +kernel
theorem dX9_findNearestImage_15 : decode cX9_findNearestImage 15 = .ok (.putfield 15, 3) := by decide +kernel
theorem dX9_findNearestImage_18 : decode cX9_findNearestImage 18 = .ok (.iconst 0, 1) := by decide +kernel
theorem dX9_findNearestImage_19 : decode cX9_findNearestImage 19 = .ok (.istore 5, 2) := by decide +kernel
theorem dX9_findNearestImage_21 : decode cX9_findNearestImage 21 = .ok (.iload 5, 2) := by decide +kernel
theorem dX9_findNearestImage_23 : decode cX9_findNearestImage 23 = .ok (.iconst 2, 1) := by decide +kernel
theorem dX9_findNearestImage_24 : decode cX9_findNearestImage 24 = .ok (.iload_n 3, 1) := by decide +kernel
theorem dX9_findNearestImage_25 : decode cX9_findNearestImage 25 = .ok (.imul, 1) := by decide +kernel
theorem dX9_findNearestImage_26 : decode cX9_findNearestImage 26 = .ok (.if_icmp .ge 75, 3) := by decide +kernel
theorem dX9_findNearestImage_29 : decode cX9_findNearestImage 29 = .ok (.aload_n 0, 1) := by decide +kernel
theorem dX9_findNearestImage_30 : decode cX9_findNearestImage 30 = .ok (.getfield 15, 3) := by decide +kernel
theorem dX9_findNearestImage_33 : decode cX9_findNearestImage 33 = .ok (.ifCond .le 68, 3) := by decide +kernel
theorem dX9_findNearestImage_36 : decode cX9_findNearestImage 36 = .ok (.iload 5, 2) := by decide +kernel
theorem dX9_findNearestImage_38 : decode cX9_findNearestImage 38 = .ok (.iload_n 3, 1) := by decide +kernel
theorem dX9_findNearestImage_39 : decode cX9_findNearestImage 39 = .ok (.if_icmp .ge 13, 3) := by decide +kernel
theorem dX9_findNearestImage_42 : decode cX9_findNearestImage 42 = .ok (.iload_n 2, 1) := by decide +kernel
theorem dX9_findNearestImage_43 : decode cX9_findNearestImage 43 = .ok (.iload 5, 2) := by decide +kernel
theorem dX9_findNearestImage_45 : decode cX9_findNearestImage 45 = .ok (.iload_n 3, 1) := by decide +kernel
theorem dX9_findNearestImage_46 : decode cX9_findNearestImage 46 = .ok (.invokestatic 85, 3) := by decide +kernel
theorem dX9_findNearestImage_49 : decode cX9_findNearestImage 49 = .ok (.goto 13, 3) := by decide +kernel
theorem dX9_findNearestImage_52 : decode cX9_findNearestImage 52 = .ok (.iload 4, 2) := by decide +kernel
theorem dX9_findNearestImage_54 : decode cX9_findNearestImage 54 = .ok (.iload 5, 2) := by decide +kernel
theorem dX9_findNearestImage_56 : decode cX9_findNearestImage 56 = .ok (.iload_n 3, 1) := by decide +kernel
theorem dX9_findNearestImage_57 : decode cX9_findNearestImage 57 = .ok (.isub, 1) := by decide +kernel
theorem dX9_findNearestImage_58 : decode cX9_findNearestImage 58 = .ok (.iload_n 3, 1) := by decide +kernel
theorem dX9_findNearestImage_59 : decode cX9_findNearestImage 59 = .ok (.invokestatic 85, 3) := by decide +kernel
theorem dX9_findNearestImage_62 : decode cX9_findNearestImage 62 = .ok (.istore 6, 2) := by decide +kernel
theorem dX9_findNearestImage_64 : decode cX9_findNearestImage 64 = .ok (.aload_n 0, 1) := by decide +kernel
theorem dX9_findNearestImage_65 : decode cX9_findNearestImage 65 = .ok (.iload_n 1, 1) := by decide +kernel
theorem dX9_findNearestImage_66 : decode cX9_findNearestImage 66 = .ok (.iload 6, 2) := by decide +kernel
theorem dX9_findNearestImage_68 : decode cX9_findNearestImage 68 = .ok (.iload_n 3, 1) := by decide +kernel
theorem dX9_findNearestImage_69 : decode cX9_findNearestImage 69 = .ok (.invokevirtual 89, 3) := by decide +kernel
theorem dX9_findNearestImage_72 : decode cX9_findNearestImage 72 = .ok (.istore 7, 2) := by decide +kernel
theorem dX9_findNearestImage_74 : decode cX9_findNearestImage 74 = .ok (.iload 7, 2) := by decide +kernel
theorem dX9_findNearestImage_76 : decode cX9_findNearestImage 76 = .ok (.aload_n 0, 1) := by decide +kernel
theorem dX9_findNearestImage_77 : decode cX9_findNearestImage 77 = .ok (.getfield 15, 3) := by decide +kernel
theorem dX9_findNearestImage_80 : decode cX9_findNearestImage 80 = .ok (.if_icmp .ge 15, 3) := by decide +kernel
theorem dX9_findNearestImage_83 : decode cX9_findNearestImage 83 = .ok (.aload_n 0, 1) := by decide +kernel
theorem dX9_findNearestImage_84 : decode cX9_findNearestImage 84 = .ok (.iload 5, 2) := by decide +kernel
theorem dX9_findNearestImage_86 : decode cX9_findNearestImage 86 = .ok (.putfield 9, 3) := by decide +kernel
theorem dX9_findNearestImage_89 : decode cX9_findNearestImage 89 = .ok (.aload_n 0, 1) := by decide +kernel
theorem dX9_findNearestImage_90 : decode cX9_findNearestImage 90 = .ok (.iload 7, 2) := by decide +kernel
theorem dX9_findNearestImage_92 : decode cX9_findNearestImage 92 = .ok (.putfield 15, 3) := by decide +kernel
theorem dX9_findNearestImage_95 : decode cX9_findNearestImage 95 = .ok (.iinc 5 1, 3) := by decide +kernel
theorem dX9_findNearestImage_98 : decode cX9_findNearestImage 98 = .ok (.goto (-77), 3) := by decide +kernel
theorem dX9_findNearestImage_101 : decode cX9_findNearestImage 101 = .ok (.return_, 1) := by decide +kernel
theorem dX9_listTones_0 : decode cX9_listTones 0 = .ok (.iconst 0, 1) := by decide +kernel
theorem dX9_listTones_1 : decode cX9_listTones 1 = .ok (.istore_n 3, 1) := by decide +kernel
theorem dX9_listTones_2 : decode cX9_listTones 2 = .ok (.iconst 0, 1) := by decide +kernel
theorem dX9_listTones_3 : decode cX9_listTones 3 = .ok (.istore 4, 2) := by decide +kernel
theorem dX9_listTones_5 : decode cX9_listTones 5 = .ok (.iload 4, 2) := by decide +kernel
theorem dX9_listTones_7 : decode cX9_listTones 7 = .ok (.bipush 12, 2) := by decide +kernel
theorem dX9_listTones_9 : decode cX9_listTones 9 = .ok (.if_icmp .ge 26, 3) := by decide +kernel
theorem dX9_listTones_12 : decode cX9_listTones 12 = .ok (.iload_n 1, 1) := by decide +kernel
theorem dX9_listTones_13 : decode cX9_listTones 13 = .ok (.iconst 1, 1) := by decide +kernel
theorem dX9_listTones_14 : decode cX9_listTones 14 = .ok (.iload 4, 2) := by decide +kernel
theorem dX9_listTones_16 : decode cX9_listTones 16 = .ok (.ishl, 1) := by decide +kernel
theorem dX9_listTones_17 : decode cX9_listTones 17 = .ok (.iand, 1) := by decide +kernel
theorem dX9_listTones_18 : decode cX9_listTones 18 = .ok (.ifCond .eq 11, 3) := by decide +kernel
theorem dX9_listTones_21 : decode cX9_listTones 21 = .ok (.iinc 3 1, 3) := by decide +kernel
theorem dX9_listTones_24 : decode cX9_listTones 24 = .ok (.aload_n 2, 1) := by decide +kernel
theorem dX9_listTones_25 : decode cX9_listTones 25 = .ok (.iload_n 3, 1) := by decide +kernel
theorem dX9_listTones_26 : decode cX9_listTones 26 = .ok (.iload 4, 2) := by decide +kernel
theorem dX9_listTones_28 : decode cX9_listTones 28 = .ok (.iastore, 1) := by decide +kernel
theorem dX9_listTones_29 : decode cX9_listTones 29 = .ok (.iinc 4 1, 3) := by decide +kernel
theorem dX9_listTones_32 : decode cX9_listTones 32 = .ok (.goto (-27), 3) := by decide +kernel
theorem dX9_listTones_35 : decode cX9_listTones 35 = .ok (.iload_n 3, 1) := by decide +kernel
theorem dX9_listTones_36 : decode cX9_listTones 36 = .ok (.ireturn, 1) := by decide +kernel
theorem dX9_measure_0 : decode cX9_measure 0 = .ok (.iconst 0, 1) := by decide +kernel
theorem dX9_measure_1 : decode cX9_measure 1 = .ok (.istore_n 2, 1) := by decide +kernel
theorem dX9_measure_2 : decode cX9_measure 2 = .ok (.iconst 1, 1) := by decide +kernel
theorem dX9_measure_3 : decode cX9_measure 3 = .ok (.istore_n 3, 1) := by decide +kernel
theorem dX9_measure_4 : decode cX9_measure 4 = .ok (.iload_n 3, 1) := by decide +kernel
theorem dX9_measure_5 : decode cX9_measure 5 = .ok (.aload_n 0, 1) := by decide +kernel
theorem dX9_measure_6 : decode cX9_measure 6 = .ok (.getfield 21, 3) := by decide +kernel
theorem dX9_measure_9 : decode cX9_measure 9 = .ok (.if_icmp .gt 124, 3) := by decide +kernel
theorem dX9_measure_12 : decode cX9_measure 12 = .ok (.ldc 84, 2) := by decide +kernel
theorem dX9_measure_14 : decode cX9_measure 14 = .ok (.istore 4, 2) := by decide +kernel
theorem dX9_measure_16 : decode cX9_measure 16 = .ok (.iconst 1, 1) := by decide +kernel
theorem dX9_measure_17 : decode cX9_measure 17 = .ok (.istore 5, 2) := by decide +kernel
theorem dX9_measure_19 : decode cX9_measure 19 = .ok (.iload 5, 2) := by decide +kernel
theorem dX9_measure_21 : decode cX9_measure 21 = .ok (.aload_n 0, 1) := by decide +kernel
theorem dX9_measure_22 : decode cX9_measure 22 = .ok (.getfield 18, 3) := by decide +kernel
theorem dX9_measure_25 : decode cX9_measure 25 = .ok (.if_icmp .gt 62, 3) := by decide +kernel
theorem dX9_measure_28 : decode cX9_measure 28 = .ok (.aload_n 0, 1) := by decide +kernel
theorem dX9_measure_29 : decode cX9_measure 29 = .ok (.getfield 31, 3) := by decide +kernel
theorem dX9_measure_32 : decode cX9_measure 32 = .ok (.iload_n 3, 1) := by decide +kernel
theorem dX9_measure_33 : decode cX9_measure 33 = .ok (.iaload, 1) := by decide +kernel
theorem dX9_measure_34 : decode cX9_measure 34 = .ok (.aload_n 0, 1) := by decide +kernel
theorem dX9_measure_35 : decode cX9_measure 35 = .ok (.getfield 27, 3) := by decide +kernel
theorem dX9_measure_38 : decode cX9_measure 38 = .ok (.iload 5, 2) := by decide +kernel
theorem dX9_measure_40 : decode cX9_measure 40 = .ok (.iaload, 1) := by decide +kernel
theorem dX9_measure_41 : decode cX9_measure 41 = .ok (.isub, 1) := by decide +kernel
theorem dX9_measure_42 : decode cX9_measure 42 = .ok (.invokestatic 92, 3) := by decide +kernel
theorem dX9_measure_45 : decode cX9_measure 45 = .ok (.istore 6, 2) := by decide +kernel
theorem dX9_measure_47 : decode cX9_measure 47 = .ok (.iload 6, 2) := by decide +kernel
theorem dX9_measure_49 : decode cX9_measure 49 = .ok (.iload_n 1, 1) := by decide +kernel
theorem dX9_measure_50 : decode cX9_measure 50 = .ok (.iload 6, 2) := by decide +kernel
theorem dX9_measure_52 : decode cX9_measure 52 = .ok (.isub, 1) := by decide +kernel
theorem dX9_measure_53 : decode cX9_measure 53 = .ok (.invokestatic 97, 3) := by decide +kernel
theorem dX9_measure_56 : decode cX9_measure 56 = .ok (.istore 6, 2) := by decide +kernel
theorem dX9_measure_58 : decode cX9_measure 58 = .ok (.aload_n 0, 1) := by decide +kernel
theorem dX9_measure_59 : decode cX9_measure 59 = .ok (.getfield 34, 3) := by decide +kernel
theorem dX9_measure_62 : decode cX9_measure 62 = .ok (.iload 5, 2) := by decide +kernel
theorem dX9_measure_64 : decode cX9_measure 64 = .ok (.bipush 13, 2) := by decide +kernel
theorem dX9_measure_66 : decode cX9_measure 66 = .ok (.imul, 1) := by decide +kernel
theorem dX9_measure_67 : decode cX9_measure 67 = .ok (.iload_n 3, 1) := by decide +kernel
theorem dX9_measure_68 : decode cX9_measure 68 = .ok (.iadd, 1) := by decide +kernel
theorem dX9_measure_69 : decode cX9_measure 69 = .ok (.iload 6, 2) := by decide +kernel
theorem dX9_measure_71 : decode cX9_measure 71 = .ok (.iastore, 1) := by decide +kernel
theorem dX9_measure_72 : decode cX9_measure 72 = .ok (.iload 4, 2) := by decide +kernel
theorem dX9_measure_74 : decode cX9_measure 74 = .ok (.iload 6, 2) := by decide +kernel
theorem dX9_measure_76 : decode cX9_measure 76 = .ok (.invokestatic 97, 3) := by decide +kernel
theorem dX9_measure_79 : decode cX9_measure 79 = .ok (.istore 4, 2) := by decide +kernel
theorem dX9_measure_81 : decode cX9_measure 81 = .ok (.iinc 5 1, 3) := by decide +kernel
theorem dX9_measure_84 : decode cX9_measure 84 = .ok (.goto (-65), 3) := by decide +kernel
theorem dX9_measure_87 : decode cX9_measure 87 = .ok (.iconst 1, 1) := by decide +kernel
theorem dX9_measure_88 : decode cX9_measure 88 = .ok (.istore 5, 2) := by decide +kernel
theorem dX9_measure_90 : decode cX9_measure 90 = .ok (.iload 5, 2) := by decide +kernel
theorem dX9_measure_92 : decode cX9_measure 92 = .ok (.aload_n 0, 1) := by decide +kernel
theorem dX9_measure_93 : decode cX9_measure 93 = .ok (.getfield 18, 3) := by decide +kernel
theorem dX9_measure_96 : decode cX9_measure 96 = .ok (.if_icmp .gt 26, 3) := by decide +kernel
theorem dX9_measure_99 : decode cX9_measure 99 = .ok (.aload_n 0, 1) := by decide +kernel
theorem dX9_measure_100 : decode cX9_measure 100 = .ok (.getfield 34, 3) := by decide +kernel
theorem dX9_measure_103 : decode cX9_measure 103 = .ok (.iload 5, 2) := by decide +kernel
theorem dX9_measure_105 : decode cX9_measure 105 = .ok (.bipush 13, 2) := by decide +kernel
theorem dX9_measure_107 : decode cX9_measure 107 = .ok (.imul, 1) := by decide +kernel
theorem dX9_measure_108 : decode cX9_measure 108 = .ok (.iload_n 3, 1) := by decide +kernel
theorem dX9_measure_109 : decode cX9_measure 109 = .ok (.iadd, 1) := by decide +kernel
theorem dX9_measure_110 : decode cX9_measure 110 = .ok (.dup2, 1) := by decide +kernel
theorem dX9_measure_111 : decode cX9_measure 111 = .ok (.iaload, 1) := by decide +kernel
theorem dX9_measure_112 : decode cX9_measure 112 = .ok (.iload 4, 2) := by decide +kernel
theorem dX9_measure_114 : decode cX9_measure 114 = .ok (.isub, 1) := by decide +kernel
theorem dX9_measure_115 : decode cX9_measure 115 = .ok (.iastore, 1) := by decide +kernel
theorem dX9_measure_116 : decode cX9_measure 116 = .ok (.iinc 5 1, 3) := by decide +kernel
theorem dX9_measure_119 : decode cX9_measure 119 = .ok (.goto (-29), 3) := by decide +kernel
theorem dX9_measure_122 : decode cX9_measure 122 = .ok (.iload_n 2, 1) := by decide +kernel
theorem dX9_measure_123 : decode cX9_measure 123 = .ok (.iload 4, 2) := by decide +kernel
theorem dX9_measure_125 : decode cX9_measure 125 = .ok (.iadd, 1) := by decide +kernel
theorem dX9_measure_126 : decode cX9_measure 126 = .ok (.istore_n 2, 1) := by decide +kernel
theorem dX9_measure_127 : decode cX9_measure 127 = .ok (.iinc 3 1, 3) := by decide +kernel
theorem dX9_measure_130 : decode cX9_measure 130 = .ok (.goto (-126), 3) := by decide +kernel
theorem dX9_measure_133 : decode cX9_measure 133 = .ok (.iload_n 2, 1) := by decide +kernel
theorem dX9_measure_134 : decode cX9_measure 134 = .ok (.ireturn, 1) := by decide +kernel
set_option maxRecDepth 20000 in
theorem ggX9_findFreeGoer_J7_fill_53178 : GoodIn wsX9_findFreeGoer wsJ7_fill_53178 := goodIn_r _ [9] (by decide +kernel) (by decide +kernel)
set_option maxRecDepth 20000 in
theorem gX9_findFreeGoer_J7_fill_53178 : GoodIn wsX9_findFreeGoer (va_wsS RX9 65 yJ7_fill_53178 wsJ7_fill_53178) := goodIn_app (goodIn_of _ (by decide +kernel)) ggX9_findFreeGoer_J7_fill_53178
set_option maxRecDepth 20000 in
theorem ggX9_findFreeGoer_X9_closestUnreached : GoodIn wsX9_findFreeGoer wsX9_closestUnreached := goodIn_r _ [14, 4, 5, 15, 16, 17, 1, 18, 19, 20, 21, 13, 22, 3, 27, 28, 29, 30, 31, 32, 33, 34, 35, 36, 37, 38, 39] (by decide +kernel) (by decide +kernel)
set_option maxRecDepth 20000 in
theorem gX9_findFreeGoer_X9_closestUnreached : GoodIn wsX9_findFreeGoer (wsV RX9 100 RX9 yX9_closestUnreached wsX9_closestUnreached) := goodIn_app (goodIn_of _ (by decide +kernel)) ggX9_findFreeGoer_X9_closestUnreached
set_option maxRecDepth 20000 in
theorem ggX9_findFreeGoer_X9_shiftPrices : GoodIn wsX9_findFreeGoer wsX9_shiftPrices := goodIn_r _ [26, 5, 16, 4, 17, 1, 19, 20, 21, 13, 22, 3, 27, 28, 29, 30, 31, 32, 33, 34, 35, 36, 37, 38, 39] (by decide +kernel) (by decide +kernel)
set_option maxRecDepth 20000 in
theorem gX9_findFreeGoer_X9_shiftPrices : GoodIn wsX9_findFreeGoer (wsV RX9 103 RX9 yX9_shiftPrices wsX9_shiftPrices) := goodIn_app (goodIn_of _ (by decide +kernel)) ggX9_findFreeGoer_X9_shiftPrices
theorem dX9_findFreeGoer_0 : decode cX9_findFreeGoer 0 = .ok (.aload_n 0, 1) := by decide +kernel
theorem dX9_findFreeGoer_1 : decode cX9_findFreeGoer 1 = .ok (.getfield 49, 3) := by decide +kernel
theorem dX9_findFreeGoer_4 : decode cX9_findFreeGoer 4 = .ok (.ldc 84, 2) := by decide +kernel
theorem dX9_findFreeGoer_6 : decode cX9_findFreeGoer 6 = .ok (.invokestatic 65, 3) := by decide +kernel
theorem dX9_findFreeGoer_9 : decode cX9_findFreeGoer 9 = .ok (.aload_n 0, 1) := by decide +kernel
theorem dX9_findFreeGoer_10 : decode cX9_findFreeGoer 10 = .ok (.iconst 0, 1) := by decide +kernel
theorem dX9_findFreeGoer_11 : decode cX9_findFreeGoer 11 = .ok (.putfield 24, 3) := by decide +kernel
theorem dX9_findFreeGoer_14 : decode cX9_findFreeGoer 14 = .ok (.aload_n 0, 1) := by decide +kernel
theorem dX9_findFreeGoer_15 : decode cX9_findFreeGoer 15 = .ok (.getfield 43, 3) := by decide +kernel
theorem dX9_findFreeGoer_18 : decode cX9_findFreeGoer 18 = .ok (.iconst 0, 1) := by decide +kernel
theorem dX9_findFreeGoer_19 : decode cX9_findFreeGoer 19 = .ok (.iload_n 1, 1) := by decide +kernel
theorem dX9_findFreeGoer_20 : decode cX9_findFreeGoer 20 = .ok (.iastore, 1) := by decide +kernel
theorem dX9_findFreeGoer_21 : decode cX9_findFreeGoer 21 = .ok (.iconst 0, 1) := by decide +kernel
theorem dX9_findFreeGoer_22 : decode cX9_findFreeGoer 22 = .ok (.istore_n 2, 1) := by decide +kernel
theorem dX9_findFreeGoer_23 : decode cX9_findFreeGoer 23 = .ok (.iconst 0, 1) := by decide +kernel
theorem dX9_findFreeGoer_24 : decode cX9_findFreeGoer 24 = .ok (.istore_n 3, 1) := by decide +kernel
theorem dX9_findFreeGoer_25 : decode cX9_findFreeGoer 25 = .ok (.iload_n 3, 1) := by decide +kernel
theorem dX9_findFreeGoer_26 : decode cX9_findFreeGoer 26 = .ok (.aload_n 0, 1) := by decide +kernel
theorem dX9_findFreeGoer_27 : decode cX9_findFreeGoer 27 = .ok (.getfield 21, 3) := by decide +kernel
theorem dX9_findFreeGoer_30 : decode cX9_findFreeGoer 30 = .ok (.if_icmp .gt 51, 3) := by decide +kernel
theorem dX9_findFreeGoer_33 : decode cX9_findFreeGoer 33 = .ok (.aload_n 0, 1) := by decide +kernel
theorem dX9_findFreeGoer_34 : decode cX9_findFreeGoer 34 = .ok (.getfield 43, 3) := by decide +kernel
theorem dX9_findFreeGoer_37 : decode cX9_findFreeGoer 37 = .ok (.iload_n 2, 1) := by decide +kernel
theorem dX9_findFreeGoer_38 : decode cX9_findFreeGoer 38 = .ok (.iaload, 1) := by decide +kernel
theorem dX9_findFreeGoer_39 : decode cX9_findFreeGoer 39 = .ok (.ifCond .eq 42, 3) := by decide +kernel
theorem dX9_findFreeGoer_42 : decode cX9_findFreeGoer 42 = .ok (.aload_n 0, 1) := by decide +kernel
theorem dX9_findFreeGoer_43 : decode cX9_findFreeGoer 43 = .ok (.dup, 1) := by decide +kernel
theorem dX9_findFreeGoer_44 : decode cX9_findFreeGoer 44 = .ok (.getfield 24, 3) := by decide +kernel
theorem dX9_findFreeGoer_47 : decode cX9_findFreeGoer 47 = .ok (.iconst 1, 1) := by decide +kernel
theorem dX9_findFreeGoer_48 : decode cX9_findFreeGoer 48 = .ok (.iload_n 2, 1) := by decide +kernel
theorem dX9_findFreeGoer_49 : decode cX9_findFreeGoer 49 = .ok (.ishl, 1) := by decide +kernel
theorem dX9_findFreeGoer_50 : decode cX9_findFreeGoer 50 = .ok (.ior, 1) := by decide +kernel
theorem dX9_findFreeGoer_51 : decode cX9_findFreeGoer 51 = .ok (.putfield 24, 3) := by decide +kernel
theorem dX9_findFreeGoer_54 : decode cX9_findFreeGoer 54 = .ok (.aload_n 0, 1) := by decide +kernel
theorem dX9_findFreeGoer_55 : decode cX9_findFreeGoer 55 = .ok (.iload_n 2, 1) := by decide +kernel
theorem dX9_findFreeGoer_56 : decode cX9_findFreeGoer 56 = .ok (.invokevirtual 100, 3) := by decide +kernel
theorem dX9_findFreeGoer_59 : decode cX9_findFreeGoer 59 = .ok (.istore 4, 2) := by decide +kernel
theorem dX9_findFreeGoer_61 : decode cX9_findFreeGoer 61 = .ok (.aload_n 0, 1) := by decide +kernel
theorem dX9_findFreeGoer_62 : decode cX9_findFreeGoer 62 = .ok (.aload_n 0, 1) := by decide +kernel
theorem dX9_findFreeGoer_63 : decode cX9_findFreeGoer 63 = .ok (.getfield 49, 3) := by decide +kernel
theorem dX9_findFreeGoer_66 : decode cX9_findFreeGoer 66 = .ok (.iload 4, 2) := by decide +kernel
theorem dX9_findFreeGoer_68 : decode cX9_findFreeGoer 68 = .ok (.iaload, 1) := by decide +kernel
theorem dX9_findFreeGoer_69 : decode cX9_findFreeGoer 69 = .ok (.invokevirtual 103, 3) := by decide +kernel
theorem dX9_findFreeGoer_72 : decode cX9_findFreeGoer 72 = .ok (.iload 4, 2) := by decide +kernel
theorem dX9_findFreeGoer_74 : decode cX9_findFreeGoer 74 = .ok (.istore_n 2, 1) := by decide +kernel
theorem dX9_findFreeGoer_75 : decode cX9_findFreeGoer 75 = .ok (.iinc 3 1, 3) := by decide +kernel
theorem dX9_findFreeGoer_78 : decode cX9_findFreeGoer 78 = .ok (.goto (-53), 3) := by decide +kernel
theorem dX9_findFreeGoer_81 : decode cX9_findFreeGoer 81 = .ok (.iload_n 2, 1) := by decide +kernel
theorem dX9_findFreeGoer_82 : decode cX9_findFreeGoer 82 = .ok (.ireturn, 1) := by decide +kernel
theorem dX9_isReached_0 : decode cX9_isReached 0 = .ok (.aload_n 0, 1) := by decide +kernel
theorem dX9_isReached_1 : decode cX9_isReached 1 = .ok (.getfield 24, 3) := by decide +kernel
theorem dX9_isReached_4 : decode cX9_isReached 4 = .ok (.iconst 1, 1) := by decide +kernel
theorem dX9_isReached_5 : decode cX9_isReached 5 = .ok (.iload_n 1, 1) := by decide +kernel
theorem dX9_isReached_6 : decode cX9_isReached 6 = .ok (.ishl, 1) := by decide +kernel
theorem dX9_isReached_7 : decode cX9_isReached 7 = .ok (.iand, 1) := by decide +kernel
theorem dX9_isReached_8 : decode cX9_isReached 8 = .ok (.ifCond .eq 7, 3) := by decide +kernel
theorem dX9_isReached_11 : decode cX9_isReached 11 = .ok (.iconst 1, 1) := by decide +kernel
theorem dX9_isReached_12 : decode cX9_isReached 12 = .ok (.goto 4, 3) := by decide +kernel
theorem dX9_isReached_15 : decode cX9_isReached 15 = .ok (.iconst 0, 1) := by decide +kernel
theorem dX9_isReached_16 : decode cX9_isReached 16 = .ok (.ireturn, 1) := by decide +kernel
set_option maxRecDepth 20000 in
theorem ggX9_closestUnreached_X9_isReached : GoodIn wsX9_closestUnreached wsX9_isReached := goodIn_r _ [12, 13, 14, 15, 16, 17, 18, 19, 20, 21, 22, 23, 24, 25, 26] (by decide +kernel) (by decide +kernel)
set_option maxRecDepth 20000 in
theorem gX9_closestUnreached_X9_isReached : GoodIn wsX9_closestUnreached (wsV RX9 106 RX9 yX9_isReached wsX9_isReached) := goodIn_app (goodIn_of _ (by decide +kernel)) ggX9_closestUnreached_X9_isReached
theorem dX9_closestUnreached_0 : decode cX9_closestUnreached 0 = .ok (.aload_n 0, 1) := by decide +kernel
theorem dX9_closestUnreached_1 : decode cX9_closestUnreached 1 = .ok (.getfield 43, 3) := by decide +kernel
theorem dX9_closestUnreached_4 : decode cX9_closestUnreached 4 = .ok (.iload_n 1, 1) := by decide +kernel
theorem dX9_closestUnreached_5 : decode cX9_closestUnreached 5 = .ok (.iaload, 1) := by decide +kernel
theorem dX9_closestUnreached_6 : decode cX9_closestUnreached 6 = .ok (.istore_n 2, 1) := by decide +kernel
theorem dX9_closestUnreached_7 : decode cX9_closestUnreached 7 = .ok (.iconst 0, 1) := by decide +kernel
theorem dX9_closestUnreached_8 : decode cX9_closestUnreached 8 = .ok (.istore_n 3, 1) := by decide +kernel
theorem dX9_closestUnreached_9 : decode cX9_closestUnreached 9 = .ok (.iconst 1, 1) := by decide +kernel
theorem dX9_closestUnreached_10 : decode cX9_closestUnreached 10 = .ok (.istore 4, 2) := by decide +kernel
theorem dX9_closestUnreached_12 : decode cX9_closestUnreached 12 = .ok (.iload 4, 2) := by decide +kernel
theorem dX9_closestUnreached_14 : decode cX9_closestUnreached 14 = .ok (.aload_n 0, 1) := by decide +kernel
theorem dX9_closestUnreached_15 : decode cX9_closestUnreached 15 = .ok (.getfield 21, 3) := by decide +kernel
theorem dX9_closestUnreached_18 : decode cX9_closestUnreached 18 = .ok (.if_icmp .gt 102, 3) := by decide +kernel
theorem dX9_closestUnreached_21 : decode cX9_closestUnreached 21 = .ok (.aload_n 0, 1) := by decide +kernel
theorem dX9_closestUnreached_22 : decode cX9_closestUnreached 22 = .ok (.iload 4, 2) := by decide +kernel
theorem dX9_closestUnreached_24 : decode cX9_closestUnreached 24 = .ok (.invokevirtual 106, 3) := by decide +kernel
theorem dX9_closestUnreached_27 : decode cX9_closestUnreached 27 = .ok (.ifCond .eq 6, 3) := by decide +kernel
theorem dX9_closestUnreached_30 : decode cX9_closestUnreached 30 = .ok (.goto 84, 3) := by decide +kernel
theorem dX9_closestUnreached_33 : decode cX9_closestUnreached 33 = .ok (.aload_n 0, 1) := by decide +kernel
theorem dX9_closestUnreached_34 : decode cX9_closestUnreached 34 = .ok (.getfield 34, 3) := by decide +kernel
theorem dX9_closestUnreached_37 : decode cX9_closestUnreached 37 = .ok (.iload_n 2, 1) := by decide +kernel
theorem dX9_closestUnreached_38 : decode cX9_closestUnreached 38 = .ok (.bipush 13, 2) := by decide +kernel
theorem dX9_closestUnreached_40 : decode cX9_closestUnreached 40 = .ok (.imul, 1) := by decide +kernel
theorem dX9_closestUnreached_41 : decode cX9_closestUnreached 41 = .ok (.iload 4, 2) := by decide +kernel
theorem dX9_closestUnreached_43 : decode cX9_closestUnreached 43 = .ok (.iadd, 1) := by decide +kernel
theorem dX9_closestUnreached_44 : decode cX9_closestUnreached 44 = .ok (.iaload, 1) := by decide +kernel
theorem dX9_closestUnreached_45 : decode cX9_closestUnreached 45 = .ok (.aload_n 0, 1) := by decide +kernel
theorem dX9_closestUnreached_46 : decode cX9_closestUnreached 46 = .ok (.getfield 37, 3) := by decide +kernel
theorem dX9_closestUnreached_49 : decode cX9_closestUnreached 49 = .ok (.iload_n 2, 1) := by decide +kernel
theorem dX9_closestUnreached_50 : decode cX9_closestUnreached 50 = .ok (.iaload, 1) := by decide +kernel
theorem dX9_closestUnreached_51 : decode cX9_closestUnreached 51 = .ok (.isub, 1) := by decide +kernel
theorem dX9_closestUnreached_52 : decode cX9_closestUnreached 52 = .ok (.aload_n 0, 1) := by decide +kernel
theorem dX9_closestUnreached_53 : decode cX9_closestUnreached 53 = .ok (.getfield 40, 3) := by decide +kernel
theorem dX9_closestUnreached_56 : decode cX9_closestUnreached 56 = .ok (.iload 4, 2) := by decide +kernel
theorem dX9_closestUnreached_58 : decode cX9_closestUnreached 58 = .ok (.iaload, 1) := by decide +kernel
theorem dX9_closestUnreached_59 : decode cX9_closestUnreached 59 = .ok (.isub, 1) := by decide +kernel
theorem dX9_closestUnreached_60 : decode cX9_closestUnreached 60 = .ok (.istore 5, 2) := by decide +kernel
theorem dX9_closestUnreached_62 : decode cX9_closestUnreached 62 = .ok (.iload 5, 2) := by decide +kernel
theorem dX9_closestUnreached_64 : decode cX9_closestUnreached 64 = .ok (.aload_n 0, 1) := by decide +kernel
theorem dX9_closestUnreached_65 : decode cX9_closestUnreached 65 = .ok (.getfield 49, 3) := by decide +kernel
theorem dX9_closestUnreached_68 : decode cX9_closestUnreached 68 = .ok (.iload 4, 2) := by decide +kernel
theorem dX9_closestUnreached_70 : decode cX9_closestUnreached 70 = .ok (.iaload, 1) := by decide +kernel
theorem dX9_closestUnreached_71 : decode cX9_closestUnreached 71 = .ok (.if_icmp .ge 20, 3) := by decide +kernel
theorem dX9_closestUnreached_74 : decode cX9_closestUnreached 74 = .ok (.aload_n 0, 1) := by decide +kernel
theorem dX9_closestUnreached_75 : decode cX9_closestUnreached 75 = .ok (.getfield 49, 3) := by decide +kernel
theorem dX9_closestUnreached_78 : decode cX9_closestUnreached 78 = .ok (.iload 4, 2) := by decide +kernel
theorem dX9_closestUnreached_80 : decode cX9_closestUnreached 80 = .ok (.iload 5, 2) := by decide +kernel
theorem dX9_closestUnreached_82 : decode cX9_closestUnreached 82 = .ok (.iastore, 1) := by decide +kernel
theorem dX9_closestUnreached_83 : decode cX9_closestUnreached 83 = .ok (.aload_n 0, 1) := by decide +kernel
theorem dX9_closestUnreached_84 : decode cX9_closestUnreached 84 = .ok (.getfield 46, 3) := by decide +kernel
theorem dX9_closestUnreached_87 : decode cX9_closestUnreached 87 = .ok (.iload 4, 2) := by decide +kernel
theorem dX9_closestUnreached_89 : decode cX9_closestUnreached 89 = .ok (.iload_n 1, 1) := by decide +kernel
theorem dX9_closestUnreached_90 : decode cX9_closestUnreached 90 = .ok (.iastore, 1) := by decide +kernel
theorem dX9_closestUnreached_91 : decode cX9_closestUnreached 91 = .ok (.iload_n 3, 1) := by decide +kernel
theorem dX9_closestUnreached_92 : decode cX9_closestUnreached 92 = .ok (.ifCond .eq 19, 3) := by decide +kernel
theorem dX9_closestUnreached_95 : decode cX9_closestUnreached 95 = .ok (.aload_n 0, 1) := by decide +kernel
theorem dX9_closestUnreached_96 : decode cX9_closestUnreached 96 = .ok (.getfield 49, 3) := by decide +kernel
theorem dX9_closestUnreached_99 : decode cX9_closestUnreached 99 = .ok (.iload 4, 2) := by decide +kernel
theorem dX9_closestUnreached_101 : decode cX9_closestUnreached 101 = .ok (.iaload, 1) := by decide +kernel
theorem dX9_closestUnreached_102 : decode cX9_closestUnreached 102 = .ok (.aload_n 0, 1) := by decide +kernel
theorem dX9_closestUnreached_103 : decode cX9_closestUnreached 103 = .ok (.getfield 49, 3) := by decide +kernel
theorem dX9_closestUnreached_106 : decode cX9_closestUnreached 106 = .ok (.iload_n 3, 1) := by decide +kernel
theorem dX9_closestUnreached_107 : decode cX9_closestUnreached 107 = .ok (.iaload, 1) := by decide +kernel
theorem dX9_closestUnreached_108 : decode cX9_closestUnreached 108 = .ok (.if_icmp .ge 6, 3) := by decide +kernel
theorem dX9_closestUnreached_111 : decode cX9_closestUnreached 111 = .ok (.iload 4, 2) := by decide +kernel
theorem dX9_closestUnreached_113 : decode cX9_closestUnreached 113 = .ok (.istore_n 3, 1) := by decide +kernel
theorem dX9_closestUnreached_114 : decode cX9_closestUnreached 114 = .ok (.iinc 4 1, 3) := by decide +kernel
theorem dX9_closestUnreached_117 : decode cX9_closestUnreached 117 = .ok (.goto (-105), 3) := by decide +kernel
theorem dX9_closestUnreached_120 : decode cX9_closestUnreached 120 = .ok (.iload_n 3, 1) := by decide +kernel
theorem dX9_closestUnreached_121 : decode cX9_closestUnreached 121 = .ok (.ireturn, 1) := by decide +kernel
set_option maxRecDepth 20000 in
theorem ggX9_shiftPrices_X9_isReached : GoodIn wsX9_shiftPrices wsX9_isReached := goodIn_r _ [10, 11, 12, 13, 14, 15, 16, 17, 18, 19, 20, 21, 22, 23, 24] (by decide +kernel) (by decide +kernel)
set_option maxRecDepth 20000 in
theorem gX9_shiftPrices_X9_isReached : GoodIn wsX9_shiftPrices (wsV RX9 106 RX9 yX9_isReached wsX9_isReached) := goodIn_app (goodIn_of _ (by decide +kernel)) ggX9_shiftPrices_X9_isReached
theorem dX9_shiftPrices_0 : decode cX9_shiftPrices 0 = .ok (.iconst 0, 1) := by decide +kernel
theorem dX9_shiftPrices_1 : decode cX9_shiftPrices 1 = .ok (.istore_n 2, 1) := by decide +kernel
theorem dX9_shiftPrices_2 : decode cX9_shiftPrices 2 = .ok (.iload_n 2, 1) := by decide +kernel
theorem dX9_shiftPrices_3 : decode cX9_shiftPrices 3 = .ok (.aload_n 0, 1) := by decide +kernel
theorem dX9_shiftPrices_4 : decode cX9_shiftPrices 4 = .ok (.getfield 21, 3) := by decide +kernel
theorem dX9_shiftPrices_7 : decode cX9_shiftPrices 7 = .ok (.if_icmp .gt 55, 3) := by decide +kernel
theorem dX9_shiftPrices_10 : decode cX9_shiftPrices 10 = .ok (.aload_n 0, 1) := by decide +kernel
theorem dX9_shiftPrices_11 : decode cX9_shiftPrices 11 = .ok (.iload_n 2, 1) := by decide +kernel
theorem dX9_shiftPrices_12 : decode cX9_shiftPrices 12 = .ok (.invokevirtual 106, 3) := by decide +kernel
theorem dX9_shiftPrices_15 : decode cX9_shiftPrices 15 = .ok (.ifCond .eq 31, 3) := by decide +kernel
theorem dX9_shiftPrices_18 : decode cX9_shiftPrices 18 = .ok (.aload_n 0, 1) := by decide +kernel
theorem dX9_shiftPrices_19 : decode cX9_shiftPrices 19 = .ok (.getfield 37, 3) := by decide +kernel
theorem dX9_shiftPrices_22 : decode cX9_shiftPrices 22 = .ok (.aload_n 0, 1) := by decide +kernel
theorem dX9_shiftPrices_23 : decode cX9_shiftPrices 23 = .ok (.getfield 43, 3) := by decide +kernel
theorem dX9_shiftPrices_26 : decode cX9_shiftPrices 26 = .ok (.iload_n 2, 1) := by decide +kernel
