theorem inlX0 : ∀ w ∈ wsX00, w ∈ wsL_law := fun _ h => List.mem_append_left _ (List.mem_append_left _ (List.mem_append_left _ (List.mem_append_left _ (List.mem_append_left _ (List.mem_append_left _ (List.mem_append_right _ h))))))
theorem inX0 : ∀ w ∈ wsX00, w ∈ lw_tbl := fun w h => wsL_law_in w (inlX0 w h)
theorem inlX1 : ∀ w ∈ wsX10, w ∈ wsL_law := fun _ h => List.mem_append_left _ (List.mem_append_left _ (List.mem_append_left _ (List.mem_append_left _ (List.mem_append_left _ (List.mem_append_right _ h)))))
theorem inX1 : ∀ w ∈ wsX10, w ∈ lw_tbl := fun w h => wsL_law_in w (inlX1 w h)
theorem inlX2 : ∀ w ∈ wsX20, w ∈ wsL_law := fun _ h => List.mem_append_left _ (List.mem_append_left _ (List.mem_append_left _ (List.mem_append_left _ (List.mem_append_left _ (List.mem_append_left _ (List.mem_append_left _ (List.mem_append_left _ (List.mem_append_right _ h))))))))
theorem inX2 : ∀ w ∈ wsX20, w ∈ lw_tbl := fun w h => wsL_law_in w (inlX2 w h)
theorem inX3 : ∀ w ∈ wsX30, w ∈ lw_tbl := by decide +kernel
theorem inlX4 : ∀ w ∈ wsX40, w ∈ wsL_law := fun _ h => List.mem_append_left _ (List.mem_append_left _ (List.mem_append_left _ (List.mem_append_right _ h)))
theorem inX4 : ∀ w ∈ wsX40, w ∈ lw_tbl := fun w h => wsL_law_in w (inlX4 w h)
theorem inlX5 : ∀ w ∈ wsX50, w ∈ wsL_law := fun _ h => List.mem_append_left _ (List.mem_append_left _ (List.mem_append_left _ (List.mem_append_left _ (List.mem_append_left _ (List.mem_append_left _ (List.mem_append_left _ (List.mem_append_right _ h)))))))
theorem inX5 : ∀ w ∈ wsX50, w ∈ lw_tbl := fun w h => wsL_law_in w (inlX5 w h)
theorem inlX6 : ∀ w ∈ wsX60, w ∈ wsL_law := fun _ h => List.mem_append_left _ (List.mem_append_right _ h)
theorem inX6 : ∀ w ∈ wsX60, w ∈ lw_tbl := fun w h => wsL_law_in w (inlX6 w h)
theorem inlX7 : ∀ w ∈ wsX70, w ∈ wsL_law := fun _ h => List.mem_append_left _ (List.mem_append_left _ (List.mem_append_left _ (List.mem_append_left _ (List.mem_append_left _ (List.mem_append_left _ (List.mem_append_left _ (List.mem_append_left _ (List.mem_append_left _ (List.mem_append_right _ h)))))))))
theorem inX7 : ∀ w ∈ wsX70, w ∈ lw_tbl := fun w h => wsL_law_in w (inlX7 w h)
theorem inlX8 : ∀ w ∈ wsX80, w ∈ wsL_law := fun _ h => List.mem_append_left _ (List.mem_append_left _ (List.mem_append_right _ h))
theorem inX8 : ∀ w ∈ wsX80, w ∈ lw_tbl := fun w h => wsL_law_in w (inlX8 w h)
theorem inlX9 : ∀ w ∈ wsX90, w ∈ wsL_law := fun _ h => List.mem_append_left _ (List.mem_append_left _ (List.mem_append_left _ (List.mem_append_left _ (List.mem_append_right _ h))))
theorem inX9 : ∀ w ∈ wsX90, w ∈ lw_tbl := fun w h => wsL_law_in w (inlX9 w h)
theorem inlX10 : ∀ w ∈ wsX100, w ∈ wsL_law := fun _ h => List.mem_append_left _ (List.mem_append_left _ (List.mem_append_left _ (List.mem_append_left _ (List.mem_append_left _ (List.mem_append_left _ (List.mem_append_left _ (List.mem_append_left _ (List.mem_append_left _ (List.mem_append_left _ (List.mem_append_left _ (List.mem_append_right _ h)))))))))))
theorem inX10 : ∀ w ∈ wsX100, w ∈ lw_tbl := fun w h => wsL_law_in w (inlX10 w h)
theorem inlX11 : ∀ w ∈ wsX110, w ∈ wsL_law := fun _ h => List.mem_append_left _ (List.mem_append_left _ (List.mem_append_left _ (List.mem_append_left _ (List.mem_append_left _ (List.mem_append_left _ (List.mem_append_left _ (List.mem_append_left _ (List.mem_append_left _ (List.mem_append_left _ (List.mem_append_right _ h))))))))))
theorem inX11 : ∀ w ∈ wsX110, w ∈ lw_tbl := fun w h => wsL_law_in w (inlX11 w h)
theorem inJ6 : ∀ w ∈ wsJ60, w ∈ lw_tbl := by decide +kernel
theorem inJ9 : ∀ w ∈ wsJ90, w ∈ lw_tbl := by decide +kernel
theorem inJ7 : ∀ w ∈ wsJ70, w ∈ lw_tbl := by decide +kernel
theorem dX0_init_0 : decode cX0_init 0 = .ok (.aload_n 0, 1) := by decide +kernel
theorem dX0_init_1 : decode cX0_init 1 = .ok (.invokespecial 3, 3) := by decide +kernel
theorem dX0_init_4 : decode cX0_init 4 = .ok (.aload_n 0, 1) := by decide +kernel
theorem dX0_init_5 : decode cX0_init 5 = .ok (.iconst 0, 1) := by decide +kernel
theorem dX0_init_6 : decode cX0_init 6 = .ok (.putfield 9, 3) := by decide +kernel
theorem dX0_init_9 : decode cX0_init 9 = .ok (.aload_n 0, 1) := by decide +kernel
theorem dX0_init_10 : decode cX0_init 10 = .ok (.bipush 20, 2) := by decide +kernel
theorem dX0_init_12 : decode cX0_init 12 = .ok (.newarray .int, 2) := by decide +kernel
theorem dX0_init_14 : decode cX0_init 14 = .ok (.putfield 15, 3) := by decide +kernel
theorem dX0_init_17 : decode cX0_init 17 = .ok (.aload_n 0, 1) := by decide +kernel
theorem dX0_init_18 : decode cX0_init 18 = .ok (.bipush 20, 2) := by decide +kernel
theorem dX0_init_20 : decode cX0_init 20 = .ok (.newarray .int, 2) := by decide +kernel
theorem dX0_init_22 : decode cX0_init 22 = .ok (.putfield 19, 3) := by decide +kernel
theorem dX0_init_25 : decode cX0_init 25 = .ok (.return_, 1) := by decide +kernel
theorem dX0_hasRoom_0 : decode cX0_hasRoom 0 = .ok (.aload_n 0, 1) := by decide +kernel
theorem dX0_hasRoom_1 : decode cX0_hasRoom 1 = .ok (.getfield 9, 3) := by decide +kernel
theorem dX0_hasRoom_4 : decode cX0_hasRoom 4 = .ok (.bipush 20, 2) := by decide +kernel
theorem dX0_hasRoom_6 : decode cX0_hasRoom 6 = .ok (.if_icmp .ge 7, 3) := by decide +kernel
theorem dX0_hasRoom_9 : decode cX0_hasRoom 9 = .ok (.iconst 1, 1) := by decide +kernel
theorem dX0_hasRoom_10 : decode cX0_hasRoom 10 = .ok (.goto 4, 3) := by decide +kernel
theorem dX0_hasRoom_13 : decode cX0_hasRoom 13 = .ok (.iconst 0, 1) := by decide +kernel
theorem dX0_hasRoom_14 : decode cX0_hasRoom 14 = .ok (.ireturn, 1) := by decide +kernel
set_option maxRecDepth 20000 in
theorem ggX0_append_X0_hasRoom : GoodIn wsX0_append wsX0_hasRoom := goodIn_r _ [8, 2, 9, 10, 11] (by decide +kernel) (by decide +kernel)
set_option maxRecDepth 20000 in
theorem gX0_append_X0_hasRoom : GoodIn wsX0_append (wsV RX0 22 RX0 yX0_hasRoom wsX0_hasRoom) := goodIn_app (goodIn_of _ (by decide +kernel)) ggX0_append_X0_hasRoom
theorem dX0_append_0 : decode cX0_append 0 = .ok (.aload_n 0, 1) := by decide +kernel
theorem dX0_append_1 : decode cX0_append 1 = .ok (.invokevirtual 22, 3) := by decide +kernel
theorem dX0_append_4 : decode cX0_append 4 = .ok (.ifCond .eq 33, 3) := by decide +kernel
theorem dX0_append_7 : decode cX0_append 7 = .ok (.aload_n 0, 1) := by decide +kernel
theorem dX0_append_8 : decode cX0_append 8 = .ok (.getfield 15, 3) := by decide +kernel
theorem dX0_append_11 : decode cX0_append 11 = .ok (.aload_n 0, 1) := by decide +kernel
theorem dX0_append_12 : decode cX0_append 12 = .ok (.getfield 9, 3) := by decide +kernel
theorem dX0_append_15 : decode cX0_append 15 = .ok (.iload_n 1, 1) := by decide +kernel
theorem dX0_append_16 : decode cX0_append 16 = .ok (.iastore, 1) := by decide +kernel
theorem dX0_append_17 : decode cX0_append 17 = .ok (.aload_n 0, 1) := by decide +kernel
theorem dX0_append_18 : decode cX0_append 18 = .ok (.getfield 19, 3) := by decide +kernel
theorem dX0_append_21 : decode cX0_append 21 = .ok (.aload_n 0, 1) := by decide +kernel
theorem dX0_append_22 : decode cX0_append 22 = .ok (.getfield 9, 3) := by decide +kernel
theorem dX0_append_25 : decode cX0_append 25 = .ok (.iload_n 2, 1) := by decide +kernel
theorem dX0_append_26 : decode cX0_append 26 = .ok (.iastore, 1) := by decide +kernel
theorem dX0_append_27 : decode cX0_append 27 = .ok (.aload_n 0, 1) := by decide +kernel
theorem dX0_append_28 : decode cX0_append 28 = .ok (.dup, 1) := by decide +kernel
theorem dX0_append_29 : decode cX0_append 29 = .ok (.getfield 9, 3) := by decide +kernel
theorem dX0_append_32 : decode cX0_append 32 = .ok (.iconst 1, 1) := by decide +kernel
theorem dX0_append_33 : decode cX0_append 33 = .ok (.iadd, 1) := by decide +kernel
theorem dX0_append_34 : decode cX0_append 34 = .ok (.putfield 9, 3) := by decide +kernel
theorem dX0_append_37 : decode cX0_append 37 = .ok (.return_, 1) := by decide +kernel
set_option maxRecDepth 20000 in
theorem ggX0_firstWrong_X0_isSo : GoodIn wsX0_firstWrong wsX0_isSo := goodIn_r _ [8, 9, 10, 11, 12, 13, 14, 15, 16, 17, 18, 19, 20, 21, 22, 23, 24, 25, 26, 27, 28, 29, 30, 31, 32, 33, 34, 35, 36, 37, 38, 39, 40, 41, 42, 43, 44, 45, 46, 47, 48, 49, 50, 51, 52, 53, 54, 55, 56, 57, 58, 59, 60, 61, 62, 63, 64, 65, 66, 67, 68, 69, 70, 71, 72, 73, 74, 75, 76, 77, 78, 79, 80, 81, 82, 83, 87, 88, 89, 90, 91, 92, 93, 94, 95, 96, 97, 98, 99, 100, 101, 102, 103] (by decide +kernel) (by decide +kernel)
set_option maxRecDepth 20000 in
theorem gX0_firstWrong_X0_isSo : GoodIn wsX0_firstWrong (wsV RX0 26 RX0 yX0_isSo wsX0_isSo) := goodIn_app (goodIn_of _ (by decide +kernel)) ggX0_firstWrong_X0_isSo
theorem dX0_firstWrong_0 : decode cX0_firstWrong 0 = .ok (.iconst 0, 1) := by decide +kernel
theorem dX0_firstWrong_1 : decode cX0_firstWrong 1 = .ok (.istore_n 3, 1) := by decide +kernel
theorem dX0_firstWrong_2 : decode cX0_firstWrong 2 = .ok (.iload_n 3, 1) := by decide +kernel
theorem dX0_firstWrong_3 : decode cX0_firstWrong 3 = .ok (.aload_n 0, 1) := by decide +kernel
theorem dX0_firstWrong_4 : decode cX0_firstWrong 4 = .ok (.getfield 9, 3) := by decide +kernel
theorem dX0_firstWrong_7 : decode cX0_firstWrong 7 = .ok (.if_icmp .ge 32, 3) := by decide +kernel
theorem dX0_firstWrong_10 : decode cX0_firstWrong 10 = .ok (.aload_n 0, 1) := by decide +kernel
theorem dX0_firstWrong_11 : decode cX0_firstWrong 11 = .ok (.aload_n 0, 1) := by decide +kernel
theorem dX0_firstWrong_12 : decode cX0_firstWrong 12 = .ok (.getfield 15, 3) := by decide +kernel
theorem dX0_firstWrong_15 : decode cX0_firstWrong 15 = .ok (.iload_n 3, 1) := by decide +kernel
theorem dX0_firstWrong_16 : decode cX0_firstWrong 16 = .ok (.iaload, 1) := by decide +kernel
theorem dX0_firstWrong_17 : decode cX0_firstWrong 17 = .ok (.aload_n 0, 1) := by decide +kernel
theorem dX0_firstWrong_18 : decode cX0_firstWrong 18 = .ok (.getfield 19, 3) := by decide +kernel
theorem dX0_firstWrong_21 : decode cX0_firstWrong 21 = .ok (.iload_n 3, 1) := by decide +kernel
theorem dX0_firstWrong_22 : decode cX0_firstWrong 22 = .ok (.iaload, 1) := by decide +kernel
theorem dX0_firstWrong_23 : decode cX0_firstWrong 23 = .ok (.aload_n 1, 1) := by decide +kernel
theorem dX0_firstWrong_24 : decode cX0_firstWrong 24 = .ok (.aload_n 2, 1) := by decide +kernel
theorem dX0_firstWrong_25 : decode cX0_firstWrong 25 = .ok (.invokevirtual 26, 3) := by decide +kernel
theorem dX0_firstWrong_28 : decode cX0_firstWrong 28 = .ok (.ifCond .ne 5, 3) := by decide +kernel
theorem dX0_firstWrong_31 : decode cX0_firstWrong 31 = .ok (.iload_n 3, 1) := by decide +kernel
theorem dX0_firstWrong_32 : decode cX0_firstWrong 32 = .ok (.ireturn, 1) := by decide +kernel
theorem dX0_firstWrong_33 : decode cX0_firstWrong 33 = .ok (.iinc 3 1, 3) := by decide +kernel
theorem dX0_firstWrong_36 : decode cX0_firstWrong 36 = .ok (.goto (-34), 3) := by decide +kernel
theorem dX0_firstWrong_39 : decode cX0_firstWrong 39 = .ok (.iconst (-1), 1) := by decide +kernel
theorem dX0_firstWrong_40 : decode cX0_firstWrong 40 = .ok (.ireturn, 1) := by decide +kernel
set_option maxRecDepth 20000 in
theorem ggX0_isSo_X7_setAt : GoodIn wsX0_isSo wsX7_setAt := goodIn_r _ [6, 7, 8, 9, 10, 5, 11, 12, 76, 77, 78, 79] (by decide +kernel) (by decide +kernel)
set_option maxRecDepth 20000 in
theorem gX0_isSo_X7_setAt : GoodIn wsX0_isSo (wsV RX0 30 RX7 yX7_setAt wsX7_setAt) := goodIn_app (goodIn_of _ (by decide +kernel)) ggX0_isSo_X7_setAt
set_option maxRecDepth 20000 in
theorem ggX0_isSo_X9_least : GoodIn wsX0_isSo wsX9_least := goodIn_r _ [17, 18, 19, 20, 21, 22, 23, 24, 25, 26, 27, 28, 29, 30, 31, 32, 33, 34, 16, 35, 36, 37, 38, 39, 40, 41, 42, 43, 44, 45, 46, 47, 48, 49, 50, 51, 52, 53, 54, 55, 56, 57, 58, 59, 60, 61, 62, 63, 64, 65, 66, 67, 68, 69, 70, 71, 72, 73, 74, 75, 80, 81, 82, 83, 84, 85, 86, 87, 88, 89, 90, 91, 92] (by decide +kernel) (by decide +kernel)
set_option maxRecDepth 20000 in
theorem gX0_isSo_X9_least : GoodIn wsX0_isSo (wsV RX0 39 RX9 yX9_least wsX9_least) := goodIn_app (goodIn_of _ (by decide +kernel)) ggX0_isSo_X9_least
theorem dX0_isSo_0 : decode cX0_isSo 0 = .ok (.aload_n 3, 1) := by decide +kernel
theorem dX0_isSo_1 : decode cX0_isSo 1 = .ok (.iconst 0, 1) := by decide +kernel
theorem dX0_isSo_2 : decode cX0_isSo 2 = .ok (.invokevirtual 30, 3) := by decide +kernel
theorem dX0_isSo_5 : decode cX0_isSo 5 = .ok (.istore 5, 2) := by decide +kernel
theorem dX0_isSo_7 : decode cX0_isSo 7 = .ok (.aload_n 3, 1) := by decide +kernel
theorem dX0_isSo_8 : decode cX0_isSo 8 = .ok (.iload_n 1, 1) := by decide +kernel
theorem dX0_isSo_9 : decode cX0_isSo 9 = .ok (.invokevirtual 30, 3) := by decide +kernel
theorem dX0_isSo_12 : decode cX0_isSo 12 = .ok (.istore 6, 2) := by decide +kernel
theorem dX0_isSo_14 : decode cX0_isSo 14 = .ok (.iload 5, 2) := by decide +kernel
theorem dX0_isSo_16 : decode cX0_isSo 16 = .ok (.ifCond .eq 29, 3) := by decide +kernel
theorem dX0_isSo_19 : decode cX0_isSo 19 = .ok (.iload 6, 2) := by decide +kernel
theorem dX0_isSo_21 : decode cX0_isSo 21 = .ok (.ifCond .eq 24, 3) := by decide +kernel
theorem dX0_isSo_24 : decode cX0_isSo 24 = .ok (.aload 4, 2) := by decide +kernel
theorem dX0_isSo_26 : decode cX0_isSo 26 = .ok (.iload 5, 2) := by decide +kernel
theorem dX0_isSo_28 : decode cX0_isSo 28 = .ok (.iload 6, 2) := by decide +kernel
theorem dX0_isSo_30 : decode cX0_isSo 30 = .ok (.aload_n 3, 1) := by decide +kernel
theorem dX0_isSo_31 : decode cX0_isSo 31 = .ok (.getfield 36, 3) := by decide +kernel
theorem dX0_isSo_34 : decode cX0_isSo 34 = .ok (.invokevirtual 39, 3) := by decide +kernel
theorem dX0_isSo_37 : decode cX0_isSo 37 = .ok (.iload_n 2, 1) := by decide +kernel
theorem dX0_isSo_38 : decode cX0_isSo 38 = .ok (.if_icmp .ne 7, 3) := by decide +kernel
theorem dX0_isSo_41 : decode cX0_isSo 41 = .ok (.iconst 1, 1) := by decide +kernel
theorem dX0_isSo_42 : decode cX0_isSo 42 = .ok (.goto 4, 3) := by decide +kernel
theorem dX0_isSo_45 : decode cX0_isSo 45 = .ok (.iconst 0, 1) := by decide +kernel
theorem dX0_isSo_46 : decode cX0_isSo 46 = .ok (.ireturn, 1) := by decide +kernel
set_option maxRecDepth 20000 in
theorem ggX1_init_X6_init : GoodIn wsX1_init wsX6_init := goodIn_r _ [16, 17, 2, 3, 6, 18, 26] (by decide +kernel) (by decide +kernel)
set_option maxRecDepth 20000 in
theorem gX1_init_X6_init_n33 : GoodIn wsX1_init (wsX6_init) := ggX1_init_X6_init
theorem dX1_init_0 : decode cX1_init 0 = .ok (.aload_n 0, 1) := by decide +kernel
theorem dX1_init_1 : decode cX1_init 1 = .ok (.invokespecial 3, 3) := by decide +kernel
theorem dX1_init_4 : decode cX1_init 4 = .ok (.aload_n 0, 1) := by decide +kernel
theorem dX1_init_5 : decode cX1_init 5 = .ok (.iconst 0, 1) := by decide +kernel
theorem dX1_init_6 : decode cX1_init 6 = .ok (.putfield 9, 3) := by decide +kernel
theorem dX1_init_9 : decode cX1_init 9 = .ok (.aload_n 0, 1) := by decide +kernel
theorem dX1_init_10 : decode cX1_init 10 = .ok (.iconst 0, 1) := by decide +kernel
theorem dX1_init_11 : decode cX1_init 11 = .ok (.putfield 15, 3) := by decide +kernel
theorem dX1_init_14 : decode cX1_init 14 = .ok (.aload_n 0, 1) := by decide +kernel
theorem dX1_init_15 : decode cX1_init 15 = .ok (.sipush 224, 3) := by decide +kernel
theorem dX1_init_18 : decode cX1_init 18 = .ok (.newarray .int, 2) := by decide +kernel
theorem dX1_init_20 : decode cX1_init 20 = .ok (.putfield 18, 3) := by decide +kernel
theorem dX1_init_23 : decode cX1_init 23 = .ok (.aload_n 0, 1) := by decide +kernel
theorem dX1_init_24 : decode cX1_init 24 = .ok (.sipush 224, 3) := by decide +kernel
theorem dX1_init_27 : decode cX1_init 27 = .ok (.newarray .int, 2) := by decide +kernel
theorem dX1_init_29 : decode cX1_init 29 = .ok (.putfield 22, 3) := by decide +kernel
theorem dX1_init_32 : decode cX1_init 32 = .ok (.aload_n 0, 1) := by decide +kernel
theorem dX1_init_33 : decode cX1_init 33 = .ok (.sipush 224, 3) := by decide +kernel
theorem dX1_init_36 : decode cX1_init 36 = .ok (.newarray .int, 2) := by decide +kernel
theorem dX1_init_38 : decode cX1_init 38 = .ok (.putfield 25, 3) := by decide +kernel
theorem dX1_init_41 : decode cX1_init 41 = .ok (.aload_n 0, 1) := by decide +kernel
theorem dX1_init_42 : decode cX1_init 42 = .ok (.bipush 14, 2) := by decide +kernel
theorem dX1_init_44 : decode cX1_init 44 = .ok (.newarray .int, 2) := by decide +kernel
theorem dX1_init_46 : decode cX1_init 46 = .ok (.putfield 28, 3) := by decide +kernel
theorem dX1_init_49 : decode cX1_init 49 = .ok (.aload_n 0, 1) := by decide +kernel
theorem dX1_init_50 : decode cX1_init 50 = .ok (.new 31, 3) := by decide +kernel
theorem dX1_init_53 : decode cX1_init 53 = .ok (.dup, 1) := by decide +kernel
theorem dX1_init_54 : decode cX1_init 54 = .ok (.invokespecial 33, 3) := by decide +kernel
theorem dX1_init_57 : decode cX1_init 57 = .ok (.putfield 34, 3) := by decide +kernel
theorem dX1_init_60 : decode cX1_init 60 = .ok (.return_, 1) := by decide +kernel
set_option maxRecDepth 20000 in
theorem ggX1_countAll_X1_build : GoodIn wsX1_countAll wsX1_build := goodIn_r _ [6, 7, 8, 9, 10, 5, 11, 12, 1, 13, 14, 15, 16, 17, 18, 19, 20, 21, 22, 23, 24, 25, 26, 27, 28, 29, 30, 31, 32, 33, 34, 35, 36, 37, 38, 39, 40, 41, 42, 43, 44, 45, 46, 47, 48, 49, 50, 51, 52, 53, 54, 55, 56, 57, 58, 59, 60, 61, 62, 63, 64, 65, 66, 67, 68, 69, 70, 71, 72, 73, 74, 75, 76] (by decide +kernel) (by decide +kernel)
set_option maxRecDepth 20000 in
theorem gX1_countAll_X1_build : GoodIn wsX1_countAll (wsV RX1 38 RX1 yX1_build wsX1_build) := goodIn_app (goodIn_of _ (by decide +kernel)) ggX1_countAll_X1_build
theorem dX1_countAll_0 : decode cX1_countAll 0 = .ok (.aload_n 0, 1) := by decide +kernel
theorem dX1_countAll_1 : decode cX1_countAll 1 = .ok (.iload_n 1, 1) := by decide +kernel
theorem dX1_countAll_2 : decode cX1_countAll 2 = .ok (.invokevirtual 38, 3) := by decide +kernel
theorem dX1_countAll_5 : decode cX1_countAll 5 = .ok (.aload_n 0, 1) := by decide +kernel
theorem dX1_countAll_6 : decode cX1_countAll 6 = .ok (.getfield 15, 3) := by decide +kernel
theorem dX1_countAll_9 : decode cX1_countAll 9 = .ok (.ireturn, 1) := by decide +kernel
set_option maxRecDepth 20000 in
theorem ggX1_count_X1_build : GoodIn wsX1_count wsX1_build := goodIn_r _ [5, 6, 7, 8, 9, 4, 10, 11, 12, 13, 14, 15, 16, 17, 18, 19, 20, 21, 22, 23, 24, 25, 26, 27, 28, 29, 30, 31, 32, 33, 34, 35, 36, 37, 38, 39, 40, 41, 42, 43, 44, 45, 46, 47, 48, 49, 50, 51, 52, 53, 54, 55, 56, 57, 58, 59, 60, 61, 62, 63, 64, 65, 66, 67, 68, 77, 78, 79, 80, 81, 82, 83, 84] (by decide +kernel) (by decide +kernel)
set_option maxRecDepth 20000 in
theorem gX1_count_X1_build : GoodIn wsX1_count (wsV RX1 38 RX1 yX1_build wsX1_build) := goodIn_app (goodIn_of _ (by decide +kernel)) ggX1_count_X1_build
set_option maxRecDepth 20000 in
theorem ggX1_count_X1_end : GoodIn wsX1_count wsX1_end := goodIn_r _ [72, 51, 77, 78, 79, 80, 81, 82, 83] (by decide +kernel) (by decide +kernel)
set_option maxRecDepth 20000 in
theorem gX1_count_X1_end : GoodIn wsX1_count (wsV RX1 42 RX1 yX1_end wsX1_end) := goodIn_app (goodIn_of _ (by decide +kernel)) ggX1_count_X1_end
set_option maxRecDepth 20000 in
theorem ggX1_count_X1_start : GoodIn wsX1_count wsX1_start := goodIn_r _ [76, 51, 77, 78, 79, 80, 81, 82, 83] (by decide +kernel) (by decide +kernel)
set_option maxRecDepth 20000 in
theorem gX1_count_X1_start : GoodIn wsX1_count (wsV RX1 46 RX1 yX1_start wsX1_start) := goodIn_app (goodIn_of _ (by decide +kernel)) ggX1_count_X1_start
theorem dX1_count_0 : decode cX1_count 0 = .ok (.aload_n 0, 1) := by decide +kernel
theorem dX1_count_1 : decode cX1_count 1 = .ok (.iload_n 2, 1) := by decide +kernel
theorem dX1_count_2 : decode cX1_count 2 = .ok (.invokevirtual 38, 3) := by decide +kernel
theorem dX1_count_5 : decode cX1_count 5 = .ok (.aload_n 0, 1) := by decide +kernel
theorem dX1_count_6 : decode cX1_count 6 = .ok (.iload_n 1, 1) := by decide +kernel
theorem dX1_count_7 : decode cX1_count 7 = .ok (.invokevirtual 42, 3) := by decide +kernel
theorem dX1_count_10 : decode cX1_count 10 = .ok (.aload_n 0, 1) := by decide +kernel
theorem dX1_count_11 : decode cX1_count 11 = .ok (.iload_n 1, 1) := by decide +kernel
theorem dX1_count_12 : decode cX1_count 12 = .ok (.invokevirtual 46, 3) := by decide +kernel
theorem dX1_count_15 : decode cX1_count 15 = .ok (.isub, 1) := by decide +kernel
theorem dX1_count_16 : decode cX1_count 16 = .ok (.ireturn, 1) := by decide +kernel
set_option maxRecDepth 20000 in
theorem ggX1_form_X1_build : GoodIn wsX1_form wsX1_build := goodIn_r _ [6, 7, 8, 9, 10, 5, 11, 12, 13, 14, 15, 16, 17, 18, 19, 20, 21, 22, 23, 24, 25, 26, 27, 28, 29, 30, 31, 32, 33, 34, 35, 36, 37, 38, 39, 40, 41, 42, 43, 44, 45, 46, 47, 48, 49, 50, 51, 52, 1, 53, 54, 55, 56, 57, 58, 59, 60, 61, 62, 63, 64, 65, 66, 67, 68, 77, 78, 79, 80, 81, 82, 83, 84] (by decide +kernel) (by decide +kernel)
set_option maxRecDepth 20000 in
theorem gX1_form_X1_build : GoodIn wsX1_form (wsV RX1 38 RX1 yX1_build wsX1_build) := goodIn_app (goodIn_of _ (by decide +kernel)) ggX1_form_X1_build
set_option maxRecDepth 20000 in
theorem ggX1_form_X1_start : GoodIn wsX1_form wsX1_start := goodIn_r _ [72, 52, 77, 78, 79, 80, 81, 82, 83] (by decide +kernel) (by decide +kernel)
set_option maxRecDepth 20000 in
theorem gX1_form_X1_start : GoodIn wsX1_form (wsV RX1 46 RX1 yX1_start wsX1_start) := goodIn_app (goodIn_of _ (by decide +kernel)) ggX1_form_X1_start
set_option maxRecDepth 20000 in
theorem ggX1_form_X1_end : GoodIn wsX1_form wsX1_end := goodIn_r _ [76, 52, 77, 78, 79, 80, 81, 82, 83] (by decide +kernel) (by decide +kernel)
set_option maxRecDepth 20000 in
theorem gX1_form_X1_end : GoodIn wsX1_form (wsV RX1 42 RX1 yX1_end wsX1_end) := goodIn_app (goodIn_of _ (by decide +kernel)) ggX1_form_X1_end
theorem dX1_form_0 : decode cX1_form 0 = .ok (.aload_n 0, 1) := by decide +kernel
theorem dX1_form_1 : decode cX1_form 1 = .ok (.iload_n 3, 1) := by decide +kernel
theorem dX1_form_2 : decode cX1_form 2 = .ok (.invokevirtual 38, 3) := by decide +kernel
theorem dX1_form_5 : decode cX1_form 5 = .ok (.aload_n 0, 1) := by decide +kernel
theorem dX1_form_6 : decode cX1_form 6 = .ok (.iload_n 1, 1) := by decide +kernel
theorem dX1_form_7 : decode cX1_form 7 = .ok (.invokevirtual 46, 3) := by decide +kernel
theorem dX1_form_10 : decode cX1_form 10 = .ok (.iload_n 2, 1) := by decide +kernel
theorem dX1_form_11 : decode cX1_form 11 = .ok (.iadd, 1) := by decide +kernel
theorem dX1_form_12 : decode cX1_form 12 = .ok (.istore 4, 2) := by decide +kernel
theorem dX1_form_14 : decode cX1_form 14 = .ok (.iload_n 2, 1) := by decide +kernel
theorem dX1_form_15 : decode cX1_form 15 = .ok (.ifCond .lt 23, 3) := by decide +kernel
theorem dX1_form_18 : decode cX1_form 18 = .ok (.iload 4, 2) := by decide +kernel
theorem dX1_form_20 : decode cX1_form 20 = .ok (.aload_n 0, 1) := by decide +kernel
theorem dX1_form_21 : decode cX1_form 21 = .ok (.iload_n 1, 1) := by decide +kernel
theorem dX1_form_22 : decode cX1_form 22 = .ok (.invokevirtual 42, 3) := by decide +kernel
theorem dX1_form_25 : decode cX1_form 25 = .ok (.if_icmp .ge 13, 3) := by decide +kernel
theorem dX1_form_28 : decode cX1_form 28 = .ok (.aload_n 0, 1) := by decide +kernel
theorem dX1_form_29 : decode cX1_form 29 = .ok (.getfield 22, 3) := by decide +kernel
theorem dX1_form_32 : decode cX1_form 32 = .ok (.iload 4, 2) := by decide +kernel
theorem dX1_form_34 : decode cX1_form 34 = .ok (.iaload, 1) := by decide +kernel
theorem dX1_form_35 : decode cX1_form 35 = .ok (.goto 4, 3) := by decide +kernel
theorem dX1_form_38 : decode cX1_form 38 = .ok (.iconst (-1), 1) := by decide +kernel
theorem dX1_form_39 : decode cX1_form 39 = .ok (.ireturn, 1) := by decide +kernel
set_option maxRecDepth 20000 in
theorem ggX1_numberOf_X1_build : GoodIn wsX1_numberOf wsX1_build := goodIn_r _ [6, 7, 8, 9, 10, 5, 11, 12, 13, 14, 15, 16, 17, 18, 19, 20, 21, 22, 23, 24, 25, 26, 27, 28, 29, 30, 31, 32, 33, 34, 35, 36, 37, 38, 39, 40, 41, 42, 43, 44, 45, 46, 47, 48, 49, 50, 51, 52, 1, 53, 54, 55, 56, 57, 58, 59, 60, 61, 62, 63, 64, 65, 66, 67, 68, 77, 78, 79, 80, 81, 82, 83, 84] (by decide +kernel) (by decide +kernel)
set_option maxRecDepth 20000 in
theorem gX1_numberOf_X1_build : GoodIn wsX1_numberOf (wsV RX1 38 RX1 yX1_build wsX1_build) := goodIn_app (goodIn_of _ (by decide +kernel)) ggX1_numberOf_X1_build
set_option maxRecDepth 20000 in
theorem ggX1_numberOf_J6_bitCount_0f7a4 : GoodIn wsX1_numberOf wsJ6_bitCount_0f7a4 := goodIn_r _ [57, 58, 59, 60] (by decide +kernel) (by decide +kernel)
set_option maxRecDepth 20000 in
theorem gX1_numberOf_J6_bitCount_0f7a4 : GoodIn wsX1_numberOf (va_wsS RX1 49 yJ6_bitCount_0f7a4 wsJ6_bitCount_0f7a4) := goodIn_app (goodIn_of _ (by decide +kernel)) ggX1_numberOf_J6_bitCount_0f7a4
set_option maxRecDepth 20000 in
theorem ggX1_numberOf_X1_start : GoodIn wsX1_numberOf wsX1_start := goodIn_r _ [72, 52, 77, 78, 79, 80, 81, 82, 83] (by decide +kernel) (by decide +kernel)
set_option maxRecDepth 20000 in
theorem gX1_numberOf_X1_start : GoodIn wsX1_numberOf (wsV RX1 46 RX1 yX1_start wsX1_start) := goodIn_app (goodIn_of _ (by decide +kernel)) ggX1_numberOf_X1_start
set_option maxRecDepth 20000 in
theorem ggX1_numberOf_X1_end : GoodIn wsX1_numberOf wsX1_end := goodIn_r _ [76, 52, 77, 78, 79, 80, 81, 82, 83] (by decide +kernel) (by decide +kernel)
set_option maxRecDepth 20000 in
theorem gX1_numberOf_X1_end : GoodIn wsX1_numberOf (wsV RX1 42 RX1 yX1_end wsX1_end) := goodIn_app (goodIn_of _ (by decide +kernel)) ggX1_numberOf_X1_end
theorem dX1_numberOf_0 : decode cX1_numberOf 0 = .ok (.aload_n 0, 1) := by decide +kernel
theorem dX1_numberOf_1 : decode cX1_numberOf 1 = .ok (.iload_n 2, 1) := by decide +kernel
theorem dX1_numberOf_2 : decode cX1_numberOf 2 = .ok (.invokevirtual 38, 3) := by decide +kernel
theorem dX1_numberOf_5 : decode cX1_numberOf 5 = .ok (.iload_n 1, 1) := by decide +kernel
theorem dX1_numberOf_6 : decode cX1_numberOf 6 = .ok (.invokestatic 49, 3) := by decide +kernel
theorem dX1_numberOf_9 : decode cX1_numberOf 9 = .ok (.istore_n 3, 1) := by decide +kernel
theorem dX1_numberOf_10 : decode cX1_numberOf 10 = .ok (.aload_n 0, 1) := by decide +kernel
theorem dX1_numberOf_11 : decode cX1_numberOf 11 = .ok (.iload_n 3, 1) := by decide +kernel
theorem dX1_numberOf_12 : decode cX1_numberOf 12 = .ok (.invokevirtual 46, 3) := by decide +kernel
theorem dX1_numberOf_15 : decode cX1_numberOf 15 = .ok (.istore 4, 2) := by decide +kernel
theorem dX1_numberOf_17 : decode cX1_numberOf 17 = .ok (.iload 4, 2) := by decide +kernel
theorem dX1_numberOf_19 : decode cX1_numberOf 19 = .ok (.aload_n 0, 1) := by decide +kernel
theorem dX1_numberOf_20 : decode cX1_numberOf 20 = .ok (.iload_n 3, 1) := by decide +kernel
theorem dX1_numberOf_21 : decode cX1_numberOf 21 = .ok (.invokevirtual 42, 3) := by decide +kernel
theorem dX1_numberOf_24 : decode cX1_numberOf 24 = .ok (.if_icmp .ge 29, 3) := by decide +kernel
theorem dX1_numberOf_27 : decode cX1_numberOf 27 = .ok (.aload_n 0, 1) := by decide +kernel
theorem dX1_numberOf_28 : decode cX1_numberOf 28 = .ok (.getfield 22, 3) := by decide +kernel
theorem dX1_numberOf_31 : decode cX1_numberOf 31 = .ok (.iload 4, 2) := by decide +kernel
theorem dX1_numberOf_33 : decode cX1_numberOf 33 = .ok (.iaload, 1) := by decide +kernel
theorem dX1_numberOf_34 : decode cX1_numberOf 34 = .ok (.iload_n 1, 1) := by decide +kernel
theorem dX1_numberOf_35 : decode cX1_numberOf 35 = .ok (.if_icmp .ne 12, 3) := by decide +kernel
theorem dX1_numberOf_38 : decode cX1_numberOf 38 = .ok (.iload 4, 2) := by decide +kernel
theorem dX1_numberOf_40 : decode cX1_numberOf 40 = .ok (.aload_n 0, 1) := by decide +kernel
theorem dX1_numberOf_41 : decode cX1_numberOf 41 = .ok (.iload_n 3, 1) := by decide +kernel
theorem dX1_numberOf_42 : decode cX1_numberOf 42 = .ok (.invokevirtual 46, 3) := by decide +kernel
theorem dX1_numberOf_45 : decode cX1_numberOf 45 = .ok (.isub, 1) := by decide +kernel
theorem dX1_numberOf_46 : decode cX1_numberOf 46 = .ok (.ireturn, 1) := by decide +kernel
theorem dX1_numberOf_47 : decode cX1_numberOf 47 = .ok (.iinc 4 1, 3) := by decide +kernel
theorem dX1_numberOf_50 : decode cX1_numberOf 50 = .ok (.goto (-33), 3) := by decide +kernel
theorem dX1_numberOf_53 : decode cX1_numberOf 53 = .ok (.iconst (-1), 1) := by decide +kernel
theorem dX1_numberOf_54 : decode cX1_numberOf 54 = .ok (.ireturn, 1) := by decide +kernel
set_option maxRecDepth 20000 in
theorem ggX1_countTwins_X1_build : GoodIn wsX1_countTwins wsX1_build := goodIn_r _ [7, 8, 9, 10, 11, 6, 12, 13, 14, 15, 16, 17, 18, 19, 20, 21, 22, 23, 24, 25, 26, 27, 28, 29, 30, 31, 32, 33, 34, 35, 36, 37, 38, 39, 40, 41, 42, 43, 44, 45, 46, 47, 48, 49, 50, 51, 52, 53, 2, 1, 54, 55, 56, 57, 58, 59, 60, 61, 62, 63, 64, 65, 66, 67, 68, 77, 78, 79, 80, 81, 82, 83, 84] (by decide +kernel) (by decide +kernel)
set_option maxRecDepth 20000 in
theorem gX1_countTwins_X1_build : GoodIn wsX1_countTwins (wsV RX1 38 RX1 yX1_build wsX1_build) := goodIn_app (goodIn_of _ (by decide +kernel)) ggX1_countTwins_X1_build
set_option maxRecDepth 20000 in
theorem ggX1_countTwins_J6_bitCount_0f7a4 : GoodIn wsX1_countTwins wsJ6_bitCount_0f7a4 := goodIn_r _ [57, 58, 59, 60] (by decide +kernel) (by decide +kernel)
set_option maxRecDepth 20000 in
theorem gX1_countTwins_J6_bitCount_0f7a4 : GoodIn wsX1_countTwins (va_wsS RX1 49 yJ6_bitCount_0f7a4 wsJ6_bitCount_0f7a4) := goodIn_app (goodIn_of _ (by decide +kernel)) ggX1_countTwins_J6_bitCount_0f7a4
set_option maxRecDepth 20000 in
theorem ggX1_countTwins_X3_intervalRow : GoodIn wsX1_countTwins wsX3_intervalRow := goodIn_r _ [63, 64, 65, 28, 66, 67, 42, 43, 44, 27, 29, 68, 55, 56, 57, 58, 59, 60] (by decide +kernel) (by decide +kernel)
set_option maxRecDepth 20000 in
theorem gX1_countTwins_X3_intervalRow : GoodIn wsX1_countTwins (va_wsS RX1 54 yX3_intervalRow wsX3_intervalRow) := goodIn_app (goodIn_of _ (by decide +kernel)) ggX1_countTwins_X3_intervalRow
set_option maxRecDepth 20000 in
theorem ggX1_countTwins_X1_start : GoodIn wsX1_countTwins wsX1_start := goodIn_r _ [72, 53, 77, 78, 79, 80, 81, 82, 83] (by decide +kernel) (by decide +kernel)
set_option maxRecDepth 20000 in
theorem gX1_countTwins_X1_start : GoodIn wsX1_countTwins (wsV RX1 46 RX1 yX1_start wsX1_start) := goodIn_app (goodIn_of _ (by decide +kernel)) ggX1_countTwins_X1_start
set_option maxRecDepth 20000 in
theorem ggX1_countTwins_X1_end : GoodIn wsX1_countTwins wsX1_end := goodIn_r _ [76, 53, 77, 78, 79, 80, 81, 82, 83] (by decide +kernel) (by decide +kernel)
set_option maxRecDepth 20000 in
theorem gX1_countTwins_X1_end : GoodIn wsX1_countTwins (wsV RX1 42 RX1 yX1_end wsX1_end) := goodIn_app (goodIn_of _ (by decide +kernel)) ggX1_countTwins_X1_end
theorem dX1_countTwins_0 : decode cX1_countTwins 0 = .ok (.aload_n 0, 1) := by decide +kernel
theorem dX1_countTwins_1 : decode cX1_countTwins 1 = .ok (.iload_n 2, 1) := by decide +kernel
theorem dX1_countTwins_2 : decode cX1_countTwins 2 = .ok (.invokevirtual 38, 3) := by decide +kernel
theorem dX1_countTwins_5 : decode cX1_countTwins 5 = .ok (.iload_n 1, 1) := by decide +kernel
theorem dX1_countTwins_6 : decode cX1_countTwins 6 = .ok (.invokestatic 49, 3) := by decide +kernel
theorem dX1_countTwins_9 : decode cX1_countTwins 9 = .ok (.istore_n 3, 1) := by decide +kernel
theorem dX1_countTwins_10 : decode cX1_countTwins 10 = .ok (.iload_n 1, 1) := by decide +kernel
theorem dX1_countTwins_11 : decode cX1_countTwins 11 = .ok (.iload_n 2, 1) := by decide +kernel
theorem dX1_countTwins_12 : decode cX1_countTwins 12 = .ok (.invokestatic 54, 3) := by decide +kernel
theorem dX1_countTwins_15 : decode cX1_countTwins 15 = .ok (.istore 4, 2) := by decide +kernel
theorem dX1_countTwins_17 : decode cX1_countTwins 17 = .ok (.iconst 0, 1) := by decide +kernel
theorem dX1_countTwins_18 : decode cX1_countTwins 18 = .ok (.istore 5, 2) := by decide +kernel
theorem dX1_countTwins_20 : decode cX1_countTwins 20 = .ok (.aload_n 0, 1) := by decide +kernel
theorem dX1_countTwins_21 : decode cX1_countTwins 21 = .ok (.iload_n 3, 1) := by decide +kernel
theorem dX1_countTwins_22 : decode cX1_countTwins 22 = .ok (.invokevirtual 46, 3) := by decide +kernel
theorem dX1_countTwins_25 : decode cX1_countTwins 25 = .ok (.istore 6, 2) := by decide +kernel
theorem dX1_countTwins_27 : decode cX1_countTwins 27 = .ok (.iload 6, 2) := by decide +kernel
theorem dX1_countTwins_29 : decode cX1_countTwins 29 = .ok (.aload_n 0, 1) := by decide +kernel
theorem dX1_countTwins_30 : decode cX1_countTwins 30 = .ok (.iload_n 3, 1) := by decide +kernel
theorem dX1_countTwins_31 : decode cX1_countTwins 31 = .ok (.invokevirtual 42, 3) := by decide +kernel
theorem dX1_countTwins_34 : decode cX1_countTwins 34 = .ok (.if_icmp .ge 35, 3) := by decide +kernel
theorem dX1_countTwins_37 : decode cX1_countTwins 37 = .ok (.aload_n 0, 1) := by decide +kernel
theorem dX1_countTwins_38 : decode cX1_countTwins 38 = .ok (.getfield 25, 3) := by decide +kernel
theorem dX1_countTwins_41 : decode cX1_countTwins 41 = .ok (.iload 6, 2) := by decide +kernel
theorem dX1_countTwins_43 : decode cX1_countTwins 43 = .ok (.iaload, 1) := by decide +kernel
theorem dX1_countTwins_44 : decode cX1_countTwins 44 = .ok (.iload 4, 2) := by decide +kernel
theorem dX1_countTwins_46 : decode cX1_countTwins 46 = .ok (.if_icmp .ne 17, 3) := by decide +kernel
theorem dX1_countTwins_49 : decode cX1_countTwins 49 = .ok (.aload_n 0, 1) := by decide +kernel
theorem dX1_countTwins_50 : decode cX1_countTwins 50 = .ok (.getfield 22, 3) := by decide +kernel
theorem dX1_countTwins_53 : decode cX1_countTwins 53 = .ok (.iload 6, 2) := by decide +kernel
theorem dX1_countTwins_55 : decode cX1_countTwins 55 = .ok (.iaload, 1) := by decide +kernel
theorem dX1_countTwins_56 : decode cX1_countTwins 56 = .ok (.iload_n 1, 1) := by decide +kernel
theorem dX1_countTwins_57 : decode cX1_countTwins 57 = .ok (.if_icmp .eq 6, 3) := by decide +kernel
theorem dX1_countTwins_60 : decode cX1_countTwins 60 = .ok (.iinc 5 1, 3) := by decide +kernel
theorem dX1_countTwins_63 : decode cX1_countTwins 63 = .ok (.iinc 6 1, 3) := by decide +kernel
theorem dX1_countTwins_66 : decode cX1_countTwins 66 = .ok (.goto (-39), 3) := by decide +kernel
theorem dX1_countTwins_69 : decode cX1_countTwins 69 = .ok (.iload 5, 2) := by decide +kernel
theorem dX1_countTwins_71 : decode cX1_countTwins 71 = .ok (.ireturn, 1) := by decide +kernel
set_option maxRecDepth 20000 in
theorem ggX1_countTwinPairs_X1_build : GoodIn wsX1_countTwinPairs wsX1_build := goodIn_r _ [5, 6, 7, 8, 9, 4, 10, 11, 12, 13, 14, 15, 16, 17, 18, 19, 20, 21, 22, 23, 24, 25, 26, 27, 28, 29, 30, 31, 32, 33, 34, 35, 36, 37, 38, 39, 40, 41, 42, 43, 44, 45, 46, 47, 48, 49, 50, 51, 52, 53, 54, 55, 56, 57, 58, 59, 60, 61, 62, 63, 64, 65, 66, 67, 68, 81, 82, 83, 84, 85, 86, 87, 88] (by decide +kernel) (by decide +kernel)
set_option maxRecDepth 20000 in
theorem gX1_countTwinPairs_X1_build : GoodIn wsX1_countTwinPairs (wsV RX1 38 RX1 yX1_build wsX1_build) := goodIn_app (goodIn_of _ (by decide +kernel)) ggX1_countTwinPairs_X1_build
set_option maxRecDepth 20000 in
theorem ggX1_countTwinPairs_X1_start : GoodIn wsX1_countTwinPairs wsX1_start := goodIn_r _ [72, 51, 81, 82, 83, 84, 85, 86, 87] (by decide +kernel) (by decide +kernel)
set_option maxRecDepth 20000 in
theorem gX1_countTwinPairs_X1_start : GoodIn wsX1_countTwinPairs (wsV RX1 46 RX1 yX1_start wsX1_start) := goodIn_app (goodIn_of _ (by decide +kernel)) ggX1_countTwinPairs_X1_start
set_option maxRecDepth 20000 in
theorem ggX1_countTwinPairs_X1_end : GoodIn wsX1_countTwinPairs wsX1_end := goodIn_r _ [76, 51, 81, 82, 83, 84, 85, 86, 87] (by decide +kernel) (by decide +kernel)
set_option maxRecDepth 20000 in
theorem gX1_countTwinPairs_X1_end : GoodIn wsX1_countTwinPairs (wsV RX1 42 RX1 yX1_end wsX1_end) := goodIn_app (goodIn_of _ (by decide +kernel)) ggX1_countTwinPairs_X1_end
set_option maxRecDepth 20000 in
theorem ggX1_countTwinPairs_X1_countTwinsBehind : GoodIn wsX1_countTwinPairs wsX1_countTwinsBehind := goodIn_r _ [80, 53, 81, 82, 83, 84, 85, 86, 87] (by decide +kernel) (by decide +kernel)
set_option maxRecDepth 20000 in
theorem gX1_countTwinPairs_X1_countTwinsBehind : GoodIn wsX1_countTwinPairs (wsV RX1 60 RX1 yX1_countTwinsBehind wsX1_countTwinsBehind) := goodIn_app (goodIn_of _ (by decide +kernel)) ggX1_countTwinPairs_X1_countTwinsBehind
theorem dX1_countTwinPairs_0 : decode cX1_countTwinPairs 0 = .ok (.aload_n 0, 1) := by decide +kernel
theorem dX1_countTwinPairs_1 : decode cX1_countTwinPairs 1 = .ok (.iload_n 1, 1) := by decide +kernel
theorem dX1_countTwinPairs_2 : decode cX1_countTwinPairs 2 = .ok (.invokevirtual 38, 3) := by decide +kernel
theorem dX1_countTwinPairs_5 : decode cX1_countTwinPairs 5 = .ok (.iconst 0, 1) := by decide +kernel
theorem dX1_countTwinPairs_6 : decode cX1_countTwinPairs 6 = .ok (.istore_n 2, 1) := by decide +kernel
theorem dX1_countTwinPairs_7 : decode cX1_countTwinPairs 7 = .ok (.iconst 0, 1) := by decide +kernel
theorem dX1_countTwinPairs_8 : decode cX1_countTwinPairs 8 = .ok (.istore_n 3, 1) := by decide +kernel
theorem dX1_countTwinPairs_9 : decode cX1_countTwinPairs 9 = .ok (.iload_n 3, 1) := by decide +kernel
theorem dX1_countTwinPairs_10 : decode cX1_countTwinPairs 10 = .ok (.iload_n 1, 1) := by decide +kernel
theorem dX1_countTwinPairs_11 : decode cX1_countTwinPairs 11 = .ok (.if_icmp .gt 46, 3) := by decide +kernel
theorem dX1_countTwinPairs_14 : decode cX1_countTwinPairs 14 = .ok (.aload_n 0, 1) := by decide +kernel
theorem dX1_countTwinPairs_15 : decode cX1_countTwinPairs 15 = .ok (.iload_n 3, 1) := by decide +kernel
theorem dX1_countTwinPairs_16 : decode cX1_countTwinPairs 16 = .ok (.invokevirtual 46, 3) := by decide +kernel
theorem dX1_countTwinPairs_19 : decode cX1_countTwinPairs 19 = .ok (.istore 4, 2) := by decide +kernel
theorem dX1_countTwinPairs_21 : decode cX1_countTwinPairs 21 = .ok (.iload 4, 2) := by decide +kernel
theorem dX1_countTwinPairs_23 : decode cX1_countTwinPairs 23 = .ok (.aload_n 0, 1) := by decide +kernel
theorem dX1_countTwinPairs_24 : decode cX1_countTwinPairs 24 = .ok (.iload_n 3, 1) := by decide +kernel
theorem dX1_countTwinPairs_25 : decode cX1_countTwinPairs 25 = .ok (.invokevirtual 42, 3) := by decide +kernel
theorem dX1_countTwinPairs_28 : decode cX1_countTwinPairs 28 = .ok (.if_icmp .ge 23, 3) := by decide +kernel
theorem dX1_countTwinPairs_31 : decode cX1_countTwinPairs 31 = .ok (.iload_n 2, 1) := by decide +kernel
theorem dX1_countTwinPairs_32 : decode cX1_countTwinPairs 32 = .ok (.aload_n 0, 1) := by decide +kernel
theorem dX1_countTwinPairs_33 : decode cX1_countTwinPairs 33 = .ok (.iload 4, 2) := by decide +kernel
theorem dX1_countTwinPairs_35 : decode cX1_countTwinPairs 35 = .ok (.aload_n 0, 1) := by decide +kernel
theorem dX1_countTwinPairs_36 : decode cX1_countTwinPairs 36 = .ok (.iload_n 3, 1) := by decide +kernel
theorem dX1_countTwinPairs_37 : decode cX1_countTwinPairs 37 = .ok (.invokevirtual 42, 3) := by decide +kernel
theorem dX1_countTwinPairs_40 : decode cX1_countTwinPairs 40 = .ok (.invokevirtual 60, 3) := by decide +kernel
theorem dX1_countTwinPairs_43 : decode cX1_countTwinPairs 43 = .ok (.iadd, 1) := by decide +kernel
theorem dX1_countTwinPairs_44 : decode cX1_countTwinPairs 44 = .ok (.istore_n 2, 1) := by decide +kernel
theorem dX1_countTwinPairs_45 : decode cX1_countTwinPairs 45 = .ok (.iinc 4 1, 3) := by decide +kernel
theorem dX1_countTwinPairs_48 : decode cX1_countTwinPairs 48 = .ok (.goto (-27), 3) := by decide +kernel
theorem dX1_countTwinPairs_51 : decode cX1_countTwinPairs 51 = .ok (.iinc 3 1, 3) := by decide +kernel
theorem dX1_countTwinPairs_54 : decode cX1_countTwinPairs 54 = .ok (.goto (-45), 3) := by decide +kernel
theorem dX1_countTwinPairs_57 : decode cX1_countTwinPairs 57 = .ok (.iload_n 2, 1) := by decide +kernel
theorem dX1_countTwinPairs_58 : decode cX1_countTwinPairs 58 = .ok (.ireturn, 1) := by decide +kernel
theorem dX1_countTwinsBehind_0 : decode cX1_countTwinsBehind 0 = .ok (.aload_n 0, 1) := by decide +kernel
theorem dX1_countTwinsBehind_1 : decode cX1_countTwinsBehind 1 = .ok (.getfield 25, 3) := by decide +kernel
theorem dX1_countTwinsBehind_4 : decode cX1_countTwinsBehind 4 = .ok (.iload_n 1, 1) := by decide +kernel
theorem dX1_countTwinsBehind_5 : decode cX1_countTwinsBehind 5 = .ok (.iaload, 1) := by decide +kernel
theorem dX1_countTwinsBehind_6 : decode cX1_countTwinsBehind 6 = .ok (.istore_n 3, 1) := by decide +kernel
theorem dX1_countTwinsBehind_7 : decode cX1_countTwinsBehind 7 = .ok (.iconst 0, 1) := by decide +kernel
theorem dX1_countTwinsBehind_8 : decode cX1_countTwinsBehind 8 = .ok (.istore 4, 2) := by decide +kernel
theorem dX1_countTwinsBehind_10 : decode cX1_countTwinsBehind 10 = .ok (.iload_n 1, 1) := by decide +kernel
theorem dX1_countTwinsBehind_11 : decode cX1_countTwinsBehind 11 = .ok (.iconst 1, 1) := by decide +kernel
theorem dX1_countTwinsBehind_12 : decode cX1_countTwinsBehind 12 = .ok (.iadd, 1) := by decide +kernel
theorem dX1_countTwinsBehind_13 : decode cX1_countTwinsBehind 13 = .ok (.istore 5, 2) := by decide +kernel
theorem dX1_countTwinsBehind_15 : decode cX1_countTwinsBehind 15 = .ok (.iload 5, 2) := by decide +kernel
theorem dX1_countTwinsBehind_17 : decode cX1_countTwinsBehind 17 = .ok (.iload_n 2, 1) := by decide +kernel
theorem dX1_countTwinsBehind_18 : decode cX1_countTwinsBehind 18 = .ok (.if_icmp .ge 23, 3) := by decide +kernel
theorem dX1_countTwinsBehind_21 : decode cX1_countTwinsBehind 21 = .ok (.aload_n 0, 1) := by decide +kernel
theorem dX1_countTwinsBehind_22 : decode cX1_countTwinsBehind 22 = .ok (.getfield 25, 3) := by decide +kernel
theorem dX1_countTwinsBehind_25 : decode cX1_countTwinsBehind 25 = .ok (.iload 5, 2) := by decide +kernel
theorem dX1_countTwinsBehind_27 : decode cX1_countTwinsBehind 27 = .ok (.iaload, 1) := by decide +kernel
theorem dX1_countTwinsBehind_28 : decode cX1_countTwinsBehind 28 = .ok (.iload_n 3, 1) := by decide +kernel
theorem dX1_countTwinsBehind_29 : decode cX1_countTwinsBehind 29 = .ok (.if_icmp .ne 6, 3) := by decide +kernel
theorem dX1_countTwinsBehind_32 : decode cX1_countTwinsBehind 32 = .ok (.iinc 4 1, 3) := by decide +kernel
theorem dX1_countTwinsBehind_35 : decode cX1_countTwinsBehind 35 = .ok (.iinc 5 1, 3) := by decide +kernel
theorem dX1_countTwinsBehind_38 : decode cX1_countTwinsBehind 38 = .ok (.goto (-23), 3) := by decide +kernel
theorem dX1_countTwinsBehind_41 : decode cX1_countTwinsBehind 41 = .ok (.iload 4, 2) := by decide +kernel
theorem dX1_countTwinsBehind_43 : decode cX1_countTwinsBehind 43 = .ok (.ireturn, 1) := by decide +kernel
theorem dX1_start_0 : decode cX1_start 0 = .ok (.iload_n 1, 1) := by decide +kernel
theorem dX1_start_1 : decode cX1_start 1 = .ok (.ifCond .lt 18, 3) := by decide +kernel
theorem dX1_start_4 : decode cX1_start 4 = .ok (.iload_n 1, 1) := by decide +kernel
theorem dX1_start_5 : decode cX1_start 5 = .ok (.bipush 12, 2) := by decide +kernel
theorem dX1_start_7 : decode cX1_start 7 = .ok (.if_icmp .gt 12, 3) := by decide +kernel
theorem dX1_start_10 : decode cX1_start 10 = .ok (.aload_n 0, 1) := by decide +kernel
theorem dX1_start_11 : decode cX1_start 11 = .ok (.getfield 28, 3) := by decide +kernel
theorem dX1_start_14 : decode cX1_start 14 = .ok (.iload_n 1, 1) := by decide +kernel
theorem dX1_start_15 : decode cX1_start 15 = .ok (.iaload, 1) := by decide +kernel
theorem dX1_start_16 : decode cX1_start 16 = .ok (.goto 4, 3) := by decide +kernel
theorem dX1_start_19 : decode cX1_start 19 = .ok (.iconst 0, 1) := by decide +kernel
theorem dX1_start_20 : decode cX1_start 20 = .ok (.ireturn, 1) := by decide +kernel
theorem dX1_end_0 : decode cX1_end 0 = .ok (.iload_n 1, 1) := by decide +kernel
theorem dX1_end_1 : decode cX1_end 1 = .ok (.ifCond .lt 20, 3) := by decide +kernel
theorem dX1_end_4 : decode cX1_end 4 = .ok (.iload_n 1, 1) := by decide +kernel
theorem dX1_end_5 : decode cX1_end 5 = .ok (.bipush 12, 2) := by decide +kernel
theorem dX1_end_7 : decode cX1_end 7 = .ok (.if_icmp .gt 14, 3) := by decide +kernel
theorem dX1_end_10 : decode cX1_end 10 = .ok (.aload_n 0, 1) := by decide +kernel
theorem dX1_end_11 : decode cX1_end 11 = .ok (.getfield 28, 3) := by decide +kernel
theorem dX1_end_14 : decode cX1_end 14 = .ok (.iload_n 1, 1) := by decide +kernel
theorem dX1_end_15 : decode cX1_end 15 = .ok (.iconst 1, 1) := by decide +kernel
theorem dX1_end_16 : decode cX1_end 16 = .ok (.iadd, 1) := by decide +kernel
theorem dX1_end_17 : decode cX1_end 17 = .ok (.iaload, 1) := by decide +kernel
theorem dX1_end_18 : decode cX1_end 18 = .ok (.goto 4, 3) := by decide +kernel
theorem dX1_end_21 : decode cX1_end 21 = .ok (.iconst 0, 1) := by decide +kernel
theorem dX1_end_22 : decode cX1_end 22 = .ok (.ireturn, 1) := by decide +kernel
set_option maxRecDepth 20000 in
theorem ggX1_build_X1_findRising : GoodIn wsX1_build wsX1_findRising := goodIn_r _ [6, 7, 8, 9, 10, 11, 12, 13, 14, 15, 16, 17, 18, 19, 20, 21, 22, 23, 24, 25, 26, 27, 28, 29, 30, 5, 31, 32, 33, 34, 35, 36, 37, 38, 39, 40, 41, 42, 65, 66, 67, 68, 69, 70, 71, 72] (by decide +kernel) (by decide +kernel)
set_option maxRecDepth 20000 in
theorem gX1_build_X1_findRising : GoodIn wsX1_build (wsV RX1 63 RX1 yX1_findRising wsX1_findRising) := goodIn_app (goodIn_of _ (by decide +kernel)) ggX1_build_X1_findRising
set_option maxRecDepth 20000 in
theorem ggX1_build_X1_sortByTones : GoodIn wsX1_build wsX1_sortByTones := goodIn_r _ [46, 47, 8, 9, 48, 49, 50, 51, 52, 53, 54, 55, 56, 57, 58, 22, 59, 60, 61, 62, 63, 36, 37, 38, 21, 23, 64, 65, 66, 67, 68, 69, 70, 71] (by decide +kernel) (by decide +kernel)
set_option maxRecDepth 20000 in
theorem gX1_build_X1_sortByTones : GoodIn wsX1_build (wsV RX1 66 RX1 yX1_sortByTones wsX1_sortByTones) := goodIn_app (goodIn_of _ (by decide +kernel)) ggX1_build_X1_sortByTones
theorem dX1_build_0 : decode cX1_build 0 = .ok (.aload_n 0, 1) := by decide +kernel
theorem dX1_build_1 : decode cX1_build 1 = .ok (.getfield 9, 3) := by decide +kernel
theorem dX1_build_4 : decode cX1_build 4 = .ok (.iload_n 1, 1) := by decide +kernel
theorem dX1_build_5 : decode cX1_build 5 = .ok (.if_icmp .ne 4, 3) := by decide +kernel
theorem dX1_build_8 : decode cX1_build 8 = .ok (.return_, 1) := by decide +kernel
theorem dX1_build_9 : decode cX1_build 9 = .ok (.aload_n 0, 1) := by decide +kernel
theorem dX1_build_10 : decode cX1_build 10 = .ok (.iload_n 1, 1) := by decide +kernel
theorem dX1_build_11 : decode cX1_build 11 = .ok (.putfield 9, 3) := by decide +kernel
theorem dX1_build_14 : decode cX1_build 14 = .ok (.aload_n 0, 1) := by decide +kernel
theorem dX1_build_15 : decode cX1_build 15 = .ok (.iload_n 1, 1) := by decide +kernel
theorem dX1_build_16 : decode cX1_build 16 = .ok (.invokevirtual 63, 3) := by decide +kernel
theorem dX1_build_19 : decode cX1_build 19 = .ok (.aload_n 0, 1) := by decide +kernel
theorem dX1_build_20 : decode cX1_build 20 = .ok (.iload_n 1, 1) := by decide +kernel
theorem dX1_build_21 : decode cX1_build 21 = .ok (.invokevirtual 66, 3) := by decide +kernel
theorem dX1_build_24 : decode cX1_build 24 = .ok (.return_, 1) := by decide +kernel
set_option maxRecDepth 20000 in
theorem ggX1_findRising_X6_clear : GoodIn wsX1_findRising wsX6_clear := goodIn_r _ [8, 9, 10, 11, 12, 13, 45] (by decide +kernel) (by decide +kernel)
set_option maxRecDepth 20000 in
theorem gX1_findRising_X6_clear : GoodIn wsX1_findRising (wsV RX1 69 RX6 yX6_clear wsX6_clear) := goodIn_app (goodIn_of _ (by decide +kernel)) ggX1_findRising_X6_clear
set_option maxRecDepth 20000 in
theorem ggX1_findRising_X3_allTones : GoodIn wsX1_findRising wsX3_allTones := goodIn_r _ [17] (by decide +kernel) (by decide +kernel)
set_option maxRecDepth 20000 in
theorem gX1_findRising_X3_allTones : GoodIn wsX1_findRising (va_wsS RX1 72 yX3_allTones wsX3_allTones) := goodIn_app (goodIn_of _ (by decide +kernel)) ggX1_findRising_X3_allTones
set_option maxRecDepth 20000 in
theorem ggX1_findRising_X6_has : GoodIn wsX1_findRising wsX6_has := goodIn_r _ [21, 9, 45] (by decide +kernel) (by decide +kernel)
set_option maxRecDepth 20000 in
theorem gX1_findRising_X6_has : GoodIn wsX1_findRising (wsV RX1 75 RX6 yX6_has wsX6_has) := goodIn_app (goodIn_of _ (by decide +kernel)) ggX1_findRising_X6_has
set_option maxRecDepth 20000 in
theorem ggX1_findRising_X1_addImages : GoodIn wsX1_findRising wsX1_addImages := goodIn_r _ [26, 1, 27, 28, 16, 29, 30, 31, 32, 33, 15, 17, 34, 35, 36, 7, 37, 9, 38, 39, 40, 41, 42, 43, 44, 45] (by decide +kernel) (by decide +kernel)
set_option maxRecDepth 20000 in
theorem gX1_findRising_X1_addImages : GoodIn wsX1_findRising (wsV RX1 79 RX1 yX1_addImages wsX1_addImages) := goodIn_app (goodIn_of _ (by decide +kernel)) ggX1_findRising_X1_addImages
theorem dX1_findRising_0 : decode cX1_findRising 0 = .ok (.aload_n 0, 1) := by decide +kernel
theorem dX1_findRising_1 : decode cX1_findRising 1 = .ok (.getfield 34, 3) := by decide +kernel
theorem dX1_findRising_4 : decode cX1_findRising 4 = .ok (.invokevirtual 69, 3) := by decide +kernel
theorem dX1_findRising_7 : decode cX1_findRising 7 = .ok (.aload_n 0, 1) := by decide +kernel
theorem dX1_findRising_8 : decode cX1_findRising 8 = .ok (.iconst 0, 1) := by decide +kernel
theorem dX1_findRising_9 : decode cX1_findRising 9 = .ok (.putfield 15, 3) := by decide +kernel
theorem dX1_findRising_12 : decode cX1_findRising 12 = .ok (.iconst 0, 1) := by decide +kernel
theorem dX1_findRising_13 : decode cX1_findRising 13 = .ok (.istore_n 2, 1) := by decide +kernel
theorem dX1_findRising_14 : decode cX1_findRising 14 = .ok (.iload_n 2, 1) := by decide +kernel
theorem dX1_findRising_15 : decode cX1_findRising 15 = .ok (.iload_n 1, 1) := by decide +kernel
theorem dX1_findRising_16 : decode cX1_findRising 16 = .ok (.invokestatic 72, 3) := by decide +kernel
theorem dX1_findRising_19 : decode cX1_findRising 19 = .ok (.if_icmp .gt 56, 3) := by decide +kernel
theorem dX1_findRising_22 : decode cX1_findRising 22 = .ok (.aload_n 0, 1) := by decide +kernel
theorem dX1_findRising_23 : decode cX1_findRising 23 = .ok (.getfield 34, 3) := by decide +kernel
theorem dX1_findRising_26 : decode cX1_findRising 26 = .ok (.iload_n 2, 1) := by decide +kernel
theorem dX1_findRising_27 : decode cX1_findRising 27 = .ok (.invokevirtual 75, 3) := by decide +kernel
theorem dX1_findRising_30 : decode cX1_findRising 30 = .ok (.ifCond .ne 39, 3) := by decide +kernel
theorem dX1_findRising_33 : decode cX1_findRising 33 = .ok (.aload_n 0, 1) := by decide +kernel
theorem dX1_findRising_34 : decode cX1_findRising 34 = .ok (.getfield 15, 3) := by decide +kernel
theorem dX1_findRising_37 : decode cX1_findRising 37 = .ok (.sipush 224, 3) := by decide +kernel
theorem dX1_findRising_40 : decode cX1_findRising 40 = .ok (.if_icmp .ge 29, 3) := by decide +kernel
theorem dX1_findRising_43 : decode cX1_findRising 43 = .ok (.aload_n 0, 1) := by decide +kernel
theorem dX1_findRising_44 : decode cX1_findRising 44 = .ok (.getfield 18, 3) := by decide +kernel
theorem dX1_findRising_47 : decode cX1_findRising 47 = .ok (.aload_n 0, 1) := by decide +kernel
theorem dX1_findRising_48 : decode cX1_findRising 48 = .ok (.getfield 15, 3) := by decide +kernel
theorem dX1_findRising_51 : decode cX1_findRising 51 = .ok (.iload_n 2, 1) := by decide +kernel
theorem dX1_findRising_52 : decode cX1_findRising 52 = .ok (.iastore, 1) := by decide +kernel
theorem dX1_findRising_53 : decode cX1_findRising 53 = .ok (.aload_n 0, 1) := by decide +kernel
theorem dX1_findRising_54 : decode cX1_findRising 54 = .ok (.dup, 1) := by decide +kernel
theorem dX1_findRising_55 : decode cX1_findRising 55 = .ok (.getfield 15, 3) := by decide +kernel
theorem dX1_findRising_58 : decode cX1_findRising 58 = .ok (.iconst 1, 1) := by decide +kernel
theorem dX1_findRising_59 : decode cX1_findRising 59 = .ok (.iadd, 1) := by decide +kernel
theorem dX1_findRising_60 : decode cX1_findRising 60 = .ok (.putfield 15, 3) := by decide +kernel
theorem dX1_findRising_63 : decode cX1_findRising 63 = .ok (.aload_n 0, 1) := by decide +kernel
theorem dX1_findRising_64 : decode cX1_findRising 64 = .ok (.iload_n 2, 1) := by decide +kernel
theorem dX1_findRising_65 : decode cX1_findRising 65 = .ok (.iload_n 1, 1) := by decide +kernel
theorem dX1_findRising_66 : decode cX1_findRising 66 = .ok (.invokevirtual 79, 3) := by decide +kernel
theorem dX1_findRising_69 : decode cX1_findRising 69 = .ok (.iinc 2 1, 3) := by decide +kernel
theorem dX1_findRising_72 : decode cX1_findRising 72 = .ok (.goto (-58), 3) := by decide +kernel
theorem dX1_findRising_75 : decode cX1_findRising 75 = .ok (.return_, 1) := by decide +kernel
set_option maxRecDepth 20000 in
theorem ggX1_addImages_X3_mirrored : GoodIn wsX1_addImages wsX3_mirrored := goodIn_r _ [5] (by decide +kernel) (by decide +kernel)
set_option maxRecDepth 20000 in
theorem gX1_addImages_X3_mirrored : GoodIn wsX1_addImages (va_wsS RX1 83 yX3_mirrored wsX3_mirrored) := goodIn_app (goodIn_of _ (by decide +kernel)) ggX1_addImages_X3_mirrored
set_option maxRecDepth 20000 in
theorem ggX1_addImages_X3_turned : GoodIn wsX1_addImages wsX3_turned := goodIn_r _ [8, 9, 10, 4, 11] (by decide +kernel) (by decide +kernel)
set_option maxRecDepth 20000 in
theorem gX1_addImages_X3_turned : GoodIn wsX1_addImages (va_wsS RX1 86 yX3_turned wsX3_turned) := goodIn_app (goodIn_of _ (by decide +kernel)) ggX1_addImages_X3_turned
set_option maxRecDepth 20000 in
theorem ggX1_addImages_X6_add : GoodIn wsX1_addImages wsX6_add := goodIn_r _ [16, 17, 25] (by decide +kernel) (by decide +kernel)
set_option maxRecDepth 20000 in
theorem gX1_addImages_X6_add : GoodIn wsX1_addImages (wsV RX1 90 RX6 yX6_add wsX6_add) := goodIn_app (goodIn_of _ (by decide +kernel)) ggX1_addImages_X6_add
theorem dX1_addImages_0 : decode cX1_addImages 0 = .ok (.iload_n 1, 1) := by decide +kernel
theorem dX1_addImages_1 : decode cX1_addImages 1 = .ok (.iload_n 2, 1) := by decide +kernel
theorem dX1_addImages_2 : decode cX1_addImages 2 = .ok (.invokestatic 83, 3) := by decide +kernel
theorem dX1_addImages_5 : decode cX1_addImages 5 = .ok (.istore_n 3, 1) := by decide +kernel
theorem dX1_addImages_6 : decode cX1_addImages 6 = .ok (.iconst 0, 1) := by decide +kernel
theorem dX1_addImages_7 : decode cX1_addImages 7 = .ok (.istore 4, 2) := by decide +kernel
theorem dX1_addImages_9 : decode cX1_addImages 9 = .ok (.iload 4, 2) := by decide +kernel
theorem dX1_addImages_11 : decode cX1_addImages 11 = .ok (.iload_n 2, 1) := by decide +kernel
theorem dX1_addImages_12 : decode cX1_addImages 12 = .ok (.if_icmp .ge 37, 3) := by decide +kernel
theorem dX1_addImages_15 : decode cX1_addImages 15 = .ok (.aload_n 0, 1) := by decide +kernel
theorem dX1_addImages_16 : decode cX1_addImages 16 = .ok (.getfield 34, 3) := by decide +kernel
theorem dX1_addImages_19 : decode cX1_addImages 19 = .ok (.iload_n 1, 1) := by decide +kernel
theorem dX1_addImages_20 : decode cX1_addImages 20 = .ok (.iload 4, 2) := by decide +kernel
theorem dX1_addImages_22 : decode cX1_addImages 22 = .ok (.iload_n 2, 1) := by decide +kernel
theorem dX1_addImages_23 : decode cX1_addImages 23 = .ok (.invokestatic 86, 3) := by decide +kernel
theorem dX1_addImages_26 : decode cX1_addImages 26 = .ok (.invokevirtual 90, 3) := by decide +kernel
theorem dX1_addImages_29 : decode cX1_addImages 29 = .ok (.aload_n 0, 1) := by decide +kernel
theorem dX1_addImages_30 : decode cX1_addImages 30 = .ok (.getfield 34, 3) := by decide +kernel
theorem dX1_addImages_33 : decode cX1_addImages 33 = .ok (.iload_n 3, 1) := by decide +kernel
theorem dX1_addImages_34 : decode cX1_addImages 34 = .ok (.iload 4, 2) := by decide +kernel
theorem dX1_addImages_36 : decode cX1_addImages 36 = .ok (.iload_n 2, 1) := by decide +kernel
theorem dX1_addImages_37 : decode cX1_addImages 37 = .ok (.invokestatic 86, 3) := by decide +kernel
theorem dX1_addImages_40 : decode cX1_addImages 40 = .ok (.invokevirtual 90, 3) := by decide +kernel
theorem dX1_addImages_43 : decode cX1_addImages 43 = .ok (.iinc 4 1, 3) := by decide +kernel
theorem dX1_addImages_46 : decode cX1_addImages 46 = .ok (.goto (-37), 3) := by decide +kernel
theorem dX1_addImages_49 : decode cX1_addImages 49 = .ok (.return_, 1) := by decide +kernel
set_option maxRecDepth 20000 in
theorem ggX1_sortByTones_J6_bitCount_0f7a4 : GoodIn wsX1_sortByTones wsJ6_bitCount_0f7a4 := goodIn_r _ [9, 10, 11, 12] (by decide +kernel) (by decide +kernel)
set_option maxRecDepth 20000 in
theorem gX1_sortByTones_J6_bitCount_0f7a4 : GoodIn wsX1_sortByTones (va_wsS RX1 49 yJ6_bitCount_0f7a4 wsJ6_bitCount_0f7a4) := goodIn_app (goodIn_of _ (by decide +kernel)) ggX1_sortByTones_J6_bitCount_0f7a4
set_option maxRecDepth 20000 in
theorem ggX1_sortByTones_X3_intervalRow : GoodIn wsX1_sortByTones wsX3_intervalRow := goodIn_r _ [16, 17, 18, 15, 19, 20, 21, 22, 23, 24, 25, 26, 7, 8, 9, 10, 11, 12] (by decide +kernel) (by decide +kernel)
set_option maxRecDepth 20000 in
theorem gX1_sortByTones_X3_intervalRow : GoodIn wsX1_sortByTones (va_wsS RX1 54 yX3_intervalRow wsX3_intervalRow) := goodIn_app (goodIn_of _ (by decide +kernel)) ggX1_sortByTones_X3_intervalRow
theorem dX1_sortByTones_0 : decode cX1_sortByTones 0 = .ok (.iconst 0, 1) := by decide +kernel
theorem dX1_sortByTones_1 : decode cX1_sortByTones 1 = .ok (.istore_n 2, 1) := by decide +kernel
theorem dX1_sortByTones_2 : decode cX1_sortByTones 2 = .ok (.iconst 0, 1) := by decide +kernel
theorem dX1_sortByTones_3 : decode cX1_sortByTones 3 = .ok (.istore_n 3, 1) := by decide +kernel
theorem dX1_sortByTones_4 : decode cX1_sortByTones 4 = .ok (.iload_n 3, 1) := by decide +kernel
theorem dX1_sortByTones_5 : decode cX1_sortByTones 5 = .ok (.bipush 12, 2) := by decide +kernel
theorem dX1_sortByTones_7 : decode cX1_sortByTones 7 = .ok (.if_icmp .gt 88, 3) := by decide +kernel
theorem dX1_sortByTones_10 : decode cX1_sortByTones 10 = .ok (.aload_n 0, 1) := by decide +kernel
theorem dX1_sortByTones_11 : decode cX1_sortByTones 11 = .ok (.getfield 28, 3) := by decide +kernel
theorem dX1_sortByTones_14 : decode cX1_sortByTones 14 = .ok (.iload_n 3, 1) := by decide +kernel
theorem dX1_sortByTones_15 : decode cX1_sortByTones 15 = .ok (.iload_n 2, 1) := by decide +kernel
theorem dX1_sortByTones_16 : decode cX1_sortByTones 16 = .ok (.iastore, 1) := by decide +kernel
theorem dX1_sortByTones_17 : decode cX1_sortByTones 17 = .ok (.iconst 0, 1) := by decide +kernel
theorem dX1_sortByTones_18 : decode cX1_sortByTones 18 = .ok (.istore 4, 2) := by decide +kernel
theorem dX1_sortByTones_20 : decode cX1_sortByTones 20 = .ok (.iload 4, 2) := by decide +kernel
theorem dX1_sortByTones_22 : decode cX1_sortByTones 22 = .ok (.aload_n 0, 1) := by decide +kernel
theorem dX1_sortByTones_23 : decode cX1_sortByTones 23 = .ok (.getfield 15, 3) := by decide +kernel
theorem dX1_sortByTones_26 : decode cX1_sortByTones 26 = .ok (.if_icmp .ge 63, 3) := by decide +kernel
theorem dX1_sortByTones_29 : decode cX1_sortByTones 29 = .ok (.iload_n 2, 1) := by decide +kernel
theorem dX1_sortByTones_30 : decode cX1_sortByTones 30 = .ok (.sipush 224, 3) := by decide +kernel
theorem dX1_sortByTones_33 : decode cX1_sortByTones 33 = .ok (.if_icmp .ge 56, 3) := by decide +kernel
theorem dX1_sortByTones_36 : decode cX1_sortByTones 36 = .ok (.aload_n 0, 1) := by decide +kernel
theorem dX1_sortByTones_37 : decode cX1_sortByTones 37 = .ok (.getfield 18, 3) := by decide +kernel
theorem dX1_sortByTones_40 : decode cX1_sortByTones 40 = .ok (.iload 4, 2) := by decide +kernel
theorem dX1_sortByTones_42 : decode cX1_sortByTones 42 = .ok (.iaload, 1) := by decide +kernel
theorem dX1_sortByTones_43 : decode cX1_sortByTones 43 = .ok (.invokestatic 49, 3) := by decide +kernel
theorem dX1_sortByTones_46 : decode cX1_sortByTones 46 = .ok (.iload_n 3, 1) := by decide +kernel
theorem dX1_sortByTones_47 : decode cX1_sortByTones 47 = .ok (.if_icmp .ne 36, 3) := by decide +kernel
theorem dX1_sortByTones_50 : decode cX1_sortByTones 50 = .ok (.aload_n 0, 1) := by decide +kernel
theorem dX1_sortByTones_51 : decode cX1_sortByTones 51 = .ok (.getfield 22, 3) := by decide +kernel
theorem dX1_sortByTones_54 : decode cX1_sortByTones 54 = .ok (.iload_n 2, 1) := by decide +kernel
theorem dX1_sortByTones_55 : decode cX1_sortByTones 55 = .ok (.aload_n 0, 1) := by decide +kernel
theorem dX1_sortByTones_56 : decode cX1_sortByTones 56 = .ok (.getfield 18, 3) := by decide +kernel
theorem dX1_sortByTones_59 : decode cX1_sortByTones 59 = .ok (.iload 4, 2) := by decide +kernel
theorem dX1_sortByTones_61 : decode cX1_sortByTones 61 = .ok (.iaload, 1) := by decide +kernel
theorem dX1_sortByTones_62 : decode cX1_sortByTones 62 = .ok (.iastore, 1) := by decide +kernel
theorem dX1_sortByTones_63 : decode cX1_sortByTones 63 = .ok (.aload_n 0, 1) := by decide +kernel
theorem dX1_sortByTones_64 : decode cX1_sortByTones 64 = .ok (.getfield 25, 3) := by decide +kernel
theorem dX1_sortByTones_67 : decode cX1_sortByTones 67 = .ok (.iload_n 2, 1) := by decide +kernel
theorem dX1_sortByTones_68 : decode cX1_sortByTones 68 = .ok (.aload_n 0, 1) := by decide +kernel
theorem dX1_sortByTones_69 : decode cX1_sortByTones 69 = .ok (.getfield 18, 3) := by decide +kernel
theorem dX1_sortByTones_72 : decode cX1_sortByTones 72 = .ok (.iload 4, 2) := by decide +kernel
theorem dX1_sortByTones_74 : decode cX1_sortByTones 74 = .ok (.iaload, 1) := by decide +kernel
theorem dX1_sortByTones_75 : decode cX1_sortByTones 75 = .ok (.iload_n 1, 1) := by decide +kernel
theorem dX1_sortByTones_76 : decode cX1_sortByTones 76 = .ok (.invokestatic 54, 3) := by decide +kernel
theorem dX1_sortByTones_79 : decode cX1_sortByTones 79 = .ok (.iastore, 1) := by decide +kernel
theorem dX1_sortByTones_80 : decode cX1_sortByTones 80 = .ok (.iinc 2 1, 3) := by decide +kernel
theorem dX1_sortByTones_83 : decode cX1_sortByTones 83 = .ok (.iinc 4 1, 3) := by decide +kernel
theorem dX1_sortByTones_86 : decode cX1_sortByTones 86 = .ok (.goto (-66), 3) := by decide +kernel
theorem dX1_sortByTones_89 : decode cX1_sortByTones 89 = .ok (.iinc 3 1, 3) := by decide +kernel
theorem dX1_sortByTones_92 : decode cX1_sortByTones 92 = .ok (.goto (-88), 3) := by decide +kernel
theorem dX1_sortByTones_95 : decode cX1_sortByTones 95 = .ok (.aload_n 0, 1) := by decide +kernel
theorem dX1_sortByTones_96 : decode cX1_sortByTones 96 = .ok (.getfield 28, 3) := by decide +kernel
theorem dX1_sortByTones_99 : decode cX1_sortByTones 99 = .ok (.bipush 13, 2) := by decide +kernel
theorem dX1_sortByTones_101 : decode cX1_sortByTones 101 = .ok (.iload_n 2, 1) := by decide +kernel
theorem dX1_sortByTones_102 : decode cX1_sortByTones 102 = .ok (.iastore, 1) := by decide +kernel
theorem dX1_sortByTones_103 : decode cX1_sortByTones 103 = .ok (.return_, 1) := by decide +kernel
set_option maxRecDepth 20000 in
theorem ggX2_init_X5_init : GoodIn wsX2_init wsX5_init := goodIn_r _ [12, 13, 2, 3, 14, 15, 16, 17, 18, 19, 20, 21, 22, 23, 27, 28] (by decide +kernel) (by decide +kernel)
set_option maxRecDepth 20000 in
theorem gX2_init_X5_init : GoodIn wsX2_init (wsX5_init) := ggX2_init_X5_init
theorem dX2_init_0 : decode cX2_init 0 = .ok (.aload_n 0, 1) := by decide +kernel
theorem dX2_init_1 : decode cX2_init 1 = .ok (.invokespecial 3, 3) := by decide +kernel
theorem dX2_init_4 : decode cX2_init 4 = .ok (.aload_n 0, 1) := by decide +kernel
theorem dX2_init_5 : decode cX2_init 5 = .ok (.iconst 0, 1) := by decide +kernel
theorem dX2_init_6 : decode cX2_init 6 = .ok (.putfield 9, 3) := by decide +kernel
theorem dX2_init_9 : decode cX2_init 9 = .ok (.aload_n 0, 1) := by decide +kernel
theorem dX2_init_10 : decode cX2_init 10 = .ok (.iconst 0, 1) := by decide +kernel
theorem dX2_init_11 : decode cX2_init 11 = .ok (.putfield 15, 3) := by decide +kernel
theorem dX2_init_14 : decode cX2_init 14 = .ok (.aload_n 0, 1) := by decide +kernel
theorem dX2_init_15 : decode cX2_init 15 = .ok (.new 18, 3) := by decide +kernel
theorem dX2_init_18 : decode cX2_init 18 = .ok (.dup, 1) := by decide +kernel
theorem dX2_init_19 : decode cX2_init 19 = .ok (.bipush 16, 2) := by decide +kernel
theorem dX2_init_21 : decode cX2_init 21 = .ok (.invokespecial 20, 3) := by decide +kernel
theorem dX2_init_24 : decode cX2_init 24 = .ok (.putfield 23, 3) := by decide +kernel
theorem dX2_init_27 : decode cX2_init 27 = .ok (.return_, 1) := by decide +kernel
set_option maxRecDepth 20000 in
theorem ggX2_remember_X5_store : GoodIn wsX2_remember wsX5_store := goodIn_r _ [12, 13, 14, 15, 16, 17, 18, 19, 11, 20, 21, 22, 23, 24, 25, 26, 27, 28, 29, 30, 31, 32, 36, 37, 38, 39, 40, 41] (by decide +kernel) (by decide +kernel)
set_option maxRecDepth 20000 in
theorem gX2_remember_X5_store : GoodIn wsX2_remember (wsV RX2 27 RX5 yX5_store wsX5_store) := goodIn_app (goodIn_of _ (by decide +kernel)) ggX2_remember_X5_store
theorem dX2_remember_0 : decode cX2_remember 0 = .ok (.aload_n 0, 1) := by decide +kernel
theorem dX2_remember_1 : decode cX2_remember 1 = .ok (.getfield 23, 3) := by decide +kernel
theorem dX2_remember_4 : decode cX2_remember 4 = .ok (.aload_n 0, 1) := by decide +kernel
theorem dX2_remember_5 : decode cX2_remember 5 = .ok (.getfield 15, 3) := by decide +kernel
theorem dX2_remember_8 : decode cX2_remember 8 = .ok (.aload_n 1, 1) := by decide +kernel
theorem dX2_remember_9 : decode cX2_remember 9 = .ok (.invokevirtual 27, 3) := by decide +kernel
theorem dX2_remember_12 : decode cX2_remember 12 = .ok (.aload_n 0, 1) := by decide +kernel
theorem dX2_remember_13 : decode cX2_remember 13 = .ok (.aload_n 0, 1) := by decide +kernel
theorem dX2_remember_14 : decode cX2_remember 14 = .ok (.getfield 15, 3) := by decide +kernel
theorem dX2_remember_17 : decode cX2_remember 17 = .ok (.iconst 1, 1) := by decide +kernel
theorem dX2_remember_18 : decode cX2_remember 18 = .ok (.iadd, 1) := by decide +kernel
theorem dX2_remember_19 : decode cX2_remember 19 = .ok (.bipush 16, 2) := by decide +kernel
theorem dX2_remember_21 : decode cX2_remember 21 = .ok (.irem, 1) := by decide +kernel
theorem dX2_remember_22 : decode cX2_remember 22 = .ok (.putfield 15, 3) := by decide +kernel
theorem dX2_remember_25 : decode cX2_remember 25 = .ok (.aload_n 0, 1) := by decide +kernel
theorem dX2_remember_26 : decode cX2_remember 26 = .ok (.aload_n 0, 1) := by decide +kernel
theorem dX2_remember_27 : decode cX2_remember 27 = .ok (.getfield 9, 3) := by decide +kernel
theorem dX2_remember_30 : decode cX2_remember 30 = .ok (.iconst 1, 1) := by decide +kernel
theorem dX2_remember_31 : decode cX2_remember 31 = .ok (.iadd, 1) := by decide +kernel
theorem dX2_remember_32 : decode cX2_remember 32 = .ok (.bipush 16, 2) := by decide +kernel
theorem dX2_remember_34 : decode cX2_remember 34 = .ok (.invokestatic 31, 3) := by decide +kernel
theorem dX2_remember_37 : decode cX2_remember 37 = .ok (.putfield 9, 3) := by decide +kernel
theorem dX2_remember_40 : decode cX2_remember 40 = .ok (.return_, 1) := by decide +kernel
set_option maxRecDepth 20000 in
theorem ggX2_bringBack_X5_load : GoodIn wsX2_bringBack wsX5_load := goodIn_r _ [8, 9, 10, 11, 12, 13, 14, 7, 15, 16, 17, 18, 19, 20, 21, 22, 23, 24, 25, 26, 27, 28, 29, 30, 31, 35, 36, 37, 38, 39, 40] (by decide +kernel) (by decide +kernel)
set_option maxRecDepth 20000 in
theorem gX2_bringBack_X5_load : GoodIn wsX2_bringBack (wsV RX2 37 RX5 yX5_load wsX5_load) := goodIn_app (goodIn_of _ (by decide +kernel)) ggX2_bringBack_X5_load
theorem dX2_bringBack_0 : decode cX2_bringBack 0 = .ok (.iload_n 1, 1) := by decide +kernel
theorem dX2_bringBack_1 : decode cX2_bringBack 1 = .ok (.iconst 1, 1) := by decide +kernel
theorem dX2_bringBack_2 : decode cX2_bringBack 2 = .ok (.if_icmp .lt 11, 3) := by decide +kernel
theorem dX2_bringBack_5 : decode cX2_bringBack 5 = .ok (.iload_n 1, 1) := by decide +kernel
theorem dX2_bringBack_6 : decode cX2_bringBack 6 = .ok (.aload_n 0, 1) := by decide +kernel
theorem dX2_bringBack_7 : decode cX2_bringBack 7 = .ok (.getfield 9, 3) := by decide +kernel
theorem dX2_bringBack_10 : decode cX2_bringBack 10 = .ok (.if_icmp .le 4, 3) := by decide +kernel
theorem dX2_bringBack_13 : decode cX2_bringBack 13 = .ok (.return_, 1) := by decide +kernel
theorem dX2_bringBack_14 : decode cX2_bringBack 14 = .ok (.aload_n 0, 1) := by decide +kernel
theorem dX2_bringBack_15 : decode cX2_bringBack 15 = .ok (.aload_n 0, 1) := by decide +kernel
theorem dX2_bringBack_16 : decode cX2_bringBack 16 = .ok (.getfield 15, 3) := by decide +kernel
theorem dX2_bringBack_19 : decode cX2_bringBack 19 = .ok (.bipush 16, 2) := by decide +kernel
theorem dX2_bringBack_21 : decode cX2_bringBack 21 = .ok (.iadd, 1) := by decide +kernel
theorem dX2_bringBack_22 : decode cX2_bringBack 22 = .ok (.iload_n 1, 1) := by decide +kernel
theorem dX2_bringBack_23 : decode cX2_bringBack 23 = .ok (.isub, 1) := by decide +kernel
theorem dX2_bringBack_24 : decode cX2_bringBack 24 = .ok (.bipush 16, 2) := by decide +kernel
theorem dX2_bringBack_26 : decode cX2_bringBack 26 = .ok (.irem, 1) := by decide +kernel
theorem dX2_bringBack_27 : decode cX2_bringBack 27 = .ok (.putfield 15, 3) := by decide +kernel
theorem dX2_bringBack_30 : decode cX2_bringBack 30 = .ok (.aload_n 0, 1) := by decide +kernel
theorem dX2_bringBack_31 : decode cX2_bringBack 31 = .ok (.dup, 1) := by decide +kernel
theorem dX2_bringBack_32 : decode cX2_bringBack 32 = .ok (.getfield 9, 3) := by decide +kernel
theorem dX2_bringBack_35 : decode cX2_bringBack 35 = .ok (.iload_n 1, 1) := by decide +kernel
theorem dX2_bringBack_36 : decode cX2_bringBack 36 = .ok (.isub, 1) := by decide +kernel
theorem dX2_bringBack_37 : decode cX2_bringBack 37 = .ok (.putfield 9, 3) := by decide +kernel
theorem dX2_bringBack_40 : decode cX2_bringBack 40 = .ok (.aload_n 0, 1) := by decide +kernel
theorem dX2_bringBack_41 : decode cX2_bringBack 41 = .ok (.getfield 23, 3) := by decide +kernel
theorem dX2_bringBack_44 : decode cX2_bringBack 44 = .ok (.aload_n 0, 1) := by decide +kernel
theorem dX2_bringBack_45 : decode cX2_bringBack 45 = .ok (.getfield 15, 3) := by decide +kernel
theorem dX2_bringBack_48 : decode cX2_bringBack 48 = .ok (.aload_n 2, 1) := by decide +kernel
theorem dX2_bringBack_49 : decode cX2_bringBack 49 = .ok (.invokevirtual 37, 3) := by decide +kernel
theorem dX2_bringBack_52 : decode cX2_bringBack 52 = .ok (.return_, 1) := by decide +kernel
theorem dX3_allTones_0 : decode cX3_allTones 0 = .ok (.iconst 1, 1) := by decide +kernel
theorem dX3_allTones_1 : decode cX3_allTones 1 = .ok (.iload_n 0, 1) := by decide +kernel
theorem dX3_allTones_2 : decode cX3_allTones 2 = .ok (.ishl, 1) := by decide +kernel
theorem dX3_allTones_3 : decode cX3_allTones 3 = .ok (.iconst 1, 1) := by decide +kernel
theorem dX3_allTones_4 : decode cX3_allTones 4 = .ok (.isub, 1) := by decide +kernel
theorem dX3_allTones_5 : decode cX3_allTones 5 = .ok (.ireturn, 1) := by decide +kernel
set_option maxRecDepth 20000 in
theorem ggX3_turned_X3_allTones : GoodIn wsX3_turned wsX3_allTones := goodIn_r _ [4] (by decide +kernel) (by decide +kernel)
set_option maxRecDepth 20000 in
theorem gX3_turned_X3_allTones : GoodIn wsX3_turned (va_wsS RX3 9 yX3_allTones wsX3_allTones) := goodIn_app (goodIn_of _ (by decide +kernel)) ggX3_turned_X3_allTones
theorem dX3_turned_0 : decode cX3_turned 0 = .ok (.iload_n 0, 1) := by decide +kernel
theorem dX3_turned_1 : decode cX3_turned 1 = .ok (.iload_n 1, 1) := by decide +kernel
theorem dX3_turned_2 : decode cX3_turned 2 = .ok (.ishl, 1) := by decide +kernel
theorem dX3_turned_3 : decode cX3_turned 3 = .ok (.iload_n 0, 1) := by decide +kernel
theorem dX3_turned_4 : decode cX3_turned 4 = .ok (.iload_n 2, 1) := by decide +kernel
theorem dX3_turned_5 : decode cX3_turned 5 = .ok (.iload_n 1, 1) := by decide +kernel
theorem dX3_turned_6 : decode cX3_turned 6 = .ok (.isub, 1) := by decide +kernel
theorem dX3_turned_7 : decode cX3_turned 7 = .ok (.ishr, 1) := by decide +kernel
theorem dX3_turned_8 : decode cX3_turned 8 = .ok (.ior, 1) := by decide +kernel
theorem dX3_turned_9 : decode cX3_turned 9 = .ok (.iload_n 2, 1) := by decide +kernel
theorem dX3_turned_10 : decode cX3_turned 10 = .ok (.invokestatic 9, 3) := by decide +kernel
theorem dX3_turned_13 : decode cX3_turned 13 = .ok (.iand, 1) := by decide +kernel
theorem dX3_turned_14 : decode cX3_turned 14 = .ok (.ireturn, 1) := by decide +kernel
theorem dX3_mirrored_0 : decode cX3_mirrored 0 = .ok (.iload_n 0, 1) := by decide +kernel
theorem dX3_mirrored_1 : decode cX3_mirrored 1 = .ok (.iconst 1, 1) := by decide +kernel
theorem dX3_mirrored_2 : decode cX3_mirrored 2 = .ok (.iand, 1) := by decide +kernel
theorem dX3_mirrored_3 : decode cX3_mirrored 3 = .ok (.istore_n 2, 1) := by decide +kernel
theorem dX3_mirrored_4 : decode cX3_mirrored 4 = .ok (.iconst 1, 1) := by decide +kernel
theorem dX3_mirrored_5 : decode cX3_mirrored 5 = .ok (.istore_n 3, 1) := by decide +kernel
theorem dX3_mirrored_6 : decode cX3_mirrored 6 = .ok (.iload_n 3, 1) := by decide +kernel
theorem dX3_mirrored_7 : decode cX3_mirrored 7 = .ok (.iload_n 1, 1) := by decide +kernel
theorem dX3_mirrored_8 : decode cX3_mirrored 8 = .ok (.if_icmp .ge 21, 3) := by decide +kernel
theorem dX3_mirrored_11 : decode cX3_mirrored 11 = .ok (.iload_n 2, 1) := by decide +kernel
theorem dX3_mirrored_12 : decode cX3_mirrored 12 = .ok (.iload_n 0, 1) := by decide +kernel
theorem dX3_mirrored_13 : decode cX3_mirrored 13 = .ok (.iload_n 3, 1) := by decide +kernel
theorem dX3_mirrored_14 : decode cX3_mirrored 14 = .ok (.ishr, 1) := by decide +kernel
theorem dX3_mirrored_15 : decode cX3_mirrored 15 = .ok (.iconst 1, 1) := by decide +kernel
theorem dX3_mirrored_16 : decode cX3_mirrored 16 = .ok (.iand, 1) := by decide +kernel
theorem dX3_mirrored_17 : decode cX3_mirrored 17 = .ok (.iload_n 1, 1) := by decide +kernel
theorem dX3_mirrored_18 : decode cX3_mirrored 18 = .ok (.iload_n 3, 1) := by decide +kernel
theorem dX3_mirrored_19 : decode cX3_mirrored 19 = .ok (.isub, 1) := by decide +kernel
theorem dX3_mirrored_20 : decode cX3_mirrored 20 = .ok (.ishl, 1) := by decide +kernel
theorem dX3_mirrored_21 : decode cX3_mirrored 21 = .ok (.ior, 1) := by decide +kernel
theorem dX3_mirrored_22 : decode cX3_mirrored 22 = .ok (.istore_n 2, 1) := by decide +kernel
theorem dX3_mirrored_23 : decode cX3_mirrored 23 = .ok (.iinc 3 1, 3) := by decide +kernel
theorem dX3_mirrored_26 : decode cX3_mirrored 26 = .ok (.goto (-20), 3) := by decide +kernel
theorem dX3_mirrored_29 : decode cX3_mirrored 29 = .ok (.iload_n 2, 1) := by decide +kernel
theorem dX3_mirrored_30 : decode cX3_mirrored 30 = .ok (.ireturn, 1) := by decide +kernel
theorem dX3_multiplied_0 : decode cX3_multiplied 0 = .ok (.iconst 0, 1) := by decide +kernel
theorem dX3_multiplied_1 : decode cX3_multiplied 1 = .ok (.istore_n 3, 1) := by decide +kernel
theorem dX3_multiplied_2 : decode cX3_multiplied 2 = .ok (.iconst 0, 1) := by decide +kernel
theorem dX3_multiplied_3 : decode cX3_multiplied 3 = .ok (.istore 4, 2) := by decide +kernel
theorem dX3_multiplied_5 : decode cX3_multiplied 5 = .ok (.iconst 0, 1) := by decide +kernel
theorem dX3_multiplied_6 : decode cX3_multiplied 6 = .ok (.istore 5, 2) := by decide +kernel
theorem dX3_multiplied_8 : decode cX3_multiplied 8 = .ok (.iload 5, 2) := by decide +kernel
theorem dX3_multiplied_10 : decode cX3_multiplied 10 = .ok (.iload_n 2, 1) := by decide +kernel
theorem dX3_multiplied_11 : decode cX3_multiplied 11 = .ok (.if_icmp .ge 39, 3) := by decide +kernel
theorem dX3_multiplied_14 : decode cX3_multiplied 14 = .ok (.iload_n 3, 1) := by decide +kernel
theorem dX3_multiplied_15 : decode cX3_multiplied 15 = .ok (.iload_n 0, 1) := by decide +kernel
theorem dX3_multiplied_16 : decode cX3_multiplied 16 = .ok (.iload 5, 2) := by decide +kernel
theorem dX3_multiplied_18 : decode cX3_multiplied 18 = .ok (.ishr, 1) := by decide +kernel
theorem dX3_multiplied_19 : decode cX3_multiplied 19 = .ok (.iconst 1, 1) := by decide +kernel
theorem dX3_multiplied_20 : decode cX3_multiplied 20 = .ok (.iand, 1) := by decide +kernel
theorem dX3_multiplied_21 : decode cX3_multiplied 21 = .ok (.iload 4, 2) := by decide +kernel
theorem dX3_multiplied_23 : decode cX3_multiplied 23 = .ok (.ishl, 1) := by decide +kernel
theorem dX3_multiplied_24 : decode cX3_multiplied 24 = .ok (.ior, 1) := by decide +kernel
theorem dX3_multiplied_25 : decode cX3_multiplied 25 = .ok (.istore_n 3, 1) := by decide +kernel
theorem dX3_multiplied_26 : decode cX3_multiplied 26 = .ok (.iload 4, 2) := by decide +kernel
theorem dX3_multiplied_28 : decode cX3_multiplied 28 = .ok (.iload_n 1, 1) := by decide +kernel
theorem dX3_multiplied_29 : decode cX3_multiplied 29 = .ok (.iadd, 1) := by decide +kernel
theorem dX3_multiplied_30 : decode cX3_multiplied 30 = .ok (.istore 4, 2) := by decide +kernel
theorem dX3_multiplied_32 : decode cX3_multiplied 32 = .ok (.iload 4, 2) := by decide +kernel
theorem dX3_multiplied_34 : decode cX3_multiplied 34 = .ok (.iload_n 2, 1) := by decide +kernel
theorem dX3_multiplied_35 : decode cX3_multiplied 35 = .ok (.if_icmp .lt 9, 3) := by decide +kernel
theorem dX3_multiplied_38 : decode cX3_multiplied 38 = .ok (.iload 4, 2) := by decide +kernel
theorem dX3_multiplied_40 : decode cX3_multiplied 40 = .ok (.iload_n 2, 1) := by decide +kernel
theorem dX3_multiplied_41 : decode cX3_multiplied 41 = .ok (.isub, 1) := by decide +kernel
theorem dX3_multiplied_42 : decode cX3_multiplied 42 = .ok (.istore 4, 2) := by decide +kernel
theorem dX3_multiplied_44 : decode cX3_multiplied 44 = .ok (.iinc 5 1, 3) := by decide +kernel
theorem dX3_multiplied_47 : decode cX3_multiplied 47 = .ok (.goto (-39), 3) := by decide +kernel
theorem dX3_multiplied_50 : decode cX3_multiplied 50 = .ok (.iload_n 3, 1) := by decide +kernel
theorem dX3_multiplied_51 : decode cX3_multiplied 51 = .ok (.ireturn, 1) := by decide +kernel
set_option maxRecDepth 20000 in
theorem ggX3_formOf_X3_mirrored : GoodIn wsX3_formOf wsX3_mirrored := goodIn_r _ [8] (by decide +kernel) (by decide +kernel)
set_option maxRecDepth 20000 in
theorem gX3_formOf_X3_mirrored : GoodIn wsX3_formOf (va_wsS RX3 15 yX3_mirrored wsX3_mirrored) := goodIn_app (goodIn_of _ (by decide +kernel)) ggX3_formOf_X3_mirrored
set_option maxRecDepth 20000 in
theorem ggX3_formOf_X3_turned : GoodIn wsX3_formOf wsX3_turned := goodIn_r _ [11, 12, 13, 7, 14] (by decide +kernel) (by decide +kernel)
set_option maxRecDepth 20000 in
theorem gX3_formOf_X3_turned : GoodIn wsX3_formOf (va_wsS RX3 19 yX3_turned wsX3_turned) := goodIn_app (goodIn_of _ (by decide +kernel)) ggX3_formOf_X3_turned
theorem dX3_formOf_0 : decode cX3_formOf 0 = .ok (.iload_n 0, 1) := by decide +kernel
theorem dX3_formOf_1 : decode cX3_formOf 1 = .ok (.iload_n 1, 1) := by decide +kernel
theorem dX3_formOf_2 : decode cX3_formOf 2 = .ok (.invokestatic 15, 3) := by decide +kernel
theorem dX3_formOf_5 : decode cX3_formOf 5 = .ok (.istore_n 2, 1) := by decide +kernel
theorem dX3_formOf_6 : decode cX3_formOf 6 = .ok (.iload_n 0, 1) := by decide +kernel
theorem dX3_formOf_7 : decode cX3_formOf 7 = .ok (.istore_n 3, 1) := by decide +kernel
theorem dX3_formOf_8 : decode cX3_formOf 8 = .ok (.iconst 0, 1) := by decide +kernel
theorem dX3_formOf_9 : decode cX3_formOf 9 = .ok (.istore 4, 2) := by decide +kernel
theorem dX3_formOf_11 : decode cX3_formOf 11 = .ok (.iload 4, 2) := by decide +kernel
theorem dX3_formOf_13 : decode cX3_formOf 13 = .ok (.iload_n 1, 1) := by decide +kernel
theorem dX3_formOf_14 : decode cX3_formOf 14 = .ok (.if_icmp .ge 33, 3) := by decide +kernel
theorem dX3_formOf_17 : decode cX3_formOf 17 = .ok (.iload_n 3, 1) := by decide +kernel
theorem dX3_formOf_18 : decode cX3_formOf 18 = .ok (.iload_n 0, 1) := by decide +kernel
theorem dX3_formOf_19 : decode cX3_formOf 19 = .ok (.iload 4, 2) := by decide +kernel
theorem dX3_formOf_21 : decode cX3_formOf 21 = .ok (.iload_n 1, 1) := by decide +kernel
theorem dX3_formOf_22 : decode cX3_formOf 22 = .ok (.invokestatic 19, 3) := by decide +kernel
theorem dX3_formOf_25 : decode cX3_formOf 25 = .ok (.invokestatic 23, 3) := by decide +kernel
theorem dX3_formOf_28 : decode cX3_formOf 28 = .ok (.istore_n 3, 1) := by decide +kernel
theorem dX3_formOf_29 : decode cX3_formOf 29 = .ok (.iload_n 3, 1) := by decide +kernel
theorem dX3_formOf_30 : decode cX3_formOf 30 = .ok (.iload_n 2, 1) := by decide +kernel
theorem dX3_formOf_31 : decode cX3_formOf 31 = .ok (.iload 4, 2) := by decide +kernel
theorem dX3_formOf_33 : decode cX3_formOf 33 = .ok (.iload_n 1, 1) := by decide +kernel
theorem dX3_formOf_34 : decode cX3_formOf 34 = .ok (.invokestatic 19, 3) := by decide +kernel
theorem dX3_formOf_37 : decode cX3_formOf 37 = .ok (.invokestatic 23, 3) := by decide +kernel
theorem dX3_formOf_40 : decode cX3_formOf 40 = .ok (.istore_n 3, 1) := by decide +kernel
theorem dX3_formOf_41 : decode cX3_formOf 41 = .ok (.iinc 4 1, 3) := by decide +kernel
theorem dX3_formOf_44 : decode cX3_formOf 44 = .ok (.goto (-33), 3) := by decide +kernel
theorem dX3_formOf_47 : decode cX3_formOf 47 = .ok (.iload_n 3, 1) := by decide +kernel
theorem dX3_formOf_48 : decode cX3_formOf 48 = .ok (.ireturn, 1) := by decide +kernel
set_option maxRecDepth 20000 in
theorem ggX3_kinOf_X3_mirrored : GoodIn wsX3_kinOf wsX3_mirrored := goodIn_r _ [4] (by decide +kernel) (by decide +kernel)
set_option maxRecDepth 20000 in
theorem gX3_kinOf_X3_mirrored : GoodIn wsX3_kinOf (va_wsS RX3 15 yX3_mirrored wsX3_mirrored) := goodIn_app (goodIn_of _ (by decide +kernel)) ggX3_kinOf_X3_mirrored
set_option maxRecDepth 20000 in
theorem ggX3_kinOf_X3_turned : GoodIn wsX3_kinOf wsX3_turned := goodIn_r _ [7, 8, 9, 3, 10] (by decide +kernel) (by decide +kernel)
set_option maxRecDepth 20000 in
theorem gX3_kinOf_X3_turned : GoodIn wsX3_kinOf (va_wsS RX3 19 yX3_turned wsX3_turned) := goodIn_app (goodIn_of _ (by decide +kernel)) ggX3_kinOf_X3_turned
theorem dX3_kinOf_0 : decode cX3_kinOf 0 = .ok (.iload_n 0, 1) := by decide +kernel
theorem dX3_kinOf_1 : decode cX3_kinOf 1 = .ok (.iload_n 1, 1) := by decide +kernel
theorem dX3_kinOf_2 : decode cX3_kinOf 2 = .ok (.invokestatic 15, 3) := by decide +kernel
theorem dX3_kinOf_5 : decode cX3_kinOf 5 = .ok (.istore_n 2, 1) := by decide +kernel
theorem dX3_kinOf_6 : decode cX3_kinOf 6 = .ok (.iconst 0, 1) := by decide +kernel
theorem dX3_kinOf_7 : decode cX3_kinOf 7 = .ok (.istore_n 3, 1) := by decide +kernel
theorem dX3_kinOf_8 : decode cX3_kinOf 8 = .ok (.iconst 0, 1) := by decide +kernel
theorem dX3_kinOf_9 : decode cX3_kinOf 9 = .ok (.istore 4, 2) := by decide +kernel
theorem dX3_kinOf_11 : decode cX3_kinOf 11 = .ok (.iload 4, 2) := by decide +kernel
theorem dX3_kinOf_13 : decode cX3_kinOf 13 = .ok (.iload_n 1, 1) := by decide +kernel
theorem dX3_kinOf_14 : decode cX3_kinOf 14 = .ok (.if_icmp .ge 37, 3) := by decide +kernel
theorem dX3_kinOf_17 : decode cX3_kinOf 17 = .ok (.iload_n 0, 1) := by decide +kernel
theorem dX3_kinOf_18 : decode cX3_kinOf 18 = .ok (.iload 4, 2) := by decide +kernel
theorem dX3_kinOf_20 : decode cX3_kinOf 20 = .ok (.iload_n 1, 1) := by decide +kernel
theorem dX3_kinOf_21 : decode cX3_kinOf 21 = .ok (.invokestatic 19, 3) := by decide +kernel
theorem dX3_kinOf_24 : decode cX3_kinOf 24 = .ok (.iload_n 0, 1) := by decide +kernel
theorem dX3_kinOf_25 : decode cX3_kinOf 25 = .ok (.if_icmp .ne 6, 3) := by decide +kernel
theorem dX3_kinOf_28 : decode cX3_kinOf 28 = .ok (.iinc 3 1, 3) := by decide +kernel
theorem dX3_kinOf_31 : decode cX3_kinOf 31 = .ok (.iload_n 2, 1) := by decide +kernel
theorem dX3_kinOf_32 : decode cX3_kinOf 32 = .ok (.iload 4, 2) := by decide +kernel
theorem dX3_kinOf_34 : decode cX3_kinOf 34 = .ok (.iload_n 1, 1) := by decide +kernel
theorem dX3_kinOf_35 : decode cX3_kinOf 35 = .ok (.invokestatic 19, 3) := by decide +kernel
theorem dX3_kinOf_38 : decode cX3_kinOf 38 = .ok (.iload_n 0, 1) := by decide +kernel
theorem dX3_kinOf_39 : decode cX3_kinOf 39 = .ok (.if_icmp .ne 6, 3) := by decide +kernel
theorem dX3_kinOf_42 : decode cX3_kinOf 42 = .ok (.iinc 3 1, 3) := by decide +kernel
theorem dX3_kinOf_45 : decode cX3_kinOf 45 = .ok (.iinc 4 1, 3) := by decide +kernel
theorem dX3_kinOf_48 : decode cX3_kinOf 48 = .ok (.goto (-37), 3) := by decide +kernel
theorem dX3_kinOf_51 : decode cX3_kinOf 51 = .ok (.iload_n 3, 1) := by decide +kernel
theorem dX3_kinOf_52 : decode cX3_kinOf 52 = .ok (.ireturn, 1) := by decide +kernel
set_option maxRecDepth 20000 in
theorem ggX3_firstImageThatIsForm_X3_formOf : GoodIn wsX3_firstImageThatIsForm wsX3_formOf := goodIn_r _ [4, 5, 6, 7, 8, 9, 10, 3, 11, 12, 13, 14, 15, 16, 17] (by decide +kernel) (by decide +kernel)
set_option maxRecDepth 20000 in
theorem gX3_firstImageThatIsForm_X3_formOf : GoodIn wsX3_firstImageThatIsForm (va_wsS RX3 28 yX3_formOf wsX3_formOf) := goodIn_app (goodIn_of _ (by decide +kernel)) ggX3_firstImageThatIsForm_X3_formOf
set_option maxRecDepth 20000 in
theorem ggX3_firstImageThatIsForm_X3_mirrored : GoodIn wsX3_firstImageThatIsForm wsX3_mirrored := goodIn_r _ [11] (by decide +kernel) (by decide +kernel)
set_option maxRecDepth 20000 in
theorem gX3_firstImageThatIsForm_X3_mirrored : GoodIn wsX3_firstImageThatIsForm (va_wsS RX3 15 yX3_mirrored wsX3_mirrored) := goodIn_app (goodIn_of _ (by decide +kernel)) ggX3_firstImageThatIsForm_X3_mirrored
set_option maxRecDepth 20000 in
theorem ggX3_firstImageThatIsForm_X3_turned : GoodIn wsX3_firstImageThatIsForm wsX3_turned := goodIn_r _ [14, 15, 16, 3, 17] (by decide +kernel) (by decide +kernel)
set_option maxRecDepth 20000 in
theorem gX3_firstImageThatIsForm_X3_turned : GoodIn wsX3_firstImageThatIsForm (va_wsS RX3 19 yX3_turned wsX3_turned) := goodIn_app (goodIn_of _ (by decide +kernel)) ggX3_firstImageThatIsForm_X3_turned
theorem dX3_firstImageThatIsForm_0 : decode cX3_firstImageThatIsForm 0 = .ok (.iload_n 0, 1) := by decide +kernel
theorem dX3_firstImageThatIsForm_1 : decode cX3_firstImageThatIsForm 1 = .ok (.iload_n 1, 1) := by decide +kernel
theorem dX3_firstImageThatIsForm_2 : decode cX3_firstImageThatIsForm 2 = .ok (.invokestatic 28, 3) := by decide +kernel
theorem dX3_firstImageThatIsForm_5 : decode cX3_firstImageThatIsForm 5 = .ok (.istore_n 2, 1) := by decide +kernel
theorem dX3_firstImageThatIsForm_6 : decode cX3_firstImageThatIsForm 6 = .ok (.iload_n 0, 1) := by decide +kernel
theorem dX3_firstImageThatIsForm_7 : decode cX3_firstImageThatIsForm 7 = .ok (.iload_n 1, 1) := by decide +kernel
theorem dX3_firstImageThatIsForm_8 : decode cX3_firstImageThatIsForm 8 = .ok (.invokestatic 15, 3) := by decide +kernel
theorem dX3_firstImageThatIsForm_11 : decode cX3_firstImageThatIsForm 11 = .ok (.istore_n 3, 1) := by decide +kernel
theorem dX3_firstImageThatIsForm_12 : decode cX3_firstImageThatIsForm 12 = .ok (.iconst 0, 1) := by decide +kernel
theorem dX3_firstImageThatIsForm_13 : decode cX3_firstImageThatIsForm 13 = .ok (.istore 4, 2) := by decide +kernel
theorem dX3_firstImageThatIsForm_15 : decode cX3_firstImageThatIsForm 15 = .ok (.iload 4, 2) := by decide +kernel
theorem dX3_firstImageThatIsForm_17 : decode cX3_firstImageThatIsForm 17 = .ok (.iload_n 1, 1) := by decide +kernel
theorem dX3_firstImageThatIsForm_18 : decode cX3_firstImageThatIsForm 18 = .ok (.if_icmp .ge 23, 3) := by decide +kernel
theorem dX3_firstImageThatIsForm_21 : decode cX3_firstImageThatIsForm 21 = .ok (.iload_n 0, 1) := by decide +kernel
theorem dX3_firstImageThatIsForm_22 : decode cX3_firstImageThatIsForm 22 = .ok (.iload 4, 2) := by decide +kernel
theorem dX3_firstImageThatIsForm_24 : decode cX3_firstImageThatIsForm 24 = .ok (.iload_n 1, 1) := by decide +kernel
theorem dX3_firstImageThatIsForm_25 : decode cX3_firstImageThatIsForm 25 = .ok (.invokestatic 19, 3) := by decide +kernel
theorem dX3_firstImageThatIsForm_28 : decode cX3_firstImageThatIsForm 28 = .ok (.iload_n 2, 1) := by decide +kernel
theorem dX3_firstImageThatIsForm_29 : decode cX3_firstImageThatIsForm 29 = .ok (.if_icmp .ne 6, 3) := by decide +kernel
theorem dX3_firstImageThatIsForm_32 : decode cX3_firstImageThatIsForm 32 = .ok (.iload 4, 2) := by decide +kernel
theorem dX3_firstImageThatIsForm_34 : decode cX3_firstImageThatIsForm 34 = .ok (.ireturn, 1) := by decide +kernel
theorem dX3_firstImageThatIsForm_35 : decode cX3_firstImageThatIsForm 35 = .ok (.iinc 4 1, 3) := by decide +kernel
theorem dX3_firstImageThatIsForm_38 : decode cX3_firstImageThatIsForm 38 = .ok (.goto (-23), 3) := by decide +kernel
theorem dX3_firstImageThatIsForm_41 : decode cX3_firstImageThatIsForm 41 = .ok (.iconst 0, 1) := by decide +kernel
theorem dX3_firstImageThatIsForm_42 : decode cX3_firstImageThatIsForm 42 = .ok (.istore 4, 2) := by decide +kernel
theorem dX3_firstImageThatIsForm_44 : decode cX3_firstImageThatIsForm 44 = .ok (.iload 4, 2) := by decide +kernel
theorem dX3_firstImageThatIsForm_46 : decode cX3_firstImageThatIsForm 46 = .ok (.iload_n 1, 1) := by decide +kernel
theorem dX3_firstImageThatIsForm_47 : decode cX3_firstImageThatIsForm 47 = .ok (.if_icmp .ge 25, 3) := by decide +kernel
theorem dX3_firstImageThatIsForm_50 : decode cX3_firstImageThatIsForm 50 = .ok (.iload_n 3, 1) := by decide +kernel
theorem dX3_firstImageThatIsForm_51 : decode cX3_firstImageThatIsForm 51 = .ok (.iload 4, 2) := by decide +kernel
theorem dX3_firstImageThatIsForm_53 : decode cX3_firstImageThatIsForm 53 = .ok (.iload_n 1, 1) := by decide +kernel
theorem dX3_firstImageThatIsForm_54 : decode cX3_firstImageThatIsForm 54 = .ok (.invokestatic 19, 3) := by decide +kernel
theorem dX3_firstImageThatIsForm_57 : decode cX3_firstImageThatIsForm 57 = .ok (.iload_n 2, 1) := by decide +kernel
theorem dX3_firstImageThatIsForm_58 : decode cX3_firstImageThatIsForm 58 = .ok (.if_icmp .ne 8, 3) := by decide +kernel
theorem dX3_firstImageThatIsForm_61 : decode cX3_firstImageThatIsForm 61 = .ok (.iload_n 1, 1) := by decide +kernel
theorem dX3_firstImageThatIsForm_62 : decode cX3_firstImageThatIsForm 62 = .ok (.iload 4, 2) := by decide +kernel
theorem dX3_firstImageThatIsForm_64 : decode cX3_firstImageThatIsForm 64 = .ok (.iadd, 1) := by decide +kernel
theorem dX3_firstImageThatIsForm_65 : decode cX3_firstImageThatIsForm 65 = .ok (.ireturn, 1) := by decide +kernel
theorem dX3_firstImageThatIsForm_66 : decode cX3_firstImageThatIsForm 66 = .ok (.iinc 4 1, 3) := by decide +kernel
theorem dX3_firstImageThatIsForm_69 : decode cX3_firstImageThatIsForm 69 = .ok (.goto (-25), 3) := by decide +kernel
theorem dX3_firstImageThatIsForm_72 : decode cX3_firstImageThatIsForm 72 = .ok (.iconst (-1), 1) := by decide +kernel
theorem dX3_firstImageThatIsForm_73 : decode cX3_firstImageThatIsForm 73 = .ok (.ireturn, 1) := by decide +kernel
set_option maxRecDepth 20000 in
theorem ggX3_pairsApart_X3_turned : GoodIn wsX3_pairsApart wsX3_turned := goodIn_r _ [4, 5, 6, 3, 7] (by decide +kernel) (by decide +kernel)
set_option maxRecDepth 20000 in
theorem gX3_pairsApart_X3_turned : GoodIn wsX3_pairsApart (va_wsS RX3 19 yX3_turned wsX3_turned) := goodIn_app (goodIn_of _ (by decide +kernel)) ggX3_pairsApart_X3_turned
set_option maxRecDepth 20000 in
theorem ggX3_pairsApart_J6_bitCount_0f7a4 : GoodIn wsX3_pairsApart wsJ6_bitCount_0f7a4 := goodIn_r _ [11, 12, 13, 14] (by decide +kernel) (by decide +kernel)
set_option maxRecDepth 20000 in
theorem gX3_pairsApart_J6_bitCount_0f7a4 : GoodIn wsX3_pairsApart (va_wsS RX3 31 yJ6_bitCount_0f7a4 wsJ6_bitCount_0f7a4) := goodIn_app (goodIn_of _ (by decide +kernel)) ggX3_pairsApart_J6_bitCount_0f7a4
theorem dX3_pairsApart_0 : decode cX3_pairsApart 0 = .ok (.iload_n 0, 1) := by decide +kernel
theorem dX3_pairsApart_1 : decode cX3_pairsApart 1 = .ok (.iload_n 0, 1) := by decide +kernel
theorem dX3_pairsApart_2 : decode cX3_pairsApart 2 = .ok (.iload_n 1, 1) := by decide +kernel
theorem dX3_pairsApart_3 : decode cX3_pairsApart 3 = .ok (.iload_n 2, 1) := by decide +kernel
theorem dX3_pairsApart_4 : decode cX3_pairsApart 4 = .ok (.invokestatic 19, 3) := by decide +kernel
theorem dX3_pairsApart_7 : decode cX3_pairsApart 7 = .ok (.iand, 1) := by decide +kernel
theorem dX3_pairsApart_8 : decode cX3_pairsApart 8 = .ok (.invokestatic 31, 3) := by decide +kernel
theorem dX3_pairsApart_11 : decode cX3_pairsApart 11 = .ok (.istore_n 3, 1) := by decide +kernel
theorem dX3_pairsApart_12 : decode cX3_pairsApart 12 = .ok (.iconst 2, 1) := by decide +kernel
theorem dX3_pairsApart_13 : decode cX3_pairsApart 13 = .ok (.iload_n 1, 1) := by decide +kernel
theorem dX3_pairsApart_14 : decode cX3_pairsApart 14 = .ok (.imul, 1) := by decide +kernel
theorem dX3_pairsApart_15 : decode cX3_pairsApart 15 = .ok (.iload_n 2, 1) := by decide +kernel
theorem dX3_pairsApart_16 : decode cX3_pairsApart 16 = .ok (.if_icmp .ne 9, 3) := by decide +kernel
theorem dX3_pairsApart_19 : decode cX3_pairsApart 19 = .ok (.iload_n 3, 1) := by decide +kernel
theorem dX3_pairsApart_20 : decode cX3_pairsApart 20 = .ok (.iconst 2, 1) := by decide +kernel
theorem dX3_pairsApart_21 : decode cX3_pairsApart 21 = .ok (.idiv, 1) := by decide +kernel
theorem dX3_pairsApart_22 : decode cX3_pairsApart 22 = .ok (.goto 4, 3) := by decide +kernel
theorem dX3_pairsApart_25 : decode cX3_pairsApart 25 = .ok (.iload_n 3, 1) := by decide +kernel
theorem dX3_pairsApart_26 : decode cX3_pairsApart 26 = .ok (.ireturn, 1) := by decide +kernel
set_option maxRecDepth 20000 in
theorem ggX3_intervalRow_X3_pairsApart : GoodIn wsX3_intervalRow wsX3_pairsApart := goodIn_r _ [4, 5, 6, 3, 7, 8, 9, 10, 11, 12, 13, 14, 15, 16, 17] (by decide +kernel) (by decide +kernel)
set_option maxRecDepth 20000 in
theorem gX3_intervalRow_X3_pairsApart : GoodIn wsX3_intervalRow (va_wsS RX3 36 yX3_pairsApart wsX3_pairsApart) := goodIn_app (goodIn_of _ (by decide +kernel)) ggX3_intervalRow_X3_pairsApart
theorem dX3_intervalRow_0 : decode cX3_intervalRow 0 = .ok (.iconst 0, 1) := by decide +kernel
theorem dX3_intervalRow_1 : decode cX3_intervalRow 1 = .ok (.istore_n 2, 1) := by decide +kernel
theorem dX3_intervalRow_2 : decode cX3_intervalRow 2 = .ok (.iconst 1, 1) := by decide +kernel
theorem dX3_intervalRow_3 : decode cX3_intervalRow 3 = .ok (.istore_n 3, 1) := by decide +kernel
theorem dX3_intervalRow_4 : decode cX3_intervalRow 4 = .ok (.iload_n 3, 1) := by decide +kernel
theorem dX3_intervalRow_5 : decode cX3_intervalRow 5 = .ok (.iload_n 1, 1) := by decide +kernel
theorem dX3_intervalRow_6 : decode cX3_intervalRow 6 = .ok (.iconst 2, 1) := by decide +kernel
theorem dX3_intervalRow_7 : decode cX3_intervalRow 7 = .ok (.idiv, 1) := by decide +kernel
theorem dX3_intervalRow_8 : decode cX3_intervalRow 8 = .ok (.if_icmp .gt 21, 3) := by decide +kernel
theorem dX3_intervalRow_11 : decode cX3_intervalRow 11 = .ok (.iload_n 2, 1) := by decide +kernel
theorem dX3_intervalRow_12 : decode cX3_intervalRow 12 = .ok (.bipush 16, 2) := by decide +kernel
theorem dX3_intervalRow_14 : decode cX3_intervalRow 14 = .ok (.imul, 1) := by decide +kernel
theorem dX3_intervalRow_15 : decode cX3_intervalRow 15 = .ok (.iload_n 0, 1) := by decide +kernel
theorem dX3_intervalRow_16 : decode cX3_intervalRow 16 = .ok (.iload_n 3, 1) := by decide +kernel
theorem dX3_intervalRow_17 : decode cX3_intervalRow 17 = .ok (.iload_n 1, 1) := by decide +kernel
theorem dX3_intervalRow_18 : decode cX3_intervalRow 18 = .ok (.invokestatic 36, 3) := by decide +kernel
theorem dX3_intervalRow_21 : decode cX3_intervalRow 21 = .ok (.iadd, 1) := by decide +kernel
theorem dX3_intervalRow_22 : decode cX3_intervalRow 22 = .ok (.istore_n 2, 1) := by decide +kernel
theorem dX3_intervalRow_23 : decode cX3_intervalRow 23 = .ok (.iinc 3 1, 3) := by decide +kernel
theorem dX3_intervalRow_26 : decode cX3_intervalRow 26 = .ok (.goto (-22), 3) := by decide +kernel
theorem dX3_intervalRow_29 : decode cX3_intervalRow 29 = .ok (.iload_n 2, 1) := by decide +kernel
theorem dX3_intervalRow_30 : decode cX3_intervalRow 30 = .ok (.ireturn, 1) := by decide +kernel
set_option maxRecDepth 20000 in
theorem ggX3_partsLike_X3_mirrored : GoodIn wsX3_partsLike wsX3_mirrored := goodIn_r _ [4] (by decide +kernel) (by decide +kernel)
set_option maxRecDepth 20000 in
theorem gX3_partsLike_X3_mirrored : GoodIn wsX3_partsLike (va_wsS RX3 15 yX3_mirrored wsX3_mirrored) := goodIn_app (goodIn_of _ (by decide +kernel)) ggX3_partsLike_X3_mirrored
set_option maxRecDepth 20000 in
theorem ggX3_partsLike_X3_turned : GoodIn wsX3_partsLike wsX3_turned := goodIn_r _ [7, 8, 9, 3, 10] (by decide +kernel) (by decide +kernel)
set_option maxRecDepth 20000 in
theorem gX3_partsLike_X3_turned : GoodIn wsX3_partsLike (va_wsS RX3 19 yX3_turned wsX3_turned) := goodIn_app (goodIn_of _ (by decide +kernel)) ggX3_partsLike_X3_turned
set_option maxRecDepth 20000 in
theorem ggX3_partsLike_X3_kinOf : GoodIn wsX3_partsLike wsX3_kinOf := goodIn_r _ [13, 1, 2, 3, 4, 5, 6, 7, 8, 9, 10] (by decide +kernel) (by decide +kernel)
set_option maxRecDepth 20000 in
theorem gX3_partsLike_X3_kinOf : GoodIn wsX3_partsLike (va_wsS RX3 39 yX3_kinOf wsX3_kinOf) := goodIn_app (goodIn_of _ (by decide +kernel)) ggX3_partsLike_X3_kinOf
theorem dX3_partsLike_0 : decode cX3_partsLike 0 = .ok (.iload_n 1, 1) := by decide +kernel
theorem dX3_partsLike_1 : decode cX3_partsLike 1 = .ok (.iload_n 2, 1) := by decide +kernel
theorem dX3_partsLike_2 : decode cX3_partsLike 2 = .ok (.invokestatic 15, 3) := by decide +kernel
theorem dX3_partsLike_5 : decode cX3_partsLike 5 = .ok (.istore_n 3, 1) := by decide +kernel
theorem dX3_partsLike_6 : decode cX3_partsLike 6 = .ok (.iconst 0, 1) := by decide +kernel
theorem dX3_partsLike_7 : decode cX3_partsLike 7 = .ok (.istore 4, 2) := by decide +kernel
theorem dX3_partsLike_9 : decode cX3_partsLike 9 = .ok (.iconst 0, 1) := by decide +kernel
theorem dX3_partsLike_10 : decode cX3_partsLike 10 = .ok (.istore 5, 2) := by decide +kernel
theorem dX3_partsLike_12 : decode cX3_partsLike 12 = .ok (.iload 5, 2) := by decide +kernel
theorem dX3_partsLike_14 : decode cX3_partsLike 14 = .ok (.iload_n 2, 1) := by decide +kernel
theorem dX3_partsLike_15 : decode cX3_partsLike 15 = .ok (.if_icmp .ge 43, 3) := by decide +kernel
theorem dX3_partsLike_18 : decode cX3_partsLike 18 = .ok (.iload_n 1, 1) := by decide +kernel
theorem dX3_partsLike_19 : decode cX3_partsLike 19 = .ok (.iload 5, 2) := by decide +kernel
theorem dX3_partsLike_21 : decode cX3_partsLike 21 = .ok (.iload_n 2, 1) := by decide +kernel
theorem dX3_partsLike_22 : decode cX3_partsLike 22 = .ok (.invokestatic 19, 3) := by decide +kernel
theorem dX3_partsLike_25 : decode cX3_partsLike 25 = .ok (.iload_n 0, 1) := by decide +kernel
theorem dX3_partsLike_26 : decode cX3_partsLike 26 = .ok (.iconst (-1), 1) := by decide +kernel
theorem dX3_partsLike_27 : decode cX3_partsLike 27 = .ok (.ixor, 1) := by decide +kernel
theorem dX3_partsLike_28 : decode cX3_partsLike 28 = .ok (.iand, 1) := by decide +kernel
theorem dX3_partsLike_29 : decode cX3_partsLike 29 = .ok (.ifCond .ne 6, 3) := by decide +kernel
theorem dX3_partsLike_32 : decode cX3_partsLike 32 = .ok (.iinc 4 1, 3) := by decide +kernel
theorem dX3_partsLike_35 : decode cX3_partsLike 35 = .ok (.iload_n 3, 1) := by decide +kernel
theorem dX3_partsLike_36 : decode cX3_partsLike 36 = .ok (.iload 5, 2) := by decide +kernel
theorem dX3_partsLike_38 : decode cX3_partsLike 38 = .ok (.iload_n 2, 1) := by decide +kernel
theorem dX3_partsLike_39 : decode cX3_partsLike 39 = .ok (.invokestatic 19, 3) := by decide +kernel
theorem dX3_partsLike_42 : decode cX3_partsLike 42 = .ok (.iload_n 0, 1) := by decide +kernel
theorem dX3_partsLike_43 : decode cX3_partsLike 43 = .ok (.iconst (-1), 1) := by decide +kernel
theorem dX3_partsLike_44 : decode cX3_partsLike 44 = .ok (.ixor, 1) := by decide +kernel
theorem dX3_partsLike_45 : decode cX3_partsLike 45 = .ok (.iand, 1) := by decide +kernel
theorem dX3_partsLike_46 : decode cX3_partsLike 46 = .ok (.ifCond .ne 6, 3) := by decide +kernel
theorem dX3_partsLike_49 : decode cX3_partsLike 49 = .ok (.iinc 4 1, 3) := by decide +kernel
theorem dX3_partsLike_52 : decode cX3_partsLike 52 = .ok (.iinc 5 1, 3) := by decide +kernel
theorem dX3_partsLike_55 : decode cX3_partsLike 55 = .ok (.goto (-43), 3) := by decide +kernel
theorem dX3_partsLike_58 : decode cX3_partsLike 58 = .ok (.iload_n 1, 1) := by decide +kernel
theorem dX3_partsLike_59 : decode cX3_partsLike 59 = .ok (.iload_n 2, 1) := by decide +kernel
theorem dX3_partsLike_60 : decode cX3_partsLike 60 = .ok (.invokestatic 39, 3) := by decide +kernel
theorem dX3_partsLike_63 : decode cX3_partsLike 63 = .ok (.istore 5, 2) := by decide +kernel
theorem dX3_partsLike_65 : decode cX3_partsLike 65 = .ok (.iload 5, 2) := by decide +kernel
theorem dX3_partsLike_67 : decode cX3_partsLike 67 = .ok (.ifCond .le 11, 3) := by decide +kernel
theorem dX3_partsLike_70 : decode cX3_partsLike 70 = .ok (.iload 4, 2) := by decide +kernel
theorem dX3_partsLike_72 : decode cX3_partsLike 72 = .ok (.iload 5, 2) := by decide +kernel
theorem dX3_partsLike_74 : decode cX3_partsLike 74 = .ok (.idiv, 1) := by decide +kernel
theorem dX3_partsLike_75 : decode cX3_partsLike 75 = .ok (.goto 4, 3) := by decide +kernel
theorem dX3_partsLike_78 : decode cX3_partsLike 78 = .ok (.iconst 0, 1) := by decide +kernel
theorem dX3_partsLike_79 : decode cX3_partsLike 79 = .ok (.ireturn, 1) := by decide +kernel
set_option maxRecDepth 20000 in
theorem ggX3_changed_X3_turned : GoodIn wsX3_changed wsX3_turned := goodIn_r _ [6, 7, 8, 5, 9] (by decide +kernel) (by decide +kernel)
set_option maxRecDepth 20000 in
theorem gX3_changed_X3_turned : GoodIn wsX3_changed (va_wsS RX3 19 yX3_turned wsX3_turned) := goodIn_app (goodIn_of _ (by decide +kernel)) ggX3_changed_X3_turned
set_option maxRecDepth 20000 in
theorem ggX3_changed_X3_mirrored : GoodIn wsX3_changed wsX3_mirrored := goodIn_r _ [12] (by decide +kernel) (by decide +kernel)
set_option maxRecDepth 20000 in
theorem gX3_changed_X3_mirrored : GoodIn wsX3_changed (va_wsS RX3 15 yX3_mirrored wsX3_mirrored) := goodIn_app (goodIn_of _ (by decide +kernel)) ggX3_changed_X3_mirrored
set_option maxRecDepth 20000 in
theorem ggX3_changed_X3_haveCommonDivisor : GoodIn wsX3_changed wsX3_haveCommonDivisor := goodIn_r _ [15] (by decide +kernel) (by decide +kernel)
set_option maxRecDepth 20000 in
theorem gX3_changed_X3_haveCommonDivisor : GoodIn wsX3_changed (va_wsS RX3 43 yX3_haveCommonDivisor wsX3_haveCommonDivisor) := goodIn_app (goodIn_of _ (by decide +kernel)) ggX3_changed_X3_haveCommonDivisor
set_option maxRecDepth 20000 in
theorem ggX3_changed_X3_multiplied : GoodIn wsX3_changed wsX3_multiplied := goodIn_r _ [18] (by decide +kernel) (by decide +kernel)
set_option maxRecDepth 20000 in
theorem gX3_changed_X3_multiplied : GoodIn wsX3_changed (va_wsS RX3 48 yX3_multiplied wsX3_multiplied) := goodIn_app (goodIn_of _ (by decide +kernel)) ggX3_changed_X3_multiplied
set_option maxRecDepth 20000 in
theorem ggX3_changed_X3_allTones : GoodIn wsX3_changed wsX3_allTones := goodIn_r _ [9] (by decide +kernel) (by decide +kernel)
set_option maxRecDepth 20000 in
theorem gX3_changed_X3_allTones : GoodIn wsX3_changed (va_wsS RX3 9 yX3_allTones wsX3_allTones) := goodIn_app (goodIn_of _ (by decide +kernel)) ggX3_changed_X3_allTones
set_option maxRecDepth 20000 in
theorem ggX3_changed_X3_formOf : GoodIn wsX3_changed wsX3_formOf := goodIn_r _ [21, 22, 23, 24, 25, 10, 11, 5, 12, 3, 4, 6, 7, 8, 9] (by decide +kernel) (by decide +kernel)
set_option maxRecDepth 20000 in
theorem gX3_changed_X3_formOf : GoodIn wsX3_changed (va_wsS RX3 28 yX3_formOf wsX3_formOf) := goodIn_app (goodIn_of _ (by decide +kernel)) ggX3_changed_X3_formOf
theorem dX3_changed_0 : decode cX3_changed 0 = .ok (.iload_n 1, 1) := by decide +kernel
theorem dX3_changed_1 : decode cX3_changed 1 = .ok (.tableswitch 134 0 5 #[39, 60, 66, 99, 108, 128], 39) := by decide +kernel
theorem dX3_changed_40 : decode cX3_changed 40 = .ok (.iload_n 2, 1) := by decide +kernel
theorem dX3_changed_41 : decode cX3_changed 41 = .ok (.ifCond .lt 8, 3) := by decide +kernel
theorem dX3_changed_44 : decode cX3_changed 44 = .ok (.iload_n 2, 1) := by decide +kernel
theorem dX3_changed_45 : decode cX3_changed 45 = .ok (.iload_n 3, 1) := by decide +kernel
theorem dX3_changed_46 : decode cX3_changed 46 = .ok (.if_icmp .lt 8, 3) := by decide +kernel
theorem dX3_changed_49 : decode cX3_changed 49 = .ok (.ldc 42, 2) := by decide +kernel
theorem dX3_changed_51 : decode cX3_changed 51 = .ok (.goto 9, 3) := by decide +kernel
theorem dX3_changed_54 : decode cX3_changed 54 = .ok (.iload_n 0, 1) := by decide +kernel
theorem dX3_changed_55 : decode cX3_changed 55 = .ok (.iload_n 2, 1) := by decide +kernel
theorem dX3_changed_56 : decode cX3_changed 56 = .ok (.iload_n 3, 1) := by decide +kernel
theorem dX3_changed_57 : decode cX3_changed 57 = .ok (.invokestatic 19, 3) := by decide +kernel
theorem dX3_changed_60 : decode cX3_changed 60 = .ok (.ireturn, 1) := by decide +kernel
theorem dX3_changed_61 : decode cX3_changed 61 = .ok (.iload_n 0, 1) := by decide +kernel
theorem dX3_changed_62 : decode cX3_changed 62 = .ok (.iload_n 3, 1) := by decide +kernel
theorem dX3_changed_63 : decode cX3_changed 63 = .ok (.invokestatic 15, 3) := by decide +kernel
theorem dX3_changed_66 : decode cX3_changed 66 = .ok (.ireturn, 1) := by decide +kernel
theorem dX3_changed_67 : decode cX3_changed 67 = .ok (.iload_n 2, 1) := by decide +kernel
theorem dX3_changed_68 : decode cX3_changed 68 = .ok (.iconst 1, 1) := by decide +kernel
theorem dX3_changed_69 : decode cX3_changed 69 = .ok (.if_icmp .lt 8, 3) := by decide +kernel
theorem dX3_changed_72 : decode cX3_changed 72 = .ok (.iload_n 2, 1) := by decide +kernel
theorem dX3_changed_73 : decode cX3_changed 73 = .ok (.iload_n 3, 1) := by decide +kernel
theorem dX3_changed_74 : decode cX3_changed 74 = .ok (.if_icmp .lt 6, 3) := by decide +kernel
theorem dX3_changed_77 : decode cX3_changed 77 = .ok (.ldc 42, 2) := by decide +kernel
theorem dX3_changed_79 : decode cX3_changed 79 = .ok (.ireturn, 1) := by decide +kernel
theorem dX3_changed_80 : decode cX3_changed 80 = .ok (.iload_n 2, 1) := by decide +kernel
theorem dX3_changed_81 : decode cX3_changed 81 = .ok (.iload_n 3, 1) := by decide +kernel
theorem dX3_changed_82 : decode cX3_changed 82 = .ok (.invokestatic 43, 3) := by decide +kernel
theorem dX3_changed_85 : decode cX3_changed 85 = .ok (.ifCond .eq 8, 3) := by decide +kernel
theorem dX3_changed_88 : decode cX3_changed 88 = .ok (.ldc 47, 2) := by decide +kernel
theorem dX3_changed_90 : decode cX3_changed 90 = .ok (.goto 9, 3) := by decide +kernel
theorem dX3_changed_93 : decode cX3_changed 93 = .ok (.iload_n 0, 1) := by decide +kernel
theorem dX3_changed_94 : decode cX3_changed 94 = .ok (.iload_n 2, 1) := by decide +kernel
theorem dX3_changed_95 : decode cX3_changed 95 = .ok (.iload_n 3, 1) := by decide +kernel
theorem dX3_changed_96 : decode cX3_changed 96 = .ok (.invokestatic 48, 3) := by decide +kernel
theorem dX3_changed_99 : decode cX3_changed 99 = .ok (.ireturn, 1) := by decide +kernel
theorem dX3_changed_100 : decode cX3_changed 100 = .ok (.iload_n 3, 1) := by decide +kernel
theorem dX3_changed_101 : decode cX3_changed 101 = .ok (.invokestatic 9, 3) := by decide +kernel
theorem dX3_changed_104 : decode cX3_changed 104 = .ok (.iload_n 0, 1) := by decide +kernel
theorem dX3_changed_105 : decode cX3_changed 105 = .ok (.iconst (-1), 1) := by decide +kernel
theorem dX3_changed_106 : decode cX3_changed 106 = .ok (.ixor, 1) := by decide +kernel
theorem dX3_changed_107 : decode cX3_changed 107 = .ok (.iand, 1) := by decide +kernel
theorem dX3_changed_108 : decode cX3_changed 108 = .ok (.ireturn, 1) := by decide +kernel
theorem dX3_changed_109 : decode cX3_changed 109 = .ok (.iload_n 2, 1) := by decide +kernel
theorem dX3_changed_110 : decode cX3_changed 110 = .ok (.ifCond .lt 8, 3) := by decide +kernel
theorem dX3_changed_113 : decode cX3_changed 113 = .ok (.iload_n 2, 1) := by decide +kernel
theorem dX3_changed_114 : decode cX3_changed 114 = .ok (.iload_n 3, 1) := by decide +kernel
theorem dX3_changed_115 : decode cX3_changed 115 = .ok (.if_icmp .lt 8, 3) := by decide +kernel
theorem dX3_changed_118 : decode cX3_changed 118 = .ok (.ldc 42, 2) := by decide +kernel
theorem dX3_changed_120 : decode cX3_changed 120 = .ok (.goto 8, 3) := by decide +kernel
theorem dX3_changed_123 : decode cX3_changed 123 = .ok (.iload_n 0, 1) := by decide +kernel
theorem dX3_changed_124 : decode cX3_changed 124 = .ok (.iconst 1, 1) := by decide +kernel
theorem dX3_changed_125 : decode cX3_changed 125 = .ok (.iload_n 2, 1) := by decide +kernel
theorem dX3_changed_126 : decode cX3_changed 126 = .ok (.ishl, 1) := by decide +kernel
theorem dX3_changed_127 : decode cX3_changed 127 = .ok (.ixor, 1) := by decide +kernel
theorem dX3_changed_128 : decode cX3_changed 128 = .ok (.ireturn, 1) := by decide +kernel
theorem dX3_changed_129 : decode cX3_changed 129 = .ok (.iload_n 0, 1) := by decide +kernel
theorem dX3_changed_130 : decode cX3_changed 130 = .ok (.iload_n 3, 1) := by decide +kernel
theorem dX3_changed_131 : decode cX3_changed 131 = .ok (.invokestatic 28, 3) := by decide +kernel
theorem dX3_changed_134 : decode cX3_changed 134 = .ok (.ireturn, 1) := by decide +kernel
theorem dX3_changed_135 : decode cX3_changed 135 = .ok (.ldc 42, 2) := by decide +kernel
theorem dX3_changed_137 : decode cX3_changed 137 = .ok (.ireturn, 1) := by decide +kernel
theorem dX3_haveCommonDivisor_0 : decode cX3_haveCommonDivisor 0 = .ok (.iconst 2, 1) := by decide +kernel
theorem dX3_haveCommonDivisor_1 : decode cX3_haveCommonDivisor 1 = .ok (.istore_n 2, 1) := by decide +kernel
theorem dX3_haveCommonDivisor_2 : decode cX3_haveCommonDivisor 2 = .ok (.iload_n 2, 1) := by decide +kernel
theorem dX3_haveCommonDivisor_3 : decode cX3_haveCommonDivisor 3 = .ok (.iload_n 0, 1) := by decide +kernel
theorem dX3_haveCommonDivisor_4 : decode cX3_haveCommonDivisor 4 = .ok (.if_icmp .gt 23, 3) := by decide +kernel
theorem dX3_haveCommonDivisor_7 : decode cX3_haveCommonDivisor 7 = .ok (.iload_n 0, 1) := by decide +kernel
theorem dX3_haveCommonDivisor_8 : decode cX3_haveCommonDivisor 8 = .ok (.iload_n 2, 1) := by decide +kernel
theorem dX3_haveCommonDivisor_9 : decode cX3_haveCommonDivisor 9 = .ok (.irem, 1) := by decide +kernel
theorem dX3_haveCommonDivisor_10 : decode cX3_haveCommonDivisor 10 = .ok (.ifCond .ne 11, 3) := by decide +kernel
theorem dX3_haveCommonDivisor_13 : decode cX3_haveCommonDivisor 13 = .ok (.iload_n 1, 1) := by decide +kernel
theorem dX3_haveCommonDivisor_14 : decode cX3_haveCommonDivisor 14 = .ok (.iload_n 2, 1) := by decide +kernel
theorem dX3_haveCommonDivisor_15 : decode cX3_haveCommonDivisor 15 = .ok (.irem, 1) := by decide +kernel
theorem dX3_haveCommonDivisor_16 : decode cX3_haveCommonDivisor 16 = .ok (.ifCond .ne 5, 3) := by decide +kernel
theorem dX3_haveCommonDivisor_19 : decode cX3_haveCommonDivisor 19 = .ok (.iconst 1, 1) := by decide +kernel
theorem dX3_haveCommonDivisor_20 : decode cX3_haveCommonDivisor 20 = .ok (.ireturn, 1) := by decide +kernel
theorem dX3_haveCommonDivisor_21 : decode cX3_haveCommonDivisor 21 = .ok (.iinc 2 1, 3) := by decide +kernel
theorem dX3_haveCommonDivisor_24 : decode cX3_haveCommonDivisor 24 = .ok (.goto (-22), 3) := by decide +kernel
theorem dX3_haveCommonDivisor_27 : decode cX3_haveCommonDivisor 27 = .ok (.iconst 0, 1) := by decide +kernel
theorem dX3_haveCommonDivisor_28 : decode cX3_haveCommonDivisor 28 = .ok (.ireturn, 1) := by decide +kernel
theorem dX3_joined_0 : decode cX3_joined 0 = .ok (.iload_n 2, 1) := by decide +kernel
theorem dX3_joined_1 : decode cX3_joined 1 = .ok (.tableswitch 49 0 3 #[31, 35, 39, 43], 31) := by decide +kernel
theorem dX3_joined_32 : decode cX3_joined 32 = .ok (.iload_n 0, 1) := by decide +kernel
theorem dX3_joined_33 : decode cX3_joined 33 = .ok (.iload_n 1, 1) := by decide +kernel
theorem dX3_joined_34 : decode cX3_joined 34 = .ok (.iand, 1) := by decide +kernel
theorem dX3_joined_35 : decode cX3_joined 35 = .ok (.ireturn, 1) := by decide +kernel
theorem dX3_joined_36 : decode cX3_joined 36 = .ok (.iload_n 0, 1) := by decide +kernel
theorem dX3_joined_37 : decode cX3_joined 37 = .ok (.iload_n 1, 1) := by decide +kernel
theorem dX3_joined_38 : decode cX3_joined 38 = .ok (.ior, 1) := by decide +kernel
theorem dX3_joined_39 : decode cX3_joined 39 = .ok (.ireturn, 1) := by decide +kernel
theorem dX3_joined_40 : decode cX3_joined 40 = .ok (.iload_n 0, 1) := by decide +kernel
theorem dX3_joined_41 : decode cX3_joined 41 = .ok (.iload_n 1, 1) := by decide +kernel
theorem dX3_joined_42 : decode cX3_joined 42 = .ok (.ixor, 1) := by decide +kernel
theorem dX3_joined_43 : decode cX3_joined 43 = .ok (.ireturn, 1) := by decide +kernel
theorem dX3_joined_44 : decode cX3_joined 44 = .ok (.iload_n 0, 1) := by decide +kernel
theorem dX3_joined_45 : decode cX3_joined 45 = .ok (.iload_n 1, 1) := by decide +kernel
theorem dX3_joined_46 : decode cX3_joined 46 = .ok (.iconst (-1), 1) := by decide +kernel
theorem dX3_joined_47 : decode cX3_joined 47 = .ok (.ixor, 1) := by decide +kernel
theorem dX3_joined_48 : decode cX3_joined 48 = .ok (.iand, 1) := by decide +kernel
theorem dX3_joined_49 : decode cX3_joined 49 = .ok (.ireturn, 1) := by decide +kernel
theorem dX3_joined_50 : decode cX3_joined 50 = .ok (.ldc 42, 2) := by decide +kernel
theorem dX3_joined_52 : decode cX3_joined 52 = .ok (.ireturn, 1) := by decide +kernel
theorem dX4_init_0 : decode cX4_init 0 = .ok (.aload_n 0, 1) := by decide +kernel
theorem dX4_init_1 : decode cX4_init 1 = .ok (.invokespecial 3, 3) := by decide +kernel
theorem dX4_init_4 : decode cX4_init 4 = .ok (.aload_n 0, 1) := by decide +kernel
theorem dX4_init_5 : decode cX4_init 5 = .ok (.iconst 0, 1) := by decide +kernel
theorem dX4_init_6 : decode cX4_init 6 = .ok (.putfield 9, 3) := by decide +kernel
theorem dX4_init_9 : decode cX4_init 9 = .ok (.aload_n 0, 1) := by decide +kernel
theorem dX4_init_10 : decode cX4_init 10 = .ok (.bipush 8, 2) := by decide +kernel
theorem dX4_init_12 : decode cX4_init 12 = .ok (.newarray .int, 2) := by decide +kernel
theorem dX4_init_14 : decode cX4_init 14 = .ok (.putfield 15, 3) := by decide +kernel
theorem dX4_init_17 : decode cX4_init 17 = .ok (.aload_n 0, 1) := by decide +kernel
theorem dX4_init_18 : decode cX4_init 18 = .ok (.bipush 64, 2) := by decide +kernel
theorem dX4_init_20 : decode cX4_init 20 = .ok (.newarray .int, 2) := by decide +kernel
theorem dX4_init_22 : decode cX4_init 22 = .ok (.putfield 19, 3) := by decide +kernel
theorem dX4_init_25 : decode cX4_init 25 = .ok (.aload_n 0, 1) := by decide +kernel
theorem dX4_init_26 : decode cX4_init 26 = .ok (.sipush 896, 3) := by decide +kernel
theorem dX4_init_29 : decode cX4_init 29 = .ok (.newarray .int, 2) := by decide +kernel
theorem dX4_init_31 : decode cX4_init 31 = .ok (.putfield 22, 3) := by decide +kernel
theorem dX4_init_34 : decode cX4_init 34 = .ok (.return_, 1) := by decide +kernel
set_option maxRecDepth 20000 in
theorem ggX4_least_X4_listStops : GoodIn wsX4_least wsX4_listStops := goodIn_r _ [12, 1, 13, 14, 15, 16, 17, 18, 19, 20, 21, 22, 23, 24, 25, 96, 97, 98, 99, 100, 101, 102, 103] (by decide +kernel) (by decide +kernel)
set_option maxRecDepth 20000 in
theorem gX4_least_X4_listStops : GoodIn wsX4_least (wsV RX4 25 RX4 yX4_listStops wsX4_listStops) := goodIn_app (goodIn_of _ (by decide +kernel)) ggX4_least_X4_listStops
set_option maxRecDepth 20000 in
theorem ggX4_least_X4_measure : GoodIn wsX4_least wsX4_measure := goodIn_r _ [29, 1, 14, 30, 31, 32, 33, 34, 35, 36, 37, 38, 39, 40, 41, 42, 43, 44, 45, 46, 47, 48, 49, 50, 51, 52, 53, 54, 55, 56, 57, 58, 59, 60, 6, 61, 62, 5, 7, 63, 64, 65, 66, 67, 68, 69, 70, 71, 72, 73, 74, 75, 76, 77, 78, 79, 80, 81, 82, 83, 84, 85, 86, 87, 88, 89, 90, 96, 97, 98, 99, 104, 105, 106, 107, 108, 109, 110, 111, 112, 113, 114, 115, 116] (by decide +kernel) (by decide +kernel)
set_option maxRecDepth 20000 in
theorem gX4_least_X4_measure : GoodIn wsX4_least (wsV RX4 34 RX4 yX4_measure wsX4_measure) := goodIn_app (goodIn_of _ (by decide +kernel)) ggX4_least_X4_measure
set_option maxRecDepth 20000 in
theorem ggX4_least_X4_leastTo : GoodIn wsX4_least wsX4_leastTo := goodIn_r _ [94, 30, 95, 3, 4, 5, 6, 7, 96, 97, 98, 99] (by decide +kernel) (by decide +kernel)
set_option maxRecDepth 20000 in
theorem gX4_least_X4_leastTo : GoodIn wsX4_least (wsV RX4 38 RX4 yX4_leastTo wsX4_leastTo) := goodIn_app (goodIn_of _ (by decide +kernel)) ggX4_least_X4_leastTo
theorem dX4_least_0 : decode cX4_least 0 = .ok (.aload_n 0, 1) := by decide +kernel
theorem dX4_least_1 : decode cX4_least 1 = .ok (.aload_n 1, 1) := by decide +kernel
theorem dX4_least_2 : decode cX4_least 2 = .ok (.invokevirtual 25, 3) := by decide +kernel
theorem dX4_least_5 : decode cX4_least 5 = .ok (.aload_n 0, 1) := by decide +kernel
theorem dX4_least_6 : decode cX4_least 6 = .ok (.getfield 9, 3) := by decide +kernel
theorem dX4_least_9 : decode cX4_least 9 = .ok (.iconst 2, 1) := by decide +kernel
theorem dX4_least_10 : decode cX4_least 10 = .ok (.if_icmp .ge 5, 3) := by decide +kernel
theorem dX4_least_13 : decode cX4_least 13 = .ok (.iconst 0, 1) := by decide +kernel
theorem dX4_least_14 : decode cX4_least 14 = .ok (.ireturn, 1) := by decide +kernel
theorem dX4_least_15 : decode cX4_least 15 = .ok (.aload_n 0, 1) := by decide +kernel
theorem dX4_least_16 : decode cX4_least 16 = .ok (.aload_n 1, 1) := by decide +kernel
theorem dX4_least_17 : decode cX4_least 17 = .ok (.getfield 29, 3) := by decide +kernel
theorem dX4_least_20 : decode cX4_least 20 = .ok (.aload_n 2, 1) := by decide +kernel
theorem dX4_least_21 : decode cX4_least 21 = .ok (.invokevirtual 34, 3) := by decide +kernel
theorem dX4_least_24 : decode cX4_least 24 = .ok (.aload_n 0, 1) := by decide +kernel
theorem dX4_least_25 : decode cX4_least 25 = .ok (.getfield 9, 3) := by decide +kernel
theorem dX4_least_28 : decode cX4_least 28 = .ok (.iconst 1, 1) := by decide +kernel
theorem dX4_least_29 : decode cX4_least 29 = .ok (.isub, 1) := by decide +kernel
theorem dX4_least_30 : decode cX4_least 30 = .ok (.istore_n 3, 1) := by decide +kernel
theorem dX4_least_31 : decode cX4_least 31 = .ok (.iconst 1, 1) := by decide +kernel
theorem dX4_least_32 : decode cX4_least 32 = .ok (.iload_n 3, 1) := by decide +kernel
theorem dX4_least_33 : decode cX4_least 33 = .ok (.ishl, 1) := by decide +kernel
theorem dX4_least_34 : decode cX4_least 34 = .ok (.iconst 1, 1) := by decide +kernel
theorem dX4_least_35 : decode cX4_least 35 = .ok (.isub, 1) := by decide +kernel
theorem dX4_least_36 : decode cX4_least 36 = .ok (.istore 4, 2) := by decide +kernel
theorem dX4_least_38 : decode cX4_least 38 = .ok (.iconst 1, 1) := by decide +kernel
theorem dX4_least_39 : decode cX4_least 39 = .ok (.istore 5, 2) := by decide +kernel
theorem dX4_least_41 : decode cX4_least 41 = .ok (.iload 5, 2) := by decide +kernel
theorem dX4_least_43 : decode cX4_least 43 = .ok (.iload 4, 2) := by decide +kernel
theorem dX4_least_45 : decode cX4_least 45 = .ok (.if_icmp .gt 63, 3) := by decide +kernel
theorem dX4_least_48 : decode cX4_least 48 = .ok (.iconst 0, 1) := by decide +kernel
theorem dX4_least_49 : decode cX4_least 49 = .ok (.istore 6, 2) := by decide +kernel
theorem dX4_least_51 : decode cX4_least 51 = .ok (.iload 6, 2) := by decide +kernel
theorem dX4_least_53 : decode cX4_least 53 = .ok (.iload_n 3, 1) := by decide +kernel
theorem dX4_least_54 : decode cX4_least 54 = .ok (.if_icmp .ge 48, 3) := by decide +kernel
theorem dX4_least_57 : decode cX4_least 57 = .ok (.iload 5, 2) := by decide +kernel
theorem dX4_least_59 : decode cX4_least 59 = .ok (.iconst 1, 1) := by decide +kernel
theorem dX4_least_60 : decode cX4_least 60 = .ok (.iload 6, 2) := by decide +kernel
theorem dX4_least_62 : decode cX4_least 62 = .ok (.ishl, 1) := by decide +kernel
theorem dX4_least_63 : decode cX4_least 63 = .ok (.iand, 1) := by decide +kernel
theorem dX4_least_64 : decode cX4_least 64 = .ok (.ifCond .eq 32, 3) := by decide +kernel
theorem dX4_least_67 : decode cX4_least 67 = .ok (.aload_n 0, 1) := by decide +kernel
theorem dX4_least_68 : decode cX4_least 68 = .ok (.getfield 22, 3) := by decide +kernel
theorem dX4_least_71 : decode cX4_least 71 = .ok (.iload 5, 2) := by decide +kernel
theorem dX4_least_73 : decode cX4_least 73 = .ok (.bipush 7, 2) := by decide +kernel
theorem dX4_least_75 : decode cX4_least 75 = .ok (.imul, 1) := by decide +kernel
theorem dX4_least_76 : decode cX4_least 76 = .ok (.iload 6, 2) := by decide +kernel
theorem dX4_least_78 : decode cX4_least 78 = .ok (.iadd, 1) := by decide +kernel
theorem dX4_least_79 : decode cX4_least 79 = .ok (.aload_n 0, 1) := by decide +kernel
theorem dX4_least_80 : decode cX4_least 80 = .ok (.iload 6, 2) := by decide +kernel
theorem dX4_least_82 : decode cX4_least 82 = .ok (.iload 5, 2) := by decide +kernel
theorem dX4_least_84 : decode cX4_least 84 = .ok (.iconst 1, 1) := by decide +kernel
theorem dX4_least_85 : decode cX4_least 85 = .ok (.iload 6, 2) := by decide +kernel
theorem dX4_least_87 : decode cX4_least 87 = .ok (.ishl, 1) := by decide +kernel
theorem dX4_least_88 : decode cX4_least 88 = .ok (.iconst (-1), 1) := by decide +kernel
theorem dX4_least_89 : decode cX4_least 89 = .ok (.ixor, 1) := by decide +kernel
theorem dX4_least_90 : decode cX4_least 90 = .ok (.iand, 1) := by decide +kernel
theorem dX4_least_91 : decode cX4_least 91 = .ok (.iload_n 3, 1) := by decide +kernel
theorem dX4_least_92 : decode cX4_least 92 = .ok (.invokevirtual 38, 3) := by decide +kernel
theorem dX4_least_95 : decode cX4_least 95 = .ok (.iastore, 1) := by decide +kernel
theorem dX4_least_96 : decode cX4_least 96 = .ok (.iinc 6 1, 3) := by decide +kernel
theorem dX4_least_99 : decode cX4_least 99 = .ok (.goto (-48), 3) := by decide +kernel
theorem dX4_least_102 : decode cX4_least 102 = .ok (.iinc 5 1, 3) := by decide +kernel
theorem dX4_least_105 : decode cX4_least 105 = .ok (.goto (-64), 3) := by decide +kernel
theorem dX4_least_108 : decode cX4_least 108 = .ok (.aload_n 0, 1) := by decide +kernel
theorem dX4_least_109 : decode cX4_least 109 = .ok (.getfield 22, 3) := by decide +kernel
theorem dX4_least_112 : decode cX4_least 112 = .ok (.iload 4, 2) := by decide +kernel
theorem dX4_least_114 : decode cX4_least 114 = .ok (.bipush 7, 2) := by decide +kernel
theorem dX4_least_116 : decode cX4_least 116 = .ok (.imul, 1) := by decide +kernel
theorem dX4_least_117 : decode cX4_least 117 = .ok (.iaload, 1) := by decide +kernel
theorem dX4_least_118 : decode cX4_least 118 = .ok (.istore 5, 2) := by decide +kernel
theorem dX4_least_120 : decode cX4_least 120 = .ok (.iconst 1, 1) := by decide +kernel
theorem dX4_least_121 : decode cX4_least 121 = .ok (.istore 6, 2) := by decide +kernel
theorem dX4_least_123 : decode cX4_least 123 = .ok (.iload 6, 2) := by decide +kernel
theorem dX4_least_125 : decode cX4_least 125 = .ok (.iload_n 3, 1) := by decide +kernel
theorem dX4_least_126 : decode cX4_least 126 = .ok (.if_icmp .ge 29, 3) := by decide +kernel
theorem dX4_least_129 : decode cX4_least 129 = .ok (.iload 5, 2) := by decide +kernel
theorem dX4_least_131 : decode cX4_least 131 = .ok (.aload_n 0, 1) := by decide +kernel
theorem dX4_least_132 : decode cX4_least 132 = .ok (.getfield 22, 3) := by decide +kernel
theorem dX4_least_135 : decode cX4_least 135 = .ok (.iload 4, 2) := by decide +kernel
theorem dX4_least_137 : decode cX4_least 137 = .ok (.bipush 7, 2) := by decide +kernel
theorem dX4_least_139 : decode cX4_least 139 = .ok (.imul, 1) := by decide +kernel
theorem dX4_least_140 : decode cX4_least 140 = .ok (.iload 6, 2) := by decide +kernel
theorem dX4_least_142 : decode cX4_least 142 = .ok (.iadd, 1) := by decide +kernel
theorem dX4_least_143 : decode cX4_least 143 = .ok (.iaload, 1) := by decide +kernel
theorem dX4_least_144 : decode cX4_least 144 = .ok (.invokestatic 42, 3) := by decide +kernel
theorem dX4_least_147 : decode cX4_least 147 = .ok (.istore 5, 2) := by decide +kernel
theorem dX4_least_149 : decode cX4_least 149 = .ok (.iinc 6 1, 3) := by decide +kernel
theorem dX4_least_152 : decode cX4_least 152 = .ok (.goto (-29), 3) := by decide +kernel
theorem dX4_least_155 : decode cX4_least 155 = .ok (.iload 5, 2) := by decide +kernel
theorem dX4_least_157 : decode cX4_least 157 = .ok (.ireturn, 1) := by decide +kernel
set_option maxRecDepth 20000 in
theorem ggX4_listStops_X7_setAt : GoodIn wsX4_listStops wsX7_setAt := goodIn_r _ [8, 9, 10, 11, 12, 7, 13, 14, 19, 20, 21, 22] (by decide +kernel) (by decide +kernel)
set_option maxRecDepth 20000 in
theorem gX4_listStops_X7_setAt : GoodIn wsX4_listStops (wsV RX4 51 RX7 yX7_setAt wsX7_setAt) := goodIn_app (goodIn_of _ (by decide +kernel)) ggX4_listStops_X7_setAt
theorem dX4_listStops_0 : decode cX4_listStops 0 = .ok (.aload_n 0, 1) := by decide +kernel
theorem dX4_listStops_1 : decode cX4_listStops 1 = .ok (.iconst 0, 1) := by decide +kernel
theorem dX4_listStops_2 : decode cX4_listStops 2 = .ok (.putfield 9, 3) := by decide +kernel
theorem dX4_listStops_5 : decode cX4_listStops 5 = .ok (.iconst 0, 1) := by decide +kernel
theorem dX4_listStops_6 : decode cX4_listStops 6 = .ok (.istore_n 2, 1) := by decide +kernel
theorem dX4_listStops_7 : decode cX4_listStops 7 = .ok (.iload_n 2, 1) := by decide +kernel
theorem dX4_listStops_8 : decode cX4_listStops 8 = .ok (.aload_n 1, 1) := by decide +kernel
theorem dX4_listStops_9 : decode cX4_listStops 9 = .ok (.getfield 48, 3) := by decide +kernel
theorem dX4_listStops_12 : decode cX4_listStops 12 = .ok (.if_icmp .ge 47, 3) := by decide +kernel
theorem dX4_listStops_15 : decode cX4_listStops 15 = .ok (.iload_n 2, 1) := by decide +kernel
theorem dX4_listStops_16 : decode cX4_listStops 16 = .ok (.bipush 8, 2) := by decide +kernel
theorem dX4_listStops_18 : decode cX4_listStops 18 = .ok (.if_icmp .ge 41, 3) := by decide +kernel
theorem dX4_listStops_21 : decode cX4_listStops 21 = .ok (.aload_n 1, 1) := by decide +kernel
theorem dX4_listStops_22 : decode cX4_listStops 22 = .ok (.iload_n 2, 1) := by decide +kernel
theorem dX4_listStops_23 : decode cX4_listStops 23 = .ok (.invokevirtual 51, 3) := by decide +kernel
theorem dX4_listStops_26 : decode cX4_listStops 26 = .ok (.ifCond .eq 27, 3) := by decide +kernel
theorem dX4_listStops_29 : decode cX4_listStops 29 = .ok (.aload_n 0, 1) := by decide +kernel
theorem dX4_listStops_30 : decode cX4_listStops 30 = .ok (.getfield 15, 3) := by decide +kernel
theorem dX4_listStops_33 : decode cX4_listStops 33 = .ok (.aload_n 0, 1) := by decide +kernel
theorem dX4_listStops_34 : decode cX4_listStops 34 = .ok (.getfield 9, 3) := by decide +kernel
theorem dX4_listStops_37 : decode cX4_listStops 37 = .ok (.aload_n 1, 1) := by decide +kernel
theorem dX4_listStops_38 : decode cX4_listStops 38 = .ok (.iload_n 2, 1) := by decide +kernel
