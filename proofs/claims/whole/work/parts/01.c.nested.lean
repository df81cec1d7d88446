theorem inlX0 : ∀ w ∈ wsX00, w ∈ wsL_law := fun _ h => List.mem_append_left _ (List.mem_append_left _ (List.mem_append_left _ (List.mem_append_left _ (List.mem_append_left _ (List.mem_append_right _ h)))))
theorem inX0 : ∀ w ∈ wsX00, w ∈ lw_tbl := fun w h => wsL_law_in w (inlX0 w h)
theorem inlX1 : ∀ w ∈ wsX10, w ∈ wsL_law := fun _ h => List.mem_append_left _ (List.mem_append_left _ (List.mem_append_right _ h))
theorem inX1 : ∀ w ∈ wsX10, w ∈ lw_tbl := fun w h => wsL_law_in w (inlX1 w h)
theorem inlX2 : ∀ w ∈ wsX20, w ∈ wsL_law := fun _ h => List.mem_append_left _ (List.mem_append_left _ (List.mem_append_left _ (List.mem_append_right _ h)))
theorem inX2 : ∀ w ∈ wsX20, w ∈ lw_tbl := fun w h => wsL_law_in w (inlX2 w h)
theorem inlX3 : ∀ w ∈ wsX30, w ∈ wsL_law := fun _ h => List.mem_append_left _ (List.mem_append_left _ (List.mem_append_left _ (List.mem_append_left _ (List.mem_append_right _ h))))
theorem inX3 : ∀ w ∈ wsX30, w ∈ lw_tbl := fun w h => wsL_law_in w (inlX3 w h)
theorem inlX4 : ∀ w ∈ wsX40, w ∈ wsL_law := fun _ h => List.mem_append_left _ (List.mem_append_right _ h)
theorem inX4 : ∀ w ∈ wsX40, w ∈ lw_tbl := fun w h => wsL_law_in w (inlX4 w h)
theorem inlX5 : ∀ w ∈ wsX50, w ∈ wsL_law := fun _ h => List.mem_append_left _ (List.mem_append_left _ (List.mem_append_left _ (List.mem_append_left _ (List.mem_append_left _ (List.mem_append_left _ (List.mem_append_left _ (List.mem_append_right _ h)))))))
theorem inX5 : ∀ w ∈ wsX50, w ∈ lw_tbl := fun w h => wsL_law_in w (inlX5 w h)
theorem inlX6 : ∀ w ∈ wsX60, w ∈ wsL_law := fun _ h => List.mem_append_left _ (List.mem_append_left _ (List.mem_append_left _ (List.mem_append_left _ (List.mem_append_left _ (List.mem_append_left _ (List.mem_append_right _ h))))))
theorem inX6 : ∀ w ∈ wsX60, w ∈ lw_tbl := fun w h => wsL_law_in w (inlX6 w h)
theorem inJ9 : ∀ w ∈ wsJ90, w ∈ lw_tbl := by decide +kernel
theorem inJ10 : ∀ w ∈ wsJ100, w ∈ lw_tbl := by decide +kernel
set_option maxRecDepth 20000 in
theorem ggX0_init_X3_init : GoodIn wsX0_init wsX3_init := goodIn_r _ [12, 13, 2, 3, 14, 15, 16, 17, 18, 19, 20, 21, 22, 23, 24, 25, 26, 27, 28, 29, 30, 9, 31, 32, 33, 34, 35, 36, 37, 38, 39, 40, 41, 42, 43, 44, 45, 46, 47, 48, 49, 50, 55, 56, 57, 58, 59, 60, 61, 62, 63, 64, 65, 66, 67, 68, 69] (by decide +kernel) (by decide +kernel)
set_option maxRecDepth 20000 in
theorem gX0_init_X3_init_n11 : GoodIn wsX0_init (wsX3_init) := ggX0_init_X3_init
theorem dX0_init_0 : decode cX0_init 0 = .ok (.aload_n 0, 1) := by decide +kernel
theorem dX0_init_1 : decode cX0_init 1 = .ok (.invokespecial 3, 3) := by decide +kernel
theorem dX0_init_4 : decode cX0_init 4 = .ok (.aload_n 0, 1) := by decide +kernel
theorem dX0_init_5 : decode cX0_init 5 = .ok (.new 9, 3) := by decide +kernel
theorem dX0_init_8 : decode cX0_init 8 = .ok (.dup, 1) := by decide +kernel
theorem dX0_init_9 : decode cX0_init 9 = .ok (.invokespecial 11, 3) := by decide +kernel
theorem dX0_init_12 : decode cX0_init 12 = .ok (.putfield 12, 3) := by decide +kernel
theorem dX0_init_15 : decode cX0_init 15 = .ok (.aload_n 0, 1) := by decide +kernel
theorem dX0_init_16 : decode cX0_init 16 = .ok (.aload_n 0, 1) := by decide +kernel
theorem dX0_init_17 : decode cX0_init 17 = .ok (.getfield 12, 3) := by decide +kernel
theorem dX0_init_20 : decode cX0_init 20 = .ok (.getfield 18, 3) := by decide +kernel
theorem dX0_init_23 : decode cX0_init 23 = .ok (.putfield 22, 3) := by decide +kernel
theorem dX0_init_26 : decode cX0_init 26 = .ok (.aload_n 0, 1) := by decide +kernel
theorem dX0_init_27 : decode cX0_init 27 = .ok (.sipush 256, 3) := by decide +kernel
theorem dX0_init_30 : decode cX0_init 30 = .ok (.newarray .int, 2) := by decide +kernel
theorem dX0_init_32 : decode cX0_init 32 = .ok (.putfield 23, 3) := by decide +kernel
theorem dX0_init_35 : decode cX0_init 35 = .ok (.return_, 1) := by decide +kernel
set_option maxRecDepth 20000 in
theorem ggX0_readWorths_X2_slots : GoodIn wsX0_readWorths wsX2_slots := goodIn_r _ [11, 12, 13, 14, 15, 9, 16, 17, 56, 57, 58] (by decide +kernel) (by decide +kernel)
set_option maxRecDepth 20000 in
theorem gX0_readWorths_X2_slots_n31 : GoodIn wsX0_readWorths (wsX2_slots) := ggX0_readWorths_X2_slots
set_option maxRecDepth 20000 in
theorem ggX0_readWorths_X2_ofSlot : GoodIn wsX0_readWorths wsX2_ofSlot := goodIn_r _ [20, 12, 17, 56, 57, 58] (by decide +kernel) (by decide +kernel)
set_option maxRecDepth 20000 in
theorem gX0_readWorths_X2_ofSlot_n46 : GoodIn wsX0_readWorths (wsX2_ofSlot) := ggX0_readWorths_X2_ofSlot
set_option maxRecDepth 20000 in
theorem ggX0_readWorths_X0_worth : GoodIn wsX0_readWorths wsX0_worth := goodIn_r _ [25, 1, 6, 26, 27, 28, 29, 30, 31, 32, 33, 34, 35, 36, 37, 38, 9, 39, 40, 12, 41, 42, 43, 44, 45, 4, 46, 47, 48, 49, 50, 51, 52, 53, 54, 55, 59, 60, 56, 57, 58] (by decide +kernel) (by decide +kernel)
set_option maxRecDepth 20000 in
theorem gX0_readWorths_X0_worth : GoodIn wsX0_readWorths (wsV RX0 50 RX0 yX0_worth wsX0_worth) := goodIn_app (goodIn_of _ (by decide +kernel)) ggX0_readWorths_X0_worth
theorem dX0_readWorths_0 : decode cX0_readWorths 0 = .ok (.aload_n 0, 1) := by decide +kernel
theorem dX0_readWorths_1 : decode cX0_readWorths 1 = .ok (.aload_n 0, 1) := by decide +kernel
theorem dX0_readWorths_2 : decode cX0_readWorths 2 = .ok (.getfield 12, 3) := by decide +kernel
theorem dX0_readWorths_5 : decode cX0_readWorths 5 = .ok (.getfield 27, 3) := by decide +kernel
theorem dX0_readWorths_8 : decode cX0_readWorths 8 = .ok (.invokevirtual 31, 3) := by decide +kernel
theorem dX0_readWorths_11 : decode cX0_readWorths 11 = .ok (.bipush 16, 2) := by decide +kernel
theorem dX0_readWorths_13 : decode cX0_readWorths 13 = .ok (.invokestatic 37, 3) := by decide +kernel
theorem dX0_readWorths_16 : decode cX0_readWorths 16 = .ok (.putfield 43, 3) := by decide +kernel
theorem dX0_readWorths_19 : decode cX0_readWorths 19 = .ok (.iconst 0, 1) := by decide +kernel
theorem dX0_readWorths_20 : decode cX0_readWorths 20 = .ok (.istore_n 1, 1) := by decide +kernel
theorem dX0_readWorths_21 : decode cX0_readWorths 21 = .ok (.iload_n 1, 1) := by decide +kernel
theorem dX0_readWorths_22 : decode cX0_readWorths 22 = .ok (.aload_n 0, 1) := by decide +kernel
theorem dX0_readWorths_23 : decode cX0_readWorths 23 = .ok (.getfield 43, 3) := by decide +kernel
theorem dX0_readWorths_26 : decode cX0_readWorths 26 = .ok (.if_icmp .ge 54, 3) := by decide +kernel
theorem dX0_readWorths_29 : decode cX0_readWorths 29 = .ok (.aload_n 0, 1) := by decide +kernel
theorem dX0_readWorths_30 : decode cX0_readWorths 30 = .ok (.getfield 12, 3) := by decide +kernel
theorem dX0_readWorths_33 : decode cX0_readWorths 33 = .ok (.getfield 27, 3) := by decide +kernel
theorem dX0_readWorths_36 : decode cX0_readWorths 36 = .ok (.iload_n 1, 1) := by decide +kernel
theorem dX0_readWorths_37 : decode cX0_readWorths 37 = .ok (.invokevirtual 46, 3) := by decide +kernel
theorem dX0_readWorths_40 : decode cX0_readWorths 40 = .ok (.istore_n 2, 1) := by decide +kernel
theorem dX0_readWorths_41 : decode cX0_readWorths 41 = .ok (.iconst 0, 1) := by decide +kernel
theorem dX0_readWorths_42 : decode cX0_readWorths 42 = .ok (.istore_n 3, 1) := by decide +kernel
theorem dX0_readWorths_43 : decode cX0_readWorths 43 = .ok (.iload_n 3, 1) := by decide +kernel
theorem dX0_readWorths_44 : decode cX0_readWorths 44 = .ok (.aload_n 0, 1) := by decide +kernel
theorem dX0_readWorths_45 : decode cX0_readWorths 45 = .ok (.getfield 43, 3) := by decide +kernel
theorem dX0_readWorths_48 : decode cX0_readWorths 48 = .ok (.if_icmp .ge 26, 3) := by decide +kernel
theorem dX0_readWorths_51 : decode cX0_readWorths 51 = .ok (.aload_n 0, 1) := by decide +kernel
theorem dX0_readWorths_52 : decode cX0_readWorths 52 = .ok (.getfield 23, 3) := by decide +kernel
theorem dX0_readWorths_55 : decode cX0_readWorths 55 = .ok (.iload_n 3, 1) := by decide +kernel
theorem dX0_readWorths_56 : decode cX0_readWorths 56 = .ok (.bipush 16, 2) := by decide +kernel
theorem dX0_readWorths_58 : decode cX0_readWorths 58 = .ok (.imul, 1) := by decide +kernel
theorem dX0_readWorths_59 : decode cX0_readWorths 59 = .ok (.iload_n 1, 1) := by decide +kernel
theorem dX0_readWorths_60 : decode cX0_readWorths 60 = .ok (.iadd, 1) := by decide +kernel
theorem dX0_readWorths_61 : decode cX0_readWorths 61 = .ok (.aload_n 0, 1) := by decide +kernel
theorem dX0_readWorths_62 : decode cX0_readWorths 62 = .ok (.iload_n 3, 1) := by decide +kernel
theorem dX0_readWorths_63 : decode cX0_readWorths 63 = .ok (.iload_n 2, 1) := by decide +kernel
theorem dX0_readWorths_64 : decode cX0_readWorths 64 = .ok (.invokevirtual 50, 3) := by decide +kernel
theorem dX0_readWorths_67 : decode cX0_readWorths 67 = .ok (.iastore, 1) := by decide +kernel
theorem dX0_readWorths_68 : decode cX0_readWorths 68 = .ok (.iinc 3 1, 3) := by decide +kernel
theorem dX0_readWorths_71 : decode cX0_readWorths 71 = .ok (.goto (-28), 3) := by decide +kernel
theorem dX0_readWorths_74 : decode cX0_readWorths 74 = .ok (.iinc 1 1, 3) := by decide +kernel
theorem dX0_readWorths_77 : decode cX0_readWorths 77 = .ok (.goto (-56), 3) := by decide +kernel
theorem dX0_readWorths_80 : decode cX0_readWorths 80 = .ok (.return_, 1) := by decide +kernel
set_option maxRecDepth 20000 in
theorem ggX0_worth_X1_has : GoodIn wsX0_worth wsX1_has := goodIn_r _ [6, 7, 36, 37] (by decide +kernel) (by decide +kernel)
set_option maxRecDepth 20000 in
theorem gX0_worth_X1_has_n57 : GoodIn wsX0_worth (wsX1_has) := ggX0_worth_X1_has
set_option maxRecDepth 20000 in
theorem ggX0_worth_X3_apart : GoodIn wsX0_worth wsX3_apart := goodIn_r _ [11, 12, 13, 14, 3, 4, 5, 6, 7, 15, 16, 17, 18, 19, 20, 21, 22, 23, 24, 25, 26, 31, 32, 33, 34, 35, 36, 37, 38, 39, 40] (by decide +kernel) (by decide +kernel)
set_option maxRecDepth 20000 in
theorem gX0_worth_X3_apart_n63 : GoodIn wsX0_worth (wsX3_apart) := ggX0_worth_X3_apart
theorem dX0_worth_0 : decode cX0_worth 0 = .ok (.aload_n 0, 1) := by decide +kernel
theorem dX0_worth_1 : decode cX0_worth 1 = .ok (.getfield 12, 3) := by decide +kernel
theorem dX0_worth_4 : decode cX0_worth 4 = .ok (.getfield 53, 3) := by decide +kernel
theorem dX0_worth_7 : decode cX0_worth 7 = .ok (.iload_n 1, 1) := by decide +kernel
theorem dX0_worth_8 : decode cX0_worth 8 = .ok (.invokevirtual 57, 3) := by decide +kernel
theorem dX0_worth_11 : decode cX0_worth 11 = .ok (.ifCond .ne 7, 3) := by decide +kernel
theorem dX0_worth_14 : decode cX0_worth 14 = .ok (.iconst 1, 1) := by decide +kernel
theorem dX0_worth_15 : decode cX0_worth 15 = .ok (.goto 4, 3) := by decide +kernel
theorem dX0_worth_18 : decode cX0_worth 18 = .ok (.iconst 0, 1) := by decide +kernel
theorem dX0_worth_19 : decode cX0_worth 19 = .ok (.istore_n 3, 1) := by decide +kernel
theorem dX0_worth_20 : decode cX0_worth 20 = .ok (.iload_n 3, 1) := by decide +kernel
theorem dX0_worth_21 : decode cX0_worth 21 = .ok (.ifCond .eq 7, 3) := by decide +kernel
theorem dX0_worth_24 : decode cX0_worth 24 = .ok (.iconst 0, 1) := by decide +kernel
theorem dX0_worth_25 : decode cX0_worth 25 = .ok (.goto 20, 3) := by decide +kernel
theorem dX0_worth_28 : decode cX0_worth 28 = .ok (.aload_n 0, 1) := by decide +kernel
theorem dX0_worth_29 : decode cX0_worth 29 = .ok (.getfield 12, 3) := by decide +kernel
theorem dX0_worth_32 : decode cX0_worth 32 = .ok (.iload_n 1, 1) := by decide +kernel
theorem dX0_worth_33 : decode cX0_worth 33 = .ok (.iload_n 2, 1) := by decide +kernel
theorem dX0_worth_34 : decode cX0_worth 34 = .ok (.invokevirtual 63, 3) := by decide +kernel
theorem dX0_worth_37 : decode cX0_worth 37 = .ok (.ineg, 1) := by decide +kernel
theorem dX0_worth_38 : decode cX0_worth 38 = .ok (.aload_n 0, 1) := by decide +kernel
theorem dX0_worth_39 : decode cX0_worth 39 = .ok (.getfield 43, 3) := by decide +kernel
theorem dX0_worth_42 : decode cX0_worth 42 = .ok (.iconst 1, 1) := by decide +kernel
theorem dX0_worth_43 : decode cX0_worth 43 = .ok (.iadd, 1) := by decide +kernel
theorem dX0_worth_44 : decode cX0_worth 44 = .ok (.imul, 1) := by decide +kernel
theorem dX0_worth_45 : decode cX0_worth 45 = .ok (.ireturn, 1) := by decide +kernel
set_option maxRecDepth 20000 in
theorem ggX0_holdAuction_X0_readWorths : GoodIn wsX0_holdAuction wsX0_readWorths := goodIn_r _ [12, 2, 13, 14, 6, 15, 3, 16, 17, 18, 19, 20, 21, 22, 23, 24, 25, 26, 27, 28, 29, 30, 31, 32, 11, 33, 34, 35, 36, 37, 38, 39, 40, 41, 42, 43, 44, 45, 46, 47, 48, 49, 50, 51, 52, 53, 54, 117, 118, 119, 120, 121, 122, 123, 124, 125, 126, 127, 128, 129, 130] (by decide +kernel) (by decide +kernel)
set_option maxRecDepth 20000 in
theorem gX0_holdAuction_X0_readWorths : GoodIn wsX0_holdAuction (wsV RX0 66 RX0 yX0_readWorths wsX0_readWorths) := goodIn_app (goodIn_of _ (by decide +kernel)) ggX0_holdAuction_X0_readWorths
set_option maxRecDepth 20000 in
theorem ggX0_holdAuction_X4_begin : GoodIn wsX0_holdAuction wsX4_begin := goodIn_r _ [58, 59, 60, 131, 132, 133, 134, 135, 136, 137, 138, 139, 140] (by decide +kernel) (by decide +kernel)
set_option maxRecDepth 20000 in
theorem gX0_holdAuction_X4_begin_n69 : GoodIn wsX0_holdAuction (wsX4_begin) := ggX0_holdAuction_X4_begin
set_option maxRecDepth 20000 in
theorem ggX0_holdAuction_X3_greatestDifference : GoodIn wsX0_holdAuction wsX3_greatestDifference := goodIn_r _ [63, 43, 44, 64, 5, 6, 7, 65, 39, 41, 40, 42, 45, 34, 35, 36, 37, 38, 46, 18, 47, 48, 21, 49, 50, 51, 52, 53, 54, 121, 122, 123, 124, 125, 129, 130, 126, 127, 128] (by decide +kernel) (by decide +kernel)
set_option maxRecDepth 20000 in
theorem gX0_holdAuction_X3_greatestDifference_n74 : GoodIn wsX0_holdAuction (wsX3_greatestDifference) := ggX0_holdAuction_X3_greatestDifference
set_option maxRecDepth 20000 in
theorem ggX0_holdAuction_X0_auctionPhase : GoodIn wsX0_holdAuction wsX0_auctionPhase := goodIn_r _ [69, 1, 2, 70, 56, 71, 72, 73, 74, 75, 76, 77, 11, 78, 79, 80, 81, 82, 83, 3, 84, 85, 86, 87, 16, 88, 89, 90, 91, 92, 93, 94, 40, 95, 96, 43, 97, 98, 99, 100, 44, 101, 102, 103, 104, 27, 18, 28, 29, 21, 26, 65, 39, 41, 42, 45, 34, 35, 36, 37, 38, 46, 47, 48, 49, 50, 51, 52, 53, 6, 54, 105, 106, 107, 59, 108, 109, 110, 117, 118, 119, 120, 131, 132, 133, 134, 135, 136, 137, 138, 139, 140, 121, 122, 123, 124, 125, 129, 130, 126, 127, 128] (by decide +kernel) (by decide +kernel)
set_option maxRecDepth 20000 in
theorem gX0_holdAuction_X0_auctionPhase : GoodIn wsX0_holdAuction (wsV RX0 80 RX0 yX0_auctionPhase wsX0_auctionPhase) := goodIn_app (goodIn_of _ (by decide +kernel)) ggX0_holdAuction_X0_auctionPhase
set_option maxRecDepth 20000 in
theorem ggX0_holdAuction_X4_finish : GoodIn wsX0_holdAuction wsX4_finish := goodIn_r _ [113, 114, 115, 116, 131, 132, 133, 134, 135, 136, 137, 138, 139, 140] (by decide +kernel) (by decide +kernel)
set_option maxRecDepth 20000 in
theorem gX0_holdAuction_X4_finish_n86 : GoodIn wsX0_holdAuction (wsX4_finish) := ggX0_holdAuction_X4_finish
theorem dX0_holdAuction_0 : decode cX0_holdAuction 0 = .ok (.aload_n 0, 1) := by decide +kernel
theorem dX0_holdAuction_1 : decode cX0_holdAuction 1 = .ok (.invokevirtual 66, 3) := by decide +kernel
theorem dX0_holdAuction_4 : decode cX0_holdAuction 4 = .ok (.aload_n 0, 1) := by decide +kernel
theorem dX0_holdAuction_5 : decode cX0_holdAuction 5 = .ok (.getfield 22, 3) := by decide +kernel
theorem dX0_holdAuction_8 : decode cX0_holdAuction 8 = .ok (.invokevirtual 69, 3) := by decide +kernel
theorem dX0_holdAuction_11 : decode cX0_holdAuction 11 = .ok (.iconst 1, 1) := by decide +kernel
theorem dX0_holdAuction_12 : decode cX0_holdAuction 12 = .ok (.aload_n 0, 1) := by decide +kernel
theorem dX0_holdAuction_13 : decode cX0_holdAuction 13 = .ok (.getfield 12, 3) := by decide +kernel
theorem dX0_holdAuction_16 : decode cX0_holdAuction 16 = .ok (.invokevirtual 74, 3) := by decide +kernel
theorem dX0_holdAuction_19 : decode cX0_holdAuction 19 = .ok (.aload_n 0, 1) := by decide +kernel
theorem dX0_holdAuction_20 : decode cX0_holdAuction 20 = .ok (.getfield 43, 3) := by decide +kernel
theorem dX0_holdAuction_23 : decode cX0_holdAuction 23 = .ok (.iconst 1, 1) := by decide +kernel
theorem dX0_holdAuction_24 : decode cX0_holdAuction 24 = .ok (.iadd, 1) := by decide +kernel
theorem dX0_holdAuction_25 : decode cX0_holdAuction 25 = .ok (.imul, 1) := by decide +kernel
theorem dX0_holdAuction_26 : decode cX0_holdAuction 26 = .ok (.iconst 4, 1) := by decide +kernel
theorem dX0_holdAuction_27 : decode cX0_holdAuction 27 = .ok (.idiv, 1) := by decide +kernel
theorem dX0_holdAuction_28 : decode cX0_holdAuction 28 = .ok (.invokestatic 77, 3) := by decide +kernel
theorem dX0_holdAuction_31 : decode cX0_holdAuction 31 = .ok (.istore_n 1, 1) := by decide +kernel
theorem dX0_holdAuction_32 : decode cX0_holdAuction 32 = .ok (.aload_n 0, 1) := by decide +kernel
theorem dX0_holdAuction_33 : decode cX0_holdAuction 33 = .ok (.iload_n 1, 1) := by decide +kernel
theorem dX0_holdAuction_34 : decode cX0_holdAuction 34 = .ok (.invokevirtual 80, 3) := by decide +kernel
theorem dX0_holdAuction_37 : decode cX0_holdAuction 37 = .ok (.istore_n 2, 1) := by decide +kernel
theorem dX0_holdAuction_38 : decode cX0_holdAuction 38 = .ok (.iconst 1, 1) := by decide +kernel
theorem dX0_holdAuction_39 : decode cX0_holdAuction 39 = .ok (.istore_n 3, 1) := by decide +kernel
theorem dX0_holdAuction_40 : decode cX0_holdAuction 40 = .ok (.iload_n 3, 1) := by decide +kernel
theorem dX0_holdAuction_41 : decode cX0_holdAuction 41 = .ok (.bipush 16, 2) := by decide +kernel
theorem dX0_holdAuction_43 : decode cX0_holdAuction 43 = .ok (.if_icmp .ge 40, 3) := by decide +kernel
theorem dX0_holdAuction_46 : decode cX0_holdAuction 46 = .ok (.iload_n 1, 1) := by decide +kernel
theorem dX0_holdAuction_47 : decode cX0_holdAuction 47 = .ok (.iconst 1, 1) := by decide +kernel
theorem dX0_holdAuction_48 : decode cX0_holdAuction 48 = .ok (.if_icmp .le 35, 3) := by decide +kernel
theorem dX0_holdAuction_51 : decode cX0_holdAuction 51 = .ok (.iconst 1, 1) := by decide +kernel
theorem dX0_holdAuction_52 : decode cX0_holdAuction 52 = .ok (.iload_n 1, 1) := by decide +kernel
theorem dX0_holdAuction_53 : decode cX0_holdAuction 53 = .ok (.iconst 2, 1) := by decide +kernel
theorem dX0_holdAuction_54 : decode cX0_holdAuction 54 = .ok (.aload_n 0, 1) := by decide +kernel
theorem dX0_holdAuction_55 : decode cX0_holdAuction 55 = .ok (.getfield 12, 3) := by decide +kernel
theorem dX0_holdAuction_58 : decode cX0_holdAuction 58 = .ok (.getfield 83, 3) := by decide +kernel
theorem dX0_holdAuction_61 : decode cX0_holdAuction 61 = .ok (.invokestatic 77, 3) := by decide +kernel
theorem dX0_holdAuction_64 : decode cX0_holdAuction 64 = .ok (.idiv, 1) := by decide +kernel
theorem dX0_holdAuction_65 : decode cX0_holdAuction 65 = .ok (.invokestatic 77, 3) := by decide +kernel
theorem dX0_holdAuction_68 : decode cX0_holdAuction 68 = .ok (.istore_n 1, 1) := by decide +kernel
theorem dX0_holdAuction_69 : decode cX0_holdAuction 69 = .ok (.iload_n 2, 1) := by decide +kernel
theorem dX0_holdAuction_70 : decode cX0_holdAuction 70 = .ok (.aload_n 0, 1) := by decide +kernel
theorem dX0_holdAuction_71 : decode cX0_holdAuction 71 = .ok (.iload_n 1, 1) := by decide +kernel
theorem dX0_holdAuction_72 : decode cX0_holdAuction 72 = .ok (.invokevirtual 80, 3) := by decide +kernel
theorem dX0_holdAuction_75 : decode cX0_holdAuction 75 = .ok (.iadd, 1) := by decide +kernel
theorem dX0_holdAuction_76 : decode cX0_holdAuction 76 = .ok (.istore_n 2, 1) := by decide +kernel
theorem dX0_holdAuction_77 : decode cX0_holdAuction 77 = .ok (.iinc 3 1, 3) := by decide +kernel
theorem dX0_holdAuction_80 : decode cX0_holdAuction 80 = .ok (.goto (-40), 3) := by decide +kernel
theorem dX0_holdAuction_83 : decode cX0_holdAuction 83 = .ok (.aload_n 0, 1) := by decide +kernel
theorem dX0_holdAuction_84 : decode cX0_holdAuction 84 = .ok (.getfield 22, 3) := by decide +kernel
theorem dX0_holdAuction_87 : decode cX0_holdAuction 87 = .ok (.iload_n 2, 1) := by decide +kernel
theorem dX0_holdAuction_88 : decode cX0_holdAuction 88 = .ok (.invokevirtual 86, 3) := by decide +kernel
theorem dX0_holdAuction_91 : decode cX0_holdAuction 91 = .ok (.iload_n 2, 1) := by decide +kernel
theorem dX0_holdAuction_92 : decode cX0_holdAuction 92 = .ok (.ireturn, 1) := by decide +kernel
set_option maxRecDepth 20000 in
theorem ggX0_auctionPhase_X4_freeAll : GoodIn wsX0_auctionPhase wsX4_freeAll := goodIn_r _ [6, 7, 8, 82, 83, 84, 85, 86, 87, 88, 89, 90, 91] (by decide +kernel) (by decide +kernel)
set_option maxRecDepth 20000 in
theorem gX0_auctionPhase_X4_freeAll_n90 : GoodIn wsX0_auctionPhase (wsX4_freeAll) := ggX0_auctionPhase_X4_freeAll
set_option maxRecDepth 20000 in
theorem ggX0_auctionPhase_X0_bidTillNoneIsFree : GoodIn wsX0_auctionPhase wsX0_bidTillNoneIsFree := goodIn_r _ [13, 14, 15, 16, 17, 12, 18, 1, 19, 20, 21, 22, 23, 24, 25, 4, 26, 27, 28, 29, 7, 8, 30, 78, 79, 80, 81, 82, 83, 84, 85, 86, 87, 88, 89, 90, 91] (by decide +kernel) (by decide +kernel)
set_option maxRecDepth 20000 in
theorem gX0_auctionPhase_X0_bidTillNoneIsFree : GoodIn wsX0_auctionPhase (wsV RX0 93 RX0 yX0_bidTillNoneIsFree wsX0_bidTillNoneIsFree) := goodIn_app (goodIn_of _ (by decide +kernel)) ggX0_auctionPhase_X0_bidTillNoneIsFree
set_option maxRecDepth 20000 in
theorem ggX0_auctionPhase_X3_sumOfDifferences : GoodIn wsX0_auctionPhase wsX3_sumOfDifferences := goodIn_r _ [34, 35, 36, 37, 38, 32, 39, 40, 41, 42, 4, 43, 44, 8, 30, 25, 26, 45, 46, 47, 48, 49, 50, 51, 52, 53, 54, 55, 56, 57, 58, 59, 60, 61, 62, 63, 64, 65, 66, 67, 68, 69, 70, 92, 93, 94, 95, 96, 97, 98, 82, 83, 84, 85, 86, 87, 88, 89, 90, 91, 99, 100, 101] (by decide +kernel) (by decide +kernel)
set_option maxRecDepth 20000 in
theorem gX0_auctionPhase_X3_sumOfDifferences_n96 : GoodIn wsX0_auctionPhase (wsX3_sumOfDifferences) := ggX0_auctionPhase_X3_sumOfDifferences
set_option maxRecDepth 20000 in
theorem ggX0_auctionPhase_X4_notePhase : GoodIn wsX0_auctionPhase wsX4_notePhase := goodIn_r _ [73, 74, 75, 76, 77, 82, 83, 84, 85, 86, 87, 88, 89, 90, 91] (by decide +kernel) (by decide +kernel)
set_option maxRecDepth 20000 in
theorem gX0_auctionPhase_X4_notePhase_n99 : GoodIn wsX0_auctionPhase (wsX4_notePhase) := ggX0_auctionPhase_X4_notePhase
theorem dX0_auctionPhase_0 : decode cX0_auctionPhase 0 = .ok (.aload_n 0, 1) := by decide +kernel
theorem dX0_auctionPhase_1 : decode cX0_auctionPhase 1 = .ok (.getfield 22, 3) := by decide +kernel
theorem dX0_auctionPhase_4 : decode cX0_auctionPhase 4 = .ok (.invokevirtual 90, 3) := by decide +kernel
theorem dX0_auctionPhase_7 : decode cX0_auctionPhase 7 = .ok (.aload_n 0, 1) := by decide +kernel
theorem dX0_auctionPhase_8 : decode cX0_auctionPhase 8 = .ok (.iload_n 1, 1) := by decide +kernel
theorem dX0_auctionPhase_9 : decode cX0_auctionPhase 9 = .ok (.invokevirtual 93, 3) := by decide +kernel
theorem dX0_auctionPhase_12 : decode cX0_auctionPhase 12 = .ok (.istore_n 2, 1) := by decide +kernel
theorem dX0_auctionPhase_13 : decode cX0_auctionPhase 13 = .ok (.aload_n 0, 1) := by decide +kernel
theorem dX0_auctionPhase_14 : decode cX0_auctionPhase 14 = .ok (.getfield 22, 3) := by decide +kernel
theorem dX0_auctionPhase_17 : decode cX0_auctionPhase 17 = .ok (.iload_n 1, 1) := by decide +kernel
theorem dX0_auctionPhase_18 : decode cX0_auctionPhase 18 = .ok (.iload_n 2, 1) := by decide +kernel
theorem dX0_auctionPhase_19 : decode cX0_auctionPhase 19 = .ok (.aload_n 0, 1) := by decide +kernel
theorem dX0_auctionPhase_20 : decode cX0_auctionPhase 20 = .ok (.getfield 12, 3) := by decide +kernel
theorem dX0_auctionPhase_23 : decode cX0_auctionPhase 23 = .ok (.invokevirtual 96, 3) := by decide +kernel
theorem dX0_auctionPhase_26 : decode cX0_auctionPhase 26 = .ok (.invokevirtual 99, 3) := by decide +kernel
theorem dX0_auctionPhase_29 : decode cX0_auctionPhase 29 = .ok (.iload_n 2, 1) := by decide +kernel
theorem dX0_auctionPhase_30 : decode cX0_auctionPhase 30 = .ok (.ireturn, 1) := by decide +kernel
set_option maxRecDepth 20000 in
theorem ggX0_mend_X0_readWorths : GoodIn wsX0_mend wsX0_readWorths := goodIn_r _ [7, 8, 9, 10, 11, 12, 1, 13, 14, 15, 16, 17, 18, 19, 20, 21, 22, 23, 24, 25, 26, 27, 28, 29, 6, 30, 31, 32, 33, 34, 35, 36, 37, 38, 39, 40, 41, 42, 43, 44, 45, 46, 47, 48, 49, 50, 51, 101, 102, 103, 104, 105, 106, 107, 108, 109, 110, 111, 112, 113, 114] (by decide +kernel) (by decide +kernel)
set_option maxRecDepth 20000 in
theorem gX0_mend_X0_readWorths : GoodIn wsX0_mend (wsV RX0 66 RX0 yX0_readWorths wsX0_readWorths) := goodIn_app (goodIn_of _ (by decide +kernel)) ggX0_mend_X0_readWorths
set_option maxRecDepth 20000 in
theorem ggX0_mend_X0_ownGain : GoodIn wsX0_mend wsX0_ownGain := goodIn_r _ [55, 2, 56, 57, 58, 59, 60, 61, 62, 63, 64, 65, 66, 6, 67, 13, 101, 102, 103, 104, 115, 116, 117, 118, 119, 120, 121, 122, 123, 124] (by decide +kernel) (by decide +kernel)
set_option maxRecDepth 20000 in
theorem gX0_mend_X0_ownGain : GoodIn wsX0_mend (wsV RX0 103 RX0 yX0_ownGain wsX0_ownGain) := goodIn_app (goodIn_of _ (by decide +kernel)) ggX0_mend_X0_ownGain
set_option maxRecDepth 20000 in
theorem ggX0_mend_X0_greatestGain : GoodIn wsX0_mend wsX0_greatestGain := goodIn_r _ [71, 1, 72, 73, 11, 74, 64, 65, 66, 6, 67, 13, 2, 62, 57, 63, 101, 102, 103, 104, 115, 116, 117, 118, 119, 120, 121, 122, 123, 124] (by decide +kernel) (by decide +kernel)
set_option maxRecDepth 20000 in
theorem gX0_mend_X0_greatestGain : GoodIn wsX0_mend (wsV RX0 106 RX0 yX0_greatestGain wsX0_greatestGain) := goodIn_app (goodIn_of _ (by decide +kernel)) ggX0_mend_X0_greatestGain
set_option maxRecDepth 20000 in
theorem ggX0_mend_X4_setFree : GoodIn wsX0_mend wsX4_setFree := goodIn_r _ [77, 60, 78, 61, 62, 57, 63, 115, 116, 117, 118, 119, 120, 121, 122, 123, 124] (by decide +kernel) (by decide +kernel)
set_option maxRecDepth 20000 in
theorem gX0_mend_X4_setFree_n109 : GoodIn wsX0_mend (wsX4_setFree) := ggX0_mend_X4_setFree
set_option maxRecDepth 20000 in
theorem ggX0_mend_X0_bidTillNoneIsFree : GoodIn wsX0_mend wsX0_bidTillNoneIsFree := goodIn_r _ [82, 83, 84, 85, 86, 6, 87, 2, 1, 88, 89, 90, 91, 13, 62, 57, 63, 92, 93, 94, 78, 60, 61, 101, 102, 103, 104, 115, 116, 117, 118, 119, 120, 121, 122, 123, 124] (by decide +kernel) (by decide +kernel)
set_option maxRecDepth 20000 in
theorem gX0_mend_X0_bidTillNoneIsFree : GoodIn wsX0_mend (wsV RX0 93 RX0 yX0_bidTillNoneIsFree wsX0_bidTillNoneIsFree) := goodIn_app (goodIn_of _ (by decide +kernel)) ggX0_mend_X0_bidTillNoneIsFree
set_option maxRecDepth 20000 in
theorem ggX0_mend_X4_finish : GoodIn wsX0_mend wsX4_finish := goodIn_r _ [97, 98, 99, 100, 115, 116, 117, 118, 119, 120, 121, 122, 123, 124] (by decide +kernel) (by decide +kernel)
set_option maxRecDepth 20000 in
theorem gX0_mend_X4_finish_n86 : GoodIn wsX0_mend (wsX4_finish) := ggX0_mend_X4_finish
theorem dX0_mend_0 : decode cX0_mend 0 = .ok (.aload_n 0, 1) := by decide +kernel
theorem dX0_mend_1 : decode cX0_mend 1 = .ok (.invokevirtual 66, 3) := by decide +kernel
theorem dX0_mend_4 : decode cX0_mend 4 = .ok (.iconst 0, 1) := by decide +kernel
theorem dX0_mend_5 : decode cX0_mend 5 = .ok (.istore_n 1, 1) := by decide +kernel
theorem dX0_mend_6 : decode cX0_mend 6 = .ok (.iload_n 1, 1) := by decide +kernel
theorem dX0_mend_7 : decode cX0_mend 7 = .ok (.aload_n 0, 1) := by decide +kernel
theorem dX0_mend_8 : decode cX0_mend 8 = .ok (.getfield 43, 3) := by decide +kernel
theorem dX0_mend_11 : decode cX0_mend 11 = .ok (.if_icmp .ge 32, 3) := by decide +kernel
theorem dX0_mend_14 : decode cX0_mend 14 = .ok (.aload_n 0, 1) := by decide +kernel
theorem dX0_mend_15 : decode cX0_mend 15 = .ok (.iload_n 1, 1) := by decide +kernel
theorem dX0_mend_16 : decode cX0_mend 16 = .ok (.invokevirtual 103, 3) := by decide +kernel
theorem dX0_mend_19 : decode cX0_mend 19 = .ok (.aload_n 0, 1) := by decide +kernel
theorem dX0_mend_20 : decode cX0_mend 20 = .ok (.iload_n 1, 1) := by decide +kernel
theorem dX0_mend_21 : decode cX0_mend 21 = .ok (.invokevirtual 106, 3) := by decide +kernel
theorem dX0_mend_24 : decode cX0_mend 24 = .ok (.iconst 1, 1) := by decide +kernel
theorem dX0_mend_25 : decode cX0_mend 25 = .ok (.isub, 1) := by decide +kernel
theorem dX0_mend_26 : decode cX0_mend 26 = .ok (.if_icmp .ge 11, 3) := by decide +kernel
theorem dX0_mend_29 : decode cX0_mend 29 = .ok (.aload_n 0, 1) := by decide +kernel
theorem dX0_mend_30 : decode cX0_mend 30 = .ok (.getfield 22, 3) := by decide +kernel
theorem dX0_mend_33 : decode cX0_mend 33 = .ok (.iload_n 1, 1) := by decide +kernel
theorem dX0_mend_34 : decode cX0_mend 34 = .ok (.invokevirtual 109, 3) := by decide +kernel
theorem dX0_mend_37 : decode cX0_mend 37 = .ok (.iinc 1 1, 3) := by decide +kernel
theorem dX0_mend_40 : decode cX0_mend 40 = .ok (.goto (-34), 3) := by decide +kernel
theorem dX0_mend_43 : decode cX0_mend 43 = .ok (.aload_n 0, 1) := by decide +kernel
theorem dX0_mend_44 : decode cX0_mend 44 = .ok (.iconst 1, 1) := by decide +kernel
theorem dX0_mend_45 : decode cX0_mend 45 = .ok (.invokevirtual 93, 3) := by decide +kernel
theorem dX0_mend_48 : decode cX0_mend 48 = .ok (.istore_n 1, 1) := by decide +kernel
theorem dX0_mend_49 : decode cX0_mend 49 = .ok (.aload_n 0, 1) := by decide +kernel
theorem dX0_mend_50 : decode cX0_mend 50 = .ok (.getfield 22, 3) := by decide +kernel
theorem dX0_mend_53 : decode cX0_mend 53 = .ok (.iload_n 1, 1) := by decide +kernel
theorem dX0_mend_54 : decode cX0_mend 54 = .ok (.invokevirtual 86, 3) := by decide +kernel
theorem dX0_mend_57 : decode cX0_mend 57 = .ok (.iload_n 1, 1) := by decide +kernel
theorem dX0_mend_58 : decode cX0_mend 58 = .ok (.ireturn, 1) := by decide +kernel
set_option maxRecDepth 20000 in
theorem ggX0_bidTillNoneIsFree_X0_leastFree : GoodIn wsX0_bidTillNoneIsFree wsX0_leastFree := goodIn_r _ [6, 7, 8, 23, 24, 25, 26, 27, 28, 29, 30, 31, 32, 33, 34, 35, 36] (by decide +kernel) (by decide +kernel)
set_option maxRecDepth 20000 in
theorem gX0_bidTillNoneIsFree_X0_leastFree : GoodIn wsX0_bidTillNoneIsFree (wsV RX0 113 RX0 yX0_leastFree wsX0_leastFree) := goodIn_app (goodIn_of _ (by decide +kernel)) ggX0_bidTillNoneIsFree_X0_leastFree
set_option maxRecDepth 20000 in
theorem ggX0_bidTillNoneIsFree_X0_makeBid : GoodIn wsX0_bidTillNoneIsFree wsX0_makeBid := goodIn_r _ [12, 8, 7, 13, 14, 15, 16, 17, 18, 19, 20, 21, 22, 23, 24, 25, 26, 27, 28, 29, 30, 31, 32, 33, 34, 35, 36] (by decide +kernel) (by decide +kernel)
set_option maxRecDepth 20000 in
theorem gX0_bidTillNoneIsFree_X0_makeBid : GoodIn wsX0_bidTillNoneIsFree (wsV RX0 116 RX0 yX0_makeBid wsX0_makeBid) := goodIn_app (goodIn_of _ (by decide +kernel)) ggX0_bidTillNoneIsFree_X0_makeBid
theorem dX0_bidTillNoneIsFree_0 : decode cX0_bidTillNoneIsFree 0 = .ok (.iconst 0, 1) := by decide +kernel
theorem dX0_bidTillNoneIsFree_1 : decode cX0_bidTillNoneIsFree 1 = .ok (.istore_n 2, 1) := by decide +kernel
theorem dX0_bidTillNoneIsFree_2 : decode cX0_bidTillNoneIsFree 2 = .ok (.iload_n 2, 1) := by decide +kernel
theorem dX0_bidTillNoneIsFree_3 : decode cX0_bidTillNoneIsFree 3 = .ok (.ldc 112, 2) := by decide +kernel
theorem dX0_bidTillNoneIsFree_5 : decode cX0_bidTillNoneIsFree 5 = .ok (.if_icmp .ge 28, 3) := by decide +kernel
theorem dX0_bidTillNoneIsFree_8 : decode cX0_bidTillNoneIsFree 8 = .ok (.aload_n 0, 1) := by decide +kernel
theorem dX0_bidTillNoneIsFree_9 : decode cX0_bidTillNoneIsFree 9 = .ok (.invokevirtual 113, 3) := by decide +kernel
theorem dX0_bidTillNoneIsFree_12 : decode cX0_bidTillNoneIsFree 12 = .ok (.istore_n 3, 1) := by decide +kernel
theorem dX0_bidTillNoneIsFree_13 : decode cX0_bidTillNoneIsFree 13 = .ok (.iload_n 3, 1) := by decide +kernel
theorem dX0_bidTillNoneIsFree_14 : decode cX0_bidTillNoneIsFree 14 = .ok (.bipush (-6), 2) := by decide +kernel
theorem dX0_bidTillNoneIsFree_16 : decode cX0_bidTillNoneIsFree 16 = .ok (.if_icmp .ne 5, 3) := by decide +kernel
theorem dX0_bidTillNoneIsFree_19 : decode cX0_bidTillNoneIsFree 19 = .ok (.iload_n 2, 1) := by decide +kernel
theorem dX0_bidTillNoneIsFree_20 : decode cX0_bidTillNoneIsFree 20 = .ok (.ireturn, 1) := by decide +kernel
theorem dX0_bidTillNoneIsFree_21 : decode cX0_bidTillNoneIsFree 21 = .ok (.aload_n 0, 1) := by decide +kernel
theorem dX0_bidTillNoneIsFree_22 : decode cX0_bidTillNoneIsFree 22 = .ok (.iload_n 3, 1) := by decide +kernel
theorem dX0_bidTillNoneIsFree_23 : decode cX0_bidTillNoneIsFree 23 = .ok (.iload_n 1, 1) := by decide +kernel
theorem dX0_bidTillNoneIsFree_24 : decode cX0_bidTillNoneIsFree 24 = .ok (.invokevirtual 116, 3) := by decide +kernel
theorem dX0_bidTillNoneIsFree_27 : decode cX0_bidTillNoneIsFree 27 = .ok (.iinc 2 1, 3) := by decide +kernel
theorem dX0_bidTillNoneIsFree_30 : decode cX0_bidTillNoneIsFree 30 = .ok (.goto (-28), 3) := by decide +kernel
theorem dX0_bidTillNoneIsFree_33 : decode cX0_bidTillNoneIsFree 33 = .ok (.ldc 112, 2) := by decide +kernel
theorem dX0_bidTillNoneIsFree_35 : decode cX0_bidTillNoneIsFree 35 = .ok (.ireturn, 1) := by decide +kernel
theorem dX0_leastFree_0 : decode cX0_leastFree 0 = .ok (.aload_n 0, 1) := by decide +kernel
theorem dX0_leastFree_1 : decode cX0_leastFree 1 = .ok (.getfield 22, 3) := by decide +kernel
theorem dX0_leastFree_4 : decode cX0_leastFree 4 = .ok (.getfield 120, 3) := by decide +kernel
theorem dX0_leastFree_7 : decode cX0_leastFree 7 = .ok (.astore_n 1, 1) := by decide +kernel
theorem dX0_leastFree_8 : decode cX0_leastFree 8 = .ok (.iconst 0, 1) := by decide +kernel
theorem dX0_leastFree_9 : decode cX0_leastFree 9 = .ok (.istore_n 2, 1) := by decide +kernel
theorem dX0_leastFree_10 : decode cX0_leastFree 10 = .ok (.iload_n 2, 1) := by decide +kernel
theorem dX0_leastFree_11 : decode cX0_leastFree 11 = .ok (.aload_n 0, 1) := by decide +kernel
theorem dX0_leastFree_12 : decode cX0_leastFree 12 = .ok (.getfield 43, 3) := by decide +kernel
theorem dX0_leastFree_15 : decode cX0_leastFree 15 = .ok (.if_icmp .ge 25, 3) := by decide +kernel
theorem dX0_leastFree_18 : decode cX0_leastFree 18 = .ok (.iload_n 2, 1) := by decide +kernel
theorem dX0_leastFree_19 : decode cX0_leastFree 19 = .ok (.aload_n 1, 1) := by decide +kernel
theorem dX0_leastFree_20 : decode cX0_leastFree 20 = .ok (.arraylength, 1) := by decide +kernel
theorem dX0_leastFree_21 : decode cX0_leastFree 21 = .ok (.if_icmp .ge 19, 3) := by decide +kernel
theorem dX0_leastFree_24 : decode cX0_leastFree 24 = .ok (.aload_n 1, 1) := by decide +kernel
theorem dX0_leastFree_25 : decode cX0_leastFree 25 = .ok (.iload_n 2, 1) := by decide +kernel
theorem dX0_leastFree_26 : decode cX0_leastFree 26 = .ok (.iaload, 1) := by decide +kernel
theorem dX0_leastFree_27 : decode cX0_leastFree 27 = .ok (.bipush (-6), 2) := by decide +kernel
theorem dX0_leastFree_29 : decode cX0_leastFree 29 = .ok (.if_icmp .ne 5, 3) := by decide +kernel
theorem dX0_leastFree_32 : decode cX0_leastFree 32 = .ok (.iload_n 2, 1) := by decide +kernel
theorem dX0_leastFree_33 : decode cX0_leastFree 33 = .ok (.ireturn, 1) := by decide +kernel
theorem dX0_leastFree_34 : decode cX0_leastFree 34 = .ok (.iinc 2 1, 3) := by decide +kernel
theorem dX0_leastFree_37 : decode cX0_leastFree 37 = .ok (.goto (-27), 3) := by decide +kernel
theorem dX0_leastFree_40 : decode cX0_leastFree 40 = .ok (.bipush (-6), 2) := by decide +kernel
theorem dX0_leastFree_42 : decode cX0_leastFree 42 = .ok (.ireturn, 1) := by decide +kernel
set_option maxRecDepth 20000 in
theorem ggX0_makeBid_X4_isInRow : GoodIn wsX0_makeBid wsX4_isInRow := goodIn_r _ [6] (by decide +kernel) (by decide +kernel)
set_option maxRecDepth 20000 in
theorem gX0_makeBid_X4_isInRow_n123 : GoodIn wsX0_makeBid (wsX4_isInRow) := ggX0_makeBid_X4_isInRow
set_option maxRecDepth 20000 in
theorem ggX0_makeBid_X4_give : GoodIn wsX0_makeBid wsX4_give := goodIn_r _ [9, 10, 11, 12, 4, 5, 6, 17, 18, 19, 20, 21, 22, 23, 24, 25, 26] (by decide +kernel) (by decide +kernel)
set_option maxRecDepth 20000 in
theorem gX0_makeBid_X4_give_n129 : GoodIn wsX0_makeBid (wsX4_give) := ggX0_makeBid_X4_give
theorem dX0_makeBid_0 : decode cX0_makeBid 0 = .ok (.iload_n 1, 1) := by decide +kernel
theorem dX0_makeBid_1 : decode cX0_makeBid 1 = .ok (.invokestatic 123, 3) := by decide +kernel
theorem dX0_makeBid_4 : decode cX0_makeBid 4 = .ok (.ifCond .eq 12, 3) := by decide +kernel
theorem dX0_makeBid_7 : decode cX0_makeBid 7 = .ok (.aload_n 0, 1) := by decide +kernel
theorem dX0_makeBid_8 : decode cX0_makeBid 8 = .ok (.getfield 43, 3) := by decide +kernel
theorem dX0_makeBid_11 : decode cX0_makeBid 11 = .ok (.bipush 16, 2) := by decide +kernel
theorem dX0_makeBid_13 : decode cX0_makeBid 13 = .ok (.if_icmp .le 4, 3) := by decide +kernel
theorem dX0_makeBid_16 : decode cX0_makeBid 16 = .ok (.return_, 1) := by decide +kernel
theorem dX0_makeBid_17 : decode cX0_makeBid 17 = .ok (.aload_n 0, 1) := by decide +kernel
theorem dX0_makeBid_18 : decode cX0_makeBid 18 = .ok (.getfield 22, 3) := by decide +kernel
theorem dX0_makeBid_21 : decode cX0_makeBid 21 = .ok (.getfield 126, 3) := by decide +kernel
theorem dX0_makeBid_24 : decode cX0_makeBid 24 = .ok (.astore_n 3, 1) := by decide +kernel
theorem dX0_makeBid_25 : decode cX0_makeBid 25 = .ok (.iload_n 1, 1) := by decide +kernel
theorem dX0_makeBid_26 : decode cX0_makeBid 26 = .ok (.bipush 16, 2) := by decide +kernel
theorem dX0_makeBid_28 : decode cX0_makeBid 28 = .ok (.imul, 1) := by decide +kernel
theorem dX0_makeBid_29 : decode cX0_makeBid 29 = .ok (.istore 4, 2) := by decide +kernel
theorem dX0_makeBid_31 : decode cX0_makeBid 31 = .ok (.iconst 0, 1) := by decide +kernel
theorem dX0_makeBid_32 : decode cX0_makeBid 32 = .ok (.istore 5, 2) := by decide +kernel
theorem dX0_makeBid_34 : decode cX0_makeBid 34 = .ok (.aload_n 0, 1) := by decide +kernel
theorem dX0_makeBid_35 : decode cX0_makeBid 35 = .ok (.getfield 23, 3) := by decide +kernel
theorem dX0_makeBid_38 : decode cX0_makeBid 38 = .ok (.iload 4, 2) := by decide +kernel
theorem dX0_makeBid_40 : decode cX0_makeBid 40 = .ok (.iaload, 1) := by decide +kernel
theorem dX0_makeBid_41 : decode cX0_makeBid 41 = .ok (.aload_n 3, 1) := by decide +kernel
theorem dX0_makeBid_42 : decode cX0_makeBid 42 = .ok (.iconst 0, 1) := by decide +kernel
theorem dX0_makeBid_43 : decode cX0_makeBid 43 = .ok (.iaload, 1) := by decide +kernel
theorem dX0_makeBid_44 : decode cX0_makeBid 44 = .ok (.isub, 1) := by decide +kernel
theorem dX0_makeBid_45 : decode cX0_makeBid 45 = .ok (.istore 6, 2) := by decide +kernel
theorem dX0_makeBid_47 : decode cX0_makeBid 47 = .ok (.iload 6, 2) := by decide +kernel
theorem dX0_makeBid_49 : decode cX0_makeBid 49 = .ok (.istore 7, 2) := by decide +kernel
theorem dX0_makeBid_51 : decode cX0_makeBid 51 = .ok (.iconst 1, 1) := by decide +kernel
theorem dX0_makeBid_52 : decode cX0_makeBid 52 = .ok (.istore 8, 2) := by decide +kernel
theorem dX0_makeBid_54 : decode cX0_makeBid 54 = .ok (.iload 8, 2) := by decide +kernel
theorem dX0_makeBid_56 : decode cX0_makeBid 56 = .ok (.aload_n 0, 1) := by decide +kernel
theorem dX0_makeBid_57 : decode cX0_makeBid 57 = .ok (.getfield 43, 3) := by decide +kernel
theorem dX0_makeBid_60 : decode cX0_makeBid 60 = .ok (.if_icmp .ge 65, 3) := by decide +kernel
theorem dX0_makeBid_63 : decode cX0_makeBid 63 = .ok (.aload_n 0, 1) := by decide +kernel
theorem dX0_makeBid_64 : decode cX0_makeBid 64 = .ok (.getfield 23, 3) := by decide +kernel
theorem dX0_makeBid_67 : decode cX0_makeBid 67 = .ok (.iload 4, 2) := by decide +kernel
theorem dX0_makeBid_69 : decode cX0_makeBid 69 = .ok (.iload 8, 2) := by decide +kernel
theorem dX0_makeBid_71 : decode cX0_makeBid 71 = .ok (.iadd, 1) := by decide +kernel
theorem dX0_makeBid_72 : decode cX0_makeBid 72 = .ok (.iaload, 1) := by decide +kernel
theorem dX0_makeBid_73 : decode cX0_makeBid 73 = .ok (.aload_n 3, 1) := by decide +kernel
theorem dX0_makeBid_74 : decode cX0_makeBid 74 = .ok (.iload 8, 2) := by decide +kernel
theorem dX0_makeBid_76 : decode cX0_makeBid 76 = .ok (.iaload, 1) := by decide +kernel
theorem dX0_makeBid_77 : decode cX0_makeBid 77 = .ok (.isub, 1) := by decide +kernel
theorem dX0_makeBid_78 : decode cX0_makeBid 78 = .ok (.istore 9, 2) := by decide +kernel
theorem dX0_makeBid_80 : decode cX0_makeBid 80 = .ok (.iload 9, 2) := by decide +kernel
theorem dX0_makeBid_82 : decode cX0_makeBid 82 = .ok (.iload 6, 2) := by decide +kernel
theorem dX0_makeBid_84 : decode cX0_makeBid 84 = .ok (.if_icmp .le 18, 3) := by decide +kernel
theorem dX0_makeBid_87 : decode cX0_makeBid 87 = .ok (.iload 6, 2) := by decide +kernel
theorem dX0_makeBid_89 : decode cX0_makeBid 89 = .ok (.istore 7, 2) := by decide +kernel
theorem dX0_makeBid_91 : decode cX0_makeBid 91 = .ok (.iload 9, 2) := by decide +kernel
theorem dX0_makeBid_93 : decode cX0_makeBid 93 = .ok (.istore 6, 2) := by decide +kernel
theorem dX0_makeBid_95 : decode cX0_makeBid 95 = .ok (.iload 8, 2) := by decide +kernel
theorem dX0_makeBid_97 : decode cX0_makeBid 97 = .ok (.istore 5, 2) := by decide +kernel
theorem dX0_makeBid_99 : decode cX0_makeBid 99 = .ok (.goto 20, 3) := by decide +kernel
theorem dX0_makeBid_102 : decode cX0_makeBid 102 = .ok (.iload 8, 2) := by decide +kernel
theorem dX0_makeBid_104 : decode cX0_makeBid 104 = .ok (.iconst 1, 1) := by decide +kernel
theorem dX0_makeBid_105 : decode cX0_makeBid 105 = .ok (.if_icmp .eq 10, 3) := by decide +kernel
theorem dX0_makeBid_108 : decode cX0_makeBid 108 = .ok (.iload 9, 2) := by decide +kernel
theorem dX0_makeBid_110 : decode cX0_makeBid 110 = .ok (.iload 7, 2) := by decide +kernel
theorem dX0_makeBid_112 : decode cX0_makeBid 112 = .ok (.if_icmp .le 7, 3) := by decide +kernel
theorem dX0_makeBid_115 : decode cX0_makeBid 115 = .ok (.iload 9, 2) := by decide +kernel
theorem dX0_makeBid_117 : decode cX0_makeBid 117 = .ok (.istore 7, 2) := by decide +kernel
theorem dX0_makeBid_119 : decode cX0_makeBid 119 = .ok (.iinc 8 1, 3) := by decide +kernel
theorem dX0_makeBid_122 : decode cX0_makeBid 122 = .ok (.goto (-68), 3) := by decide +kernel
theorem dX0_makeBid_125 : decode cX0_makeBid 125 = .ok (.aload_n 3, 1) := by decide +kernel
theorem dX0_makeBid_126 : decode cX0_makeBid 126 = .ok (.iload 5, 2) := by decide +kernel
theorem dX0_makeBid_128 : decode cX0_makeBid 128 = .ok (.dup2, 1) := by decide +kernel
theorem dX0_makeBid_129 : decode cX0_makeBid 129 = .ok (.iaload, 1) := by decide +kernel
theorem dX0_makeBid_130 : decode cX0_makeBid 130 = .ok (.iload 6, 2) := by decide +kernel
theorem dX0_makeBid_132 : decode cX0_makeBid 132 = .ok (.iload 7, 2) := by decide +kernel
theorem dX0_makeBid_134 : decode cX0_makeBid 134 = .ok (.isub, 1) := by decide +kernel
theorem dX0_makeBid_135 : decode cX0_makeBid 135 = .ok (.iload_n 2, 1) := by decide +kernel
theorem dX0_makeBid_136 : decode cX0_makeBid 136 = .ok (.iadd, 1) := by decide +kernel
theorem dX0_makeBid_137 : decode cX0_makeBid 137 = .ok (.iadd, 1) := by decide +kernel
theorem dX0_makeBid_138 : decode cX0_makeBid 138 = .ok (.iastore, 1) := by decide +kernel
theorem dX0_makeBid_139 : decode cX0_makeBid 139 = .ok (.aload_n 0, 1) := by decide +kernel
theorem dX0_makeBid_140 : decode cX0_makeBid 140 = .ok (.getfield 22, 3) := by decide +kernel
theorem dX0_makeBid_143 : decode cX0_makeBid 143 = .ok (.iload 5, 2) := by decide +kernel
theorem dX0_makeBid_145 : decode cX0_makeBid 145 = .ok (.iload_n 1, 1) := by decide +kernel
theorem dX0_makeBid_146 : decode cX0_makeBid 146 = .ok (.invokevirtual 129, 3) := by decide +kernel
theorem dX0_makeBid_149 : decode cX0_makeBid 149 = .ok (.return_, 1) := by decide +kernel
set_option maxRecDepth 20000 in
theorem ggX0_gainOf_X4_isInRow : GoodIn wsX0_gainOf wsX4_isInRow := goodIn_r _ [5] (by decide +kernel) (by decide +kernel)
set_option maxRecDepth 20000 in
theorem gX0_gainOf_X4_isInRow_n123 : GoodIn wsX0_gainOf (wsX4_isInRow) := ggX0_gainOf_X4_isInRow
theorem dX0_gainOf_0 : decode cX0_gainOf 0 = .ok (.iload_n 1, 1) := by decide +kernel
theorem dX0_gainOf_1 : decode cX0_gainOf 1 = .ok (.invokestatic 123, 3) := by decide +kernel
theorem dX0_gainOf_4 : decode cX0_gainOf 4 = .ok (.ifCond .eq 10, 3) := by decide +kernel
theorem dX0_gainOf_7 : decode cX0_gainOf 7 = .ok (.iload_n 2, 1) := by decide +kernel
theorem dX0_gainOf_8 : decode cX0_gainOf 8 = .ok (.invokestatic 123, 3) := by decide +kernel
theorem dX0_gainOf_11 : decode cX0_gainOf 11 = .ok (.ifCond .ne 5, 3) := by decide +kernel
theorem dX0_gainOf_14 : decode cX0_gainOf 14 = .ok (.iconst 0, 1) := by decide +kernel
theorem dX0_gainOf_15 : decode cX0_gainOf 15 = .ok (.ireturn, 1) := by decide +kernel
theorem dX0_gainOf_16 : decode cX0_gainOf 16 = .ok (.aload_n 0, 1) := by decide +kernel
theorem dX0_gainOf_17 : decode cX0_gainOf 17 = .ok (.getfield 23, 3) := by decide +kernel
theorem dX0_gainOf_20 : decode cX0_gainOf 20 = .ok (.iload_n 1, 1) := by decide +kernel
theorem dX0_gainOf_21 : decode cX0_gainOf 21 = .ok (.bipush 16, 2) := by decide +kernel
theorem dX0_gainOf_23 : decode cX0_gainOf 23 = .ok (.imul, 1) := by decide +kernel
theorem dX0_gainOf_24 : decode cX0_gainOf 24 = .ok (.iload_n 2, 1) := by decide +kernel
theorem dX0_gainOf_25 : decode cX0_gainOf 25 = .ok (.iadd, 1) := by decide +kernel
theorem dX0_gainOf_26 : decode cX0_gainOf 26 = .ok (.iaload, 1) := by decide +kernel
theorem dX0_gainOf_27 : decode cX0_gainOf 27 = .ok (.aload_n 0, 1) := by decide +kernel
theorem dX0_gainOf_28 : decode cX0_gainOf 28 = .ok (.getfield 22, 3) := by decide +kernel
theorem dX0_gainOf_31 : decode cX0_gainOf 31 = .ok (.getfield 126, 3) := by decide +kernel
theorem dX0_gainOf_34 : decode cX0_gainOf 34 = .ok (.iload_n 2, 1) := by decide +kernel
theorem dX0_gainOf_35 : decode cX0_gainOf 35 = .ok (.iaload, 1) := by decide +kernel
theorem dX0_gainOf_36 : decode cX0_gainOf 36 = .ok (.isub, 1) := by decide +kernel
theorem dX0_gainOf_37 : decode cX0_gainOf 37 = .ok (.ireturn, 1) := by decide +kernel
set_option maxRecDepth 20000 in
theorem ggX0_ownGain_X4_slotOf : GoodIn wsX0_ownGain wsX4_slotOf := goodIn_r _ [5, 6, 7, 8, 3, 9, 20, 21, 22, 23, 24, 25, 26, 27, 28, 29] (by decide +kernel) (by decide +kernel)
set_option maxRecDepth 20000 in
theorem gX0_ownGain_X4_slotOf_n132 : GoodIn wsX0_ownGain (wsX4_slotOf) := ggX0_ownGain_X4_slotOf
set_option maxRecDepth 20000 in
theorem ggX0_ownGain_X0_gainOf : GoodIn wsX0_ownGain wsX0_gainOf := goodIn_r _ [14, 15, 1, 8, 3, 9, 16, 17, 18, 19, 20, 21, 22, 23, 24, 25, 26, 27, 28, 29] (by decide +kernel) (by decide +kernel)
set_option maxRecDepth 20000 in
theorem gX0_ownGain_X0_gainOf : GoodIn wsX0_ownGain (wsV RX0 135 RX0 yX0_gainOf wsX0_gainOf) := goodIn_app (goodIn_of _ (by decide +kernel)) ggX0_ownGain_X0_gainOf
theorem dX0_ownGain_0 : decode cX0_ownGain 0 = .ok (.aload_n 0, 1) := by decide +kernel
theorem dX0_ownGain_1 : decode cX0_ownGain 1 = .ok (.iload_n 1, 1) := by decide +kernel
theorem dX0_ownGain_2 : decode cX0_ownGain 2 = .ok (.aload_n 0, 1) := by decide +kernel
theorem dX0_ownGain_3 : decode cX0_ownGain 3 = .ok (.getfield 22, 3) := by decide +kernel
theorem dX0_ownGain_6 : decode cX0_ownGain 6 = .ok (.iload_n 1, 1) := by decide +kernel
theorem dX0_ownGain_7 : decode cX0_ownGain 7 = .ok (.invokevirtual 132, 3) := by decide +kernel
theorem dX0_ownGain_10 : decode cX0_ownGain 10 = .ok (.invokevirtual 135, 3) := by decide +kernel
theorem dX0_ownGain_13 : decode cX0_ownGain 13 = .ok (.ireturn, 1) := by decide +kernel
set_option maxRecDepth 20000 in
theorem ggX0_greatestGain_X0_gainOf : GoodIn wsX0_greatestGain wsX0_gainOf := goodIn_r _ [10, 11, 12, 13, 14, 15, 16, 17, 18, 19, 20, 21, 22, 23, 24, 25, 26, 27, 28, 29] (by decide +kernel) (by decide +kernel)
set_option maxRecDepth 20000 in
theorem gX0_greatestGain_X0_gainOf : GoodIn wsX0_greatestGain (wsV RX0 135 RX0 yX0_gainOf wsX0_gainOf) := goodIn_app (goodIn_of _ (by decide +kernel)) ggX0_greatestGain_X0_gainOf
theorem dX0_greatestGain_0 : decode cX0_greatestGain 0 = .ok (.aload_n 0, 1) := by decide +kernel
theorem dX0_greatestGain_1 : decode cX0_greatestGain 1 = .ok (.iload_n 1, 1) := by decide +kernel
theorem dX0_greatestGain_2 : decode cX0_greatestGain 2 = .ok (.iconst 0, 1) := by decide +kernel
theorem dX0_greatestGain_3 : decode cX0_greatestGain 3 = .ok (.invokevirtual 135, 3) := by decide +kernel
theorem dX0_greatestGain_6 : decode cX0_greatestGain 6 = .ok (.istore_n 2, 1) := by decide +kernel
theorem dX0_greatestGain_7 : decode cX0_greatestGain 7 = .ok (.iconst 1, 1) := by decide +kernel
theorem dX0_greatestGain_8 : decode cX0_greatestGain 8 = .ok (.istore_n 3, 1) := by decide +kernel
theorem dX0_greatestGain_9 : decode cX0_greatestGain 9 = .ok (.iload_n 3, 1) := by decide +kernel
theorem dX0_greatestGain_10 : decode cX0_greatestGain 10 = .ok (.aload_n 0, 1) := by decide +kernel
theorem dX0_greatestGain_11 : decode cX0_greatestGain 11 = .ok (.getfield 43, 3) := by decide +kernel
theorem dX0_greatestGain_14 : decode cX0_greatestGain 14 = .ok (.if_icmp .ge 20, 3) := by decide +kernel
theorem dX0_greatestGain_17 : decode cX0_greatestGain 17 = .ok (.iload_n 2, 1) := by decide +kernel
theorem dX0_greatestGain_18 : decode cX0_greatestGain 18 = .ok (.aload_n 0, 1) := by decide +kernel
theorem dX0_greatestGain_19 : decode cX0_greatestGain 19 = .ok (.iload_n 1, 1) := by decide +kernel
theorem dX0_greatestGain_20 : decode cX0_greatestGain 20 = .ok (.iload_n 3, 1) := by decide +kernel
theorem dX0_greatestGain_21 : decode cX0_greatestGain 21 = .ok (.invokevirtual 135, 3) := by decide +kernel
theorem dX0_greatestGain_24 : decode cX0_greatestGain 24 = .ok (.invokestatic 77, 3) := by decide +kernel
theorem dX0_greatestGain_27 : decode cX0_greatestGain 27 = .ok (.istore_n 2, 1) := by decide +kernel
theorem dX0_greatestGain_28 : decode cX0_greatestGain 28 = .ok (.iinc 3 1, 3) := by decide +kernel
theorem dX0_greatestGain_31 : decode cX0_greatestGain 31 = .ok (.goto (-22), 3) := by decide +kernel
theorem dX0_greatestGain_34 : decode cX0_greatestGain 34 = .ok (.iload_n 2, 1) := by decide +kernel
theorem dX0_greatestGain_35 : decode cX0_greatestGain 35 = .ok (.ireturn, 1) := by decide +kernel
theorem dX1_init_0 : decode cX1_init 0 = .ok (.aload_n 0, 1) := by decide +kernel
theorem dX1_init_1 : decode cX1_init 1 = .ok (.invokespecial 3, 3) := by decide +kernel
theorem dX1_init_4 : decode cX1_init 4 = .ok (.aload_n 0, 1) := by decide +kernel
theorem dX1_init_5 : decode cX1_init 5 = .ok (.bipush 12, 2) := by decide +kernel
theorem dX1_init_7 : decode cX1_init 7 = .ok (.newarray .int, 2) := by decide +kernel
theorem dX1_init_9 : decode cX1_init 9 = .ok (.putfield 9, 3) := by decide +kernel
theorem dX1_init_12 : decode cX1_init 12 = .ok (.return_, 1) := by decide +kernel
theorem dX1_has_0 : decode cX1_has 0 = .ok (.iload_n 1, 1) := by decide +kernel
theorem dX1_has_1 : decode cX1_has 1 = .ok (.ifCond .lt 21, 3) := by decide +kernel
theorem dX1_has_4 : decode cX1_has 4 = .ok (.iload_n 1, 1) := by decide +kernel
theorem dX1_has_5 : decode cX1_has 5 = .ok (.aload_n 0, 1) := by decide +kernel
theorem dX1_has_6 : decode cX1_has 6 = .ok (.getfield 15, 3) := by decide +kernel
theorem dX1_has_9 : decode cX1_has 9 = .ok (.if_icmp .ge 13, 3) := by decide +kernel
theorem dX1_has_12 : decode cX1_has 12 = .ok (.iload_n 1, 1) := by decide +kernel
theorem dX1_has_13 : decode cX1_has 13 = .ok (.bipush 12, 2) := by decide +kernel
theorem dX1_has_15 : decode cX1_has 15 = .ok (.if_icmp .ge 7, 3) := by decide +kernel
theorem dX1_has_18 : decode cX1_has 18 = .ok (.iconst 1, 1) := by decide +kernel
theorem dX1_has_19 : decode cX1_has 19 = .ok (.goto 4, 3) := by decide +kernel
theorem dX1_has_22 : decode cX1_has 22 = .ok (.iconst 0, 1) := by decide +kernel
theorem dX1_has_23 : decode cX1_has 23 = .ok (.ireturn, 1) := by decide +kernel
theorem dX1_add_0 : decode cX1_add 0 = .ok (.aload_n 0, 1) := by decide +kernel
theorem dX1_add_1 : decode cX1_add 1 = .ok (.getfield 15, 3) := by decide +kernel
theorem dX1_add_4 : decode cX1_add 4 = .ok (.ifCond .lt 12, 3) := by decide +kernel
theorem dX1_add_7 : decode cX1_add 7 = .ok (.aload_n 0, 1) := by decide +kernel
theorem dX1_add_8 : decode cX1_add 8 = .ok (.getfield 15, 3) := by decide +kernel
theorem dX1_add_11 : decode cX1_add 11 = .ok (.bipush 12, 2) := by decide +kernel
theorem dX1_add_13 : decode cX1_add 13 = .ok (.if_icmp .lt 4, 3) := by decide +kernel
theorem dX1_add_16 : decode cX1_add 16 = .ok (.return_, 1) := by decide +kernel
theorem dX1_add_17 : decode cX1_add 17 = .ok (.aload_n 0, 1) := by decide +kernel
theorem dX1_add_18 : decode cX1_add 18 = .ok (.getfield 9, 3) := by decide +kernel
theorem dX1_add_21 : decode cX1_add 21 = .ok (.aload_n 0, 1) := by decide +kernel
theorem dX1_add_22 : decode cX1_add 22 = .ok (.getfield 15, 3) := by decide +kernel
theorem dX1_add_25 : decode cX1_add 25 = .ok (.iload_n 1, 1) := by decide +kernel
theorem dX1_add_26 : decode cX1_add 26 = .ok (.iastore, 1) := by decide +kernel
theorem dX1_add_27 : decode cX1_add 27 = .ok (.aload_n 0, 1) := by decide +kernel
theorem dX1_add_28 : decode cX1_add 28 = .ok (.dup, 1) := by decide +kernel
theorem dX1_add_29 : decode cX1_add 29 = .ok (.getfield 15, 3) := by decide +kernel
theorem dX1_add_32 : decode cX1_add 32 = .ok (.iconst 1, 1) := by decide +kernel
theorem dX1_add_33 : decode cX1_add 33 = .ok (.iadd, 1) := by decide +kernel
theorem dX1_add_34 : decode cX1_add 34 = .ok (.putfield 15, 3) := by decide +kernel
theorem dX1_add_37 : decode cX1_add 37 = .ok (.return_, 1) := by decide +kernel
set_option maxRecDepth 20000 in
theorem ggX1_takeOut_X1_has : GoodIn wsX1_takeOut wsX1_has := goodIn_r _ [7, 1, 8, 9] (by decide +kernel) (by decide +kernel)
set_option maxRecDepth 20000 in
theorem gX1_takeOut_X1_has : GoodIn wsX1_takeOut (wsV RX1 19 RX1 yX1_has wsX1_has) := goodIn_app (goodIn_of _ (by decide +kernel)) ggX1_takeOut_X1_has
theorem dX1_takeOut_0 : decode cX1_takeOut 0 = .ok (.aload_n 0, 1) := by decide +kernel
theorem dX1_takeOut_1 : decode cX1_takeOut 1 = .ok (.iload_n 1, 1) := by decide +kernel
theorem dX1_takeOut_2 : decode cX1_takeOut 2 = .ok (.invokevirtual 19, 3) := by decide +kernel
theorem dX1_takeOut_5 : decode cX1_takeOut 5 = .ok (.ifCond .ne 4, 3) := by decide +kernel
theorem dX1_takeOut_8 : decode cX1_takeOut 8 = .ok (.return_, 1) := by decide +kernel
theorem dX1_takeOut_9 : decode cX1_takeOut 9 = .ok (.aload_n 0, 1) := by decide +kernel
theorem dX1_takeOut_10 : decode cX1_takeOut 10 = .ok (.dup, 1) := by decide +kernel
theorem dX1_takeOut_11 : decode cX1_takeOut 11 = .ok (.getfield 15, 3) := by decide +kernel
theorem dX1_takeOut_14 : decode cX1_takeOut 14 = .ok (.iconst 1, 1) := by decide +kernel
theorem dX1_takeOut_15 : decode cX1_takeOut 15 = .ok (.isub, 1) := by decide +kernel
theorem dX1_takeOut_16 : decode cX1_takeOut 16 = .ok (.putfield 15, 3) := by decide +kernel
theorem dX1_takeOut_19 : decode cX1_takeOut 19 = .ok (.iload_n 1, 1) := by decide +kernel
theorem dX1_takeOut_20 : decode cX1_takeOut 20 = .ok (.istore_n 2, 1) := by decide +kernel
theorem dX1_takeOut_21 : decode cX1_takeOut 21 = .ok (.iload_n 2, 1) := by decide +kernel
theorem dX1_takeOut_22 : decode cX1_takeOut 22 = .ok (.aload_n 0, 1) := by decide +kernel
theorem dX1_takeOut_23 : decode cX1_takeOut 23 = .ok (.getfield 15, 3) := by decide +kernel
theorem dX1_takeOut_26 : decode cX1_takeOut 26 = .ok (.if_icmp .ge 31, 3) := by decide +kernel
theorem dX1_takeOut_29 : decode cX1_takeOut 29 = .ok (.iload_n 2, 1) := by decide +kernel
theorem dX1_takeOut_30 : decode cX1_takeOut 30 = .ok (.iconst 1, 1) := by decide +kernel
theorem dX1_takeOut_31 : decode cX1_takeOut 31 = .ok (.iadd, 1) := by decide +kernel
theorem dX1_takeOut_32 : decode cX1_takeOut 32 = .ok (.bipush 12, 2) := by decide +kernel
theorem dX1_takeOut_34 : decode cX1_takeOut 34 = .ok (.if_icmp .ge 23, 3) := by decide +kernel
theorem dX1_takeOut_37 : decode cX1_takeOut 37 = .ok (.aload_n 0, 1) := by decide +kernel
theorem dX1_takeOut_38 : decode cX1_takeOut 38 = .ok (.getfield 9, 3) := by decide +kernel
theorem dX1_takeOut_41 : decode cX1_takeOut 41 = .ok (.iload_n 2, 1) := by decide +kernel
theorem dX1_takeOut_42 : decode cX1_takeOut 42 = .ok (.aload_n 0, 1) := by decide +kernel
theorem dX1_takeOut_43 : decode cX1_takeOut 43 = .ok (.getfield 9, 3) := by decide +kernel
theorem dX1_takeOut_46 : decode cX1_takeOut 46 = .ok (.iload_n 2, 1) := by decide +kernel
theorem dX1_takeOut_47 : decode cX1_takeOut 47 = .ok (.iconst 1, 1) := by decide +kernel
theorem dX1_takeOut_48 : decode cX1_takeOut 48 = .ok (.iadd, 1) := by decide +kernel
theorem dX1_takeOut_49 : decode cX1_takeOut 49 = .ok (.iaload, 1) := by decide +kernel
theorem dX1_takeOut_50 : decode cX1_takeOut 50 = .ok (.iastore, 1) := by decide +kernel
theorem dX1_takeOut_51 : decode cX1_takeOut 51 = .ok (.iinc 2 1, 3) := by decide +kernel
theorem dX1_takeOut_54 : decode cX1_takeOut 54 = .ok (.goto (-33), 3) := by decide +kernel
theorem dX1_takeOut_57 : decode cX1_takeOut 57 = .ok (.return_, 1) := by decide +kernel
theorem dX1_copyFrom_0 : decode cX1_copyFrom 0 = .ok (.aload_n 0, 1) := by decide +kernel
theorem dX1_copyFrom_1 : decode cX1_copyFrom 1 = .ok (.aload_n 1, 1) := by decide +kernel
theorem dX1_copyFrom_2 : decode cX1_copyFrom 2 = .ok (.getfield 15, 3) := by decide +kernel
theorem dX1_copyFrom_5 : decode cX1_copyFrom 5 = .ok (.putfield 15, 3) := by decide +kernel
theorem dX1_copyFrom_8 : decode cX1_copyFrom 8 = .ok (.aload_n 1, 1) := by decide +kernel
theorem dX1_copyFrom_9 : decode cX1_copyFrom 9 = .ok (.getfield 9, 3) := by decide +kernel
theorem dX1_copyFrom_12 : decode cX1_copyFrom 12 = .ok (.iconst 0, 1) := by decide +kernel
theorem dX1_copyFrom_13 : decode cX1_copyFrom 13 = .ok (.aload_n 0, 1) := by decide +kernel
theorem dX1_copyFrom_14 : decode cX1_copyFrom 14 = .ok (.getfield 9, 3) := by decide +kernel
theorem dX1_copyFrom_17 : decode cX1_copyFrom 17 = .ok (.iconst 0, 1) := by decide +kernel
theorem dX1_copyFrom_18 : decode cX1_copyFrom 18 = .ok (.bipush 12, 2) := by decide +kernel
theorem dX1_copyFrom_20 : decode cX1_copyFrom 20 = .ok (.invokestatic 23, 3) := by decide +kernel
theorem dX1_copyFrom_23 : decode cX1_copyFrom 23 = .ok (.return_, 1) := by decide +kernel
theorem dX2_init_0 : decode cX2_init 0 = .ok (.aload_n 0, 1) := by decide +kernel
theorem dX2_init_1 : decode cX2_init 1 = .ok (.invokespecial 3, 3) := by decide +kernel
theorem dX2_init_4 : decode cX2_init 4 = .ok (.aload_n 0, 1) := by decide +kernel
theorem dX2_init_5 : decode cX2_init 5 = .ok (.bipush 8, 2) := by decide +kernel
theorem dX2_init_7 : decode cX2_init 7 = .ok (.newarray .int, 2) := by decide +kernel
theorem dX2_init_9 : decode cX2_init 9 = .ok (.putfield 9, 3) := by decide +kernel
theorem dX2_init_12 : decode cX2_init 12 = .ok (.aload_n 0, 1) := by decide +kernel
theorem dX2_init_13 : decode cX2_init 13 = .ok (.bipush 8, 2) := by decide +kernel
theorem dX2_init_15 : decode cX2_init 15 = .ok (.newarray .int, 2) := by decide +kernel
theorem dX2_init_17 : decode cX2_init 17 = .ok (.putfield 15, 3) := by decide +kernel
theorem dX2_init_20 : decode cX2_init 20 = .ok (.return_, 1) := by decide +kernel
theorem dX2_has_0 : decode cX2_has 0 = .ok (.iload_n 1, 1) := by decide +kernel
theorem dX2_has_1 : decode cX2_has 1 = .ok (.ifCond .lt 21, 3) := by decide +kernel
theorem dX2_has_4 : decode cX2_has 4 = .ok (.iload_n 1, 1) := by decide +kernel
theorem dX2_has_5 : decode cX2_has 5 = .ok (.aload_n 0, 1) := by decide +kernel
theorem dX2_has_6 : decode cX2_has 6 = .ok (.getfield 18, 3) := by decide +kernel
theorem dX2_has_9 : decode cX2_has 9 = .ok (.if_icmp .ge 13, 3) := by decide +kernel
theorem dX2_has_12 : decode cX2_has 12 = .ok (.iload_n 1, 1) := by decide +kernel
theorem dX2_has_13 : decode cX2_has 13 = .ok (.bipush 8, 2) := by decide +kernel
theorem dX2_has_15 : decode cX2_has 15 = .ok (.if_icmp .ge 7, 3) := by decide +kernel
theorem dX2_has_18 : decode cX2_has 18 = .ok (.iconst 1, 1) := by decide +kernel
theorem dX2_has_19 : decode cX2_has 19 = .ok (.goto 4, 3) := by decide +kernel
theorem dX2_has_22 : decode cX2_has 22 = .ok (.iconst 0, 1) := by decide +kernel
theorem dX2_has_23 : decode cX2_has 23 = .ok (.ireturn, 1) := by decide +kernel
theorem dX2_numberOf_0 : decode cX2_numberOf 0 = .ok (.iconst 0, 1) := by decide +kernel
theorem dX2_numberOf_1 : decode cX2_numberOf 1 = .ok (.istore_n 2, 1) := by decide +kernel
theorem dX2_numberOf_2 : decode cX2_numberOf 2 = .ok (.iload_n 2, 1) := by decide +kernel
theorem dX2_numberOf_3 : decode cX2_numberOf 3 = .ok (.aload_n 0, 1) := by decide +kernel
theorem dX2_numberOf_4 : decode cX2_numberOf 4 = .ok (.getfield 18, 3) := by decide +kernel
theorem dX2_numberOf_7 : decode cX2_numberOf 7 = .ok (.if_icmp .ge 27, 3) := by decide +kernel
theorem dX2_numberOf_10 : decode cX2_numberOf 10 = .ok (.iload_n 2, 1) := by decide +kernel
theorem dX2_numberOf_11 : decode cX2_numberOf 11 = .ok (.bipush 8, 2) := by decide +kernel
theorem dX2_numberOf_13 : decode cX2_numberOf 13 = .ok (.if_icmp .ge 21, 3) := by decide +kernel
theorem dX2_numberOf_16 : decode cX2_numberOf 16 = .ok (.aload_n 0, 1) := by decide +kernel
theorem dX2_numberOf_17 : decode cX2_numberOf 17 = .ok (.getfield 9, 3) := by decide +kernel
theorem dX2_numberOf_20 : decode cX2_numberOf 20 = .ok (.iload_n 2, 1) := by decide +kernel
theorem dX2_numberOf_21 : decode cX2_numberOf 21 = .ok (.iaload, 1) := by decide +kernel
theorem dX2_numberOf_22 : decode cX2_numberOf 22 = .ok (.iload_n 1, 1) := by decide +kernel
theorem dX2_numberOf_23 : decode cX2_numberOf 23 = .ok (.if_icmp .ne 5, 3) := by decide +kernel
theorem dX2_numberOf_26 : decode cX2_numberOf 26 = .ok (.iload_n 2, 1) := by decide +kernel
theorem dX2_numberOf_27 : decode cX2_numberOf 27 = .ok (.ireturn, 1) := by decide +kernel
theorem dX2_numberOf_28 : decode cX2_numberOf 28 = .ok (.iinc 2 1, 3) := by decide +kernel
theorem dX2_numberOf_31 : decode cX2_numberOf 31 = .ok (.goto (-29), 3) := by decide +kernel
theorem dX2_numberOf_34 : decode cX2_numberOf 34 = .ok (.bipush (-6), 2) := by decide +kernel
theorem dX2_numberOf_36 : decode cX2_numberOf 36 = .ok (.ireturn, 1) := by decide +kernel
set_option maxRecDepth 20000 in
theorem ggX2_slots_X2_firstSlot : GoodIn wsX2_slots wsX2_firstSlot := goodIn_r _ [6, 7, 8, 9, 10] (by decide +kernel) (by decide +kernel)
set_option maxRecDepth 20000 in
theorem gX2_slots_X2_firstSlot : GoodIn wsX2_slots (wsV RX2 22 RX2 yX2_firstSlot wsX2_firstSlot) := goodIn_app (goodIn_of _ (by decide +kernel)) ggX2_slots_X2_firstSlot
theorem dX2_slots_0 : decode cX2_slots 0 = .ok (.aload_n 0, 1) := by decide +kernel
theorem dX2_slots_1 : decode cX2_slots 1 = .ok (.aload_n 0, 1) := by decide +kernel
theorem dX2_slots_2 : decode cX2_slots 2 = .ok (.getfield 18, 3) := by decide +kernel
theorem dX2_slots_5 : decode cX2_slots 5 = .ok (.invokevirtual 22, 3) := by decide +kernel
theorem dX2_slots_8 : decode cX2_slots 8 = .ok (.ireturn, 1) := by decide +kernel
theorem dX2_firstSlot_0 : decode cX2_firstSlot 0 = .ok (.iconst 0, 1) := by decide +kernel
theorem dX2_firstSlot_1 : decode cX2_firstSlot 1 = .ok (.istore_n 2, 1) := by decide +kernel
theorem dX2_firstSlot_2 : decode cX2_firstSlot 2 = .ok (.iconst 0, 1) := by decide +kernel
theorem dX2_firstSlot_3 : decode cX2_firstSlot 3 = .ok (.istore_n 3, 1) := by decide +kernel
theorem dX2_firstSlot_4 : decode cX2_firstSlot 4 = .ok (.iload_n 3, 1) := by decide +kernel
theorem dX2_firstSlot_5 : decode cX2_firstSlot 5 = .ok (.iload_n 1, 1) := by decide +kernel
theorem dX2_firstSlot_6 : decode cX2_firstSlot 6 = .ok (.if_icmp .ge 24, 3) := by decide +kernel
theorem dX2_firstSlot_9 : decode cX2_firstSlot 9 = .ok (.iload_n 3, 1) := by decide +kernel
theorem dX2_firstSlot_10 : decode cX2_firstSlot 10 = .ok (.bipush 8, 2) := by decide +kernel
theorem dX2_firstSlot_12 : decode cX2_firstSlot 12 = .ok (.if_icmp .ge 18, 3) := by decide +kernel
theorem dX2_firstSlot_15 : decode cX2_firstSlot 15 = .ok (.iload_n 2, 1) := by decide +kernel
theorem dX2_firstSlot_16 : decode cX2_firstSlot 16 = .ok (.aload_n 0, 1) := by decide +kernel
theorem dX2_firstSlot_17 : decode cX2_firstSlot 17 = .ok (.getfield 15, 3) := by decide +kernel
theorem dX2_firstSlot_20 : decode cX2_firstSlot 20 = .ok (.iload_n 3, 1) := by decide +kernel
theorem dX2_firstSlot_21 : decode cX2_firstSlot 21 = .ok (.iaload, 1) := by decide +kernel
theorem dX2_firstSlot_22 : decode cX2_firstSlot 22 = .ok (.iadd, 1) := by decide +kernel
theorem dX2_firstSlot_23 : decode cX2_firstSlot 23 = .ok (.istore_n 2, 1) := by decide +kernel
theorem dX2_firstSlot_24 : decode cX2_firstSlot 24 = .ok (.iinc 3 1, 3) := by decide +kernel
theorem dX2_firstSlot_27 : decode cX2_firstSlot 27 = .ok (.goto (-23), 3) := by decide +kernel
theorem dX2_firstSlot_30 : decode cX2_firstSlot 30 = .ok (.iload_n 2, 1) := by decide +kernel
theorem dX2_firstSlot_31 : decode cX2_firstSlot 31 = .ok (.ireturn, 1) := by decide +kernel
theorem dX2_ofSlot_0 : decode cX2_ofSlot 0 = .ok (.iconst 0, 1) := by decide +kernel
theorem dX2_ofSlot_1 : decode cX2_ofSlot 1 = .ok (.istore_n 2, 1) := by decide +kernel
theorem dX2_ofSlot_2 : decode cX2_ofSlot 2 = .ok (.iconst 0, 1) := by decide +kernel
theorem dX2_ofSlot_3 : decode cX2_ofSlot 3 = .ok (.istore_n 3, 1) := by decide +kernel
theorem dX2_ofSlot_4 : decode cX2_ofSlot 4 = .ok (.iload_n 3, 1) := by decide +kernel
theorem dX2_ofSlot_5 : decode cX2_ofSlot 5 = .ok (.aload_n 0, 1) := by decide +kernel
theorem dX2_ofSlot_6 : decode cX2_ofSlot 6 = .ok (.getfield 18, 3) := by decide +kernel
theorem dX2_ofSlot_9 : decode cX2_ofSlot 9 = .ok (.if_icmp .ge 35, 3) := by decide +kernel
theorem dX2_ofSlot_12 : decode cX2_ofSlot 12 = .ok (.iload_n 3, 1) := by decide +kernel
theorem dX2_ofSlot_13 : decode cX2_ofSlot 13 = .ok (.bipush 8, 2) := by decide +kernel
theorem dX2_ofSlot_15 : decode cX2_ofSlot 15 = .ok (.if_icmp .ge 29, 3) := by decide +kernel
theorem dX2_ofSlot_18 : decode cX2_ofSlot 18 = .ok (.iload_n 2, 1) := by decide +kernel
theorem dX2_ofSlot_19 : decode cX2_ofSlot 19 = .ok (.aload_n 0, 1) := by decide +kernel
theorem dX2_ofSlot_20 : decode cX2_ofSlot 20 = .ok (.getfield 15, 3) := by decide +kernel
theorem dX2_ofSlot_23 : decode cX2_ofSlot 23 = .ok (.iload_n 3, 1) := by decide +kernel
theorem dX2_ofSlot_24 : decode cX2_ofSlot 24 = .ok (.iaload, 1) := by decide +kernel
theorem dX2_ofSlot_25 : decode cX2_ofSlot 25 = .ok (.iadd, 1) := by decide +kernel
theorem dX2_ofSlot_26 : decode cX2_ofSlot 26 = .ok (.istore_n 2, 1) := by decide +kernel
theorem dX2_ofSlot_27 : decode cX2_ofSlot 27 = .ok (.iload_n 1, 1) := by decide +kernel
theorem dX2_ofSlot_28 : decode cX2_ofSlot 28 = .ok (.ifCond .lt 10, 3) := by decide +kernel
theorem dX2_ofSlot_31 : decode cX2_ofSlot 31 = .ok (.iload_n 1, 1) := by decide +kernel
theorem dX2_ofSlot_32 : decode cX2_ofSlot 32 = .ok (.iload_n 2, 1) := by decide +kernel
theorem dX2_ofSlot_33 : decode cX2_ofSlot 33 = .ok (.if_icmp .ge 5, 3) := by decide +kernel
theorem dX2_ofSlot_36 : decode cX2_ofSlot 36 = .ok (.iload_n 3, 1) := by decide +kernel
theorem dX2_ofSlot_37 : decode cX2_ofSlot 37 = .ok (.ireturn, 1) := by decide +kernel
theorem dX2_ofSlot_38 : decode cX2_ofSlot 38 = .ok (.iinc 3 1, 3) := by decide +kernel
theorem dX2_ofSlot_41 : decode cX2_ofSlot 41 = .ok (.goto (-37), 3) := by decide +kernel
theorem dX2_ofSlot_44 : decode cX2_ofSlot 44 = .ok (.bipush (-6), 2) := by decide +kernel
theorem dX2_ofSlot_46 : decode cX2_ofSlot 46 = .ok (.ireturn, 1) := by decide +kernel
set_option maxRecDepth 20000 in
theorem ggX2_hasRoom_X2_numberOf : GoodIn wsX2_hasRoom wsX2_numberOf := goodIn_r _ [7, 2, 8, 21, 22, 23] (by decide +kernel) (by decide +kernel)
set_option maxRecDepth 20000 in
theorem gX2_hasRoom_X2_numberOf : GoodIn wsX2_hasRoom (wsV RX2 26 RX2 yX2_numberOf wsX2_numberOf) := goodIn_app (goodIn_of _ (by decide +kernel)) ggX2_hasRoom_X2_numberOf
set_option maxRecDepth 20000 in
theorem ggX2_hasRoom_X2_has : GoodIn wsX2_hasRoom wsX2_has := goodIn_r _ [12, 2, 21, 22, 23] (by decide +kernel) (by decide +kernel)
set_option maxRecDepth 20000 in
theorem gX2_hasRoom_X2_has : GoodIn wsX2_hasRoom (wsV RX2 29 RX2 yX2_has wsX2_has) := goodIn_app (goodIn_of _ (by decide +kernel)) ggX2_hasRoom_X2_has
set_option maxRecDepth 20000 in
theorem ggX2_hasRoom_X2_slots : GoodIn wsX2_hasRoom wsX2_slots := goodIn_r _ [16, 2, 17, 18, 19, 6, 20, 1, 21, 22, 23] (by decide +kernel) (by decide +kernel)
set_option maxRecDepth 20000 in
theorem gX2_hasRoom_X2_slots : GoodIn wsX2_hasRoom (wsV RX2 33 RX2 yX2_slots wsX2_slots) := goodIn_app (goodIn_of _ (by decide +kernel)) ggX2_hasRoom_X2_slots
theorem dX2_hasRoom_0 : decode cX2_hasRoom 0 = .ok (.aload_n 0, 1) := by decide +kernel
theorem dX2_hasRoom_1 : decode cX2_hasRoom 1 = .ok (.iload_n 1, 1) := by decide +kernel
theorem dX2_hasRoom_2 : decode cX2_hasRoom 2 = .ok (.invokevirtual 26, 3) := by decide +kernel
theorem dX2_hasRoom_5 : decode cX2_hasRoom 5 = .ok (.istore_n 3, 1) := by decide +kernel
theorem dX2_hasRoom_6 : decode cX2_hasRoom 6 = .ok (.aload_n 0, 1) := by decide +kernel
theorem dX2_hasRoom_7 : decode cX2_hasRoom 7 = .ok (.iload_n 3, 1) := by decide +kernel
theorem dX2_hasRoom_8 : decode cX2_hasRoom 8 = .ok (.invokevirtual 29, 3) := by decide +kernel
theorem dX2_hasRoom_11 : decode cX2_hasRoom 11 = .ok (.ifCond .eq 23, 3) := by decide +kernel
theorem dX2_hasRoom_14 : decode cX2_hasRoom 14 = .ok (.aload_n 0, 1) := by decide +kernel
theorem dX2_hasRoom_15 : decode cX2_hasRoom 15 = .ok (.getfield 15, 3) := by decide +kernel
theorem dX2_hasRoom_18 : decode cX2_hasRoom 18 = .ok (.iload_n 3, 1) := by decide +kernel
theorem dX2_hasRoom_19 : decode cX2_hasRoom 19 = .ok (.iaload, 1) := by decide +kernel
theorem dX2_hasRoom_20 : decode cX2_hasRoom 20 = .ok (.iload_n 2, 1) := by decide +kernel
theorem dX2_hasRoom_21 : decode cX2_hasRoom 21 = .ok (.iadd, 1) := by decide +kernel
theorem dX2_hasRoom_22 : decode cX2_hasRoom 22 = .ok (.iconst 4, 1) := by decide +kernel
theorem dX2_hasRoom_23 : decode cX2_hasRoom 23 = .ok (.if_icmp .gt 7, 3) := by decide +kernel
theorem dX2_hasRoom_26 : decode cX2_hasRoom 26 = .ok (.iconst 1, 1) := by decide +kernel
theorem dX2_hasRoom_27 : decode cX2_hasRoom 27 = .ok (.goto 21, 3) := by decide +kernel
theorem dX2_hasRoom_30 : decode cX2_hasRoom 30 = .ok (.iconst 0, 1) := by decide +kernel
theorem dX2_hasRoom_31 : decode cX2_hasRoom 31 = .ok (.goto 17, 3) := by decide +kernel
theorem dX2_hasRoom_34 : decode cX2_hasRoom 34 = .ok (.aload_n 0, 1) := by decide +kernel
theorem dX2_hasRoom_35 : decode cX2_hasRoom 35 = .ok (.getfield 18, 3) := by decide +kernel
theorem dX2_hasRoom_38 : decode cX2_hasRoom 38 = .ok (.bipush 8, 2) := by decide +kernel
theorem dX2_hasRoom_40 : decode cX2_hasRoom 40 = .ok (.if_icmp .ge 7, 3) := by decide +kernel
theorem dX2_hasRoom_43 : decode cX2_hasRoom 43 = .ok (.iconst 1, 1) := by decide +kernel
theorem dX2_hasRoom_44 : decode cX2_hasRoom 44 = .ok (.goto 4, 3) := by decide +kernel
theorem dX2_hasRoom_47 : decode cX2_hasRoom 47 = .ok (.iconst 0, 1) := by decide +kernel
theorem dX2_hasRoom_48 : decode cX2_hasRoom 48 = .ok (.istore 4, 2) := by decide +kernel
theorem dX2_hasRoom_50 : decode cX2_hasRoom 50 = .ok (.iload 4, 2) := by decide +kernel
theorem dX2_hasRoom_52 : decode cX2_hasRoom 52 = .ok (.ifCond .eq 18, 3) := by decide +kernel
theorem dX2_hasRoom_55 : decode cX2_hasRoom 55 = .ok (.aload_n 0, 1) := by decide +kernel
theorem dX2_hasRoom_56 : decode cX2_hasRoom 56 = .ok (.invokevirtual 33, 3) := by decide +kernel
theorem dX2_hasRoom_59 : decode cX2_hasRoom 59 = .ok (.iload_n 2, 1) := by decide +kernel
theorem dX2_hasRoom_60 : decode cX2_hasRoom 60 = .ok (.iadd, 1) := by decide +kernel
theorem dX2_hasRoom_61 : decode cX2_hasRoom 61 = .ok (.bipush 16, 2) := by decide +kernel
theorem dX2_hasRoom_63 : decode cX2_hasRoom 63 = .ok (.if_icmp .gt 7, 3) := by decide +kernel
theorem dX2_hasRoom_66 : decode cX2_hasRoom 66 = .ok (.iconst 1, 1) := by decide +kernel
theorem dX2_hasRoom_67 : decode cX2_hasRoom 67 = .ok (.goto 4, 3) := by decide +kernel
theorem dX2_hasRoom_70 : decode cX2_hasRoom 70 = .ok (.iconst 0, 1) := by decide +kernel
theorem dX2_hasRoom_71 : decode cX2_hasRoom 71 = .ok (.ireturn, 1) := by decide +kernel
set_option maxRecDepth 20000 in
theorem ggX2_add_X2_numberOf : GoodIn wsX2_add wsX2_numberOf := goodIn_r _ [8, 1, 2, 9, 10, 11] (by decide +kernel) (by decide +kernel)
set_option maxRecDepth 20000 in
theorem gX2_add_X2_numberOf : GoodIn wsX2_add (wsV RX2 26 RX2 yX2_numberOf wsX2_numberOf) := goodIn_app (goodIn_of _ (by decide +kernel)) ggX2_add_X2_numberOf
theorem dX2_add_0 : decode cX2_add 0 = .ok (.aload_n 0, 1) := by decide +kernel
theorem dX2_add_1 : decode cX2_add 1 = .ok (.iload_n 1, 1) := by decide +kernel
theorem dX2_add_2 : decode cX2_add 2 = .ok (.invokevirtual 26, 3) := by decide +kernel
theorem dX2_add_5 : decode cX2_add 5 = .ok (.istore_n 3, 1) := by decide +kernel
theorem dX2_add_6 : decode cX2_add 6 = .ok (.iload_n 3, 1) := by decide +kernel
theorem dX2_add_7 : decode cX2_add 7 = .ok (.bipush (-6), 2) := by decide +kernel
theorem dX2_add_9 : decode cX2_add 9 = .ok (.if_icmp .ne 10, 3) := by decide +kernel
theorem dX2_add_12 : decode cX2_add 12 = .ok (.aload_n 0, 1) := by decide +kernel
theorem dX2_add_13 : decode cX2_add 13 = .ok (.getfield 18, 3) := by decide +kernel
theorem dX2_add_16 : decode cX2_add 16 = .ok (.goto 4, 3) := by decide +kernel
theorem dX2_add_19 : decode cX2_add 19 = .ok (.iload_n 3, 1) := by decide +kernel
theorem dX2_add_20 : decode cX2_add 20 = .ok (.istore 4, 2) := by decide +kernel
theorem dX2_add_22 : decode cX2_add 22 = .ok (.iload 4, 2) := by decide +kernel
theorem dX2_add_24 : decode cX2_add 24 = .ok (.ifCond .lt 10, 3) := by decide +kernel
theorem dX2_add_27 : decode cX2_add 27 = .ok (.iload 4, 2) := by decide +kernel
theorem dX2_add_29 : decode cX2_add 29 = .ok (.bipush 8, 2) := by decide +kernel
theorem dX2_add_31 : decode cX2_add 31 = .ok (.if_icmp .lt 5, 3) := by decide +kernel
theorem dX2_add_34 : decode cX2_add 34 = .ok (.iconst 0, 1) := by decide +kernel
theorem dX2_add_35 : decode cX2_add 35 = .ok (.ireturn, 1) := by decide +kernel
theorem dX2_add_36 : decode cX2_add 36 = .ok (.iload 4, 2) := by decide +kernel
theorem dX2_add_38 : decode cX2_add 38 = .ok (.aload_n 0, 1) := by decide +kernel
theorem dX2_add_39 : decode cX2_add 39 = .ok (.getfield 18, 3) := by decide +kernel
theorem dX2_add_42 : decode cX2_add 42 = .ok (.if_icmp .ne 29, 3) := by decide +kernel
theorem dX2_add_45 : decode cX2_add 45 = .ok (.aload_n 0, 1) := by decide +kernel
theorem dX2_add_46 : decode cX2_add 46 = .ok (.getfield 9, 3) := by decide +kernel
theorem dX2_add_49 : decode cX2_add 49 = .ok (.iload 4, 2) := by decide +kernel
theorem dX2_add_51 : decode cX2_add 51 = .ok (.iload_n 1, 1) := by decide +kernel
theorem dX2_add_52 : decode cX2_add 52 = .ok (.iastore, 1) := by decide +kernel
theorem dX2_add_53 : decode cX2_add 53 = .ok (.aload_n 0, 1) := by decide +kernel
theorem dX2_add_54 : decode cX2_add 54 = .ok (.getfield 15, 3) := by decide +kernel
theorem dX2_add_57 : decode cX2_add 57 = .ok (.iload 4, 2) := by decide +kernel
theorem dX2_add_59 : decode cX2_add 59 = .ok (.iconst 0, 1) := by decide +kernel
theorem dX2_add_60 : decode cX2_add 60 = .ok (.iastore, 1) := by decide +kernel
theorem dX2_add_61 : decode cX2_add 61 = .ok (.aload_n 0, 1) := by decide +kernel
theorem dX2_add_62 : decode cX2_add 62 = .ok (.dup, 1) := by decide +kernel
theorem dX2_add_63 : decode cX2_add 63 = .ok (.getfield 18, 3) := by decide +kernel
theorem dX2_add_66 : decode cX2_add 66 = .ok (.iconst 1, 1) := by decide +kernel
theorem dX2_add_67 : decode cX2_add 67 = .ok (.iadd, 1) := by decide +kernel
theorem dX2_add_68 : decode cX2_add 68 = .ok (.putfield 18, 3) := by decide +kernel
theorem dX2_add_71 : decode cX2_add 71 = .ok (.aload_n 0, 1) := by decide +kernel
theorem dX2_add_72 : decode cX2_add 72 = .ok (.getfield 15, 3) := by decide +kernel
theorem dX2_add_75 : decode cX2_add 75 = .ok (.iload 4, 2) := by decide +kernel
theorem dX2_add_77 : decode cX2_add 77 = .ok (.dup2, 1) := by decide +kernel
theorem dX2_add_78 : decode cX2_add 78 = .ok (.iaload, 1) := by decide +kernel
theorem dX2_add_79 : decode cX2_add 79 = .ok (.iload_n 2, 1) := by decide +kernel
theorem dX2_add_80 : decode cX2_add 80 = .ok (.iadd, 1) := by decide +kernel
theorem dX2_add_81 : decode cX2_add 81 = .ok (.iastore, 1) := by decide +kernel
theorem dX2_add_82 : decode cX2_add 82 = .ok (.aload_n 0, 1) := by decide +kernel
theorem dX2_add_83 : decode cX2_add 83 = .ok (.getfield 15, 3) := by decide +kernel
theorem dX2_add_86 : decode cX2_add 86 = .ok (.iload 4, 2) := by decide +kernel
theorem dX2_add_88 : decode cX2_add 88 = .ok (.iaload, 1) := by decide +kernel
theorem dX2_add_89 : decode cX2_add 89 = .ok (.ireturn, 1) := by decide +kernel
set_option maxRecDepth 20000 in
theorem ggX2_takeOut_X2_has : GoodIn wsX2_takeOut wsX2_has := goodIn_r _ [8, 1, 9, 10, 11] (by decide +kernel) (by decide +kernel)
set_option maxRecDepth 20000 in
theorem gX2_takeOut_X2_has : GoodIn wsX2_takeOut (wsV RX2 29 RX2 yX2_has wsX2_has) := goodIn_app (goodIn_of _ (by decide +kernel)) ggX2_takeOut_X2_has
theorem dX2_takeOut_0 : decode cX2_takeOut 0 = .ok (.aload_n 0, 1) := by decide +kernel
theorem dX2_takeOut_1 : decode cX2_takeOut 1 = .ok (.iload_n 1, 1) := by decide +kernel
theorem dX2_takeOut_2 : decode cX2_takeOut 2 = .ok (.invokevirtual 29, 3) := by decide +kernel
theorem dX2_takeOut_5 : decode cX2_takeOut 5 = .ok (.ifCond .ne 4, 3) := by decide +kernel
theorem dX2_takeOut_8 : decode cX2_takeOut 8 = .ok (.return_, 1) := by decide +kernel
theorem dX2_takeOut_9 : decode cX2_takeOut 9 = .ok (.aload_n 0, 1) := by decide +kernel
theorem dX2_takeOut_10 : decode cX2_takeOut 10 = .ok (.dup, 1) := by decide +kernel
theorem dX2_takeOut_11 : decode cX2_takeOut 11 = .ok (.getfield 18, 3) := by decide +kernel
theorem dX2_takeOut_14 : decode cX2_takeOut 14 = .ok (.iconst 1, 1) := by decide +kernel
theorem dX2_takeOut_15 : decode cX2_takeOut 15 = .ok (.isub, 1) := by decide +kernel
theorem dX2_takeOut_16 : decode cX2_takeOut 16 = .ok (.putfield 18, 3) := by decide +kernel
theorem dX2_takeOut_19 : decode cX2_takeOut 19 = .ok (.iload_n 1, 1) := by decide +kernel
theorem dX2_takeOut_20 : decode cX2_takeOut 20 = .ok (.istore_n 2, 1) := by decide +kernel
theorem dX2_takeOut_21 : decode cX2_takeOut 21 = .ok (.iload_n 2, 1) := by decide +kernel
theorem dX2_takeOut_22 : decode cX2_takeOut 22 = .ok (.aload_n 0, 1) := by decide +kernel
theorem dX2_takeOut_23 : decode cX2_takeOut 23 = .ok (.getfield 18, 3) := by decide +kernel
theorem dX2_takeOut_26 : decode cX2_takeOut 26 = .ok (.if_icmp .ge 45, 3) := by decide +kernel
theorem dX2_takeOut_29 : decode cX2_takeOut 29 = .ok (.iload_n 2, 1) := by decide +kernel
theorem dX2_takeOut_30 : decode cX2_takeOut 30 = .ok (.iconst 1, 1) := by decide +kernel
theorem dX2_takeOut_31 : decode cX2_takeOut 31 = .ok (.iadd, 1) := by decide +kernel
theorem dX2_takeOut_32 : decode cX2_takeOut 32 = .ok (.bipush 8, 2) := by decide +kernel
theorem dX2_takeOut_34 : decode cX2_takeOut 34 = .ok (.if_icmp .ge 37, 3) := by decide +kernel
theorem dX2_takeOut_37 : decode cX2_takeOut 37 = .ok (.aload_n 0, 1) := by decide +kernel
theorem dX2_takeOut_38 : decode cX2_takeOut 38 = .ok (.getfield 9, 3) := by decide +kernel
theorem dX2_takeOut_41 : decode cX2_takeOut 41 = .ok (.iload_n 2, 1) := by decide +kernel
theorem dX2_takeOut_42 : decode cX2_takeOut 42 = .ok (.aload_n 0, 1) := by decide +kernel
theorem dX2_takeOut_43 : decode cX2_takeOut 43 = .ok (.getfield 9, 3) := by decide +kernel
theorem dX2_takeOut_46 : decode cX2_takeOut 46 = .ok (.iload_n 2, 1) := by decide +kernel
theorem dX2_takeOut_47 : decode cX2_takeOut 47 = .ok (.iconst 1, 1) := by decide +kernel
theorem dX2_takeOut_48 : decode cX2_takeOut 48 = .ok (.iadd, 1) := by decide +kernel
theorem dX2_takeOut_49 : decode cX2_takeOut 49 = .ok (.iaload, 1) := by decide +kernel
theorem dX2_takeOut_50 : decode cX2_takeOut 50 = .ok (.iastore, 1) := by decide +kernel
theorem dX2_takeOut_51 : decode cX2_takeOut 51 = .ok (.aload_n 0, 1) := by decide +kernel
theorem dX2_takeOut_52 : decode cX2_takeOut 52 = .ok (.getfield 15, 3) := by decide +kernel
theorem dX2_takeOut_55 : decode cX2_takeOut 55 = .ok (.iload_n 2, 1) := by decide +kernel
theorem dX2_takeOut_56 : decode cX2_takeOut 56 = .ok (.aload_n 0, 1) := by decide +kernel
theorem dX2_takeOut_57 : decode cX2_takeOut 57 = .ok (.getfield 15, 3) := by decide +kernel
theorem dX2_takeOut_60 : decode cX2_takeOut 60 = .ok (.iload_n 2, 1) := by decide +kernel
theorem dX2_takeOut_61 : decode cX2_takeOut 61 = .ok (.iconst 1, 1) := by decide +kernel
theorem dX2_takeOut_62 : decode cX2_takeOut 62 = .ok (.iadd, 1) := by decide +kernel
theorem dX2_takeOut_63 : decode cX2_takeOut 63 = .ok (.iaload, 1) := by decide +kernel
theorem dX2_takeOut_64 : decode cX2_takeOut 64 = .ok (.iastore, 1) := by decide +kernel
theorem dX2_takeOut_65 : decode cX2_takeOut 65 = .ok (.iinc 2 1, 3) := by decide +kernel
theorem dX2_takeOut_68 : decode cX2_takeOut 68 = .ok (.goto (-47), 3) := by decide +kernel
theorem dX2_takeOut_71 : decode cX2_takeOut 71 = .ok (.return_, 1) := by decide +kernel
theorem dX2_copyFrom_0 : decode cX2_copyFrom 0 = .ok (.aload_n 0, 1) := by decide +kernel
theorem dX2_copyFrom_1 : decode cX2_copyFrom 1 = .ok (.aload_n 1, 1) := by decide +kernel
theorem dX2_copyFrom_2 : decode cX2_copyFrom 2 = .ok (.getfield 18, 3) := by decide +kernel
theorem dX2_copyFrom_5 : decode cX2_copyFrom 5 = .ok (.putfield 18, 3) := by decide +kernel
theorem dX2_copyFrom_8 : decode cX2_copyFrom 8 = .ok (.aload_n 1, 1) := by decide +kernel
theorem dX2_copyFrom_9 : decode cX2_copyFrom 9 = .ok (.getfield 9, 3) := by decide +kernel
theorem dX2_copyFrom_12 : decode cX2_copyFrom 12 = .ok (.iconst 0, 1) := by decide +kernel
theorem dX2_copyFrom_13 : decode cX2_copyFrom 13 = .ok (.aload_n 0, 1) := by decide +kernel
theorem dX2_copyFrom_14 : decode cX2_copyFrom 14 = .ok (.getfield 9, 3) := by decide +kernel
theorem dX2_copyFrom_17 : decode cX2_copyFrom 17 = .ok (.iconst 0, 1) := by decide +kernel
theorem dX2_copyFrom_18 : decode cX2_copyFrom 18 = .ok (.bipush 8, 2) := by decide +kernel
theorem dX2_copyFrom_20 : decode cX2_copyFrom 20 = .ok (.invokestatic 37, 3) := by decide +kernel
theorem dX2_copyFrom_23 : decode cX2_copyFrom 23 = .ok (.aload_n 1, 1) := by decide +kernel
theorem dX2_copyFrom_24 : decode cX2_copyFrom 24 = .ok (.getfield 15, 3) := by decide +kernel
theorem dX2_copyFrom_27 : decode cX2_copyFrom 27 = .ok (.iconst 0, 1) := by decide +kernel
theorem dX2_copyFrom_28 : decode cX2_copyFrom 28 = .ok (.aload_n 0, 1) := by decide +kernel
theorem dX2_copyFrom_29 : decode cX2_copyFrom 29 = .ok (.getfield 15, 3) := by decide +kernel
theorem dX2_copyFrom_32 : decode cX2_copyFrom 32 = .ok (.iconst 0, 1) := by decide +kernel
theorem dX2_copyFrom_33 : decode cX2_copyFrom 33 = .ok (.bipush 8, 2) := by decide +kernel
theorem dX2_copyFrom_35 : decode cX2_copyFrom 35 = .ok (.invokestatic 37, 3) := by decide +kernel
theorem dX2_copyFrom_38 : decode cX2_copyFrom 38 = .ok (.return_, 1) := by decide +kernel
set_option maxRecDepth 20000 in
theorem ggX3_init_X2_init : GoodIn wsX3_init wsX2_init := goodIn_r _ [19, 20, 2, 3, 21, 22, 23, 42, 43, 44] (by decide +kernel) (by decide +kernel)
set_option maxRecDepth 20000 in
theorem gX3_init_X2_init_n20 : GoodIn wsX3_init (wsX2_init) := ggX3_init_X2_init
set_option maxRecDepth 20000 in
theorem ggX3_init_X1_init : GoodIn wsX3_init wsX1_init := goodIn_r _ [25, 26, 2, 3, 21, 27, 45, 46] (by decide +kernel) (by decide +kernel)
set_option maxRecDepth 20000 in
theorem gX3_init_X1_init_n27 : GoodIn wsX3_init (wsX1_init) := ggX3_init_X1_init
set_option maxRecDepth 20000 in
theorem ggX3_init_X4_init : GoodIn wsX3_init wsX4_init := goodIn_r _ [29, 30, 2, 3, 21, 31, 32, 33, 34, 35, 36, 47, 48, 49, 50, 51, 52, 53, 54, 55, 56] (by decide +kernel) (by decide +kernel)
set_option maxRecDepth 20000 in
theorem gX3_init_X4_init_n34 : GoodIn wsX3_init (wsX4_init) := ggX3_init_X4_init
theorem dX3_init_0 : decode cX3_init 0 = .ok (.aload_n 0, 1) := by decide +kernel
theorem dX3_init_1 : decode cX3_init 1 = .ok (.invokespecial 3, 3) := by decide +kernel
theorem dX3_init_4 : decode cX3_init 4 = .ok (.aload_n 0, 1) := by decide +kernel
theorem dX3_init_5 : decode cX3_init 5 = .ok (.iconst 0, 1) := by decide +kernel
theorem dX3_init_6 : decode cX3_init 6 = .ok (.putfield 9, 3) := by decide +kernel
theorem dX3_init_9 : decode cX3_init 9 = .ok (.aload_n 0, 1) := by decide +kernel
theorem dX3_init_10 : decode cX3_init 10 = .ok (.iconst 4, 1) := by decide +kernel
theorem dX3_init_11 : decode cX3_init 11 = .ok (.putfield 15, 3) := by decide +kernel
theorem dX3_init_14 : decode cX3_init 14 = .ok (.aload_n 0, 1) := by decide +kernel
theorem dX3_init_15 : decode cX3_init 15 = .ok (.new 18, 3) := by decide +kernel
theorem dX3_init_18 : decode cX3_init 18 = .ok (.dup, 1) := by decide +kernel
theorem dX3_init_19 : decode cX3_init 19 = .ok (.invokespecial 20, 3) := by decide +kernel
theorem dX3_init_22 : decode cX3_init 22 = .ok (.putfield 21, 3) := by decide +kernel
theorem dX3_init_25 : decode cX3_init 25 = .ok (.aload_n 0, 1) := by decide +kernel
theorem dX3_init_26 : decode cX3_init 26 = .ok (.new 25, 3) := by decide +kernel
theorem dX3_init_29 : decode cX3_init 29 = .ok (.dup, 1) := by decide +kernel
theorem dX3_init_30 : decode cX3_init 30 = .ok (.invokespecial 27, 3) := by decide +kernel
theorem dX3_init_33 : decode cX3_init 33 = .ok (.putfield 28, 3) := by decide +kernel
theorem dX3_init_36 : decode cX3_init 36 = .ok (.aload_n 0, 1) := by decide +kernel
theorem dX3_init_37 : decode cX3_init 37 = .ok (.new 32, 3) := by decide +kernel
theorem dX3_init_40 : decode cX3_init 40 = .ok (.dup, 1) := by decide +kernel
theorem dX3_init_41 : decode cX3_init 41 = .ok (.invokespecial 34, 3) := by decide +kernel
theorem dX3_init_44 : decode cX3_init 44 = .ok (.putfield 35, 3) := by decide +kernel
theorem dX3_init_47 : decode cX3_init 47 = .ok (.return_, 1) := by decide +kernel
set_option maxRecDepth 20000 in
theorem ggX3_apart_X1_has : GoodIn wsX3_apart wsX1_has := goodIn_r _ [7, 8, 26, 27] (by decide +kernel) (by decide +kernel)
set_option maxRecDepth 20000 in
theorem gX3_apart_X1_has_n39 : GoodIn wsX3_apart (wsX1_has) := ggX3_apart_X1_has
set_option maxRecDepth 20000 in
theorem ggX3_apart_X2_has : GoodIn wsX3_apart wsX2_has := goodIn_r _ [12, 13, 28, 29, 30] (by decide +kernel) (by decide +kernel)
set_option maxRecDepth 20000 in
theorem gX3_apart_X2_has_n43 : GoodIn wsX3_apart (wsX2_has) := ggX3_apart_X2_has
set_option maxRecDepth 20000 in
theorem ggX3_apart_X5_dotsApart : GoodIn wsX3_apart wsX5_dotsApart := goodIn_r _ [16, 17, 18, 19, 20] (by decide +kernel) (by decide +kernel)
set_option maxRecDepth 20000 in
theorem gX3_apart_X5_dotsApart_n49 : GoodIn wsX3_apart (wsX5_dotsApart) := ggX3_apart_X5_dotsApart
theorem dX3_apart_0 : decode cX3_apart 0 = .ok (.aload_n 0, 1) := by decide +kernel
theorem dX3_apart_1 : decode cX3_apart 1 = .ok (.getfield 28, 3) := by decide +kernel
theorem dX3_apart_4 : decode cX3_apart 4 = .ok (.iload_n 1, 1) := by decide +kernel
theorem dX3_apart_5 : decode cX3_apart 5 = .ok (.invokevirtual 39, 3) := by decide +kernel
theorem dX3_apart_8 : decode cX3_apart 8 = .ok (.ifCond .eq 14, 3) := by decide +kernel
theorem dX3_apart_11 : decode cX3_apart 11 = .ok (.aload_n 0, 1) := by decide +kernel
theorem dX3_apart_12 : decode cX3_apart 12 = .ok (.getfield 21, 3) := by decide +kernel
theorem dX3_apart_15 : decode cX3_apart 15 = .ok (.iload_n 2, 1) := by decide +kernel
theorem dX3_apart_16 : decode cX3_apart 16 = .ok (.invokevirtual 43, 3) := by decide +kernel
theorem dX3_apart_19 : decode cX3_apart 19 = .ok (.ifCond .ne 5, 3) := by decide +kernel
theorem dX3_apart_22 : decode cX3_apart 22 = .ok (.iconst 0, 1) := by decide +kernel
theorem dX3_apart_23 : decode cX3_apart 23 = .ok (.ireturn, 1) := by decide +kernel
theorem dX3_apart_24 : decode cX3_apart 24 = .ok (.aload_n 0, 1) := by decide +kernel
theorem dX3_apart_25 : decode cX3_apart 25 = .ok (.getfield 28, 3) := by decide +kernel
theorem dX3_apart_28 : decode cX3_apart 28 = .ok (.getfield 44, 3) := by decide +kernel
theorem dX3_apart_31 : decode cX3_apart 31 = .ok (.iload_n 1, 1) := by decide +kernel
theorem dX3_apart_32 : decode cX3_apart 32 = .ok (.iaload, 1) := by decide +kernel
theorem dX3_apart_33 : decode cX3_apart 33 = .ok (.aload_n 0, 1) := by decide +kernel
theorem dX3_apart_34 : decode cX3_apart 34 = .ok (.getfield 21, 3) := by decide +kernel
theorem dX3_apart_37 : decode cX3_apart 37 = .ok (.getfield 48, 3) := by decide +kernel
theorem dX3_apart_40 : decode cX3_apart 40 = .ok (.iload_n 2, 1) := by decide +kernel
theorem dX3_apart_41 : decode cX3_apart 41 = .ok (.iaload, 1) := by decide +kernel
theorem dX3_apart_42 : decode cX3_apart 42 = .ok (.aload_n 0, 1) := by decide +kernel
theorem dX3_apart_43 : decode cX3_apart 43 = .ok (.getfield 9, 3) := by decide +kernel
theorem dX3_apart_46 : decode cX3_apart 46 = .ok (.invokestatic 49, 3) := by decide +kernel
theorem dX3_apart_49 : decode cX3_apart 49 = .ok (.ireturn, 1) := by decide +kernel
set_option maxRecDepth 20000 in
theorem ggX3_greatestDifference_X3_apart : GoodIn wsX3_greatestDifference wsX3_apart := goodIn_r _ [11, 1, 2, 12, 13, 14, 15, 16, 17, 18, 19, 20, 21, 22, 23, 24, 25, 26, 27, 5, 28, 29, 30, 31, 32, 33, 34, 35, 36, 37, 38] (by decide +kernel) (by decide +kernel)
set_option maxRecDepth 20000 in
theorem gX3_greatestDifference_X3_apart : GoodIn wsX3_greatestDifference (wsV RX3 57 RX3 yX3_apart wsX3_apart) := goodIn_app (goodIn_of _ (by decide +kernel)) ggX3_greatestDifference_X3_apart
theorem dX3_greatestDifference_0 : decode cX3_greatestDifference 0 = .ok (.iconst 0, 1) := by decide +kernel
theorem dX3_greatestDifference_1 : decode cX3_greatestDifference 1 = .ok (.istore_n 1, 1) := by decide +kernel
theorem dX3_greatestDifference_2 : decode cX3_greatestDifference 2 = .ok (.iconst 0, 1) := by decide +kernel
theorem dX3_greatestDifference_3 : decode cX3_greatestDifference 3 = .ok (.istore_n 2, 1) := by decide +kernel
theorem dX3_greatestDifference_4 : decode cX3_greatestDifference 4 = .ok (.iload_n 2, 1) := by decide +kernel
theorem dX3_greatestDifference_5 : decode cX3_greatestDifference 5 = .ok (.aload_n 0, 1) := by decide +kernel
theorem dX3_greatestDifference_6 : decode cX3_greatestDifference 6 = .ok (.getfield 28, 3) := by decide +kernel
theorem dX3_greatestDifference_9 : decode cX3_greatestDifference 9 = .ok (.getfield 53, 3) := by decide +kernel
theorem dX3_greatestDifference_12 : decode cX3_greatestDifference 12 = .ok (.if_icmp .ge 39, 3) := by decide +kernel
theorem dX3_greatestDifference_15 : decode cX3_greatestDifference 15 = .ok (.iconst 0, 1) := by decide +kernel
theorem dX3_greatestDifference_16 : decode cX3_greatestDifference 16 = .ok (.istore_n 3, 1) := by decide +kernel
theorem dX3_greatestDifference_17 : decode cX3_greatestDifference 17 = .ok (.iload_n 3, 1) := by decide +kernel
theorem dX3_greatestDifference_18 : decode cX3_greatestDifference 18 = .ok (.aload_n 0, 1) := by decide +kernel
theorem dX3_greatestDifference_19 : decode cX3_greatestDifference 19 = .ok (.getfield 21, 3) := by decide +kernel
theorem dX3_greatestDifference_22 : decode cX3_greatestDifference 22 = .ok (.getfield 56, 3) := by decide +kernel
theorem dX3_greatestDifference_25 : decode cX3_greatestDifference 25 = .ok (.if_icmp .ge 20, 3) := by decide +kernel
theorem dX3_greatestDifference_28 : decode cX3_greatestDifference 28 = .ok (.iload_n 1, 1) := by decide +kernel
theorem dX3_greatestDifference_29 : decode cX3_greatestDifference 29 = .ok (.aload_n 0, 1) := by decide +kernel
theorem dX3_greatestDifference_30 : decode cX3_greatestDifference 30 = .ok (.iload_n 2, 1) := by decide +kernel
theorem dX3_greatestDifference_31 : decode cX3_greatestDifference 31 = .ok (.iload_n 3, 1) := by decide +kernel
theorem dX3_greatestDifference_32 : decode cX3_greatestDifference 32 = .ok (.invokevirtual 57, 3) := by decide +kernel
theorem dX3_greatestDifference_35 : decode cX3_greatestDifference 35 = .ok (.invokestatic 61, 3) := by decide +kernel
theorem dX3_greatestDifference_38 : decode cX3_greatestDifference 38 = .ok (.istore_n 1, 1) := by decide +kernel
theorem dX3_greatestDifference_39 : decode cX3_greatestDifference 39 = .ok (.iinc 3 1, 3) := by decide +kernel
theorem dX3_greatestDifference_42 : decode cX3_greatestDifference 42 = .ok (.goto (-25), 3) := by decide +kernel
theorem dX3_greatestDifference_45 : decode cX3_greatestDifference 45 = .ok (.iinc 2 1, 3) := by decide +kernel
theorem dX3_greatestDifference_48 : decode cX3_greatestDifference 48 = .ok (.goto (-44), 3) := by decide +kernel
theorem dX3_greatestDifference_51 : decode cX3_greatestDifference 51 = .ok (.iload_n 1, 1) := by decide +kernel
theorem dX3_greatestDifference_52 : decode cX3_greatestDifference 52 = .ok (.ireturn, 1) := by decide +kernel
set_option maxRecDepth 20000 in
theorem ggX3_kindOf_X4_slotOf : GoodIn wsX3_kindOf wsX4_slotOf := goodIn_r _ [6, 7, 8, 9, 4, 10, 22, 23, 24, 25, 26, 27, 28, 29, 30, 31] (by decide +kernel) (by decide +kernel)
set_option maxRecDepth 20000 in
theorem gX3_kindOf_X4_slotOf_n66 : GoodIn wsX3_kindOf (wsX4_slotOf) := ggX3_kindOf_X4_slotOf
set_option maxRecDepth 20000 in
theorem ggX3_kindOf_X2_ofSlot : GoodIn wsX3_kindOf wsX2_ofSlot := goodIn_r _ [14, 15, 16, 32, 33, 34] (by decide +kernel) (by decide +kernel)
set_option maxRecDepth 20000 in
theorem gX3_kindOf_X2_ofSlot_n70 : GoodIn wsX3_kindOf (wsX2_ofSlot) := ggX3_kindOf_X2_ofSlot
theorem dX3_kindOf_0 : decode cX3_kindOf 0 = .ok (.aload_n 0, 1) := by decide +kernel
theorem dX3_kindOf_1 : decode cX3_kindOf 1 = .ok (.getfield 21, 3) := by decide +kernel
theorem dX3_kindOf_4 : decode cX3_kindOf 4 = .ok (.aload_n 0, 1) := by decide +kernel
theorem dX3_kindOf_5 : decode cX3_kindOf 5 = .ok (.getfield 35, 3) := by decide +kernel
theorem dX3_kindOf_8 : decode cX3_kindOf 8 = .ok (.iload_n 1, 1) := by decide +kernel
theorem dX3_kindOf_9 : decode cX3_kindOf 9 = .ok (.invokevirtual 66, 3) := by decide +kernel
theorem dX3_kindOf_12 : decode cX3_kindOf 12 = .ok (.invokevirtual 70, 3) := by decide +kernel
theorem dX3_kindOf_15 : decode cX3_kindOf 15 = .ok (.ireturn, 1) := by decide +kernel
set_option maxRecDepth 20000 in
theorem ggX3_cellOf_X4_isInRow : GoodIn wsX3_cellOf wsX4_isInRow := goodIn_r _ [5] (by decide +kernel) (by decide +kernel)
set_option maxRecDepth 20000 in
theorem gX3_cellOf_X4_isInRow_n73 : GoodIn wsX3_cellOf (wsX4_isInRow) := ggX3_cellOf_X4_isInRow
set_option maxRecDepth 20000 in
theorem ggX3_cellOf_X1_has : GoodIn wsX3_cellOf wsX1_has := goodIn_r _ [9, 10, 26, 27] (by decide +kernel) (by decide +kernel)
set_option maxRecDepth 20000 in
theorem gX3_cellOf_X1_has_n39 : GoodIn wsX3_cellOf (wsX1_has) := ggX3_cellOf_X1_has
theorem dX3_cellOf_0 : decode cX3_cellOf 0 = .ok (.iload_n 1, 1) := by decide +kernel
theorem dX3_cellOf_1 : decode cX3_cellOf 1 = .ok (.invokestatic 73, 3) := by decide +kernel
theorem dX3_cellOf_4 : decode cX3_cellOf 4 = .ok (.ifCond .ne 6, 3) := by decide +kernel
theorem dX3_cellOf_7 : decode cX3_cellOf 7 = .ok (.bipush (-6), 2) := by decide +kernel
theorem dX3_cellOf_9 : decode cX3_cellOf 9 = .ok (.ireturn, 1) := by decide +kernel
theorem dX3_cellOf_10 : decode cX3_cellOf 10 = .ok (.aload_n 0, 1) := by decide +kernel
theorem dX3_cellOf_11 : decode cX3_cellOf 11 = .ok (.getfield 35, 3) := by decide +kernel
theorem dX3_cellOf_14 : decode cX3_cellOf 14 = .ok (.getfield 76, 3) := by decide +kernel
theorem dX3_cellOf_17 : decode cX3_cellOf 17 = .ok (.iload_n 1, 1) := by decide +kernel
theorem dX3_cellOf_18 : decode cX3_cellOf 18 = .ok (.iaload, 1) := by decide +kernel
theorem dX3_cellOf_19 : decode cX3_cellOf 19 = .ok (.istore_n 2, 1) := by decide +kernel
theorem dX3_cellOf_20 : decode cX3_cellOf 20 = .ok (.aload_n 0, 1) := by decide +kernel
theorem dX3_cellOf_21 : decode cX3_cellOf 21 = .ok (.getfield 28, 3) := by decide +kernel
theorem dX3_cellOf_24 : decode cX3_cellOf 24 = .ok (.iload_n 2, 1) := by decide +kernel
theorem dX3_cellOf_25 : decode cX3_cellOf 25 = .ok (.invokevirtual 39, 3) := by decide +kernel
theorem dX3_cellOf_28 : decode cX3_cellOf 28 = .ok (.ifCond .eq 7, 3) := by decide +kernel
theorem dX3_cellOf_31 : decode cX3_cellOf 31 = .ok (.iload_n 2, 1) := by decide +kernel
theorem dX3_cellOf_32 : decode cX3_cellOf 32 = .ok (.goto 5, 3) := by decide +kernel
theorem dX3_cellOf_35 : decode cX3_cellOf 35 = .ok (.bipush (-6), 2) := by decide +kernel
theorem dX3_cellOf_37 : decode cX3_cellOf 37 = .ok (.ireturn, 1) := by decide +kernel
set_option maxRecDepth 20000 in
theorem ggX3_cellsThatHave_X3_kindOf : GoodIn wsX3_cellsThatHave wsX3_kindOf := goodIn_r _ [6, 7, 8, 9, 10, 11, 12, 13, 14, 15, 16, 17, 18, 19, 20, 21, 22, 23, 24, 25, 26, 27, 30, 31, 32, 33, 34, 35, 36, 37, 38, 39, 40, 41, 42] (by decide +kernel) (by decide +kernel)
set_option maxRecDepth 20000 in
theorem gX3_cellsThatHave_X3_kindOf : GoodIn wsX3_cellsThatHave (wsV RX3 79 RX3 yX3_kindOf wsX3_kindOf) := goodIn_app (goodIn_of _ (by decide +kernel)) ggX3_cellsThatHave_X3_kindOf
theorem dX3_cellsThatHave_0 : decode cX3_cellsThatHave 0 = .ok (.iconst 0, 1) := by decide +kernel
theorem dX3_cellsThatHave_1 : decode cX3_cellsThatHave 1 = .ok (.istore_n 2, 1) := by decide +kernel
theorem dX3_cellsThatHave_2 : decode cX3_cellsThatHave 2 = .ok (.iconst 0, 1) := by decide +kernel
theorem dX3_cellsThatHave_3 : decode cX3_cellsThatHave 3 = .ok (.istore_n 3, 1) := by decide +kernel
theorem dX3_cellsThatHave_4 : decode cX3_cellsThatHave 4 = .ok (.iload_n 3, 1) := by decide +kernel
theorem dX3_cellsThatHave_5 : decode cX3_cellsThatHave 5 = .ok (.aload_n 0, 1) := by decide +kernel
theorem dX3_cellsThatHave_6 : decode cX3_cellsThatHave 6 = .ok (.getfield 28, 3) := by decide +kernel
theorem dX3_cellsThatHave_9 : decode cX3_cellsThatHave 9 = .ok (.getfield 53, 3) := by decide +kernel
theorem dX3_cellsThatHave_12 : decode cX3_cellsThatHave 12 = .ok (.if_icmp .ge 21, 3) := by decide +kernel
theorem dX3_cellsThatHave_15 : decode cX3_cellsThatHave 15 = .ok (.aload_n 0, 1) := by decide +kernel
theorem dX3_cellsThatHave_16 : decode cX3_cellsThatHave 16 = .ok (.iload_n 3, 1) := by decide +kernel
theorem dX3_cellsThatHave_17 : decode cX3_cellsThatHave 17 = .ok (.invokevirtual 79, 3) := by decide +kernel
theorem dX3_cellsThatHave_20 : decode cX3_cellsThatHave 20 = .ok (.iload_n 1, 1) := by decide +kernel
theorem dX3_cellsThatHave_21 : decode cX3_cellsThatHave 21 = .ok (.if_icmp .ne 6, 3) := by decide +kernel
theorem dX3_cellsThatHave_24 : decode cX3_cellsThatHave 24 = .ok (.iinc 2 1, 3) := by decide +kernel
theorem dX3_cellsThatHave_27 : decode cX3_cellsThatHave 27 = .ok (.iinc 3 1, 3) := by decide +kernel
theorem dX3_cellsThatHave_30 : decode cX3_cellsThatHave 30 = .ok (.goto (-26), 3) := by decide +kernel
theorem dX3_cellsThatHave_33 : decode cX3_cellsThatHave 33 = .ok (.iload_n 2, 1) := by decide +kernel
theorem dX3_cellsThatHave_34 : decode cX3_cellsThatHave 34 = .ok (.ireturn, 1) := by decide +kernel
set_option maxRecDepth 20000 in
theorem ggX3_sumOfDifferences_X3_kindOf : GoodIn wsX3_sumOfDifferences wsX3_kindOf := goodIn_r _ [6, 7, 8, 9, 10, 11, 12, 13, 14, 15, 16, 17, 18, 19, 20, 21, 22, 43, 44, 45, 46, 47, 50, 51, 52, 53, 54, 55, 56, 57, 58, 59, 60, 61, 62] (by decide +kernel) (by decide +kernel)
set_option maxRecDepth 20000 in
theorem gX3_sumOfDifferences_X3_kindOf : GoodIn wsX3_sumOfDifferences (wsV RX3 79 RX3 yX3_kindOf wsX3_kindOf) := goodIn_app (goodIn_of _ (by decide +kernel)) ggX3_sumOfDifferences_X3_kindOf
set_option maxRecDepth 20000 in
theorem ggX3_sumOfDifferences_X3_apart : GoodIn wsX3_sumOfDifferences wsX3_apart := goodIn_r _ [26, 1, 7, 27, 28, 29, 30, 31, 32, 33, 18, 34, 35, 21, 36, 37, 38, 39, 40, 41, 42, 43, 44, 45, 46, 47, 48, 49, 60, 61, 62] (by decide +kernel) (by decide +kernel)
set_option maxRecDepth 20000 in
theorem gX3_sumOfDifferences_X3_apart : GoodIn wsX3_sumOfDifferences (wsV RX3 57 RX3 yX3_apart wsX3_apart) := goodIn_app (goodIn_of _ (by decide +kernel)) ggX3_sumOfDifferences_X3_apart
theorem dX3_sumOfDifferences_0 : decode cX3_sumOfDifferences 0 = .ok (.iconst 0, 1) := by decide +kernel
theorem dX3_sumOfDifferences_1 : decode cX3_sumOfDifferences 1 = .ok (.istore_n 1, 1) := by decide +kernel
theorem dX3_sumOfDifferences_2 : decode cX3_sumOfDifferences 2 = .ok (.iconst 0, 1) := by decide +kernel
theorem dX3_sumOfDifferences_3 : decode cX3_sumOfDifferences 3 = .ok (.istore_n 2, 1) := by decide +kernel
theorem dX3_sumOfDifferences_4 : decode cX3_sumOfDifferences 4 = .ok (.iload_n 2, 1) := by decide +kernel
theorem dX3_sumOfDifferences_5 : decode cX3_sumOfDifferences 5 = .ok (.aload_n 0, 1) := by decide +kernel
theorem dX3_sumOfDifferences_6 : decode cX3_sumOfDifferences 6 = .ok (.getfield 28, 3) := by decide +kernel
theorem dX3_sumOfDifferences_9 : decode cX3_sumOfDifferences 9 = .ok (.getfield 53, 3) := by decide +kernel
theorem dX3_sumOfDifferences_12 : decode cX3_sumOfDifferences 12 = .ok (.if_icmp .ge 22, 3) := by decide +kernel
theorem dX3_sumOfDifferences_15 : decode cX3_sumOfDifferences 15 = .ok (.iload_n 1, 1) := by decide +kernel
theorem dX3_sumOfDifferences_16 : decode cX3_sumOfDifferences 16 = .ok (.aload_n 0, 1) := by decide +kernel
theorem dX3_sumOfDifferences_17 : decode cX3_sumOfDifferences 17 = .ok (.iload_n 2, 1) := by decide +kernel
theorem dX3_sumOfDifferences_18 : decode cX3_sumOfDifferences 18 = .ok (.aload_n 0, 1) := by decide +kernel
theorem dX3_sumOfDifferences_19 : decode cX3_sumOfDifferences 19 = .ok (.iload_n 2, 1) := by decide +kernel
theorem dX3_sumOfDifferences_20 : decode cX3_sumOfDifferences 20 = .ok (.invokevirtual 79, 3) := by decide +kernel
theorem dX3_sumOfDifferences_23 : decode cX3_sumOfDifferences 23 = .ok (.invokevirtual 57, 3) := by decide +kernel
theorem dX3_sumOfDifferences_26 : decode cX3_sumOfDifferences 26 = .ok (.iadd, 1) := by decide +kernel
theorem dX3_sumOfDifferences_27 : decode cX3_sumOfDifferences 27 = .ok (.istore_n 1, 1) := by decide +kernel
theorem dX3_sumOfDifferences_28 : decode cX3_sumOfDifferences 28 = .ok (.iinc 2 1, 3) := by decide +kernel
theorem dX3_sumOfDifferences_31 : decode cX3_sumOfDifferences 31 = .ok (.goto (-27), 3) := by decide +kernel
theorem dX3_sumOfDifferences_34 : decode cX3_sumOfDifferences 34 = .ok (.iload_n 1, 1) := by decide +kernel
theorem dX3_sumOfDifferences_35 : decode cX3_sumOfDifferences 35 = .ok (.ireturn, 1) := by decide +kernel
set_option maxRecDepth 20000 in
theorem ggX3_copyFrom_X2_copyFrom : GoodIn wsX3_copyFrom wsX2_copyFrom := goodIn_r _ [9, 10, 11, 12, 13, 14, 15, 16, 44, 45, 46] (by decide +kernel) (by decide +kernel)
set_option maxRecDepth 20000 in
theorem gX3_copyFrom_X2_copyFrom_n82 : GoodIn wsX3_copyFrom (wsX2_copyFrom) := ggX3_copyFrom_X2_copyFrom
set_option maxRecDepth 20000 in
theorem ggX3_copyFrom_X1_copyFrom : GoodIn wsX3_copyFrom wsX1_copyFrom := goodIn_r _ [20, 21, 22, 23, 13, 14, 15, 47, 48] (by decide +kernel) (by decide +kernel)
set_option maxRecDepth 20000 in
theorem gX3_copyFrom_X1_copyFrom_n86 : GoodIn wsX3_copyFrom (wsX1_copyFrom) := ggX3_copyFrom_X1_copyFrom
set_option maxRecDepth 20000 in
theorem ggX3_copyFrom_X4_copyFrom : GoodIn wsX3_copyFrom wsX4_copyFrom := goodIn_r _ [27, 28, 29, 30, 31, 32, 33, 13, 14, 15, 34, 35, 36, 37, 38, 49, 50, 51, 52, 53, 54, 55, 56, 57, 58] (by decide +kernel) (by decide +kernel)
set_option maxRecDepth 20000 in
theorem gX3_copyFrom_X4_copyFrom_n89 : GoodIn wsX3_copyFrom (wsX4_copyFrom) := ggX3_copyFrom_X4_copyFrom
theorem dX3_copyFrom_0 : decode cX3_copyFrom 0 = .ok (.aload_n 0, 1) := by decide +kernel
theorem dX3_copyFrom_1 : decode cX3_copyFrom 1 = .ok (.aload_n 1, 1) := by decide +kernel
theorem dX3_copyFrom_2 : decode cX3_copyFrom 2 = .ok (.getfield 9, 3) := by decide +kernel
theorem dX3_copyFrom_5 : decode cX3_copyFrom 5 = .ok (.putfield 9, 3) := by decide +kernel
theorem dX3_copyFrom_8 : decode cX3_copyFrom 8 = .ok (.aload_n 0, 1) := by decide +kernel
theorem dX3_copyFrom_9 : decode cX3_copyFrom 9 = .ok (.aload_n 1, 1) := by decide +kernel
theorem dX3_copyFrom_10 : decode cX3_copyFrom 10 = .ok (.getfield 15, 3) := by decide +kernel
theorem dX3_copyFrom_13 : decode cX3_copyFrom 13 = .ok (.putfield 15, 3) := by decide +kernel
theorem dX3_copyFrom_16 : decode cX3_copyFrom 16 = .ok (.aload_n 0, 1) := by decide +kernel
theorem dX3_copyFrom_17 : decode cX3_copyFrom 17 = .ok (.getfield 21, 3) := by decide +kernel
theorem dX3_copyFrom_20 : decode cX3_copyFrom 20 = .ok (.aload_n 1, 1) := by decide +kernel
theorem dX3_copyFrom_21 : decode cX3_copyFrom 21 = .ok (.getfield 21, 3) := by decide +kernel
theorem dX3_copyFrom_24 : decode cX3_copyFrom 24 = .ok (.invokevirtual 82, 3) := by decide +kernel
theorem dX3_copyFrom_27 : decode cX3_copyFrom 27 = .ok (.aload_n 0, 1) := by decide +kernel
theorem dX3_copyFrom_28 : decode cX3_copyFrom 28 = .ok (.getfield 28, 3) := by decide +kernel
theorem dX3_copyFrom_31 : decode cX3_copyFrom 31 = .ok (.aload_n 1, 1) := by decide +kernel
theorem dX3_copyFrom_32 : decode cX3_copyFrom 32 = .ok (.getfield 28, 3) := by decide +kernel
theorem dX3_copyFrom_35 : decode cX3_copyFrom 35 = .ok (.invokevirtual 86, 3) := by decide +kernel
theorem dX3_copyFrom_38 : decode cX3_copyFrom 38 = .ok (.aload_n 0, 1) := by decide +kernel
theorem dX3_copyFrom_39 : decode cX3_copyFrom 39 = .ok (.getfield 35, 3) := by decide +kernel
theorem dX3_copyFrom_42 : decode cX3_copyFrom 42 = .ok (.aload_n 1, 1) := by decide +kernel
theorem dX3_copyFrom_43 : decode cX3_copyFrom 43 = .ok (.getfield 35, 3) := by decide +kernel
theorem dX3_copyFrom_46 : decode cX3_copyFrom 46 = .ok (.invokevirtual 89, 3) := by decide +kernel
theorem dX3_copyFrom_49 : decode cX3_copyFrom 49 = .ok (.return_, 1) := by decide +kernel
theorem dX4_init_0 : decode cX4_init 0 = .ok (.aload_n 0, 1) := by decide +kernel
theorem dX4_init_1 : decode cX4_init 1 = .ok (.invokespecial 3, 3) := by decide +kernel
theorem dX4_init_4 : decode cX4_init 4 = .ok (.aload_n 0, 1) := by decide +kernel
theorem dX4_init_5 : decode cX4_init 5 = .ok (.bipush 16, 2) := by decide +kernel
theorem dX4_init_7 : decode cX4_init 7 = .ok (.newarray .int, 2) := by decide +kernel
theorem dX4_init_9 : decode cX4_init 9 = .ok (.putfield 9, 3) := by decide +kernel
theorem dX4_init_12 : decode cX4_init 12 = .ok (.aload_n 0, 1) := by decide +kernel
theorem dX4_init_13 : decode cX4_init 13 = .ok (.bipush 16, 2) := by decide +kernel
theorem dX4_init_15 : decode cX4_init 15 = .ok (.newarray .int, 2) := by decide +kernel
theorem dX4_init_17 : decode cX4_init 17 = .ok (.putfield 15, 3) := by decide +kernel
theorem dX4_init_20 : decode cX4_init 20 = .ok (.aload_n 0, 1) := by decide +kernel
theorem dX4_init_21 : decode cX4_init 21 = .ok (.bipush 16, 2) := by decide +kernel
theorem dX4_init_23 : decode cX4_init 23 = .ok (.newarray .int, 2) := by decide +kernel
theorem dX4_init_25 : decode cX4_init 25 = .ok (.putfield 18, 3) := by decide +kernel
theorem dX4_init_28 : decode cX4_init 28 = .ok (.aload_n 0, 1) := by decide +kernel
theorem dX4_init_29 : decode cX4_init 29 = .ok (.bipush 16, 2) := by decide +kernel
theorem dX4_init_31 : decode cX4_init 31 = .ok (.newarray .int, 2) := by decide +kernel
theorem dX4_init_33 : decode cX4_init 33 = .ok (.putfield 21, 3) := by decide +kernel
theorem dX4_init_36 : decode cX4_init 36 = .ok (.aload_n 0, 1) := by decide +kernel
theorem dX4_init_37 : decode cX4_init 37 = .ok (.bipush 16, 2) := by decide +kernel
theorem dX4_init_39 : decode cX4_init 39 = .ok (.newarray .int, 2) := by decide +kernel
theorem dX4_init_41 : decode cX4_init 41 = .ok (.putfield 24, 3) := by decide +kernel
theorem dX4_init_44 : decode cX4_init 44 = .ok (.aload_n 0, 1) := by decide +kernel
theorem dX4_init_45 : decode cX4_init 45 = .ok (.bipush 16, 2) := by decide +kernel
theorem dX4_init_47 : decode cX4_init 47 = .ok (.newarray .int, 2) := by decide +kernel
theorem dX4_init_49 : decode cX4_init 49 = .ok (.putfield 27, 3) := by decide +kernel
theorem dX4_init_52 : decode cX4_init 52 = .ok (.return_, 1) := by decide +kernel
theorem dX4_isDone_0 : decode cX4_isDone 0 = .ok (.aload_n 0, 1) := by decide +kernel
theorem dX4_isDone_1 : decode cX4_isDone 1 = .ok (.getfield 30, 3) := by decide +kernel
theorem dX4_isDone_4 : decode cX4_isDone 4 = .ok (.ifCond .eq 14, 3) := by decide +kernel
theorem dX4_isDone_7 : decode cX4_isDone 7 = .ok (.aload_n 0, 1) := by decide +kernel
theorem dX4_isDone_8 : decode cX4_isDone 8 = .ok (.getfield 34, 3) := by decide +kernel
theorem dX4_isDone_11 : decode cX4_isDone 11 = .ok (.ifCond .eq 7, 3) := by decide +kernel
theorem dX4_isDone_14 : decode cX4_isDone 14 = .ok (.iconst 1, 1) := by decide +kernel
theorem dX4_isDone_15 : decode cX4_isDone 15 = .ok (.goto 4, 3) := by decide +kernel
theorem dX4_isDone_18 : decode cX4_isDone 18 = .ok (.iconst 0, 1) := by decide +kernel
theorem dX4_isDone_19 : decode cX4_isDone 19 = .ok (.ireturn, 1) := by decide +kernel
theorem dX4_hasPhase_0 : decode cX4_hasPhase 0 = .ok (.iload_n 1, 1) := by decide +kernel
theorem dX4_hasPhase_1 : decode cX4_hasPhase 1 = .ok (.ifCond .lt 21, 3) := by decide +kernel
theorem dX4_hasPhase_4 : decode cX4_hasPhase 4 = .ok (.iload_n 1, 1) := by decide +kernel
theorem dX4_hasPhase_5 : decode cX4_hasPhase 5 = .ok (.aload_n 0, 1) := by decide +kernel
theorem dX4_hasPhase_6 : decode cX4_hasPhase 6 = .ok (.getfield 37, 3) := by decide +kernel
theorem dX4_hasPhase_9 : decode cX4_hasPhase 9 = .ok (.if_icmp .ge 13, 3) := by decide +kernel
theorem dX4_hasPhase_12 : decode cX4_hasPhase 12 = .ok (.iload_n 1, 1) := by decide +kernel
theorem dX4_hasPhase_13 : decode cX4_hasPhase 13 = .ok (.bipush 16, 2) := by decide +kernel
theorem dX4_hasPhase_15 : decode cX4_hasPhase 15 = .ok (.if_icmp .ge 7, 3) := by decide +kernel
theorem dX4_hasPhase_18 : decode cX4_hasPhase 18 = .ok (.iconst 1, 1) := by decide +kernel
theorem dX4_hasPhase_19 : decode cX4_hasPhase 19 = .ok (.goto 4, 3) := by decide +kernel
theorem dX4_hasPhase_22 : decode cX4_hasPhase 22 = .ok (.iconst 0, 1) := by decide +kernel
theorem dX4_hasPhase_23 : decode cX4_hasPhase 23 = .ok (.ireturn, 1) := by decide +kernel
theorem dX4_begin_0 : decode cX4_begin 0 = .ok (.aload_n 0, 1) := by decide +kernel
theorem dX4_begin_1 : decode cX4_begin 1 = .ok (.iconst 0, 1) := by decide +kernel
theorem dX4_begin_2 : decode cX4_begin 2 = .ok (.putfield 37, 3) := by decide +kernel
theorem dX4_begin_5 : decode cX4_begin 5 = .ok (.iconst 0, 1) := by decide +kernel
theorem dX4_begin_6 : decode cX4_begin 6 = .ok (.istore_n 1, 1) := by decide +kernel
theorem dX4_begin_7 : decode cX4_begin 7 = .ok (.iload_n 1, 1) := by decide +kernel
theorem dX4_begin_8 : decode cX4_begin 8 = .ok (.bipush 16, 2) := by decide +kernel
theorem dX4_begin_10 : decode cX4_begin 10 = .ok (.if_icmp .ge 16, 3) := by decide +kernel
theorem dX4_begin_13 : decode cX4_begin 13 = .ok (.aload_n 0, 1) := by decide +kernel
theorem dX4_begin_14 : decode cX4_begin 14 = .ok (.getfield 9, 3) := by decide +kernel
theorem dX4_begin_17 : decode cX4_begin 17 = .ok (.iload_n 1, 1) := by decide +kernel
theorem dX4_begin_18 : decode cX4_begin 18 = .ok (.iconst 0, 1) := by decide +kernel
theorem dX4_begin_19 : decode cX4_begin 19 = .ok (.iastore, 1) := by decide +kernel
theorem dX4_begin_20 : decode cX4_begin 20 = .ok (.iinc 1 1, 3) := by decide +kernel
theorem dX4_begin_23 : decode cX4_begin 23 = .ok (.goto (-16), 3) := by decide +kernel
theorem dX4_begin_26 : decode cX4_begin 26 = .ok (.return_, 1) := by decide +kernel
theorem dX4_finish_0 : decode cX4_finish 0 = .ok (.aload_n 0, 1) := by decide +kernel
theorem dX4_finish_1 : decode cX4_finish 1 = .ok (.iload_n 1, 1) := by decide +kernel
theorem dX4_finish_2 : decode cX4_finish 2 = .ok (.putfield 41, 3) := by decide +kernel
theorem dX4_finish_5 : decode cX4_finish 5 = .ok (.aload_n 0, 1) := by decide +kernel
theorem dX4_finish_6 : decode cX4_finish 6 = .ok (.iconst 1, 1) := by decide +kernel
theorem dX4_finish_7 : decode cX4_finish 7 = .ok (.putfield 30, 3) := by decide +kernel
theorem dX4_finish_10 : decode cX4_finish 10 = .ok (.aload_n 0, 1) := by decide +kernel
theorem dX4_finish_11 : decode cX4_finish 11 = .ok (.iconst 1, 1) := by decide +kernel
theorem dX4_finish_12 : decode cX4_finish 12 = .ok (.putfield 34, 3) := by decide +kernel
theorem dX4_finish_15 : decode cX4_finish 15 = .ok (.return_, 1) := by decide +kernel
theorem dX4_notePhase_0 : decode cX4_notePhase 0 = .ok (.aload_n 0, 1) := by decide +kernel
theorem dX4_notePhase_1 : decode cX4_notePhase 1 = .ok (.getfield 37, 3) := by decide +kernel
theorem dX4_notePhase_4 : decode cX4_notePhase 4 = .ok (.ifCond .lt 12, 3) := by decide +kernel
theorem dX4_notePhase_7 : decode cX4_notePhase 7 = .ok (.aload_n 0, 1) := by decide +kernel
theorem dX4_notePhase_8 : decode cX4_notePhase 8 = .ok (.getfield 37, 3) := by decide +kernel
theorem dX4_notePhase_11 : decode cX4_notePhase 11 = .ok (.bipush 16, 2) := by decide +kernel
theorem dX4_notePhase_13 : decode cX4_notePhase 13 = .ok (.if_icmp .lt 4, 3) := by decide +kernel
theorem dX4_notePhase_16 : decode cX4_notePhase 16 = .ok (.return_, 1) := by decide +kernel
theorem dX4_notePhase_17 : decode cX4_notePhase 17 = .ok (.aload_n 0, 1) := by decide +kernel
theorem dX4_notePhase_18 : decode cX4_notePhase 18 = .ok (.getfield 21, 3) := by decide +kernel
theorem dX4_notePhase_21 : decode cX4_notePhase 21 = .ok (.aload_n 0, 1) := by decide +kernel
theorem dX4_notePhase_22 : decode cX4_notePhase 22 = .ok (.getfield 37, 3) := by decide +kernel
theorem dX4_notePhase_25 : decode cX4_notePhase 25 = .ok (.iload_n 1, 1) := by decide +kernel
theorem dX4_notePhase_26 : decode cX4_notePhase 26 = .ok (.iastore, 1) := by decide +kernel
theorem dX4_notePhase_27 : decode cX4_notePhase 27 = .ok (.aload_n 0, 1) := by decide +kernel
theorem dX4_notePhase_28 : decode cX4_notePhase 28 = .ok (.getfield 24, 3) := by decide +kernel
theorem dX4_notePhase_31 : decode cX4_notePhase 31 = .ok (.aload_n 0, 1) := by decide +kernel
theorem dX4_notePhase_32 : decode cX4_notePhase 32 = .ok (.getfield 37, 3) := by decide +kernel
theorem dX4_notePhase_35 : decode cX4_notePhase 35 = .ok (.iload_n 2, 1) := by decide +kernel
theorem dX4_notePhase_36 : decode cX4_notePhase 36 = .ok (.iastore, 1) := by decide +kernel
theorem dX4_notePhase_37 : decode cX4_notePhase 37 = .ok (.aload_n 0, 1) := by decide +kernel
theorem dX4_notePhase_38 : decode cX4_notePhase 38 = .ok (.getfield 27, 3) := by decide +kernel
theorem dX4_notePhase_41 : decode cX4_notePhase 41 = .ok (.aload_n 0, 1) := by decide +kernel
theorem dX4_notePhase_42 : decode cX4_notePhase 42 = .ok (.getfield 37, 3) := by decide +kernel
theorem dX4_notePhase_45 : decode cX4_notePhase 45 = .ok (.iload_n 3, 1) := by decide +kernel
theorem dX4_notePhase_46 : decode cX4_notePhase 46 = .ok (.iastore, 1) := by decide +kernel
theorem dX4_notePhase_47 : decode cX4_notePhase 47 = .ok (.aload_n 0, 1) := by decide +kernel
theorem dX4_notePhase_48 : decode cX4_notePhase 48 = .ok (.dup, 1) := by decide +kernel
theorem dX4_notePhase_49 : decode cX4_notePhase 49 = .ok (.getfield 37, 3) := by decide +kernel
theorem dX4_notePhase_52 : decode cX4_notePhase 52 = .ok (.iconst 1, 1) := by decide +kernel
theorem dX4_notePhase_53 : decode cX4_notePhase 53 = .ok (.iadd, 1) := by decide +kernel
theorem dX4_notePhase_54 : decode cX4_notePhase 54 = .ok (.putfield 37, 3) := by decide +kernel
theorem dX4_notePhase_57 : decode cX4_notePhase 57 = .ok (.return_, 1) := by decide +kernel
theorem dX4_freeAll_0 : decode cX4_freeAll 0 = .ok (.iconst 0, 1) := by decide +kernel
theorem dX4_freeAll_1 : decode cX4_freeAll 1 = .ok (.istore_n 1, 1) := by decide +kernel
theorem dX4_freeAll_2 : decode cX4_freeAll 2 = .ok (.iload_n 1, 1) := by decide +kernel
theorem dX4_freeAll_3 : decode cX4_freeAll 3 = .ok (.bipush 16, 2) := by decide +kernel
theorem dX4_freeAll_5 : decode cX4_freeAll 5 = .ok (.if_icmp .ge 25, 3) := by decide +kernel
theorem dX4_freeAll_8 : decode cX4_freeAll 8 = .ok (.aload_n 0, 1) := by decide +kernel
theorem dX4_freeAll_9 : decode cX4_freeAll 9 = .ok (.getfield 15, 3) := by decide +kernel
theorem dX4_freeAll_12 : decode cX4_freeAll 12 = .ok (.iload_n 1, 1) := by decide +kernel
theorem dX4_freeAll_13 : decode cX4_freeAll 13 = .ok (.bipush (-6), 2) := by decide +kernel
theorem dX4_freeAll_15 : decode cX4_freeAll 15 = .ok (.iastore, 1) := by decide +kernel
theorem dX4_freeAll_16 : decode cX4_freeAll 16 = .ok (.aload_n 0, 1) := by decide +kernel
theorem dX4_freeAll_17 : decode cX4_freeAll 17 = .ok (.getfield 18, 3) := by decide +kernel
theorem dX4_freeAll_20 : decode cX4_freeAll 20 = .ok (.iload_n 1, 1) := by decide +kernel
theorem dX4_freeAll_21 : decode cX4_freeAll 21 = .ok (.bipush (-6), 2) := by decide +kernel
theorem dX4_freeAll_23 : decode cX4_freeAll 23 = .ok (.iastore, 1) := by decide +kernel
theorem dX4_freeAll_24 : decode cX4_freeAll 24 = .ok (.iinc 1 1, 3) := by decide +kernel
theorem dX4_freeAll_27 : decode cX4_freeAll 27 = .ok (.goto (-25), 3) := by decide +kernel
theorem dX4_freeAll_30 : decode cX4_freeAll 30 = .ok (.return_, 1) := by decide +kernel
set_option maxRecDepth 20000 in
theorem ggX4_slotOf_X4_isInRow : GoodIn wsX4_slotOf wsX4_isInRow := goodIn_r _ [5] (by decide +kernel) (by decide +kernel)
set_option maxRecDepth 20000 in
theorem gX4_slotOf_X4_isInRow : GoodIn wsX4_slotOf (va_wsS RX4 44 yX4_isInRow wsX4_isInRow) := goodIn_app (goodIn_of _ (by decide +kernel)) ggX4_slotOf_X4_isInRow
theorem dX4_slotOf_0 : decode cX4_slotOf 0 = .ok (.iload_n 1, 1) := by decide +kernel
theorem dX4_slotOf_1 : decode cX4_slotOf 1 = .ok (.invokestatic 44, 3) := by decide +kernel
theorem dX4_slotOf_4 : decode cX4_slotOf 4 = .ok (.ifCond .eq 12, 3) := by decide +kernel
theorem dX4_slotOf_7 : decode cX4_slotOf 7 = .ok (.aload_n 0, 1) := by decide +kernel
theorem dX4_slotOf_8 : decode cX4_slotOf 8 = .ok (.getfield 18, 3) := by decide +kernel
theorem dX4_slotOf_11 : decode cX4_slotOf 11 = .ok (.iload_n 1, 1) := by decide +kernel
theorem dX4_slotOf_12 : decode cX4_slotOf 12 = .ok (.iaload, 1) := by decide +kernel
theorem dX4_slotOf_13 : decode cX4_slotOf 13 = .ok (.goto 5, 3) := by decide +kernel
theorem dX4_slotOf_16 : decode cX4_slotOf 16 = .ok (.bipush (-6), 2) := by decide +kernel
theorem dX4_slotOf_18 : decode cX4_slotOf 18 = .ok (.ireturn, 1) := by decide +kernel
set_option maxRecDepth 20000 in
theorem ggX4_setFree_X4_isInRow : GoodIn wsX4_setFree wsX4_isInRow := goodIn_r _ [6] (by decide +kernel) (by decide +kernel)
set_option maxRecDepth 20000 in
theorem gX4_setFree_X4_isInRow : GoodIn wsX4_setFree (va_wsS RX4 44 yX4_isInRow wsX4_isInRow) := goodIn_app (goodIn_of _ (by decide +kernel)) ggX4_setFree_X4_isInRow
theorem dX4_setFree_0 : decode cX4_setFree 0 = .ok (.iload_n 1, 1) := by decide +kernel
theorem dX4_setFree_1 : decode cX4_setFree 1 = .ok (.invokestatic 44, 3) := by decide +kernel
theorem dX4_setFree_4 : decode cX4_setFree 4 = .ok (.ifCond .ne 4, 3) := by decide +kernel
theorem dX4_setFree_7 : decode cX4_setFree 7 = .ok (.return_, 1) := by decide +kernel
theorem dX4_setFree_8 : decode cX4_setFree 8 = .ok (.aload_n 0, 1) := by decide +kernel
theorem dX4_setFree_9 : decode cX4_setFree 9 = .ok (.getfield 18, 3) := by decide +kernel
theorem dX4_setFree_12 : decode cX4_setFree 12 = .ok (.iload_n 1, 1) := by decide +kernel
theorem dX4_setFree_13 : decode cX4_setFree 13 = .ok (.iaload, 1) := by decide +kernel
theorem dX4_setFree_14 : decode cX4_setFree 14 = .ok (.istore_n 2, 1) := by decide +kernel
theorem dX4_setFree_15 : decode cX4_setFree 15 = .ok (.iload_n 2, 1) := by decide +kernel
theorem dX4_setFree_16 : decode cX4_setFree 16 = .ok (.invokestatic 44, 3) := by decide +kernel
theorem dX4_setFree_19 : decode cX4_setFree 19 = .ok (.ifCond .eq 11, 3) := by decide +kernel
theorem dX4_setFree_22 : decode cX4_setFree 22 = .ok (.aload_n 0, 1) := by decide +kernel
theorem dX4_setFree_23 : decode cX4_setFree 23 = .ok (.getfield 15, 3) := by decide +kernel
theorem dX4_setFree_26 : decode cX4_setFree 26 = .ok (.iload_n 2, 1) := by decide +kernel
theorem dX4_setFree_27 : decode cX4_setFree 27 = .ok (.bipush (-6), 2) := by decide +kernel
theorem dX4_setFree_29 : decode cX4_setFree 29 = .ok (.iastore, 1) := by decide +kernel
theorem dX4_setFree_30 : decode cX4_setFree 30 = .ok (.aload_n 0, 1) := by decide +kernel
theorem dX4_setFree_31 : decode cX4_setFree 31 = .ok (.getfield 18, 3) := by decide +kernel
theorem dX4_setFree_34 : decode cX4_setFree 34 = .ok (.iload_n 1, 1) := by decide +kernel
theorem dX4_setFree_35 : decode cX4_setFree 35 = .ok (.bipush (-6), 2) := by decide +kernel
theorem dX4_setFree_37 : decode cX4_setFree 37 = .ok (.iastore, 1) := by decide +kernel
theorem dX4_setFree_38 : decode cX4_setFree 38 = .ok (.return_, 1) := by decide +kernel
set_option maxRecDepth 20000 in
theorem ggX4_give_X4_isInRow : GoodIn wsX4_give wsX4_isInRow := goodIn_r _ [6] (by decide +kernel) (by decide +kernel)
set_option maxRecDepth 20000 in
theorem gX4_give_X4_isInRow : GoodIn wsX4_give (va_wsS RX4 44 yX4_isInRow wsX4_isInRow) := goodIn_app (goodIn_of _ (by decide +kernel)) ggX4_give_X4_isInRow
theorem dX4_give_0 : decode cX4_give 0 = .ok (.iload_n 1, 1) := by decide +kernel
theorem dX4_give_1 : decode cX4_give 1 = .ok (.invokestatic 44, 3) := by decide +kernel
theorem dX4_give_4 : decode cX4_give 4 = .ok (.ifCond .eq 10, 3) := by decide +kernel
theorem dX4_give_7 : decode cX4_give 7 = .ok (.iload_n 2, 1) := by decide +kernel
theorem dX4_give_8 : decode cX4_give 8 = .ok (.invokestatic 44, 3) := by decide +kernel
theorem dX4_give_11 : decode cX4_give 11 = .ok (.ifCond .ne 4, 3) := by decide +kernel
theorem dX4_give_14 : decode cX4_give 14 = .ok (.return_, 1) := by decide +kernel
theorem dX4_give_15 : decode cX4_give 15 = .ok (.aload_n 0, 1) := by decide +kernel
theorem dX4_give_16 : decode cX4_give 16 = .ok (.getfield 15, 3) := by decide +kernel
theorem dX4_give_19 : decode cX4_give 19 = .ok (.iload_n 1, 1) := by decide +kernel
theorem dX4_give_20 : decode cX4_give 20 = .ok (.iaload, 1) := by decide +kernel
theorem dX4_give_21 : decode cX4_give 21 = .ok (.istore_n 3, 1) := by decide +kernel
theorem dX4_give_22 : decode cX4_give 22 = .ok (.iload_n 3, 1) := by decide +kernel
theorem dX4_give_23 : decode cX4_give 23 = .ok (.invokestatic 44, 3) := by decide +kernel
theorem dX4_give_26 : decode cX4_give 26 = .ok (.ifCond .eq 11, 3) := by decide +kernel
theorem dX4_give_29 : decode cX4_give 29 = .ok (.aload_n 0, 1) := by decide +kernel
theorem dX4_give_30 : decode cX4_give 30 = .ok (.getfield 18, 3) := by decide +kernel
theorem dX4_give_33 : decode cX4_give 33 = .ok (.iload_n 3, 1) := by decide +kernel
theorem dX4_give_34 : decode cX4_give 34 = .ok (.bipush (-6), 2) := by decide +kernel
theorem dX4_give_36 : decode cX4_give 36 = .ok (.iastore, 1) := by decide +kernel
theorem dX4_give_37 : decode cX4_give 37 = .ok (.aload_n 0, 1) := by decide +kernel
theorem dX4_give_38 : decode cX4_give 38 = .ok (.getfield 15, 3) := by decide +kernel
theorem dX4_give_41 : decode cX4_give 41 = .ok (.iload_n 1, 1) := by decide +kernel
theorem dX4_give_42 : decode cX4_give 42 = .ok (.iload_n 2, 1) := by decide +kernel
theorem dX4_give_43 : decode cX4_give 43 = .ok (.iastore, 1) := by decide +kernel
theorem dX4_give_44 : decode cX4_give 44 = .ok (.aload_n 0, 1) := by decide +kernel
theorem dX4_give_45 : decode cX4_give 45 = .ok (.getfield 18, 3) := by decide +kernel
theorem dX4_give_48 : decode cX4_give 48 = .ok (.iload_n 2, 1) := by decide +kernel
theorem dX4_give_49 : decode cX4_give 49 = .ok (.iload_n 1, 1) := by decide +kernel
theorem dX4_give_50 : decode cX4_give 50 = .ok (.iastore, 1) := by decide +kernel
theorem dX4_give_51 : decode cX4_give 51 = .ok (.return_, 1) := by decide +kernel
theorem dX4_isInRow_0 : decode cX4_isInRow 0 = .ok (.iload_n 0, 1) := by decide +kernel
theorem dX4_isInRow_1 : decode cX4_isInRow 1 = .ok (.ifCond .lt 13, 3) := by decide +kernel
theorem dX4_isInRow_4 : decode cX4_isInRow 4 = .ok (.iload_n 0, 1) := by decide +kernel
theorem dX4_isInRow_5 : decode cX4_isInRow 5 = .ok (.bipush 16, 2) := by decide +kernel
theorem dX4_isInRow_7 : decode cX4_isInRow 7 = .ok (.if_icmp .ge 7, 3) := by decide +kernel
theorem dX4_isInRow_10 : decode cX4_isInRow 10 = .ok (.iconst 1, 1) := by decide +kernel
theorem dX4_isInRow_11 : decode cX4_isInRow 11 = .ok (.goto 4, 3) := by decide +kernel
theorem dX4_isInRow_14 : decode cX4_isInRow 14 = .ok (.iconst 0, 1) := by decide +kernel
theorem dX4_isInRow_15 : decode cX4_isInRow 15 = .ok (.ireturn, 1) := by decide +kernel
theorem dX4_copyFrom_0 : decode cX4_copyFrom 0 = .ok (.aload_n 0, 1) := by decide +kernel
theorem dX4_copyFrom_1 : decode cX4_copyFrom 1 = .ok (.aload_n 1, 1) := by decide +kernel
theorem dX4_copyFrom_2 : decode cX4_copyFrom 2 = .ok (.getfield 30, 3) := by decide +kernel
theorem dX4_copyFrom_5 : decode cX4_copyFrom 5 = .ok (.putfield 30, 3) := by decide +kernel
theorem dX4_copyFrom_8 : decode cX4_copyFrom 8 = .ok (.aload_n 0, 1) := by decide +kernel
theorem dX4_copyFrom_9 : decode cX4_copyFrom 9 = .ok (.aload_n 1, 1) := by decide +kernel
theorem dX4_copyFrom_10 : decode cX4_copyFrom 10 = .ok (.getfield 34, 3) := by decide +kernel
theorem dX4_copyFrom_13 : decode cX4_copyFrom 13 = .ok (.putfield 34, 3) := by decide +kernel
theorem dX4_copyFrom_16 : decode cX4_copyFrom 16 = .ok (.aload_n 0, 1) := by decide +kernel
theorem dX4_copyFrom_17 : decode cX4_copyFrom 17 = .ok (.aload_n 1, 1) := by decide +kernel
theorem dX4_copyFrom_18 : decode cX4_copyFrom 18 = .ok (.getfield 41, 3) := by decide +kernel
theorem dX4_copyFrom_21 : decode cX4_copyFrom 21 = .ok (.putfield 41, 3) := by decide +kernel
theorem dX4_copyFrom_24 : decode cX4_copyFrom 24 = .ok (.aload_n 0, 1) := by decide +kernel
theorem dX4_copyFrom_25 : decode cX4_copyFrom 25 = .ok (.aload_n 1, 1) := by decide +kernel
theorem dX4_copyFrom_26 : decode cX4_copyFrom 26 = .ok (.getfield 37, 3) := by decide +kernel
theorem dX4_copyFrom_29 : decode cX4_copyFrom 29 = .ok (.putfield 37, 3) := by decide +kernel
theorem dX4_copyFrom_32 : decode cX4_copyFrom 32 = .ok (.aload_n 1, 1) := by decide +kernel
theorem dX4_copyFrom_33 : decode cX4_copyFrom 33 = .ok (.getfield 9, 3) := by decide +kernel
theorem dX4_copyFrom_36 : decode cX4_copyFrom 36 = .ok (.iconst 0, 1) := by decide +kernel
theorem dX4_copyFrom_37 : decode cX4_copyFrom 37 = .ok (.aload_n 0, 1) := by decide +kernel
theorem dX4_copyFrom_38 : decode cX4_copyFrom 38 = .ok (.getfield 9, 3) := by decide +kernel
theorem dX4_copyFrom_41 : decode cX4_copyFrom 41 = .ok (.iconst 0, 1) := by decide +kernel
theorem dX4_copyFrom_42 : decode cX4_copyFrom 42 = .ok (.bipush 16, 2) := by decide +kernel
theorem dX4_copyFrom_44 : decode cX4_copyFrom 44 = .ok (.invokestatic 48, 3) := by decide +kernel
theorem dX4_copyFrom_47 : decode cX4_copyFrom 47 = .ok (.aload_n 1, 1) := by decide +kernel
theorem dX4_copyFrom_48 : decode cX4_copyFrom 48 = .ok (.getfield 15, 3) := by decide +kernel
theorem dX4_copyFrom_51 : decode cX4_copyFrom 51 = .ok (.iconst 0, 1) := by decide +kernel
theorem dX4_copyFrom_52 : decode cX4_copyFrom 52 = .ok (.aload_n 0, 1) := by decide +kernel
theorem dX4_copyFrom_53 : decode cX4_copyFrom 53 = .ok (.getfield 15, 3) := by decide +kernel
theorem dX4_copyFrom_56 : decode cX4_copyFrom 56 = .ok (.iconst 0, 1) := by decide +kernel
theorem dX4_copyFrom_57 : decode cX4_copyFrom 57 = .ok (.bipush 16, 2) := by decide +kernel
theorem dX4_copyFrom_59 : decode cX4_copyFrom 59 = .ok (.invokestatic 48, 3) := by decide +kernel
theorem dX4_copyFrom_62 : decode cX4_copyFrom 62 = .ok (.aload_n 1, 1) := by decide +kernel
theorem dX4_copyFrom_63 : decode cX4_copyFrom 63 = .ok (.getfield 18, 3) := by decide +kernel
theorem dX4_copyFrom_66 : decode cX4_copyFrom 66 = .ok (.iconst 0, 1) := by decide +kernel
theorem dX4_copyFrom_67 : decode cX4_copyFrom 67 = .ok (.aload_n 0, 1) := by decide +kernel
theorem dX4_copyFrom_68 : decode cX4_copyFrom 68 = .ok (.getfield 18, 3) := by decide +kernel
theorem dX4_copyFrom_71 : decode cX4_copyFrom 71 = .ok (.iconst 0, 1) := by decide +kernel
theorem dX4_copyFrom_72 : decode cX4_copyFrom 72 = .ok (.bipush 16, 2) := by decide +kernel
theorem dX4_copyFrom_74 : decode cX4_copyFrom 74 = .ok (.invokestatic 48, 3) := by decide +kernel
theorem dX4_copyFrom_77 : decode cX4_copyFrom 77 = .ok (.aload_n 1, 1) := by decide +kernel
theorem dX4_copyFrom_78 : decode cX4_copyFrom 78 = .ok (.getfield 21, 3) := by decide +kernel
theorem dX4_copyFrom_81 : decode cX4_copyFrom 81 = .ok (.iconst 0, 1) := by decide +kernel
theorem dX4_copyFrom_82 : decode cX4_copyFrom 82 = .ok (.aload_n 0, 1) := by decide +kernel
theorem dX4_copyFrom_83 : decode cX4_copyFrom 83 = .ok (.getfield 21, 3) := by decide +kernel
theorem dX4_copyFrom_86 : decode cX4_copyFrom 86 = .ok (.iconst 0, 1) := by decide +kernel
theorem dX4_copyFrom_87 : decode cX4_copyFrom 87 = .ok (.bipush 16, 2) := by decide +kernel
theorem dX4_copyFrom_89 : decode cX4_copyFrom 89 = .ok (.invokestatic 48, 3) := by decide +kernel
theorem dX4_copyFrom_92 : decode cX4_copyFrom 92 = .ok (.aload_n 1, 1) := by decide +kernel
theorem dX4_copyFrom_93 : decode cX4_copyFrom 93 = .ok (.getfield 24, 3) := by decide +kernel
theorem dX4_copyFrom_96 : decode cX4_copyFrom 96 = .ok (.iconst 0, 1) := by decide +kernel
theorem dX4_copyFrom_97 : decode cX4_copyFrom 97 = .ok (.aload_n 0, 1) := by decide +kernel
theorem dX4_copyFrom_98 : decode cX4_copyFrom 98 = .ok (.getfield 24, 3) := by decide +kernel
theorem dX4_copyFrom_101 : decode cX4_copyFrom 101 = .ok (.iconst 0, 1) := by decide +kernel
theorem dX4_copyFrom_102 : decode cX4_copyFrom 102 = .ok (.bipush 16, 2) := by decide +kernel
theorem dX4_copyFrom_104 : decode cX4_copyFrom 104 = .ok (.invokestatic 48, 3) := by decide +kernel
theorem dX4_copyFrom_107 : decode cX4_copyFrom 107 = .ok (.aload_n 1, 1) := by decide +kernel
theorem dX4_copyFrom_108 : decode cX4_copyFrom 108 = .ok (.getfield 27, 3) := by decide +kernel
theorem dX4_copyFrom_111 : decode cX4_copyFrom 111 = .ok (.iconst 0, 1) := by decide +kernel
theorem dX4_copyFrom_112 : decode cX4_copyFrom 112 = .ok (.aload_n 0, 1) := by decide +kernel
theorem dX4_copyFrom_113 : decode cX4_copyFrom 113 = .ok (.getfield 27, 3) := by decide +kernel
theorem dX4_copyFrom_116 : decode cX4_copyFrom 116 = .ok (.iconst 0, 1) := by decide +kernel
theorem dX4_copyFrom_117 : decode cX4_copyFrom 117 = .ok (.bipush 16, 2) := by decide +kernel
theorem dX4_copyFrom_119 : decode cX4_copyFrom 119 = .ok (.invokestatic 48, 3) := by decide +kernel
theorem dX4_copyFrom_122 : decode cX4_copyFrom 122 = .ok (.return_, 1) := by decide +kernel
