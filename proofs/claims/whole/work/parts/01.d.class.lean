set_option maxRecDepth 20000 in
theorem ggX5_init_X0_init : GoodIn wsX5_init wsX0_init := goodIn_r _ [12, 13, 2, 3, 14, 15, 16, 17, 18, 19, 20, 21, 22, 23, 24, 25, 26, 27, 28, 29, 30, 31, 32, 33, 34, 35, 36, 37, 38, 39, 40, 41, 42, 43, 44, 45, 46, 47, 48, 49, 50, 51, 52, 53, 54, 55, 63, 64, 65, 66, 67, 56, 57, 58, 59, 68, 69, 70, 71, 72, 73, 74, 75, 76, 77, 78, 79, 80, 81, 82] (by decide +kernel) (by decide +kernel)
set_option maxRecDepth 20000 in
theorem gX5_init_X0_init_n9 : GoodIn wsX5_init (wsX0_init) := ggX5_init_X0_init
theorem dX5_init_0 : decode cX5_init 0 = .ok (.aload_n 0, 1) := by decide +kernel
theorem dX5_init_1 : decode cX5_init 1 = .ok (.invokespecial 1, 3) := by decide +kernel
theorem dX5_init_4 : decode cX5_init 4 = .ok (.aload_n 0, 1) := by decide +kernel
theorem dX5_init_5 : decode cX5_init 5 = .ok (.new 7, 3) := by decide +kernel
theorem dX5_init_8 : decode cX5_init 8 = .ok (.dup, 1) := by decide +kernel
theorem dX5_init_9 : decode cX5_init 9 = .ok (.invokespecial 9, 3) := by decide +kernel
theorem dX5_init_12 : decode cX5_init 12 = .ok (.putfield 10, 3) := by decide +kernel
theorem dX5_init_15 : decode cX5_init 15 = .ok (.aload_n 0, 1) := by decide +kernel
theorem dX5_init_16 : decode cX5_init 16 = .ok (.aload_n 0, 1) := by decide +kernel
theorem dX5_init_17 : decode cX5_init 17 = .ok (.getfield 10, 3) := by decide +kernel
theorem dX5_init_20 : decode cX5_init 20 = .ok (.getfield 16, 3) := by decide +kernel
theorem dX5_init_23 : decode cX5_init 23 = .ok (.putfield 20, 3) := by decide +kernel
theorem dX5_init_26 : decode cX5_init 26 = .ok (.aload_n 0, 1) := by decide +kernel
theorem dX5_init_27 : decode cX5_init 27 = .ok (.iconst 2, 1) := by decide +kernel
theorem dX5_init_28 : decode cX5_init 28 = .ok (.anewarray 23, 3) := by decide +kernel
theorem dX5_init_31 : decode cX5_init 31 = .ok (.putfield 25, 3) := by decide +kernel
theorem dX5_init_34 : decode cX5_init 34 = .ok (.return_, 1) := by decide +kernel
theorem dX5_mode_0 : decode cX5_mode 0 = .ok (.iload_n 1, 1) := by decide +kernel
theorem dX5_mode_1 : decode cX5_mode 1 = .ok (.ifCond .eq 11, 3) := by decide +kernel
theorem dX5_mode_4 : decode cX5_mode 4 = .ok (.iload_n 1, 1) := by decide +kernel
theorem dX5_mode_5 : decode cX5_mode 5 = .ok (.iconst 1, 1) := by decide +kernel
theorem dX5_mode_6 : decode cX5_mode 6 = .ok (.if_icmp .eq 6, 3) := by decide +kernel
theorem dX5_mode_9 : decode cX5_mode 9 = .ok (.bipush (-2), 2) := by decide +kernel
theorem dX5_mode_11 : decode cX5_mode 11 = .ok (.ireturn, 1) := by decide +kernel
theorem dX5_mode_12 : decode cX5_mode 12 = .ok (.aload_n 0, 1) := by decide +kernel
theorem dX5_mode_13 : decode cX5_mode 13 = .ok (.getfield 20, 3) := by decide +kernel
theorem dX5_mode_16 : decode cX5_mode 16 = .ok (.getfield 29, 3) := by decide +kernel
theorem dX5_mode_19 : decode cX5_mode 19 = .ok (.istore_n 2, 1) := by decide +kernel
theorem dX5_mode_20 : decode cX5_mode 20 = .ok (.iload_n 1, 1) := by decide +kernel
theorem dX5_mode_21 : decode cX5_mode 21 = .ok (.iload_n 2, 1) := by decide +kernel
theorem dX5_mode_22 : decode cX5_mode 22 = .ok (.if_icmp .eq 22, 3) := by decide +kernel
theorem dX5_mode_25 : decode cX5_mode 25 = .ok (.aload_n 0, 1) := by decide +kernel
theorem dX5_mode_26 : decode cX5_mode 26 = .ok (.getfield 20, 3) := by decide +kernel
theorem dX5_mode_29 : decode cX5_mode 29 = .ok (.iload_n 1, 1) := by decide +kernel
theorem dX5_mode_30 : decode cX5_mode 30 = .ok (.putfield 29, 3) := by decide +kernel
theorem dX5_mode_33 : decode cX5_mode 33 = .ok (.aload_n 0, 1) := by decide +kernel
theorem dX5_mode_34 : decode cX5_mode 34 = .ok (.getfield 20, 3) := by decide +kernel
theorem dX5_mode_37 : decode cX5_mode 37 = .ok (.getfield 33, 3) := by decide +kernel
theorem dX5_mode_40 : decode cX5_mode 40 = .ok (.iconst 0, 1) := by decide +kernel
theorem dX5_mode_41 : decode cX5_mode 41 = .ok (.putfield 37, 3) := by decide +kernel
theorem dX5_mode_44 : decode cX5_mode 44 = .ok (.iload_n 2, 1) := by decide +kernel
theorem dX5_mode_45 : decode cX5_mode 45 = .ok (.ireturn, 1) := by decide +kernel
theorem dX5_shrink_0 : decode cX5_shrink 0 = .ok (.iload_n 1, 1) := by decide +kernel
theorem dX5_shrink_1 : decode cX5_shrink 1 = .ok (.iconst 2, 1) := by decide +kernel
theorem dX5_shrink_2 : decode cX5_shrink 2 = .ok (.if_icmp .lt 9, 3) := by decide +kernel
theorem dX5_shrink_5 : decode cX5_shrink 5 = .ok (.iload_n 1, 1) := by decide +kernel
theorem dX5_shrink_6 : decode cX5_shrink 6 = .ok (.bipush 9, 2) := by decide +kernel
theorem dX5_shrink_8 : decode cX5_shrink 8 = .ok (.if_icmp .le 6, 3) := by decide +kernel
theorem dX5_shrink_11 : decode cX5_shrink 11 = .ok (.bipush (-2), 2) := by decide +kernel
theorem dX5_shrink_13 : decode cX5_shrink 13 = .ok (.ireturn, 1) := by decide +kernel
theorem dX5_shrink_14 : decode cX5_shrink 14 = .ok (.aload_n 0, 1) := by decide +kernel
theorem dX5_shrink_15 : decode cX5_shrink 15 = .ok (.getfield 20, 3) := by decide +kernel
theorem dX5_shrink_18 : decode cX5_shrink 18 = .ok (.getfield 43, 3) := by decide +kernel
theorem dX5_shrink_21 : decode cX5_shrink 21 = .ok (.istore_n 2, 1) := by decide +kernel
theorem dX5_shrink_22 : decode cX5_shrink 22 = .ok (.aload_n 0, 1) := by decide +kernel
theorem dX5_shrink_23 : decode cX5_shrink 23 = .ok (.getfield 20, 3) := by decide +kernel
theorem dX5_shrink_26 : decode cX5_shrink 26 = .ok (.iload_n 1, 1) := by decide +kernel
theorem dX5_shrink_27 : decode cX5_shrink 27 = .ok (.putfield 43, 3) := by decide +kernel
theorem dX5_shrink_30 : decode cX5_shrink 30 = .ok (.iload_n 2, 1) := by decide +kernel
theorem dX5_shrink_31 : decode cX5_shrink 31 = .ok (.ireturn, 1) := by decide +kernel
set_option maxRecDepth 20000 in
theorem ggX5_stock_X5_areDots : GoodIn wsX5_stock wsX5_areDots := goodIn_r _ [5] (by decide +kernel) (by decide +kernel)
set_option maxRecDepth 20000 in
theorem gX5_stock_X5_areDots : GoodIn wsX5_stock (va_wsS RX5 46 yX5_areDots wsX5_areDots) := goodIn_app (goodIn_of _ (by decide +kernel)) ggX5_stock_X5_areDots
set_option maxRecDepth 20000 in
theorem ggX5_stock_X2_hasRoom : GoodIn wsX5_stock wsX2_hasRoom := goodIn_r _ [9, 10, 11, 12, 13, 14, 7, 15, 16, 17, 18, 19, 20, 21, 22, 23, 24, 25, 26, 27, 28, 50, 51, 52] (by decide +kernel) (by decide +kernel)
set_option maxRecDepth 20000 in
theorem gX5_stock_X2_hasRoom_n54 : GoodIn wsX5_stock (wsX2_hasRoom) := ggX5_stock_X2_hasRoom
set_option maxRecDepth 20000 in
theorem ggX5_stock_X2_add : GoodIn wsX5_stock wsX2_add := goodIn_r _ [31, 11, 16, 10, 12, 13, 14, 7, 15, 50, 51, 52] (by decide +kernel) (by decide +kernel)
set_option maxRecDepth 20000 in
theorem gX5_stock_X2_add_n60 : GoodIn wsX5_stock (wsX2_add) := ggX5_stock_X2_add
theorem dX5_stock_0 : decode cX5_stock 0 = .ok (.iload_n 1, 1) := by decide +kernel
theorem dX5_stock_1 : decode cX5_stock 1 = .ok (.invokestatic 46, 3) := by decide +kernel
theorem dX5_stock_4 : decode cX5_stock 4 = .ok (.ifCond .eq 13, 3) := by decide +kernel
theorem dX5_stock_7 : decode cX5_stock 7 = .ok (.iload_n 2, 1) := by decide +kernel
theorem dX5_stock_8 : decode cX5_stock 8 = .ok (.iconst 1, 1) := by decide +kernel
theorem dX5_stock_9 : decode cX5_stock 9 = .ok (.if_icmp .lt 8, 3) := by decide +kernel
theorem dX5_stock_12 : decode cX5_stock 12 = .ok (.iload_n 2, 1) := by decide +kernel
theorem dX5_stock_13 : decode cX5_stock 13 = .ok (.iconst 4, 1) := by decide +kernel
theorem dX5_stock_14 : decode cX5_stock 14 = .ok (.if_icmp .le 6, 3) := by decide +kernel
theorem dX5_stock_17 : decode cX5_stock 17 = .ok (.bipush (-2), 2) := by decide +kernel
theorem dX5_stock_19 : decode cX5_stock 19 = .ok (.ireturn, 1) := by decide +kernel
theorem dX5_stock_20 : decode cX5_stock 20 = .ok (.aload_n 0, 1) := by decide +kernel
theorem dX5_stock_21 : decode cX5_stock 21 = .ok (.getfield 20, 3) := by decide +kernel
theorem dX5_stock_24 : decode cX5_stock 24 = .ok (.getfield 50, 3) := by decide +kernel
theorem dX5_stock_27 : decode cX5_stock 27 = .ok (.iload_n 1, 1) := by decide +kernel
theorem dX5_stock_28 : decode cX5_stock 28 = .ok (.iload_n 2, 1) := by decide +kernel
theorem dX5_stock_29 : decode cX5_stock 29 = .ok (.invokevirtual 54, 3) := by decide +kernel
theorem dX5_stock_32 : decode cX5_stock 32 = .ok (.ifCond .ne 6, 3) := by decide +kernel
theorem dX5_stock_35 : decode cX5_stock 35 = .ok (.bipush (-4), 2) := by decide +kernel
theorem dX5_stock_37 : decode cX5_stock 37 = .ok (.ireturn, 1) := by decide +kernel
theorem dX5_stock_38 : decode cX5_stock 38 = .ok (.aload_n 0, 1) := by decide +kernel
theorem dX5_stock_39 : decode cX5_stock 39 = .ok (.getfield 20, 3) := by decide +kernel
theorem dX5_stock_42 : decode cX5_stock 42 = .ok (.getfield 33, 3) := by decide +kernel
theorem dX5_stock_45 : decode cX5_stock 45 = .ok (.iconst 0, 1) := by decide +kernel
theorem dX5_stock_46 : decode cX5_stock 46 = .ok (.putfield 37, 3) := by decide +kernel
theorem dX5_stock_49 : decode cX5_stock 49 = .ok (.aload_n 0, 1) := by decide +kernel
theorem dX5_stock_50 : decode cX5_stock 50 = .ok (.getfield 20, 3) := by decide +kernel
theorem dX5_stock_53 : decode cX5_stock 53 = .ok (.getfield 50, 3) := by decide +kernel
theorem dX5_stock_56 : decode cX5_stock 56 = .ok (.iload_n 1, 1) := by decide +kernel
theorem dX5_stock_57 : decode cX5_stock 57 = .ok (.iload_n 2, 1) := by decide +kernel
theorem dX5_stock_58 : decode cX5_stock 58 = .ok (.invokevirtual 60, 3) := by decide +kernel
theorem dX5_stock_61 : decode cX5_stock 61 = .ok (.ireturn, 1) := by decide +kernel
set_option maxRecDepth 20000 in
theorem ggX5_drop_X5_areDots : GoodIn wsX5_drop wsX5_areDots := goodIn_r _ [5] (by decide +kernel) (by decide +kernel)
set_option maxRecDepth 20000 in
theorem gX5_drop_X5_areDots : GoodIn wsX5_drop (va_wsS RX5 46 yX5_areDots wsX5_areDots) := goodIn_app (goodIn_of _ (by decide +kernel)) ggX5_drop_X5_areDots
set_option maxRecDepth 20000 in
theorem ggX5_drop_X2_numberOf : GoodIn wsX5_drop wsX2_numberOf := goodIn_r _ [9, 10, 11, 38, 39, 40] (by decide +kernel) (by decide +kernel)
set_option maxRecDepth 20000 in
theorem gX5_drop_X2_numberOf_n64 : GoodIn wsX5_drop (wsX2_numberOf) := ggX5_drop_X2_numberOf
set_option maxRecDepth 20000 in
theorem ggX5_drop_X2_takeOut : GoodIn wsX5_drop wsX2_takeOut := goodIn_r _ [14, 10, 11, 15, 16, 17, 18, 7, 19, 38, 39, 40] (by decide +kernel) (by decide +kernel)
set_option maxRecDepth 20000 in
theorem gX5_drop_X2_takeOut_n68 : GoodIn wsX5_drop (wsX2_takeOut) := ggX5_drop_X2_takeOut
theorem dX5_drop_0 : decode cX5_drop 0 = .ok (.iload_n 1, 1) := by decide +kernel
theorem dX5_drop_1 : decode cX5_drop 1 = .ok (.invokestatic 46, 3) := by decide +kernel
theorem dX5_drop_4 : decode cX5_drop 4 = .ok (.ifCond .ne 6, 3) := by decide +kernel
theorem dX5_drop_7 : decode cX5_drop 7 = .ok (.bipush (-2), 2) := by decide +kernel
theorem dX5_drop_9 : decode cX5_drop 9 = .ok (.ireturn, 1) := by decide +kernel
theorem dX5_drop_10 : decode cX5_drop 10 = .ok (.aload_n 0, 1) := by decide +kernel
theorem dX5_drop_11 : decode cX5_drop 11 = .ok (.getfield 20, 3) := by decide +kernel
theorem dX5_drop_14 : decode cX5_drop 14 = .ok (.getfield 50, 3) := by decide +kernel
theorem dX5_drop_17 : decode cX5_drop 17 = .ok (.iload_n 1, 1) := by decide +kernel
theorem dX5_drop_18 : decode cX5_drop 18 = .ok (.invokevirtual 64, 3) := by decide +kernel
theorem dX5_drop_21 : decode cX5_drop 21 = .ok (.istore_n 2, 1) := by decide +kernel
theorem dX5_drop_22 : decode cX5_drop 22 = .ok (.iload_n 2, 1) := by decide +kernel
theorem dX5_drop_23 : decode cX5_drop 23 = .ok (.bipush (-6), 2) := by decide +kernel
theorem dX5_drop_25 : decode cX5_drop 25 = .ok (.if_icmp .ne 6, 3) := by decide +kernel
theorem dX5_drop_28 : decode cX5_drop 28 = .ok (.bipush (-5), 2) := by decide +kernel
theorem dX5_drop_30 : decode cX5_drop 30 = .ok (.ireturn, 1) := by decide +kernel
theorem dX5_drop_31 : decode cX5_drop 31 = .ok (.aload_n 0, 1) := by decide +kernel
theorem dX5_drop_32 : decode cX5_drop 32 = .ok (.getfield 20, 3) := by decide +kernel
theorem dX5_drop_35 : decode cX5_drop 35 = .ok (.getfield 33, 3) := by decide +kernel
theorem dX5_drop_38 : decode cX5_drop 38 = .ok (.iconst 0, 1) := by decide +kernel
theorem dX5_drop_39 : decode cX5_drop 39 = .ok (.putfield 37, 3) := by decide +kernel
theorem dX5_drop_42 : decode cX5_drop 42 = .ok (.aload_n 0, 1) := by decide +kernel
theorem dX5_drop_43 : decode cX5_drop 43 = .ok (.getfield 20, 3) := by decide +kernel
theorem dX5_drop_46 : decode cX5_drop 46 = .ok (.getfield 50, 3) := by decide +kernel
theorem dX5_drop_49 : decode cX5_drop 49 = .ok (.iload_n 2, 1) := by decide +kernel
theorem dX5_drop_50 : decode cX5_drop 50 = .ok (.invokevirtual 68, 3) := by decide +kernel
theorem dX5_drop_53 : decode cX5_drop 53 = .ok (.aload_n 0, 1) := by decide +kernel
theorem dX5_drop_54 : decode cX5_drop 54 = .ok (.getfield 20, 3) := by decide +kernel
theorem dX5_drop_57 : decode cX5_drop 57 = .ok (.getfield 50, 3) := by decide +kernel
theorem dX5_drop_60 : decode cX5_drop 60 = .ok (.getfield 72, 3) := by decide +kernel
theorem dX5_drop_63 : decode cX5_drop 63 = .ok (.ireturn, 1) := by decide +kernel
set_option maxRecDepth 20000 in
theorem ggX5_kind_X2_has : GoodIn wsX5_kind wsX2_has := goodIn_r _ [5, 6, 46, 47, 48] (by decide +kernel) (by decide +kernel)
set_option maxRecDepth 20000 in
theorem gX5_kind_X2_has_n75 : GoodIn wsX5_kind (wsX2_has) := ggX5_kind_X2_has
set_option maxRecDepth 20000 in
theorem ggX5_kind_X2_firstSlot : GoodIn wsX5_kind wsX2_firstSlot := goodIn_r _ [9, 10, 46, 47, 48] (by decide +kernel) (by decide +kernel)
set_option maxRecDepth 20000 in
theorem gX5_kind_X2_firstSlot_n85 : GoodIn wsX5_kind (wsX2_firstSlot) := ggX5_kind_X2_firstSlot
set_option maxRecDepth 20000 in
theorem ggX5_kind_X4_isDone : GoodIn wsX5_kind wsX4_isDone := goodIn_r _ [14, 15, 16, 49, 50, 51, 52, 53, 54, 55, 56, 57, 58] (by decide +kernel) (by decide +kernel)
set_option maxRecDepth 20000 in
theorem gX5_kind_X4_isDone_n88 : GoodIn wsX5_kind (wsX4_isDone) := ggX5_kind_X4_isDone
set_option maxRecDepth 20000 in
theorem ggX5_kind_X3_cellsThatHave : GoodIn wsX5_kind wsX3_cellsThatHave := goodIn_r _ [20, 21, 22, 23, 24, 18, 25, 26, 27, 28, 12, 29, 30, 31, 32, 33, 34, 35, 3, 36, 37, 6, 10, 41, 42, 43, 44, 45, 59, 60, 49, 50, 51, 52, 53, 54, 55, 56, 57, 58, 46, 47, 48] (by decide +kernel) (by decide +kernel)
set_option maxRecDepth 20000 in
theorem gX5_kind_X3_cellsThatHave_n92 : GoodIn wsX5_kind (wsX3_cellsThatHave) := ggX5_kind_X3_cellsThatHave
theorem dX5_kind_0 : decode cX5_kind 0 = .ok (.aload_n 0, 1) := by decide +kernel
theorem dX5_kind_1 : decode cX5_kind 1 = .ok (.getfield 20, 3) := by decide +kernel
theorem dX5_kind_4 : decode cX5_kind 4 = .ok (.getfield 50, 3) := by decide +kernel
theorem dX5_kind_7 : decode cX5_kind 7 = .ok (.iload_n 1, 1) := by decide +kernel
theorem dX5_kind_8 : decode cX5_kind 8 = .ok (.invokevirtual 75, 3) := by decide +kernel
theorem dX5_kind_11 : decode cX5_kind 11 = .ok (.ifCond .ne 5, 3) := by decide +kernel
theorem dX5_kind_14 : decode cX5_kind 14 = .ok (.iconst (-1), 1) := by decide +kernel
theorem dX5_kind_15 : decode cX5_kind 15 = .ok (.ireturn, 1) := by decide +kernel
theorem dX5_kind_16 : decode cX5_kind 16 = .ok (.iload_n 2, 1) := by decide +kernel
theorem dX5_kind_17 : decode cX5_kind 17 = .ok (.tableswitch 95 0 3 #[31, 44, 57, 69], 31) := by decide +kernel
theorem dX5_kind_48 : decode cX5_kind 48 = .ok (.aload_n 0, 1) := by decide +kernel
theorem dX5_kind_49 : decode cX5_kind 49 = .ok (.getfield 20, 3) := by decide +kernel
theorem dX5_kind_52 : decode cX5_kind 52 = .ok (.getfield 50, 3) := by decide +kernel
theorem dX5_kind_55 : decode cX5_kind 55 = .ok (.getfield 78, 3) := by decide +kernel
theorem dX5_kind_58 : decode cX5_kind 58 = .ok (.iload_n 1, 1) := by decide +kernel
theorem dX5_kind_59 : decode cX5_kind 59 = .ok (.iaload, 1) := by decide +kernel
theorem dX5_kind_60 : decode cX5_kind 60 = .ok (.ireturn, 1) := by decide +kernel
theorem dX5_kind_61 : decode cX5_kind 61 = .ok (.aload_n 0, 1) := by decide +kernel
theorem dX5_kind_62 : decode cX5_kind 62 = .ok (.getfield 20, 3) := by decide +kernel
theorem dX5_kind_65 : decode cX5_kind 65 = .ok (.getfield 50, 3) := by decide +kernel
theorem dX5_kind_68 : decode cX5_kind 68 = .ok (.getfield 82, 3) := by decide +kernel
theorem dX5_kind_71 : decode cX5_kind 71 = .ok (.iload_n 1, 1) := by decide +kernel
theorem dX5_kind_72 : decode cX5_kind 72 = .ok (.iaload, 1) := by decide +kernel
theorem dX5_kind_73 : decode cX5_kind 73 = .ok (.ireturn, 1) := by decide +kernel
theorem dX5_kind_74 : decode cX5_kind 74 = .ok (.aload_n 0, 1) := by decide +kernel
theorem dX5_kind_75 : decode cX5_kind 75 = .ok (.getfield 20, 3) := by decide +kernel
theorem dX5_kind_78 : decode cX5_kind 78 = .ok (.getfield 50, 3) := by decide +kernel
theorem dX5_kind_81 : decode cX5_kind 81 = .ok (.iload_n 1, 1) := by decide +kernel
theorem dX5_kind_82 : decode cX5_kind 82 = .ok (.invokevirtual 85, 3) := by decide +kernel
theorem dX5_kind_85 : decode cX5_kind 85 = .ok (.ireturn, 1) := by decide +kernel
theorem dX5_kind_86 : decode cX5_kind 86 = .ok (.aload_n 0, 1) := by decide +kernel
theorem dX5_kind_87 : decode cX5_kind 87 = .ok (.getfield 20, 3) := by decide +kernel
theorem dX5_kind_90 : decode cX5_kind 90 = .ok (.getfield 33, 3) := by decide +kernel
theorem dX5_kind_93 : decode cX5_kind 93 = .ok (.invokevirtual 88, 3) := by decide +kernel
theorem dX5_kind_96 : decode cX5_kind 96 = .ok (.ifCond .eq 14, 3) := by decide +kernel
theorem dX5_kind_99 : decode cX5_kind 99 = .ok (.aload_n 0, 1) := by decide +kernel
theorem dX5_kind_100 : decode cX5_kind 100 = .ok (.getfield 20, 3) := by decide +kernel
theorem dX5_kind_103 : decode cX5_kind 103 = .ok (.iload_n 1, 1) := by decide +kernel
theorem dX5_kind_104 : decode cX5_kind 104 = .ok (.invokevirtual 92, 3) := by decide +kernel
theorem dX5_kind_107 : decode cX5_kind 107 = .ok (.goto 4, 3) := by decide +kernel
theorem dX5_kind_110 : decode cX5_kind 110 = .ok (.iconst 0, 1) := by decide +kernel
theorem dX5_kind_111 : decode cX5_kind 111 = .ok (.ireturn, 1) := by decide +kernel
theorem dX5_kind_112 : decode cX5_kind 112 = .ok (.bipush (-2), 2) := by decide +kernel
theorem dX5_kind_114 : decode cX5_kind 114 = .ok (.ireturn, 1) := by decide +kernel
set_option maxRecDepth 20000 in
theorem ggX5_find_X5_areDots : GoodIn wsX5_find wsX5_areDots := goodIn_r _ [5] (by decide +kernel) (by decide +kernel)
set_option maxRecDepth 20000 in
theorem gX5_find_X5_areDots : GoodIn wsX5_find (va_wsS RX5 46 yX5_areDots wsX5_areDots) := goodIn_app (goodIn_of _ (by decide +kernel)) ggX5_find_X5_areDots
set_option maxRecDepth 20000 in
theorem ggX5_find_X2_numberOf : GoodIn wsX5_find wsX2_numberOf := goodIn_r _ [9, 10, 11, 20, 21, 22] (by decide +kernel) (by decide +kernel)
set_option maxRecDepth 20000 in
theorem gX5_find_X2_numberOf_n64 : GoodIn wsX5_find (wsX2_numberOf) := ggX5_find_X2_numberOf
theorem dX5_find_0 : decode cX5_find 0 = .ok (.iload_n 1, 1) := by decide +kernel
theorem dX5_find_1 : decode cX5_find 1 = .ok (.invokestatic 46, 3) := by decide +kernel
theorem dX5_find_4 : decode cX5_find 4 = .ok (.ifCond .eq 17, 3) := by decide +kernel
theorem dX5_find_7 : decode cX5_find 7 = .ok (.aload_n 0, 1) := by decide +kernel
theorem dX5_find_8 : decode cX5_find 8 = .ok (.getfield 20, 3) := by decide +kernel
theorem dX5_find_11 : decode cX5_find 11 = .ok (.getfield 50, 3) := by decide +kernel
theorem dX5_find_14 : decode cX5_find 14 = .ok (.iload_n 1, 1) := by decide +kernel
theorem dX5_find_15 : decode cX5_find 15 = .ok (.invokevirtual 64, 3) := by decide +kernel
theorem dX5_find_18 : decode cX5_find 18 = .ok (.goto 5, 3) := by decide +kernel
theorem dX5_find_21 : decode cX5_find 21 = .ok (.bipush (-2), 2) := by decide +kernel
theorem dX5_find_23 : decode cX5_find 23 = .ok (.ireturn, 1) := by decide +kernel
set_option maxRecDepth 20000 in
theorem ggX5_cell_X5_areDots : GoodIn wsX5_cell wsX5_areDots := goodIn_r _ [5] (by decide +kernel) (by decide +kernel)
set_option maxRecDepth 20000 in
theorem gX5_cell_X5_areDots : GoodIn wsX5_cell (va_wsS RX5 46 yX5_areDots wsX5_areDots) := goodIn_app (goodIn_of _ (by decide +kernel)) ggX5_cell_X5_areDots
set_option maxRecDepth 20000 in
theorem ggX5_cell_X1_add : GoodIn wsX5_cell wsX1_add := goodIn_r _ [9, 10, 11, 20, 21] (by decide +kernel) (by decide +kernel)
set_option maxRecDepth 20000 in
theorem gX5_cell_X1_add_n102 : GoodIn wsX5_cell (wsX1_add) := ggX5_cell_X1_add
theorem dX5_cell_0 : decode cX5_cell 0 = .ok (.iload_n 1, 1) := by decide +kernel
theorem dX5_cell_1 : decode cX5_cell 1 = .ok (.invokestatic 46, 3) := by decide +kernel
theorem dX5_cell_4 : decode cX5_cell 4 = .ok (.ifCond .ne 6, 3) := by decide +kernel
theorem dX5_cell_7 : decode cX5_cell 7 = .ok (.bipush (-2), 2) := by decide +kernel
theorem dX5_cell_9 : decode cX5_cell 9 = .ok (.ireturn, 1) := by decide +kernel
theorem dX5_cell_10 : decode cX5_cell 10 = .ok (.aload_n 0, 1) := by decide +kernel
theorem dX5_cell_11 : decode cX5_cell 11 = .ok (.getfield 20, 3) := by decide +kernel
theorem dX5_cell_14 : decode cX5_cell 14 = .ok (.getfield 95, 3) := by decide +kernel
theorem dX5_cell_17 : decode cX5_cell 17 = .ok (.getfield 99, 3) := by decide +kernel
theorem dX5_cell_20 : decode cX5_cell 20 = .ok (.bipush 12, 2) := by decide +kernel
theorem dX5_cell_22 : decode cX5_cell 22 = .ok (.if_icmp .lt 6, 3) := by decide +kernel
theorem dX5_cell_25 : decode cX5_cell 25 = .ok (.bipush (-4), 2) := by decide +kernel
theorem dX5_cell_27 : decode cX5_cell 27 = .ok (.ireturn, 1) := by decide +kernel
theorem dX5_cell_28 : decode cX5_cell 28 = .ok (.aload_n 0, 1) := by decide +kernel
theorem dX5_cell_29 : decode cX5_cell 29 = .ok (.getfield 20, 3) := by decide +kernel
theorem dX5_cell_32 : decode cX5_cell 32 = .ok (.getfield 33, 3) := by decide +kernel
theorem dX5_cell_35 : decode cX5_cell 35 = .ok (.iconst 0, 1) := by decide +kernel
theorem dX5_cell_36 : decode cX5_cell 36 = .ok (.putfield 37, 3) := by decide +kernel
theorem dX5_cell_39 : decode cX5_cell 39 = .ok (.aload_n 0, 1) := by decide +kernel
theorem dX5_cell_40 : decode cX5_cell 40 = .ok (.getfield 20, 3) := by decide +kernel
theorem dX5_cell_43 : decode cX5_cell 43 = .ok (.getfield 95, 3) := by decide +kernel
theorem dX5_cell_46 : decode cX5_cell 46 = .ok (.iload_n 1, 1) := by decide +kernel
theorem dX5_cell_47 : decode cX5_cell 47 = .ok (.invokevirtual 102, 3) := by decide +kernel
theorem dX5_cell_50 : decode cX5_cell 50 = .ok (.aload_n 0, 1) := by decide +kernel
theorem dX5_cell_51 : decode cX5_cell 51 = .ok (.getfield 20, 3) := by decide +kernel
theorem dX5_cell_54 : decode cX5_cell 54 = .ok (.getfield 95, 3) := by decide +kernel
theorem dX5_cell_57 : decode cX5_cell 57 = .ok (.getfield 99, 3) := by decide +kernel
theorem dX5_cell_60 : decode cX5_cell 60 = .ok (.ireturn, 1) := by decide +kernel
set_option maxRecDepth 20000 in
theorem ggX5_change_X1_has : GoodIn wsX5_change wsX1_has := goodIn_r _ [5, 6, 19, 20] (by decide +kernel) (by decide +kernel)
set_option maxRecDepth 20000 in
theorem gX5_change_X1_has_n104 : GoodIn wsX5_change (wsX1_has) := ggX5_change_X1_has
set_option maxRecDepth 20000 in
theorem ggX5_change_X5_areDots : GoodIn wsX5_change wsX5_areDots := goodIn_r _ [10] (by decide +kernel) (by decide +kernel)
set_option maxRecDepth 20000 in
theorem gX5_change_X5_areDots : GoodIn wsX5_change (va_wsS RX5 46 yX5_areDots wsX5_areDots) := goodIn_app (goodIn_of _ (by decide +kernel)) ggX5_change_X5_areDots
theorem dX5_change_0 : decode cX5_change 0 = .ok (.aload_n 0, 1) := by decide +kernel
theorem dX5_change_1 : decode cX5_change 1 = .ok (.getfield 20, 3) := by decide +kernel
theorem dX5_change_4 : decode cX5_change 4 = .ok (.getfield 95, 3) := by decide +kernel
theorem dX5_change_7 : decode cX5_change 7 = .ok (.iload_n 1, 1) := by decide +kernel
theorem dX5_change_8 : decode cX5_change 8 = .ok (.invokevirtual 104, 3) := by decide +kernel
theorem dX5_change_11 : decode cX5_change 11 = .ok (.ifCond .ne 5, 3) := by decide +kernel
theorem dX5_change_14 : decode cX5_change 14 = .ok (.iconst (-1), 1) := by decide +kernel
theorem dX5_change_15 : decode cX5_change 15 = .ok (.ireturn, 1) := by decide +kernel
theorem dX5_change_16 : decode cX5_change 16 = .ok (.iload_n 2, 1) := by decide +kernel
theorem dX5_change_17 : decode cX5_change 17 = .ok (.invokestatic 46, 3) := by decide +kernel
theorem dX5_change_20 : decode cX5_change 20 = .ok (.ifCond .ne 6, 3) := by decide +kernel
theorem dX5_change_23 : decode cX5_change 23 = .ok (.bipush (-2), 2) := by decide +kernel
theorem dX5_change_25 : decode cX5_change 25 = .ok (.ireturn, 1) := by decide +kernel
theorem dX5_change_26 : decode cX5_change 26 = .ok (.aload_n 0, 1) := by decide +kernel
theorem dX5_change_27 : decode cX5_change 27 = .ok (.getfield 20, 3) := by decide +kernel
theorem dX5_change_30 : decode cX5_change 30 = .ok (.getfield 95, 3) := by decide +kernel
theorem dX5_change_33 : decode cX5_change 33 = .ok (.getfield 105, 3) := by decide +kernel
theorem dX5_change_36 : decode cX5_change 36 = .ok (.iload_n 1, 1) := by decide +kernel
theorem dX5_change_37 : decode cX5_change 37 = .ok (.iaload, 1) := by decide +kernel
theorem dX5_change_38 : decode cX5_change 38 = .ok (.istore_n 3, 1) := by decide +kernel
theorem dX5_change_39 : decode cX5_change 39 = .ok (.iload_n 2, 1) := by decide +kernel
theorem dX5_change_40 : decode cX5_change 40 = .ok (.iload_n 3, 1) := by decide +kernel
theorem dX5_change_41 : decode cX5_change 41 = .ok (.if_icmp .eq 27, 3) := by decide +kernel
theorem dX5_change_44 : decode cX5_change 44 = .ok (.aload_n 0, 1) := by decide +kernel
theorem dX5_change_45 : decode cX5_change 45 = .ok (.getfield 20, 3) := by decide +kernel
theorem dX5_change_48 : decode cX5_change 48 = .ok (.getfield 95, 3) := by decide +kernel
theorem dX5_change_51 : decode cX5_change 51 = .ok (.getfield 105, 3) := by decide +kernel
theorem dX5_change_54 : decode cX5_change 54 = .ok (.iload_n 1, 1) := by decide +kernel
theorem dX5_change_55 : decode cX5_change 55 = .ok (.iload_n 2, 1) := by decide +kernel
theorem dX5_change_56 : decode cX5_change 56 = .ok (.iastore, 1) := by decide +kernel
theorem dX5_change_57 : decode cX5_change 57 = .ok (.aload_n 0, 1) := by decide +kernel
theorem dX5_change_58 : decode cX5_change 58 = .ok (.getfield 20, 3) := by decide +kernel
theorem dX5_change_61 : decode cX5_change 61 = .ok (.getfield 33, 3) := by decide +kernel
theorem dX5_change_64 : decode cX5_change 64 = .ok (.iconst 0, 1) := by decide +kernel
theorem dX5_change_65 : decode cX5_change 65 = .ok (.putfield 106, 3) := by decide +kernel
theorem dX5_change_68 : decode cX5_change 68 = .ok (.iload_n 3, 1) := by decide +kernel
theorem dX5_change_69 : decode cX5_change 69 = .ok (.ireturn, 1) := by decide +kernel
set_option maxRecDepth 20000 in
theorem ggX5_remove_X1_has : GoodIn wsX5_remove wsX1_has := goodIn_r _ [5, 6, 30, 31] (by decide +kernel) (by decide +kernel)
set_option maxRecDepth 20000 in
theorem gX5_remove_X1_has_n104 : GoodIn wsX5_remove (wsX1_has) := ggX5_remove_X1_has
set_option maxRecDepth 20000 in
theorem ggX5_remove_X1_takeOut : GoodIn wsX5_remove wsX1_takeOut := goodIn_r _ [9, 6, 10, 11, 2, 4, 3, 5, 30, 31] (by decide +kernel) (by decide +kernel)
set_option maxRecDepth 20000 in
theorem gX5_remove_X1_takeOut_n109 : GoodIn wsX5_remove (wsX1_takeOut) := ggX5_remove_X1_takeOut
theorem dX5_remove_0 : decode cX5_remove 0 = .ok (.aload_n 0, 1) := by decide +kernel
theorem dX5_remove_1 : decode cX5_remove 1 = .ok (.getfield 20, 3) := by decide +kernel
theorem dX5_remove_4 : decode cX5_remove 4 = .ok (.getfield 95, 3) := by decide +kernel
theorem dX5_remove_7 : decode cX5_remove 7 = .ok (.iload_n 1, 1) := by decide +kernel
theorem dX5_remove_8 : decode cX5_remove 8 = .ok (.invokevirtual 104, 3) := by decide +kernel
theorem dX5_remove_11 : decode cX5_remove 11 = .ok (.ifCond .ne 5, 3) := by decide +kernel
theorem dX5_remove_14 : decode cX5_remove 14 = .ok (.iconst (-1), 1) := by decide +kernel
theorem dX5_remove_15 : decode cX5_remove 15 = .ok (.ireturn, 1) := by decide +kernel
theorem dX5_remove_16 : decode cX5_remove 16 = .ok (.aload_n 0, 1) := by decide +kernel
theorem dX5_remove_17 : decode cX5_remove 17 = .ok (.getfield 20, 3) := by decide +kernel
theorem dX5_remove_20 : decode cX5_remove 20 = .ok (.getfield 33, 3) := by decide +kernel
theorem dX5_remove_23 : decode cX5_remove 23 = .ok (.iconst 0, 1) := by decide +kernel
theorem dX5_remove_24 : decode cX5_remove 24 = .ok (.putfield 37, 3) := by decide +kernel
theorem dX5_remove_27 : decode cX5_remove 27 = .ok (.aload_n 0, 1) := by decide +kernel
theorem dX5_remove_28 : decode cX5_remove 28 = .ok (.getfield 20, 3) := by decide +kernel
theorem dX5_remove_31 : decode cX5_remove 31 = .ok (.getfield 95, 3) := by decide +kernel
theorem dX5_remove_34 : decode cX5_remove 34 = .ok (.iload_n 1, 1) := by decide +kernel
theorem dX5_remove_35 : decode cX5_remove 35 = .ok (.invokevirtual 109, 3) := by decide +kernel
theorem dX5_remove_38 : decode cX5_remove 38 = .ok (.aload_n 0, 1) := by decide +kernel
theorem dX5_remove_39 : decode cX5_remove 39 = .ok (.getfield 20, 3) := by decide +kernel
theorem dX5_remove_42 : decode cX5_remove 42 = .ok (.getfield 95, 3) := by decide +kernel
theorem dX5_remove_45 : decode cX5_remove 45 = .ok (.getfield 99, 3) := by decide +kernel
theorem dX5_remove_48 : decode cX5_remove 48 = .ok (.ireturn, 1) := by decide +kernel
set_option maxRecDepth 20000 in
theorem ggX5_difference_X1_has : GoodIn wsX5_difference wsX1_has := goodIn_r _ [5, 6, 34, 35] (by decide +kernel) (by decide +kernel)
set_option maxRecDepth 20000 in
theorem gX5_difference_X1_has_n104 : GoodIn wsX5_difference (wsX1_has) := ggX5_difference_X1_has
set_option maxRecDepth 20000 in
theorem ggX5_difference_X2_has : GoodIn wsX5_difference wsX2_has := goodIn_r _ [10, 11, 36, 37, 38] (by decide +kernel) (by decide +kernel)
set_option maxRecDepth 20000 in
theorem gX5_difference_X2_has_n75 : GoodIn wsX5_difference (wsX2_has) := ggX5_difference_X2_has
set_option maxRecDepth 20000 in
theorem ggX5_difference_X3_apart : GoodIn wsX5_difference wsX3_apart := goodIn_r _ [15, 16, 17, 18, 2, 3, 4, 5, 6, 7, 8, 9, 10, 11, 19, 20, 21, 22, 23, 24, 25, 29, 30, 31, 32, 33, 34, 35, 36, 37, 38] (by decide +kernel) (by decide +kernel)
set_option maxRecDepth 20000 in
theorem gX5_difference_X3_apart_n110 : GoodIn wsX5_difference (wsX3_apart) := ggX5_difference_X3_apart
theorem dX5_difference_0 : decode cX5_difference 0 = .ok (.aload_n 0, 1) := by decide +kernel
theorem dX5_difference_1 : decode cX5_difference 1 = .ok (.getfield 20, 3) := by decide +kernel
theorem dX5_difference_4 : decode cX5_difference 4 = .ok (.getfield 95, 3) := by decide +kernel
theorem dX5_difference_7 : decode cX5_difference 7 = .ok (.iload_n 1, 1) := by decide +kernel
theorem dX5_difference_8 : decode cX5_difference 8 = .ok (.invokevirtual 104, 3) := by decide +kernel
theorem dX5_difference_11 : decode cX5_difference 11 = .ok (.ifCond .eq 17, 3) := by decide +kernel
theorem dX5_difference_14 : decode cX5_difference 14 = .ok (.aload_n 0, 1) := by decide +kernel
theorem dX5_difference_15 : decode cX5_difference 15 = .ok (.getfield 20, 3) := by decide +kernel
theorem dX5_difference_18 : decode cX5_difference 18 = .ok (.getfield 50, 3) := by decide +kernel
theorem dX5_difference_21 : decode cX5_difference 21 = .ok (.iload_n 2, 1) := by decide +kernel
theorem dX5_difference_22 : decode cX5_difference 22 = .ok (.invokevirtual 75, 3) := by decide +kernel
theorem dX5_difference_25 : decode cX5_difference 25 = .ok (.ifCond .ne 5, 3) := by decide +kernel
theorem dX5_difference_28 : decode cX5_difference 28 = .ok (.iconst (-1), 1) := by decide +kernel
theorem dX5_difference_29 : decode cX5_difference 29 = .ok (.ireturn, 1) := by decide +kernel
theorem dX5_difference_30 : decode cX5_difference 30 = .ok (.aload_n 0, 1) := by decide +kernel
theorem dX5_difference_31 : decode cX5_difference 31 = .ok (.getfield 20, 3) := by decide +kernel
theorem dX5_difference_34 : decode cX5_difference 34 = .ok (.iload_n 1, 1) := by decide +kernel
theorem dX5_difference_35 : decode cX5_difference 35 = .ok (.iload_n 2, 1) := by decide +kernel
theorem dX5_difference_36 : decode cX5_difference 36 = .ok (.invokevirtual 110, 3) := by decide +kernel
theorem dX5_difference_39 : decode cX5_difference 39 = .ok (.ireturn, 1) := by decide +kernel
set_option maxRecDepth 20000 in
theorem ggX5_auction_X2_slots : GoodIn wsX5_auction wsX2_slots := goodIn_r _ [6, 7, 8, 9, 10, 4, 11, 12, 132, 133, 134] (by decide +kernel) (by decide +kernel)
set_option maxRecDepth 20000 in
theorem gX5_auction_X2_slots_n113 : GoodIn wsX5_auction (wsX2_slots) := ggX5_auction_X2_slots
set_option maxRecDepth 20000 in
theorem ggX5_auction_X0_holdAuction : GoodIn wsX5_auction wsX0_holdAuction := goodIn_r _ [16, 17, 18, 19, 20, 21, 22, 23, 24, 25, 26, 14, 27, 28, 29, 30, 31, 3, 4, 5, 6, 7, 8, 9, 10, 11, 12, 32, 33, 34, 35, 36, 37, 38, 39, 40, 41, 42, 43, 44, 45, 46, 47, 48, 49, 50, 51, 52, 53, 54, 55, 56, 57, 58, 59, 60, 61, 62, 63, 64, 65, 66, 67, 68, 69, 70, 71, 72, 73, 74, 75, 76, 77, 78, 79, 80, 81, 82, 83, 84, 85, 86, 87, 88, 89, 90, 91, 92, 93, 94, 95, 96, 97, 98, 99, 100, 101, 102, 103, 104, 105, 106, 107, 108, 109, 110, 111, 112, 113, 114, 115, 116, 117, 118, 119, 120, 121, 135, 136, 137, 138, 125, 126, 127, 128, 129, 132, 133, 134, 130, 131, 139, 140, 141, 142, 143, 144, 145, 146, 147, 148] (by decide +kernel) (by decide +kernel)
set_option maxRecDepth 20000 in
theorem gX5_auction_X0_holdAuction_n117 : GoodIn wsX5_auction (wsX0_holdAuction) := ggX5_auction_X0_holdAuction
theorem dX5_auction_0 : decode cX5_auction 0 = .ok (.aload_n 0, 1) := by decide +kernel
theorem dX5_auction_1 : decode cX5_auction 1 = .ok (.getfield 20, 3) := by decide +kernel
theorem dX5_auction_4 : decode cX5_auction 4 = .ok (.getfield 50, 3) := by decide +kernel
theorem dX5_auction_7 : decode cX5_auction 7 = .ok (.invokevirtual 113, 3) := by decide +kernel
theorem dX5_auction_10 : decode cX5_auction 10 = .ok (.istore_n 1, 1) := by decide +kernel
theorem dX5_auction_11 : decode cX5_auction 11 = .ok (.iload_n 1, 1) := by decide +kernel
theorem dX5_auction_12 : decode cX5_auction 12 = .ok (.ifCond .eq 17, 3) := by decide +kernel
theorem dX5_auction_15 : decode cX5_auction 15 = .ok (.iload_n 1, 1) := by decide +kernel
theorem dX5_auction_16 : decode cX5_auction 16 = .ok (.aload_n 0, 1) := by decide +kernel
theorem dX5_auction_17 : decode cX5_auction 17 = .ok (.getfield 20, 3) := by decide +kernel
theorem dX5_auction_20 : decode cX5_auction 20 = .ok (.getfield 95, 3) := by decide +kernel
theorem dX5_auction_23 : decode cX5_auction 23 = .ok (.getfield 99, 3) := by decide +kernel
theorem dX5_auction_26 : decode cX5_auction 26 = .ok (.if_icmp .ge 6, 3) := by decide +kernel
theorem dX5_auction_29 : decode cX5_auction 29 = .ok (.bipush (-5), 2) := by decide +kernel
theorem dX5_auction_31 : decode cX5_auction 31 = .ok (.ireturn, 1) := by decide +kernel
theorem dX5_auction_32 : decode cX5_auction 32 = .ok (.aload_n 0, 1) := by decide +kernel
theorem dX5_auction_33 : decode cX5_auction 33 = .ok (.getfield 10, 3) := by decide +kernel
theorem dX5_auction_36 : decode cX5_auction 36 = .ok (.invokevirtual 117, 3) := by decide +kernel
theorem dX5_auction_39 : decode cX5_auction 39 = .ok (.ireturn, 1) := by decide +kernel
set_option maxRecDepth 20000 in
theorem ggX5_repair_X0_mend : GoodIn wsX5_repair wsX0_mend := goodIn_r _ [6, 7, 8, 9, 10, 11, 4, 12, 13, 14, 15, 16, 17, 18, 19, 20, 21, 22, 23, 24, 25, 26, 27, 28, 29, 30, 31, 32, 33, 34, 35, 36, 37, 38, 39, 40, 41, 42, 43, 44, 45, 46, 47, 48, 49, 50, 51, 52, 53, 54, 55, 56, 57, 58, 59, 60, 61, 62, 63, 64, 65, 66, 67, 68, 69, 70, 71, 72, 73, 74, 75, 76, 77, 78, 79, 80, 81, 82, 83, 84, 85, 86, 87, 88, 89, 90, 91, 92, 93, 94, 95, 96, 97, 98, 99, 100, 101, 102, 103, 104, 105, 124, 125, 126, 127, 109, 110, 111, 112, 113, 128, 129, 130, 131, 132, 114, 115, 116, 117, 118, 119, 120, 121, 122, 123] (by decide +kernel) (by decide +kernel)
set_option maxRecDepth 20000 in
theorem gX5_repair_X0_mend_n120 : GoodIn wsX5_repair (wsX0_mend) := ggX5_repair_X0_mend
theorem dX5_repair_0 : decode cX5_repair 0 = .ok (.aload_n 0, 1) := by decide +kernel
theorem dX5_repair_1 : decode cX5_repair 1 = .ok (.getfield 20, 3) := by decide +kernel
theorem dX5_repair_4 : decode cX5_repair 4 = .ok (.getfield 33, 3) := by decide +kernel
theorem dX5_repair_7 : decode cX5_repair 7 = .ok (.getfield 37, 3) := by decide +kernel
theorem dX5_repair_10 : decode cX5_repair 10 = .ok (.ifCond .ne 6, 3) := by decide +kernel
theorem dX5_repair_13 : decode cX5_repair 13 = .ok (.bipush (-3), 2) := by decide +kernel
theorem dX5_repair_15 : decode cX5_repair 15 = .ok (.ireturn, 1) := by decide +kernel
theorem dX5_repair_16 : decode cX5_repair 16 = .ok (.aload_n 0, 1) := by decide +kernel
theorem dX5_repair_17 : decode cX5_repair 17 = .ok (.getfield 20, 3) := by decide +kernel
theorem dX5_repair_20 : decode cX5_repair 20 = .ok (.getfield 33, 3) := by decide +kernel
theorem dX5_repair_23 : decode cX5_repair 23 = .ok (.getfield 106, 3) := by decide +kernel
theorem dX5_repair_26 : decode cX5_repair 26 = .ok (.ifCond .eq 7, 3) := by decide +kernel
theorem dX5_repair_29 : decode cX5_repair 29 = .ok (.iconst 0, 1) := by decide +kernel
theorem dX5_repair_30 : decode cX5_repair 30 = .ok (.goto 10, 3) := by decide +kernel
theorem dX5_repair_33 : decode cX5_repair 33 = .ok (.aload_n 0, 1) := by decide +kernel
theorem dX5_repair_34 : decode cX5_repair 34 = .ok (.getfield 10, 3) := by decide +kernel
theorem dX5_repair_37 : decode cX5_repair 37 = .ok (.invokevirtual 120, 3) := by decide +kernel
theorem dX5_repair_40 : decode cX5_repair 40 = .ok (.ireturn, 1) := by decide +kernel
set_option maxRecDepth 20000 in
theorem ggX5_phase_X4_hasPhase : GoodIn wsX5_phase wsX4_hasPhase := goodIn_r _ [5, 6, 15, 16, 17, 18, 19, 20, 21, 22, 23, 24] (by decide +kernel) (by decide +kernel)
set_option maxRecDepth 20000 in
theorem gX5_phase_X4_hasPhase_n123 : GoodIn wsX5_phase (wsX4_hasPhase) := ggX5_phase_X4_hasPhase
theorem dX5_phase_0 : decode cX5_phase 0 = .ok (.aload_n 0, 1) := by decide +kernel
theorem dX5_phase_1 : decode cX5_phase 1 = .ok (.getfield 20, 3) := by decide +kernel
theorem dX5_phase_4 : decode cX5_phase 4 = .ok (.getfield 33, 3) := by decide +kernel
theorem dX5_phase_7 : decode cX5_phase 7 = .ok (.getfield 37, 3) := by decide +kernel
theorem dX5_phase_10 : decode cX5_phase 10 = .ok (.ifCond .ne 6, 3) := by decide +kernel
theorem dX5_phase_13 : decode cX5_phase 13 = .ok (.bipush (-3), 2) := by decide +kernel
theorem dX5_phase_15 : decode cX5_phase 15 = .ok (.ireturn, 1) := by decide +kernel
theorem dX5_phase_16 : decode cX5_phase 16 = .ok (.aload_n 0, 1) := by decide +kernel
theorem dX5_phase_17 : decode cX5_phase 17 = .ok (.getfield 20, 3) := by decide +kernel
theorem dX5_phase_20 : decode cX5_phase 20 = .ok (.getfield 33, 3) := by decide +kernel
theorem dX5_phase_23 : decode cX5_phase 23 = .ok (.iload_n 1, 1) := by decide +kernel
theorem dX5_phase_24 : decode cX5_phase 24 = .ok (.invokevirtual 123, 3) := by decide +kernel
theorem dX5_phase_27 : decode cX5_phase 27 = .ok (.ifCond .ne 5, 3) := by decide +kernel
theorem dX5_phase_30 : decode cX5_phase 30 = .ok (.iconst (-1), 1) := by decide +kernel
theorem dX5_phase_31 : decode cX5_phase 31 = .ok (.ireturn, 1) := by decide +kernel
theorem dX5_phase_32 : decode cX5_phase 32 = .ok (.iload_n 2, 1) := by decide +kernel
theorem dX5_phase_33 : decode cX5_phase 33 = .ok (.tableswitch 66 0 2 #[27, 40, 53], 27) := by decide +kernel
theorem dX5_phase_60 : decode cX5_phase 60 = .ok (.aload_n 0, 1) := by decide +kernel
theorem dX5_phase_61 : decode cX5_phase 61 = .ok (.getfield 20, 3) := by decide +kernel
theorem dX5_phase_64 : decode cX5_phase 64 = .ok (.getfield 33, 3) := by decide +kernel
theorem dX5_phase_67 : decode cX5_phase 67 = .ok (.getfield 126, 3) := by decide +kernel
theorem dX5_phase_70 : decode cX5_phase 70 = .ok (.iload_n 1, 1) := by decide +kernel
theorem dX5_phase_71 : decode cX5_phase 71 = .ok (.iaload, 1) := by decide +kernel
theorem dX5_phase_72 : decode cX5_phase 72 = .ok (.ireturn, 1) := by decide +kernel
theorem dX5_phase_73 : decode cX5_phase 73 = .ok (.aload_n 0, 1) := by decide +kernel
theorem dX5_phase_74 : decode cX5_phase 74 = .ok (.getfield 20, 3) := by decide +kernel
theorem dX5_phase_77 : decode cX5_phase 77 = .ok (.getfield 33, 3) := by decide +kernel
theorem dX5_phase_80 : decode cX5_phase 80 = .ok (.getfield 129, 3) := by decide +kernel
theorem dX5_phase_83 : decode cX5_phase 83 = .ok (.iload_n 1, 1) := by decide +kernel
theorem dX5_phase_84 : decode cX5_phase 84 = .ok (.iaload, 1) := by decide +kernel
theorem dX5_phase_85 : decode cX5_phase 85 = .ok (.ireturn, 1) := by decide +kernel
theorem dX5_phase_86 : decode cX5_phase 86 = .ok (.aload_n 0, 1) := by decide +kernel
theorem dX5_phase_87 : decode cX5_phase 87 = .ok (.getfield 20, 3) := by decide +kernel
theorem dX5_phase_90 : decode cX5_phase 90 = .ok (.getfield 33, 3) := by decide +kernel
theorem dX5_phase_93 : decode cX5_phase 93 = .ok (.getfield 132, 3) := by decide +kernel
theorem dX5_phase_96 : decode cX5_phase 96 = .ok (.iload_n 1, 1) := by decide +kernel
theorem dX5_phase_97 : decode cX5_phase 97 = .ok (.iaload, 1) := by decide +kernel
theorem dX5_phase_98 : decode cX5_phase 98 = .ok (.ireturn, 1) := by decide +kernel
theorem dX5_phase_99 : decode cX5_phase 99 = .ok (.bipush (-2), 2) := by decide +kernel
theorem dX5_phase_101 : decode cX5_phase 101 = .ok (.ireturn, 1) := by decide +kernel
set_option maxRecDepth 20000 in
theorem ggX5_place_X4_isDone : GoodIn wsX5_place wsX4_isDone := goodIn_r _ [5, 6, 7, 40, 41, 42, 43, 44, 45, 46, 47, 48, 49] (by decide +kernel) (by decide +kernel)
set_option maxRecDepth 20000 in
theorem gX5_place_X4_isDone_n88 : GoodIn wsX5_place (wsX4_isDone) := ggX5_place_X4_isDone
set_option maxRecDepth 20000 in
theorem ggX5_place_X1_has : GoodIn wsX5_place wsX1_has := goodIn_r _ [11, 12, 50, 51] (by decide +kernel) (by decide +kernel)
set_option maxRecDepth 20000 in
theorem gX5_place_X1_has_n104 : GoodIn wsX5_place (wsX1_has) := ggX5_place_X1_has
set_option maxRecDepth 20000 in
theorem ggX5_place_X3_kindOf : GoodIn wsX5_place wsX3_kindOf := goodIn_r _ [16, 17, 18, 19, 3, 20, 21, 22, 23, 24, 25, 26, 27, 28, 29, 30, 31, 35, 36, 37, 38, 39, 40, 41, 42, 43, 44, 45, 46, 47, 48, 49, 52, 53, 54] (by decide +kernel) (by decide +kernel)
set_option maxRecDepth 20000 in
theorem gX5_place_X3_kindOf_n135 : GoodIn wsX5_place (wsX3_kindOf) := ggX5_place_X3_kindOf
theorem dX5_place_0 : decode cX5_place 0 = .ok (.aload_n 0, 1) := by decide +kernel
theorem dX5_place_1 : decode cX5_place 1 = .ok (.getfield 20, 3) := by decide +kernel
theorem dX5_place_4 : decode cX5_place 4 = .ok (.getfield 33, 3) := by decide +kernel
theorem dX5_place_7 : decode cX5_place 7 = .ok (.invokevirtual 88, 3) := by decide +kernel
theorem dX5_place_10 : decode cX5_place 10 = .ok (.ifCond .ne 6, 3) := by decide +kernel
theorem dX5_place_13 : decode cX5_place 13 = .ok (.bipush (-3), 2) := by decide +kernel
theorem dX5_place_15 : decode cX5_place 15 = .ok (.ireturn, 1) := by decide +kernel
theorem dX5_place_16 : decode cX5_place 16 = .ok (.aload_n 0, 1) := by decide +kernel
theorem dX5_place_17 : decode cX5_place 17 = .ok (.getfield 20, 3) := by decide +kernel
theorem dX5_place_20 : decode cX5_place 20 = .ok (.getfield 95, 3) := by decide +kernel
theorem dX5_place_23 : decode cX5_place 23 = .ok (.iload_n 1, 1) := by decide +kernel
theorem dX5_place_24 : decode cX5_place 24 = .ok (.invokevirtual 104, 3) := by decide +kernel
theorem dX5_place_27 : decode cX5_place 27 = .ok (.ifCond .ne 5, 3) := by decide +kernel
theorem dX5_place_30 : decode cX5_place 30 = .ok (.iconst (-1), 1) := by decide +kernel
theorem dX5_place_31 : decode cX5_place 31 = .ok (.ireturn, 1) := by decide +kernel
theorem dX5_place_32 : decode cX5_place 32 = .ok (.aload_n 0, 1) := by decide +kernel
theorem dX5_place_33 : decode cX5_place 33 = .ok (.getfield 20, 3) := by decide +kernel
theorem dX5_place_36 : decode cX5_place 36 = .ok (.iload_n 1, 1) := by decide +kernel
theorem dX5_place_37 : decode cX5_place 37 = .ok (.invokevirtual 135, 3) := by decide +kernel
theorem dX5_place_40 : decode cX5_place 40 = .ok (.ireturn, 1) := by decide +kernel
set_option maxRecDepth 20000 in
theorem ggX5_slot_X4_isInRow : GoodIn wsX5_slot wsX4_isInRow := goodIn_r _ [4] (by decide +kernel) (by decide +kernel)
set_option maxRecDepth 20000 in
theorem gX5_slot_X4_isInRow_n138 : GoodIn wsX5_slot (wsX4_isInRow) := ggX5_slot_X4_isInRow
set_option maxRecDepth 20000 in
theorem ggX5_slot_X2_slots : GoodIn wsX5_slot wsX2_slots := goodIn_r _ [8, 9, 10, 11, 12, 6, 13, 14, 47, 48, 49] (by decide +kernel) (by decide +kernel)
set_option maxRecDepth 20000 in
theorem gX5_slot_X2_slots_n113 : GoodIn wsX5_slot (wsX2_slots) := ggX5_slot_X2_slots
set_option maxRecDepth 20000 in
theorem ggX5_slot_X2_ofSlot : GoodIn wsX5_slot wsX2_ofSlot := goodIn_r _ [17, 9, 14, 47, 48, 49] (by decide +kernel) (by decide +kernel)
set_option maxRecDepth 20000 in
theorem gX5_slot_X2_ofSlot_n144 : GoodIn wsX5_slot (wsX2_ofSlot) := ggX5_slot_X2_ofSlot
set_option maxRecDepth 20000 in
theorem ggX5_slot_X3_cellOf : GoodIn wsX5_slot wsX3_cellOf := goodIn_r _ [21, 22, 23, 2, 3, 4, 24, 25, 26, 27, 28, 32, 33, 34, 35, 36, 37, 38, 39, 40, 41, 42, 43, 44, 45, 46, 50, 51] (by decide +kernel) (by decide +kernel)
set_option maxRecDepth 20000 in
theorem gX5_slot_X3_cellOf_n147 : GoodIn wsX5_slot (wsX3_cellOf) := ggX5_slot_X3_cellOf
theorem dX5_slot_0 : decode cX5_slot 0 = .ok (.aload_n 0, 1) := by decide +kernel
theorem dX5_slot_1 : decode cX5_slot 1 = .ok (.getfield 20, 3) := by decide +kernel
theorem dX5_slot_4 : decode cX5_slot 4 = .ok (.getfield 33, 3) := by decide +kernel
theorem dX5_slot_7 : decode cX5_slot 7 = .ok (.getfield 37, 3) := by decide +kernel
theorem dX5_slot_10 : decode cX5_slot 10 = .ok (.ifCond .eq 21, 3) := by decide +kernel
theorem dX5_slot_13 : decode cX5_slot 13 = .ok (.iload_n 2, 1) := by decide +kernel
theorem dX5_slot_14 : decode cX5_slot 14 = .ok (.iconst 2, 1) := by decide +kernel
theorem dX5_slot_15 : decode cX5_slot 15 = .ok (.if_icmp .ne 19, 3) := by decide +kernel
theorem dX5_slot_18 : decode cX5_slot 18 = .ok (.aload_n 0, 1) := by decide +kernel
theorem dX5_slot_19 : decode cX5_slot 19 = .ok (.getfield 20, 3) := by decide +kernel
theorem dX5_slot_22 : decode cX5_slot 22 = .ok (.getfield 33, 3) := by decide +kernel
theorem dX5_slot_25 : decode cX5_slot 25 = .ok (.getfield 106, 3) := by decide +kernel
theorem dX5_slot_28 : decode cX5_slot 28 = .ok (.ifCond .ne 6, 3) := by decide +kernel
theorem dX5_slot_31 : decode cX5_slot 31 = .ok (.bipush (-3), 2) := by decide +kernel
theorem dX5_slot_33 : decode cX5_slot 33 = .ok (.ireturn, 1) := by decide +kernel
theorem dX5_slot_34 : decode cX5_slot 34 = .ok (.iload_n 1, 1) := by decide +kernel
theorem dX5_slot_35 : decode cX5_slot 35 = .ok (.invokestatic 138, 3) := by decide +kernel
theorem dX5_slot_38 : decode cX5_slot 38 = .ok (.ifCond .eq 17, 3) := by decide +kernel
theorem dX5_slot_41 : decode cX5_slot 41 = .ok (.iload_n 1, 1) := by decide +kernel
theorem dX5_slot_42 : decode cX5_slot 42 = .ok (.aload_n 0, 1) := by decide +kernel
theorem dX5_slot_43 : decode cX5_slot 43 = .ok (.getfield 20, 3) := by decide +kernel
theorem dX5_slot_46 : decode cX5_slot 46 = .ok (.getfield 50, 3) := by decide +kernel
theorem dX5_slot_49 : decode cX5_slot 49 = .ok (.invokevirtual 113, 3) := by decide +kernel
theorem dX5_slot_52 : decode cX5_slot 52 = .ok (.if_icmp .lt 5, 3) := by decide +kernel
theorem dX5_slot_55 : decode cX5_slot 55 = .ok (.iconst (-1), 1) := by decide +kernel
theorem dX5_slot_56 : decode cX5_slot 56 = .ok (.ireturn, 1) := by decide +kernel
theorem dX5_slot_57 : decode cX5_slot 57 = .ok (.iload_n 2, 1) := by decide +kernel
theorem dX5_slot_58 : decode cX5_slot 58 = .ok (.tableswitch 60 0 2 #[26, 39, 51], 26) := by decide +kernel
theorem dX5_slot_84 : decode cX5_slot 84 = .ok (.aload_n 0, 1) := by decide +kernel
theorem dX5_slot_85 : decode cX5_slot 85 = .ok (.getfield 20, 3) := by decide +kernel
theorem dX5_slot_88 : decode cX5_slot 88 = .ok (.getfield 33, 3) := by decide +kernel
theorem dX5_slot_91 : decode cX5_slot 91 = .ok (.getfield 141, 3) := by decide +kernel
theorem dX5_slot_94 : decode cX5_slot 94 = .ok (.iload_n 1, 1) := by decide +kernel
theorem dX5_slot_95 : decode cX5_slot 95 = .ok (.iaload, 1) := by decide +kernel
theorem dX5_slot_96 : decode cX5_slot 96 = .ok (.ireturn, 1) := by decide +kernel
theorem dX5_slot_97 : decode cX5_slot 97 = .ok (.aload_n 0, 1) := by decide +kernel
theorem dX5_slot_98 : decode cX5_slot 98 = .ok (.getfield 20, 3) := by decide +kernel
theorem dX5_slot_101 : decode cX5_slot 101 = .ok (.getfield 50, 3) := by decide +kernel
theorem dX5_slot_104 : decode cX5_slot 104 = .ok (.iload_n 1, 1) := by decide +kernel
theorem dX5_slot_105 : decode cX5_slot 105 = .ok (.invokevirtual 144, 3) := by decide +kernel
theorem dX5_slot_108 : decode cX5_slot 108 = .ok (.ireturn, 1) := by decide +kernel
theorem dX5_slot_109 : decode cX5_slot 109 = .ok (.aload_n 0, 1) := by decide +kernel
theorem dX5_slot_110 : decode cX5_slot 110 = .ok (.getfield 20, 3) := by decide +kernel
theorem dX5_slot_113 : decode cX5_slot 113 = .ok (.iload_n 1, 1) := by decide +kernel
theorem dX5_slot_114 : decode cX5_slot 114 = .ok (.invokevirtual 147, 3) := by decide +kernel
theorem dX5_slot_117 : decode cX5_slot 117 = .ok (.ireturn, 1) := by decide +kernel
theorem dX5_slot_118 : decode cX5_slot 118 = .ok (.bipush (-2), 2) := by decide +kernel
theorem dX5_slot_120 : decode cX5_slot 120 = .ok (.ireturn, 1) := by decide +kernel
set_option maxRecDepth 20000 in
theorem ggX5_gain_X1_has : GoodIn wsX5_gain wsX1_has := goodIn_r _ [9, 10, 95, 96] (by decide +kernel) (by decide +kernel)
set_option maxRecDepth 20000 in
theorem gX5_gain_X1_has_n104 : GoodIn wsX5_gain (wsX1_has) := ggX5_gain_X1_has
set_option maxRecDepth 20000 in
theorem ggX5_gain_X0_readWorths : GoodIn wsX5_gain wsX0_readWorths := goodIn_r _ [14, 15, 16, 17, 18, 19, 20, 21, 22, 23, 24, 25, 26, 27, 28, 29, 30, 31, 32, 33, 34, 35, 36, 37, 12, 38, 6, 7, 8, 9, 10, 39, 40, 41, 42, 43, 44, 45, 46, 47, 48, 49, 50, 51, 52, 53, 54, 97, 98, 99, 100, 80, 81, 82, 83, 84, 101, 102, 103, 95, 96] (by decide +kernel) (by decide +kernel)
set_option maxRecDepth 20000 in
theorem gX5_gain_X0_readWorths_n153 : GoodIn wsX5_gain (wsX0_readWorths) := ggX5_gain_X0_readWorths
set_option maxRecDepth 20000 in
theorem ggX5_gain_X0_ownGain : GoodIn wsX5_gain wsX0_ownGain := goodIn_r _ [57, 58, 59, 60, 61, 62, 63, 64, 65, 66, 67, 68, 69, 12, 70, 21, 97, 98, 99, 100, 85, 86, 87, 88, 89, 90, 91, 92, 93, 94] (by decide +kernel) (by decide +kernel)
set_option maxRecDepth 20000 in
theorem gX5_gain_X0_ownGain_n156 : GoodIn wsX5_gain (wsX0_ownGain) := ggX5_gain_X0_ownGain
set_option maxRecDepth 20000 in
theorem ggX5_gain_X0_greatestGain : GoodIn wsX5_gain wsX0_greatestGain := goodIn_r _ [73, 20, 74, 75, 18, 76, 67, 68, 69, 12, 70, 21, 58, 65, 60, 66, 97, 98, 99, 100, 85, 86, 87, 88, 89, 90, 91, 92, 93, 94] (by decide +kernel) (by decide +kernel)
set_option maxRecDepth 20000 in
theorem gX5_gain_X0_greatestGain_n159 : GoodIn wsX5_gain (wsX0_greatestGain) := ggX5_gain_X0_greatestGain
theorem dX5_gain_0 : decode cX5_gain 0 = .ok (.aload_n 0, 1) := by decide +kernel
theorem dX5_gain_1 : decode cX5_gain 1 = .ok (.getfield 20, 3) := by decide +kernel
theorem dX5_gain_4 : decode cX5_gain 4 = .ok (.getfield 33, 3) := by decide +kernel
theorem dX5_gain_7 : decode cX5_gain 7 = .ok (.getfield 37, 3) := by decide +kernel
theorem dX5_gain_10 : decode cX5_gain 10 = .ok (.ifCond .eq 20, 3) := by decide +kernel
theorem dX5_gain_13 : decode cX5_gain 13 = .ok (.iload_n 2, 1) := by decide +kernel
theorem dX5_gain_14 : decode cX5_gain 14 = .ok (.ifCond .ne 19, 3) := by decide +kernel
theorem dX5_gain_17 : decode cX5_gain 17 = .ok (.aload_n 0, 1) := by decide +kernel
theorem dX5_gain_18 : decode cX5_gain 18 = .ok (.getfield 20, 3) := by decide +kernel
theorem dX5_gain_21 : decode cX5_gain 21 = .ok (.getfield 33, 3) := by decide +kernel
theorem dX5_gain_24 : decode cX5_gain 24 = .ok (.getfield 106, 3) := by decide +kernel
theorem dX5_gain_27 : decode cX5_gain 27 = .ok (.ifCond .ne 6, 3) := by decide +kernel
theorem dX5_gain_30 : decode cX5_gain 30 = .ok (.ldc 150, 2) := by decide +kernel
theorem dX5_gain_32 : decode cX5_gain 32 = .ok (.ireturn, 1) := by decide +kernel
theorem dX5_gain_33 : decode cX5_gain 33 = .ok (.aload_n 0, 1) := by decide +kernel
theorem dX5_gain_34 : decode cX5_gain 34 = .ok (.getfield 20, 3) := by decide +kernel
theorem dX5_gain_37 : decode cX5_gain 37 = .ok (.getfield 95, 3) := by decide +kernel
theorem dX5_gain_40 : decode cX5_gain 40 = .ok (.iload_n 1, 1) := by decide +kernel
theorem dX5_gain_41 : decode cX5_gain 41 = .ok (.invokevirtual 104, 3) := by decide +kernel
theorem dX5_gain_44 : decode cX5_gain 44 = .ok (.ifCond .ne 6, 3) := by decide +kernel
theorem dX5_gain_47 : decode cX5_gain 47 = .ok (.ldc 151, 2) := by decide +kernel
theorem dX5_gain_49 : decode cX5_gain 49 = .ok (.ireturn, 1) := by decide +kernel
theorem dX5_gain_50 : decode cX5_gain 50 = .ok (.iload_n 2, 1) := by decide +kernel
theorem dX5_gain_51 : decode cX5_gain 51 = .ok (.ifCond .eq 11, 3) := by decide +kernel
theorem dX5_gain_54 : decode cX5_gain 54 = .ok (.iload_n 2, 1) := by decide +kernel
theorem dX5_gain_55 : decode cX5_gain 55 = .ok (.iconst 1, 1) := by decide +kernel
theorem dX5_gain_56 : decode cX5_gain 56 = .ok (.if_icmp .eq 6, 3) := by decide +kernel
theorem dX5_gain_59 : decode cX5_gain 59 = .ok (.ldc 152, 2) := by decide +kernel
theorem dX5_gain_61 : decode cX5_gain 61 = .ok (.ireturn, 1) := by decide +kernel
theorem dX5_gain_62 : decode cX5_gain 62 = .ok (.aload_n 0, 1) := by decide +kernel
theorem dX5_gain_63 : decode cX5_gain 63 = .ok (.getfield 10, 3) := by decide +kernel
theorem dX5_gain_66 : decode cX5_gain 66 = .ok (.invokevirtual 153, 3) := by decide +kernel
theorem dX5_gain_69 : decode cX5_gain 69 = .ok (.iload_n 2, 1) := by decide +kernel
theorem dX5_gain_70 : decode cX5_gain 70 = .ok (.ifCond .ne 14, 3) := by decide +kernel
theorem dX5_gain_73 : decode cX5_gain 73 = .ok (.aload_n 0, 1) := by decide +kernel
theorem dX5_gain_74 : decode cX5_gain 74 = .ok (.getfield 10, 3) := by decide +kernel
theorem dX5_gain_77 : decode cX5_gain 77 = .ok (.iload_n 1, 1) := by decide +kernel
theorem dX5_gain_78 : decode cX5_gain 78 = .ok (.invokevirtual 156, 3) := by decide +kernel
theorem dX5_gain_81 : decode cX5_gain 81 = .ok (.goto 11, 3) := by decide +kernel
theorem dX5_gain_84 : decode cX5_gain 84 = .ok (.aload_n 0, 1) := by decide +kernel
theorem dX5_gain_85 : decode cX5_gain 85 = .ok (.getfield 10, 3) := by decide +kernel
theorem dX5_gain_88 : decode cX5_gain 88 = .ok (.iload_n 1, 1) := by decide +kernel
theorem dX5_gain_89 : decode cX5_gain 89 = .ok (.invokevirtual 159, 3) := by decide +kernel
theorem dX5_gain_92 : decode cX5_gain 92 = .ok (.ireturn, 1) := by decide +kernel
set_option maxRecDepth 20000 in
theorem ggX5_total_X4_isDone : GoodIn wsX5_total wsX4_isDone := goodIn_r _ [5, 6, 7, 60, 61, 62, 63, 64, 65, 66, 67, 68, 69] (by decide +kernel) (by decide +kernel)
set_option maxRecDepth 20000 in
theorem gX5_total_X4_isDone_n88 : GoodIn wsX5_total (wsX4_isDone) := ggX5_total_X4_isDone
set_option maxRecDepth 20000 in
theorem ggX5_total_X3_sumOfDifferences : GoodIn wsX5_total wsX3_sumOfDifferences := goodIn_r _ [11, 12, 13, 14, 15, 9, 16, 17, 18, 19, 3, 20, 21, 22, 23, 24, 25, 26, 27, 28, 29, 30, 31, 32, 33, 34, 35, 36, 37, 38, 39, 40, 41, 42, 43, 44, 45, 46, 47, 48, 49, 50, 51, 55, 56, 57, 58, 59, 70, 71, 60, 61, 62, 63, 64, 65, 66, 67, 68, 69, 72, 73, 74] (by decide +kernel) (by decide +kernel)
set_option maxRecDepth 20000 in
theorem gX5_total_X3_sumOfDifferences_n162 : GoodIn wsX5_total (wsX3_sumOfDifferences) := ggX5_total_X3_sumOfDifferences
theorem dX5_total_0 : decode cX5_total 0 = .ok (.aload_n 0, 1) := by decide +kernel
theorem dX5_total_1 : decode cX5_total 1 = .ok (.getfield 20, 3) := by decide +kernel
theorem dX5_total_4 : decode cX5_total 4 = .ok (.getfield 33, 3) := by decide +kernel
theorem dX5_total_7 : decode cX5_total 7 = .ok (.invokevirtual 88, 3) := by decide +kernel
theorem dX5_total_10 : decode cX5_total 10 = .ok (.ifCond .eq 13, 3) := by decide +kernel
theorem dX5_total_13 : decode cX5_total 13 = .ok (.aload_n 0, 1) := by decide +kernel
theorem dX5_total_14 : decode cX5_total 14 = .ok (.getfield 20, 3) := by decide +kernel
theorem dX5_total_17 : decode cX5_total 17 = .ok (.invokevirtual 162, 3) := by decide +kernel
theorem dX5_total_20 : decode cX5_total 20 = .ok (.goto 5, 3) := by decide +kernel
theorem dX5_total_23 : decode cX5_total 23 = .ok (.bipush (-3), 2) := by decide +kernel
theorem dX5_total_25 : decode cX5_total 25 = .ok (.ireturn, 1) := by decide +kernel
set_option maxRecDepth 20000 in
theorem ggX5_image_X3_init : GoodIn wsX5_image wsX3_init := goodIn_r _ [7, 8, 9, 10, 11, 12, 13, 14, 15, 16, 17, 18, 19, 20, 21, 22, 23, 24, 25, 26, 27, 28, 29, 30, 31, 32, 33, 34, 35, 36, 37, 38, 39, 40, 41, 42, 43, 71, 72, 73, 74, 75, 76, 77, 78, 79, 80, 81, 82, 83, 84, 85, 86, 87, 88, 89, 90] (by decide +kernel) (by decide +kernel)
set_option maxRecDepth 20000 in
theorem gX5_image_X3_init_n165 : GoodIn wsX5_image (wsX3_init) := ggX5_image_X3_init
set_option maxRecDepth 20000 in
theorem ggX5_image_X3_copyFrom : GoodIn wsX5_image wsX3_copyFrom := goodIn_r _ [46, 11, 12, 16, 20, 24, 47, 15, 48, 49, 50, 29, 51, 52, 53, 54, 30, 55, 19, 56, 57, 58, 34, 59, 60, 23, 61, 62, 63, 64, 65, 66, 38, 67, 39, 40, 41, 42, 43, 71, 72, 73, 74, 75, 76, 77, 78, 79, 80, 81, 82, 83, 84, 85, 86, 87, 88, 89, 90] (by decide +kernel) (by decide +kernel)
set_option maxRecDepth 20000 in
theorem gX5_image_X3_copyFrom_n166 : GoodIn wsX5_image (wsX3_copyFrom) := ggX5_image_X3_copyFrom
theorem dX5_image_0 : decode cX5_image 0 = .ok (.iload_n 1, 1) := by decide +kernel
theorem dX5_image_1 : decode cX5_image 1 = .ok (.ifCond .lt 8, 3) := by decide +kernel
theorem dX5_image_4 : decode cX5_image 4 = .ok (.iload_n 1, 1) := by decide +kernel
theorem dX5_image_5 : decode cX5_image 5 = .ok (.iconst 2, 1) := by decide +kernel
theorem dX5_image_6 : decode cX5_image 6 = .ok (.if_icmp .lt 6, 3) := by decide +kernel
theorem dX5_image_9 : decode cX5_image 9 = .ok (.bipush (-2), 2) := by decide +kernel
theorem dX5_image_11 : decode cX5_image 11 = .ok (.ireturn, 1) := by decide +kernel
theorem dX5_image_12 : decode cX5_image 12 = .ok (.aload_n 0, 1) := by decide +kernel
theorem dX5_image_13 : decode cX5_image 13 = .ok (.getfield 25, 3) := by decide +kernel
theorem dX5_image_16 : decode cX5_image 16 = .ok (.iload_n 1, 1) := by decide +kernel
theorem dX5_image_17 : decode cX5_image 17 = .ok (.aaload, 1) := by decide +kernel
theorem dX5_image_18 : decode cX5_image 18 = .ok (.ifnonnull 16, 3) := by decide +kernel
theorem dX5_image_21 : decode cX5_image 21 = .ok (.aload_n 0, 1) := by decide +kernel
theorem dX5_image_22 : decode cX5_image 22 = .ok (.getfield 25, 3) := by decide +kernel
theorem dX5_image_25 : decode cX5_image 25 = .ok (.iload_n 1, 1) := by decide +kernel
theorem dX5_image_26 : decode cX5_image 26 = .ok (.new 23, 3) := by decide +kernel
theorem dX5_image_29 : decode cX5_image 29 = .ok (.dup, 1) := by decide +kernel
theorem dX5_image_30 : decode cX5_image 30 = .ok (.invokespecial 165, 3) := by decide +kernel
theorem dX5_image_33 : decode cX5_image 33 = .ok (.aastore, 1) := by decide +kernel
theorem dX5_image_34 : decode cX5_image 34 = .ok (.aload_n 0, 1) := by decide +kernel
theorem dX5_image_35 : decode cX5_image 35 = .ok (.getfield 25, 3) := by decide +kernel
theorem dX5_image_38 : decode cX5_image 38 = .ok (.iload_n 1, 1) := by decide +kernel
theorem dX5_image_39 : decode cX5_image 39 = .ok (.aaload, 1) := by decide +kernel
theorem dX5_image_40 : decode cX5_image 40 = .ok (.aload_n 0, 1) := by decide +kernel
theorem dX5_image_41 : decode cX5_image 41 = .ok (.getfield 20, 3) := by decide +kernel
theorem dX5_image_44 : decode cX5_image 44 = .ok (.invokevirtual 166, 3) := by decide +kernel
theorem dX5_image_47 : decode cX5_image 47 = .ok (.iconst 1, 1) := by decide +kernel
theorem dX5_image_48 : decode cX5_image 48 = .ok (.ireturn, 1) := by decide +kernel
set_option maxRecDepth 20000 in
theorem ggX5_restore_X3_copyFrom : GoodIn wsX5_restore wsX3_copyFrom := goodIn_r _ [6, 7, 8, 9, 10, 11, 12, 13, 14, 15, 16, 17, 18, 19, 20, 21, 22, 23, 24, 25, 26, 27, 28, 29, 30, 31, 32, 33, 34, 35, 36, 37, 38, 39, 40, 41, 42, 43, 44, 48, 49, 50, 51, 52, 53, 54, 55, 56, 57, 58, 59, 60, 61, 62, 63, 64, 65, 66, 67] (by decide +kernel) (by decide +kernel)
set_option maxRecDepth 20000 in
theorem gX5_restore_X3_copyFrom_n166 : GoodIn wsX5_restore (wsX3_copyFrom) := ggX5_restore_X3_copyFrom
theorem dX5_restore_0 : decode cX5_restore 0 = .ok (.iload_n 1, 1) := by decide +kernel
theorem dX5_restore_1 : decode cX5_restore 1 = .ok (.ifCond .lt 8, 3) := by decide +kernel
theorem dX5_restore_4 : decode cX5_restore 4 = .ok (.iload_n 1, 1) := by decide +kernel
theorem dX5_restore_5 : decode cX5_restore 5 = .ok (.iconst 2, 1) := by decide +kernel
theorem dX5_restore_6 : decode cX5_restore 6 = .ok (.if_icmp .lt 6, 3) := by decide +kernel
theorem dX5_restore_9 : decode cX5_restore 9 = .ok (.bipush (-2), 2) := by decide +kernel
theorem dX5_restore_11 : decode cX5_restore 11 = .ok (.ireturn, 1) := by decide +kernel
theorem dX5_restore_12 : decode cX5_restore 12 = .ok (.aload_n 0, 1) := by decide +kernel
theorem dX5_restore_13 : decode cX5_restore 13 = .ok (.getfield 25, 3) := by decide +kernel
theorem dX5_restore_16 : decode cX5_restore 16 = .ok (.iload_n 1, 1) := by decide +kernel
theorem dX5_restore_17 : decode cX5_restore 17 = .ok (.aaload, 1) := by decide +kernel
theorem dX5_restore_18 : decode cX5_restore 18 = .ok (.ifnonnull 6, 3) := by decide +kernel
theorem dX5_restore_21 : decode cX5_restore 21 = .ok (.bipush (-3), 2) := by decide +kernel
theorem dX5_restore_23 : decode cX5_restore 23 = .ok (.ireturn, 1) := by decide +kernel
theorem dX5_restore_24 : decode cX5_restore 24 = .ok (.aload_n 0, 1) := by decide +kernel
theorem dX5_restore_25 : decode cX5_restore 25 = .ok (.getfield 20, 3) := by decide +kernel
theorem dX5_restore_28 : decode cX5_restore 28 = .ok (.aload_n 0, 1) := by decide +kernel
theorem dX5_restore_29 : decode cX5_restore 29 = .ok (.getfield 25, 3) := by decide +kernel
theorem dX5_restore_32 : decode cX5_restore 32 = .ok (.iload_n 1, 1) := by decide +kernel
theorem dX5_restore_33 : decode cX5_restore 33 = .ok (.aaload, 1) := by decide +kernel
theorem dX5_restore_34 : decode cX5_restore 34 = .ok (.invokevirtual 166, 3) := by decide +kernel
theorem dX5_restore_37 : decode cX5_restore 37 = .ok (.iconst 1, 1) := by decide +kernel
theorem dX5_restore_38 : decode cX5_restore 38 = .ok (.ireturn, 1) := by decide +kernel
set_option maxRecDepth 20000 in
theorem ggX5_told_X2_slots : GoodIn wsX5_told wsX2_slots := goodIn_r _ [5, 6, 7, 8, 9, 3, 10, 11, 36, 37, 38] (by decide +kernel) (by decide +kernel)
set_option maxRecDepth 20000 in
theorem gX5_told_X2_slots_n113 : GoodIn wsX5_told (wsX2_slots) := ggX5_told_X2_slots
set_option maxRecDepth 20000 in
theorem ggX5_told_X4_isDone : GoodIn wsX5_told wsX4_isDone := goodIn_r _ [15, 16, 17, 41, 42, 43, 44, 45, 46, 47, 48, 49, 50] (by decide +kernel) (by decide +kernel)
set_option maxRecDepth 20000 in
theorem gX5_told_X4_isDone_n88 : GoodIn wsX5_told (wsX4_isDone) := ggX5_told_X4_isDone
set_option maxRecDepth 20000 in
theorem ggX5_told_X5_toldOfCell : GoodIn wsX5_told wsX5_toldOfCell := goodIn_r _ [22, 1, 23, 24, 25, 26, 27, 28, 29, 30, 31, 32, 33, 34, 35, 39, 40] (by decide +kernel) (by decide +kernel)
set_option maxRecDepth 20000 in
theorem gX5_told_X5_toldOfCell : GoodIn wsX5_told (wsV RX5 176 RX5 yX5_toldOfCell wsX5_toldOfCell) := goodIn_app (goodIn_of _ (by decide +kernel)) ggX5_told_X5_toldOfCell
theorem dX5_told_0 : decode cX5_told 0 = .ok (.iload_n 1, 1) := by decide +kernel
theorem dX5_told_1 : decode cX5_told 1 = .ok (.tableswitch 194 0 8 #[51, 59, 67, 78, 89, 100, 119, 138, 166], 51) := by decide +kernel
theorem dX5_told_52 : decode cX5_told 52 = .ok (.aload_n 0, 1) := by decide +kernel
theorem dX5_told_53 : decode cX5_told 53 = .ok (.getfield 20, 3) := by decide +kernel
theorem dX5_told_56 : decode cX5_told 56 = .ok (.getfield 29, 3) := by decide +kernel
theorem dX5_told_59 : decode cX5_told 59 = .ok (.ireturn, 1) := by decide +kernel
theorem dX5_told_60 : decode cX5_told 60 = .ok (.aload_n 0, 1) := by decide +kernel
theorem dX5_told_61 : decode cX5_told 61 = .ok (.getfield 20, 3) := by decide +kernel
theorem dX5_told_64 : decode cX5_told 64 = .ok (.getfield 43, 3) := by decide +kernel
theorem dX5_told_67 : decode cX5_told 67 = .ok (.ireturn, 1) := by decide +kernel
theorem dX5_told_68 : decode cX5_told 68 = .ok (.aload_n 0, 1) := by decide +kernel
theorem dX5_told_69 : decode cX5_told 69 = .ok (.getfield 20, 3) := by decide +kernel
theorem dX5_told_72 : decode cX5_told 72 = .ok (.getfield 50, 3) := by decide +kernel
theorem dX5_told_75 : decode cX5_told 75 = .ok (.getfield 72, 3) := by decide +kernel
theorem dX5_told_78 : decode cX5_told 78 = .ok (.ireturn, 1) := by decide +kernel
theorem dX5_told_79 : decode cX5_told 79 = .ok (.aload_n 0, 1) := by decide +kernel
theorem dX5_told_80 : decode cX5_told 80 = .ok (.getfield 20, 3) := by decide +kernel
theorem dX5_told_83 : decode cX5_told 83 = .ok (.getfield 95, 3) := by decide +kernel
theorem dX5_told_86 : decode cX5_told 86 = .ok (.getfield 99, 3) := by decide +kernel
theorem dX5_told_89 : decode cX5_told 89 = .ok (.ireturn, 1) := by decide +kernel
theorem dX5_told_90 : decode cX5_told 90 = .ok (.aload_n 0, 1) := by decide +kernel
theorem dX5_told_91 : decode cX5_told 91 = .ok (.getfield 20, 3) := by decide +kernel
theorem dX5_told_94 : decode cX5_told 94 = .ok (.getfield 50, 3) := by decide +kernel
theorem dX5_told_97 : decode cX5_told 97 = .ok (.invokevirtual 113, 3) := by decide +kernel
theorem dX5_told_100 : decode cX5_told 100 = .ok (.ireturn, 1) := by decide +kernel
theorem dX5_told_101 : decode cX5_told 101 = .ok (.aload_n 0, 1) := by decide +kernel
theorem dX5_told_102 : decode cX5_told 102 = .ok (.getfield 20, 3) := by decide +kernel
theorem dX5_told_105 : decode cX5_told 105 = .ok (.getfield 33, 3) := by decide +kernel
theorem dX5_told_108 : decode cX5_told 108 = .ok (.getfield 37, 3) := by decide +kernel
theorem dX5_told_111 : decode cX5_told 111 = .ok (.ifCond .eq 7, 3) := by decide +kernel
theorem dX5_told_114 : decode cX5_told 114 = .ok (.iconst 1, 1) := by decide +kernel
theorem dX5_told_115 : decode cX5_told 115 = .ok (.goto 4, 3) := by decide +kernel
theorem dX5_told_118 : decode cX5_told 118 = .ok (.iconst 0, 1) := by decide +kernel
theorem dX5_told_119 : decode cX5_told 119 = .ok (.ireturn, 1) := by decide +kernel
theorem dX5_told_120 : decode cX5_told 120 = .ok (.aload_n 0, 1) := by decide +kernel
theorem dX5_told_121 : decode cX5_told 121 = .ok (.getfield 20, 3) := by decide +kernel
theorem dX5_told_124 : decode cX5_told 124 = .ok (.getfield 33, 3) := by decide +kernel
theorem dX5_told_127 : decode cX5_told 127 = .ok (.invokevirtual 88, 3) := by decide +kernel
theorem dX5_told_130 : decode cX5_told 130 = .ok (.ifCond .eq 7, 3) := by decide +kernel
theorem dX5_told_133 : decode cX5_told 133 = .ok (.iconst 1, 1) := by decide +kernel
theorem dX5_told_134 : decode cX5_told 134 = .ok (.goto 4, 3) := by decide +kernel
theorem dX5_told_137 : decode cX5_told 137 = .ok (.iconst 0, 1) := by decide +kernel
theorem dX5_told_138 : decode cX5_told 138 = .ok (.ireturn, 1) := by decide +kernel
theorem dX5_told_139 : decode cX5_told 139 = .ok (.aload_n 0, 1) := by decide +kernel
theorem dX5_told_140 : decode cX5_told 140 = .ok (.getfield 20, 3) := by decide +kernel
theorem dX5_told_143 : decode cX5_told 143 = .ok (.getfield 33, 3) := by decide +kernel
theorem dX5_told_146 : decode cX5_told 146 = .ok (.getfield 37, 3) := by decide +kernel
theorem dX5_told_149 : decode cX5_told 149 = .ok (.ifCond .eq 16, 3) := by decide +kernel
theorem dX5_told_152 : decode cX5_told 152 = .ok (.aload_n 0, 1) := by decide +kernel
theorem dX5_told_153 : decode cX5_told 153 = .ok (.getfield 20, 3) := by decide +kernel
theorem dX5_told_156 : decode cX5_told 156 = .ok (.getfield 33, 3) := by decide +kernel
theorem dX5_told_159 : decode cX5_told 159 = .ok (.getfield 170, 3) := by decide +kernel
theorem dX5_told_162 : decode cX5_told 162 = .ok (.goto 4, 3) := by decide +kernel
theorem dX5_told_165 : decode cX5_told 165 = .ok (.iconst 0, 1) := by decide +kernel
theorem dX5_told_166 : decode cX5_told 166 = .ok (.ireturn, 1) := by decide +kernel
theorem dX5_told_167 : decode cX5_told 167 = .ok (.aload_n 0, 1) := by decide +kernel
theorem dX5_told_168 : decode cX5_told 168 = .ok (.getfield 20, 3) := by decide +kernel
theorem dX5_told_171 : decode cX5_told 171 = .ok (.getfield 33, 3) := by decide +kernel
theorem dX5_told_174 : decode cX5_told 174 = .ok (.getfield 37, 3) := by decide +kernel
theorem dX5_told_177 : decode cX5_told 177 = .ok (.ifCond .eq 16, 3) := by decide +kernel
theorem dX5_told_180 : decode cX5_told 180 = .ok (.aload_n 0, 1) := by decide +kernel
theorem dX5_told_181 : decode cX5_told 181 = .ok (.getfield 20, 3) := by decide +kernel
theorem dX5_told_184 : decode cX5_told 184 = .ok (.getfield 33, 3) := by decide +kernel
theorem dX5_told_187 : decode cX5_told 187 = .ok (.getfield 173, 3) := by decide +kernel
theorem dX5_told_190 : decode cX5_told 190 = .ok (.goto 4, 3) := by decide +kernel
theorem dX5_told_193 : decode cX5_told 193 = .ok (.iconst 0, 1) := by decide +kernel
theorem dX5_told_194 : decode cX5_told 194 = .ok (.ireturn, 1) := by decide +kernel
theorem dX5_told_195 : decode cX5_told 195 = .ok (.aload_n 0, 1) := by decide +kernel
theorem dX5_told_196 : decode cX5_told 196 = .ok (.iload_n 1, 1) := by decide +kernel
theorem dX5_told_197 : decode cX5_told 197 = .ok (.invokevirtual 176, 3) := by decide +kernel
theorem dX5_told_200 : decode cX5_told 200 = .ok (.ireturn, 1) := by decide +kernel
set_option maxRecDepth 20000 in
theorem ggX5_toldOfCell_X1_has : GoodIn wsX5_toldOfCell wsX1_has := goodIn_r _ [5, 6, 15, 16] (by decide +kernel) (by decide +kernel)
set_option maxRecDepth 20000 in
theorem gX5_toldOfCell_X1_has_n104 : GoodIn wsX5_toldOfCell (wsX1_has) := ggX5_toldOfCell_X1_has
theorem dX5_toldOfCell_0 : decode cX5_toldOfCell 0 = .ok (.iload_n 1, 1) := by decide +kernel
theorem dX5_toldOfCell_1 : decode cX5_toldOfCell 1 = .ok (.bipush 100, 2) := by decide +kernel
theorem dX5_toldOfCell_3 : decode cX5_toldOfCell 3 = .ok (.if_icmp .lt 20, 3) := by decide +kernel
theorem dX5_toldOfCell_6 : decode cX5_toldOfCell 6 = .ok (.aload_n 0, 1) := by decide +kernel
theorem dX5_toldOfCell_7 : decode cX5_toldOfCell 7 = .ok (.getfield 20, 3) := by decide +kernel
theorem dX5_toldOfCell_10 : decode cX5_toldOfCell 10 = .ok (.getfield 95, 3) := by decide +kernel
theorem dX5_toldOfCell_13 : decode cX5_toldOfCell 13 = .ok (.iload_n 1, 1) := by decide +kernel
theorem dX5_toldOfCell_14 : decode cX5_toldOfCell 14 = .ok (.bipush 100, 2) := by decide +kernel
theorem dX5_toldOfCell_16 : decode cX5_toldOfCell 16 = .ok (.isub, 1) := by decide +kernel
theorem dX5_toldOfCell_17 : decode cX5_toldOfCell 17 = .ok (.invokevirtual 104, 3) := by decide +kernel
theorem dX5_toldOfCell_20 : decode cX5_toldOfCell 20 = .ok (.ifCond .ne 6, 3) := by decide +kernel
theorem dX5_toldOfCell_23 : decode cX5_toldOfCell 23 = .ok (.bipush (-2), 2) := by decide +kernel
theorem dX5_toldOfCell_25 : decode cX5_toldOfCell 25 = .ok (.ireturn, 1) := by decide +kernel
theorem dX5_toldOfCell_26 : decode cX5_toldOfCell 26 = .ok (.aload_n 0, 1) := by decide +kernel
theorem dX5_toldOfCell_27 : decode cX5_toldOfCell 27 = .ok (.getfield 20, 3) := by decide +kernel
theorem dX5_toldOfCell_30 : decode cX5_toldOfCell 30 = .ok (.getfield 95, 3) := by decide +kernel
theorem dX5_toldOfCell_33 : decode cX5_toldOfCell 33 = .ok (.getfield 105, 3) := by decide +kernel
theorem dX5_toldOfCell_36 : decode cX5_toldOfCell 36 = .ok (.iload_n 1, 1) := by decide +kernel
theorem dX5_toldOfCell_37 : decode cX5_toldOfCell 37 = .ok (.bipush 100, 2) := by decide +kernel
theorem dX5_toldOfCell_39 : decode cX5_toldOfCell 39 = .ok (.isub, 1) := by decide +kernel
theorem dX5_toldOfCell_40 : decode cX5_toldOfCell 40 = .ok (.iaload, 1) := by decide +kernel
theorem dX5_toldOfCell_41 : decode cX5_toldOfCell 41 = .ok (.ireturn, 1) := by decide +kernel
theorem dX5_areDots_0 : decode cX5_areDots 0 = .ok (.iload_n 0, 1) := by decide +kernel
theorem dX5_areDots_1 : decode cX5_areDots 1 = .ok (.ifCond .lt 14, 3) := by decide +kernel
theorem dX5_areDots_4 : decode cX5_areDots 4 = .ok (.iload_n 0, 1) := by decide +kernel
theorem dX5_areDots_5 : decode cX5_areDots 5 = .ok (.sipush 9999, 3) := by decide +kernel
theorem dX5_areDots_8 : decode cX5_areDots 8 = .ok (.if_icmp .gt 7, 3) := by decide +kernel
theorem dX5_areDots_11 : decode cX5_areDots 11 = .ok (.iconst 1, 1) := by decide +kernel
theorem dX5_areDots_12 : decode cX5_areDots 12 = .ok (.goto 4, 3) := by decide +kernel
theorem dX5_areDots_15 : decode cX5_areDots 15 = .ok (.iconst 0, 1) := by decide +kernel
theorem dX5_areDots_16 : decode cX5_areDots 16 = .ok (.ireturn, 1) := by decide +kernel
theorem dX5_dotsApart_0 : decode cX5_dotsApart 0 = .ok (.iconst 0, 1) := by decide +kernel
theorem dX5_dotsApart_1 : decode cX5_dotsApart 1 = .ok (.istore_n 3, 1) := by decide +kernel
theorem dX5_dotsApart_2 : decode cX5_dotsApart 2 = .ok (.iload_n 0, 1) := by decide +kernel
theorem dX5_dotsApart_3 : decode cX5_dotsApart 3 = .ok (.istore 4, 2) := by decide +kernel
theorem dX5_dotsApart_5 : decode cX5_dotsApart 5 = .ok (.iload_n 1, 1) := by decide +kernel
theorem dX5_dotsApart_6 : decode cX5_dotsApart 6 = .ok (.istore 5, 2) := by decide +kernel
theorem dX5_dotsApart_8 : decode cX5_dotsApart 8 = .ok (.iconst 0, 1) := by decide +kernel
theorem dX5_dotsApart_9 : decode cX5_dotsApart 9 = .ok (.istore 6, 2) := by decide +kernel
theorem dX5_dotsApart_11 : decode cX5_dotsApart 11 = .ok (.iload 6, 2) := by decide +kernel
theorem dX5_dotsApart_13 : decode cX5_dotsApart 13 = .ok (.iconst 4, 1) := by decide +kernel
theorem dX5_dotsApart_14 : decode cX5_dotsApart 14 = .ok (.if_icmp .ge 57, 3) := by decide +kernel
theorem dX5_dotsApart_17 : decode cX5_dotsApart 17 = .ok (.iload 4, 2) := by decide +kernel
theorem dX5_dotsApart_19 : decode cX5_dotsApart 19 = .ok (.bipush 10, 2) := by decide +kernel
theorem dX5_dotsApart_21 : decode cX5_dotsApart 21 = .ok (.irem, 1) := by decide +kernel
theorem dX5_dotsApart_22 : decode cX5_dotsApart 22 = .ok (.iload 5, 2) := by decide +kernel
theorem dX5_dotsApart_24 : decode cX5_dotsApart 24 = .ok (.bipush 10, 2) := by decide +kernel
theorem dX5_dotsApart_26 : decode cX5_dotsApart 26 = .ok (.irem, 1) := by decide +kernel
theorem dX5_dotsApart_27 : decode cX5_dotsApart 27 = .ok (.isub, 1) := by decide +kernel
theorem dX5_dotsApart_28 : decode cX5_dotsApart 28 = .ok (.invokestatic 179, 3) := by decide +kernel
theorem dX5_dotsApart_31 : decode cX5_dotsApart 31 = .ok (.istore 7, 2) := by decide +kernel
theorem dX5_dotsApart_33 : decode cX5_dotsApart 33 = .ok (.iload_n 3, 1) := by decide +kernel
theorem dX5_dotsApart_34 : decode cX5_dotsApart 34 = .ok (.iload_n 2, 1) := by decide +kernel
theorem dX5_dotsApart_35 : decode cX5_dotsApart 35 = .ok (.iconst 1, 1) := by decide +kernel
theorem dX5_dotsApart_36 : decode cX5_dotsApart 36 = .ok (.if_icmp .ne 11, 3) := by decide +kernel
theorem dX5_dotsApart_39 : decode cX5_dotsApart 39 = .ok (.iload 7, 2) := by decide +kernel
theorem dX5_dotsApart_41 : decode cX5_dotsApart 41 = .ok (.iload 7, 2) := by decide +kernel
theorem dX5_dotsApart_43 : decode cX5_dotsApart 43 = .ok (.imul, 1) := by decide +kernel
theorem dX5_dotsApart_44 : decode cX5_dotsApart 44 = .ok (.goto 5, 3) := by decide +kernel
theorem dX5_dotsApart_47 : decode cX5_dotsApart 47 = .ok (.iload 7, 2) := by decide +kernel
theorem dX5_dotsApart_49 : decode cX5_dotsApart 49 = .ok (.iadd, 1) := by decide +kernel
theorem dX5_dotsApart_50 : decode cX5_dotsApart 50 = .ok (.istore_n 3, 1) := by decide +kernel
theorem dX5_dotsApart_51 : decode cX5_dotsApart 51 = .ok (.iload 4, 2) := by decide +kernel
theorem dX5_dotsApart_53 : decode cX5_dotsApart 53 = .ok (.bipush 10, 2) := by decide +kernel
theorem dX5_dotsApart_55 : decode cX5_dotsApart 55 = .ok (.idiv, 1) := by decide +kernel
theorem dX5_dotsApart_56 : decode cX5_dotsApart 56 = .ok (.istore 4, 2) := by decide +kernel
theorem dX5_dotsApart_58 : decode cX5_dotsApart 58 = .ok (.iload 5, 2) := by decide +kernel
theorem dX5_dotsApart_60 : decode cX5_dotsApart 60 = .ok (.bipush 10, 2) := by decide +kernel
theorem dX5_dotsApart_62 : decode cX5_dotsApart 62 = .ok (.idiv, 1) := by decide +kernel
theorem dX5_dotsApart_63 : decode cX5_dotsApart 63 = .ok (.istore 5, 2) := by decide +kernel
theorem dX5_dotsApart_65 : decode cX5_dotsApart 65 = .ok (.iinc 6 1, 3) := by decide +kernel
theorem dX5_dotsApart_68 : decode cX5_dotsApart 68 = .ok (.goto (-57), 3) := by decide +kernel
theorem dX5_dotsApart_71 : decode cX5_dotsApart 71 = .ok (.iload_n 3, 1) := by decide +kernel
theorem dX5_dotsApart_72 : decode cX5_dotsApart 72 = .ok (.ireturn, 1) := by decide +kernel
