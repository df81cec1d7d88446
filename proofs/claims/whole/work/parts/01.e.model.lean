theorem dX6_init_0 : decode cX6_init 0 = .ok (.aload_n 0, 1) := by decide +kernel
theorem dX6_init_1 : decode cX6_init 1 = .ok (.invokespecial 1, 3) := by decide +kernel
theorem dX6_init_4 : decode cX6_init 4 = .ok (.aload_n 0, 1) := by decide +kernel
theorem dX6_init_5 : decode cX6_init 5 = .ok (.bipush 9, 2) := by decide +kernel
theorem dX6_init_7 : decode cX6_init 7 = .ok (.newarray .int, 2) := by decide +kernel
theorem dX6_init_9 : decode cX6_init 9 = .ok (.putfield 7, 3) := by decide +kernel
theorem dX6_init_12 : decode cX6_init 12 = .ok (.aload_n 0, 1) := by decide +kernel
theorem dX6_init_13 : decode cX6_init 13 = .ok (.bipush 8, 2) := by decide +kernel
theorem dX6_init_15 : decode cX6_init 15 = .ok (.newarray .int, 2) := by decide +kernel
theorem dX6_init_17 : decode cX6_init 17 = .ok (.putfield 13, 3) := by decide +kernel
theorem dX6_init_20 : decode cX6_init 20 = .ok (.aload_n 0, 1) := by decide +kernel
theorem dX6_init_21 : decode cX6_init 21 = .ok (.bipush 8, 2) := by decide +kernel
theorem dX6_init_23 : decode cX6_init 23 = .ok (.newarray .int, 2) := by decide +kernel
theorem dX6_init_25 : decode cX6_init 25 = .ok (.putfield 16, 3) := by decide +kernel
theorem dX6_init_28 : decode cX6_init 28 = .ok (.aload_n 0, 1) := by decide +kernel
theorem dX6_init_29 : decode cX6_init 29 = .ok (.bipush 12, 2) := by decide +kernel
theorem dX6_init_31 : decode cX6_init 31 = .ok (.newarray .int, 2) := by decide +kernel
theorem dX6_init_33 : decode cX6_init 33 = .ok (.putfield 19, 3) := by decide +kernel
theorem dX6_init_36 : decode cX6_init 36 = .ok (.aload_n 0, 1) := by decide +kernel
theorem dX6_init_37 : decode cX6_init 37 = .ok (.bipush 16, 2) := by decide +kernel
theorem dX6_init_39 : decode cX6_init 39 = .ok (.newarray .int, 2) := by decide +kernel
theorem dX6_init_41 : decode cX6_init 41 = .ok (.putfield 22, 3) := by decide +kernel
theorem dX6_init_44 : decode cX6_init 44 = .ok (.aload_n 0, 1) := by decide +kernel
theorem dX6_init_45 : decode cX6_init 45 = .ok (.bipush 16, 2) := by decide +kernel
theorem dX6_init_47 : decode cX6_init 47 = .ok (.newarray .int, 2) := by decide +kernel
theorem dX6_init_49 : decode cX6_init 49 = .ok (.putfield 25, 3) := by decide +kernel
theorem dX6_init_52 : decode cX6_init 52 = .ok (.aload_n 0, 1) := by decide +kernel
theorem dX6_init_53 : decode cX6_init 53 = .ok (.bipush 16, 2) := by decide +kernel
theorem dX6_init_55 : decode cX6_init 55 = .ok (.newarray .int, 2) := by decide +kernel
theorem dX6_init_57 : decode cX6_init 57 = .ok (.putfield 28, 3) := by decide +kernel
theorem dX6_init_60 : decode cX6_init 60 = .ok (.aload_n 0, 1) := by decide +kernel
theorem dX6_init_61 : decode cX6_init 61 = .ok (.bipush 16, 2) := by decide +kernel
theorem dX6_init_63 : decode cX6_init 63 = .ok (.newarray .int, 2) := by decide +kernel
theorem dX6_init_65 : decode cX6_init 65 = .ok (.putfield 31, 3) := by decide +kernel
theorem dX6_init_68 : decode cX6_init 68 = .ok (.aload_n 0, 1) := by decide +kernel
theorem dX6_init_69 : decode cX6_init 69 = .ok (.bipush 16, 2) := by decide +kernel
theorem dX6_init_71 : decode cX6_init 71 = .ok (.newarray .int, 2) := by decide +kernel
theorem dX6_init_73 : decode cX6_init 73 = .ok (.putfield 34, 3) := by decide +kernel
theorem dX6_init_76 : decode cX6_init 76 = .ok (.aload_n 0, 1) := by decide +kernel
theorem dX6_init_77 : decode cX6_init 77 = .ok (.bipush 16, 2) := by decide +kernel
theorem dX6_init_79 : decode cX6_init 79 = .ok (.newarray .int, 2) := by decide +kernel
theorem dX6_init_81 : decode cX6_init 81 = .ok (.putfield 37, 3) := by decide +kernel
theorem dX6_init_84 : decode cX6_init 84 = .ok (.aload_n 0, 1) := by decide +kernel
theorem dX6_init_85 : decode cX6_init 85 = .ok (.bipush 16, 2) := by decide +kernel
theorem dX6_init_87 : decode cX6_init 87 = .ok (.newarray .int, 2) := by decide +kernel
theorem dX6_init_89 : decode cX6_init 89 = .ok (.putfield 40, 3) := by decide +kernel
theorem dX6_init_92 : decode cX6_init 92 = .ok (.aload_n 0, 1) := by decide +kernel
theorem dX6_init_93 : decode cX6_init 93 = .ok (.sipush 298, 3) := by decide +kernel
theorem dX6_init_96 : decode cX6_init 96 = .ok (.newarray .int, 2) := by decide +kernel
theorem dX6_init_98 : decode cX6_init 98 = .ok (.putfield 43, 3) := by decide +kernel
theorem dX6_init_101 : decode cX6_init 101 = .ok (.aload_n 0, 1) := by decide +kernel
theorem dX6_init_102 : decode cX6_init 102 = .ok (.iconst 2, 1) := by decide +kernel
theorem dX6_init_103 : decode cX6_init 103 = .ok (.newarray .boolean, 2) := by decide +kernel
theorem dX6_init_105 : decode cX6_init 105 = .ok (.putfield 46, 3) := by decide +kernel
theorem dX6_init_108 : decode cX6_init 108 = .ok (.aload_n 0, 1) := by decide +kernel
theorem dX6_init_109 : decode cX6_init 109 = .ok (.getfield 7, 3) := by decide +kernel
theorem dX6_init_112 : decode cX6_init 112 = .ok (.iconst 1, 1) := by decide +kernel
theorem dX6_init_113 : decode cX6_init 113 = .ok (.iconst 4, 1) := by decide +kernel
theorem dX6_init_114 : decode cX6_init 114 = .ok (.iastore, 1) := by decide +kernel
theorem dX6_init_115 : decode cX6_init 115 = .ok (.return_, 1) := by decide +kernel
theorem dX6_in_0 : decode cX6_in 0 = .ok (.lload_n 0, 1) := by decide +kernel
theorem dX6_in_1 : decode cX6_in 1 = .ok (.lload_n 2, 1) := by decide +kernel
theorem dX6_in_2 : decode cX6_in 2 = .ok (.lcmp, 1) := by decide +kernel
theorem dX6_in_3 : decode cX6_in 3 = .ok (.ifCond .lt 14, 3) := by decide +kernel
theorem dX6_in_6 : decode cX6_in 6 = .ok (.lload_n 0, 1) := by decide +kernel
theorem dX6_in_7 : decode cX6_in 7 = .ok (.lload 4, 2) := by decide +kernel
theorem dX6_in_9 : decode cX6_in 9 = .ok (.lcmp, 1) := by decide +kernel
theorem dX6_in_10 : decode cX6_in 10 = .ok (.ifCond .gt 7, 3) := by decide +kernel
theorem dX6_in_13 : decode cX6_in 13 = .ok (.iconst 1, 1) := by decide +kernel
theorem dX6_in_14 : decode cX6_in 14 = .ok (.goto 4, 3) := by decide +kernel
theorem dX6_in_17 : decode cX6_in 17 = .ok (.iconst 0, 1) := by decide +kernel
theorem dX6_in_18 : decode cX6_in 18 = .ok (.ireturn, 1) := by decide +kernel
set_option maxRecDepth 20000 in
theorem ggX6_isDots_X6_in : GoodIn wsX6_isDots wsX6_in := goodIn_r _ [5] (by decide +kernel) (by decide +kernel)
set_option maxRecDepth 20000 in
theorem gX6_isDots_X6_in : GoodIn wsX6_isDots (va_wsS RX6 52 yX6_in wsX6_in) := goodIn_app (goodIn_of _ (by decide +kernel)) ggX6_isDots_X6_in
theorem dX6_isDots_0 : decode cX6_isDots 0 = .ok (.iload_n 0, 1) := by decide +kernel
theorem dX6_isDots_1 : decode cX6_isDots 1 = .ok (.i2l, 1) := by decide +kernel
theorem dX6_isDots_2 : decode cX6_isDots 2 = .ok (.lconst 0, 1) := by decide +kernel
theorem dX6_isDots_3 : decode cX6_isDots 3 = .ok (.ldc2_w 50, 3) := by decide +kernel
theorem dX6_isDots_6 : decode cX6_isDots 6 = .ok (.invokestatic 52, 3) := by decide +kernel
theorem dX6_isDots_9 : decode cX6_isDots 9 = .ok (.ireturn, 1) := by decide +kernel
theorem dX6_kinds_0 : decode cX6_kinds 0 = .ok (.aload_n 0, 1) := by decide +kernel
theorem dX6_kinds_1 : decode cX6_kinds 1 = .ok (.getfield 7, 3) := by decide +kernel
theorem dX6_kinds_4 : decode cX6_kinds 4 = .ok (.iconst 2, 1) := by decide +kernel
theorem dX6_kinds_5 : decode cX6_kinds 5 = .ok (.iaload, 1) := by decide +kernel
theorem dX6_kinds_6 : decode cX6_kinds 6 = .ok (.ireturn, 1) := by decide +kernel
theorem dX6_cells_0 : decode cX6_cells 0 = .ok (.aload_n 0, 1) := by decide +kernel
theorem dX6_cells_1 : decode cX6_cells 1 = .ok (.getfield 7, 3) := by decide +kernel
theorem dX6_cells_4 : decode cX6_cells 4 = .ok (.iconst 3, 1) := by decide +kernel
theorem dX6_cells_5 : decode cX6_cells 5 = .ok (.iaload, 1) := by decide +kernel
theorem dX6_cells_6 : decode cX6_cells 6 = .ok (.ireturn, 1) := by decide +kernel
theorem dX6_isValid_0 : decode cX6_isValid 0 = .ok (.aload_n 0, 1) := by decide +kernel
theorem dX6_isValid_1 : decode cX6_isValid 1 = .ok (.getfield 7, 3) := by decide +kernel
theorem dX6_isValid_4 : decode cX6_isValid 4 = .ok (.iconst 5, 1) := by decide +kernel
theorem dX6_isValid_5 : decode cX6_isValid 5 = .ok (.iaload, 1) := by decide +kernel
theorem dX6_isValid_6 : decode cX6_isValid 6 = .ok (.iconst 1, 1) := by decide +kernel
theorem dX6_isValid_7 : decode cX6_isValid 7 = .ok (.if_icmp .ne 7, 3) := by decide +kernel
theorem dX6_isValid_10 : decode cX6_isValid 10 = .ok (.iconst 1, 1) := by decide +kernel
theorem dX6_isValid_11 : decode cX6_isValid 11 = .ok (.goto 4, 3) := by decide +kernel
theorem dX6_isValid_14 : decode cX6_isValid 14 = .ok (.iconst 0, 1) := by decide +kernel
theorem dX6_isValid_15 : decode cX6_isValid 15 = .ok (.ireturn, 1) := by decide +kernel
theorem dX6_isDone_0 : decode cX6_isDone 0 = .ok (.aload_n 0, 1) := by decide +kernel
theorem dX6_isDone_1 : decode cX6_isDone 1 = .ok (.getfield 7, 3) := by decide +kernel
theorem dX6_isDone_4 : decode cX6_isDone 4 = .ok (.iconst 5, 1) := by decide +kernel
theorem dX6_isDone_5 : decode cX6_isDone 5 = .ok (.iaload, 1) := by decide +kernel
theorem dX6_isDone_6 : decode cX6_isDone 6 = .ok (.iconst 1, 1) := by decide +kernel
theorem dX6_isDone_7 : decode cX6_isDone 7 = .ok (.if_icmp .ne 18, 3) := by decide +kernel
theorem dX6_isDone_10 : decode cX6_isDone 10 = .ok (.aload_n 0, 1) := by decide +kernel
theorem dX6_isDone_11 : decode cX6_isDone 11 = .ok (.getfield 7, 3) := by decide +kernel
theorem dX6_isDone_14 : decode cX6_isDone 14 = .ok (.bipush 6, 2) := by decide +kernel
theorem dX6_isDone_16 : decode cX6_isDone 16 = .ok (.iaload, 1) := by decide +kernel
theorem dX6_isDone_17 : decode cX6_isDone 17 = .ok (.iconst 1, 1) := by decide +kernel
theorem dX6_isDone_18 : decode cX6_isDone 18 = .ok (.if_icmp .ne 7, 3) := by decide +kernel
theorem dX6_isDone_21 : decode cX6_isDone 21 = .ok (.iconst 1, 1) := by decide +kernel
theorem dX6_isDone_22 : decode cX6_isDone 22 = .ok (.goto 4, 3) := by decide +kernel
theorem dX6_isDone_25 : decode cX6_isDone 25 = .ok (.iconst 0, 1) := by decide +kernel
theorem dX6_isDone_26 : decode cX6_isDone 26 = .ok (.ireturn, 1) := by decide +kernel
theorem dX6_end_0 : decode cX6_end 0 = .ok (.aload_n 0, 1) := by decide +kernel
theorem dX6_end_1 : decode cX6_end 1 = .ok (.getfield 7, 3) := by decide +kernel
theorem dX6_end_4 : decode cX6_end 4 = .ok (.iconst 5, 1) := by decide +kernel
theorem dX6_end_5 : decode cX6_end 5 = .ok (.iconst 0, 1) := by decide +kernel
theorem dX6_end_6 : decode cX6_end 6 = .ok (.iastore, 1) := by decide +kernel
theorem dX6_end_7 : decode cX6_end 7 = .ok (.aload_n 0, 1) := by decide +kernel
theorem dX6_end_8 : decode cX6_end 8 = .ok (.getfield 7, 3) := by decide +kernel
theorem dX6_end_11 : decode cX6_end 11 = .ok (.bipush 6, 2) := by decide +kernel
theorem dX6_end_13 : decode cX6_end 13 = .ok (.iconst 0, 1) := by decide +kernel
theorem dX6_end_14 : decode cX6_end 14 = .ok (.iastore, 1) := by decide +kernel
theorem dX6_end_15 : decode cX6_end 15 = .ok (.aload_n 0, 1) := by decide +kernel
theorem dX6_end_16 : decode cX6_end 16 = .ok (.getfield 7, 3) := by decide +kernel
theorem dX6_end_19 : decode cX6_end 19 = .ok (.bipush 7, 2) := by decide +kernel
theorem dX6_end_21 : decode cX6_end 21 = .ok (.iconst 0, 1) := by decide +kernel
theorem dX6_end_22 : decode cX6_end 22 = .ok (.iastore, 1) := by decide +kernel
theorem dX6_end_23 : decode cX6_end 23 = .ok (.aload_n 0, 1) := by decide +kernel
theorem dX6_end_24 : decode cX6_end 24 = .ok (.getfield 7, 3) := by decide +kernel
theorem dX6_end_27 : decode cX6_end 27 = .ok (.bipush 8, 2) := by decide +kernel
theorem dX6_end_29 : decode cX6_end 29 = .ok (.iconst 0, 1) := by decide +kernel
theorem dX6_end_30 : decode cX6_end 30 = .ok (.iastore, 1) := by decide +kernel
theorem dX6_end_31 : decode cX6_end 31 = .ok (.return_, 1) := by decide +kernel
set_option maxRecDepth 20000 in
theorem ggX6_mode_X6_in : GoodIn wsX6_mode wsX6_in := goodIn_r _ [5] (by decide +kernel) (by decide +kernel)
set_option maxRecDepth 20000 in
theorem gX6_mode_X6_in : GoodIn wsX6_mode (va_wsS RX6 52 yX6_in wsX6_in) := goodIn_app (goodIn_of _ (by decide +kernel)) ggX6_mode_X6_in
set_option maxRecDepth 20000 in
theorem ggX6_mode_X6_end : GoodIn wsX6_mode wsX6_end := goodIn_r _ [9, 1, 10, 11, 12, 13, 14, 15, 16, 17, 18, 19, 20, 21, 22, 23, 24] (by decide +kernel) (by decide +kernel)
set_option maxRecDepth 20000 in
theorem gX6_mode_X6_end : GoodIn wsX6_mode (wsV RX6 56 RX6 yX6_end wsX6_end) := goodIn_app (goodIn_of _ (by decide +kernel)) ggX6_mode_X6_end
theorem dX6_mode_0 : decode cX6_mode 0 = .ok (.iload_n 1, 1) := by decide +kernel
theorem dX6_mode_1 : decode cX6_mode 1 = .ok (.i2l, 1) := by decide +kernel
theorem dX6_mode_2 : decode cX6_mode 2 = .ok (.lconst 0, 1) := by decide +kernel
theorem dX6_mode_3 : decode cX6_mode 3 = .ok (.lconst 1, 1) := by decide +kernel
theorem dX6_mode_4 : decode cX6_mode 4 = .ok (.invokestatic 52, 3) := by decide +kernel
theorem dX6_mode_7 : decode cX6_mode 7 = .ok (.ifCond .ne 6, 3) := by decide +kernel
theorem dX6_mode_10 : decode cX6_mode 10 = .ok (.bipush (-2), 2) := by decide +kernel
theorem dX6_mode_12 : decode cX6_mode 12 = .ok (.ireturn, 1) := by decide +kernel
theorem dX6_mode_13 : decode cX6_mode 13 = .ok (.aload_n 0, 1) := by decide +kernel
theorem dX6_mode_14 : decode cX6_mode 14 = .ok (.getfield 7, 3) := by decide +kernel
theorem dX6_mode_17 : decode cX6_mode 17 = .ok (.iconst 0, 1) := by decide +kernel
theorem dX6_mode_18 : decode cX6_mode 18 = .ok (.iaload, 1) := by decide +kernel
theorem dX6_mode_19 : decode cX6_mode 19 = .ok (.istore_n 2, 1) := by decide +kernel
theorem dX6_mode_20 : decode cX6_mode 20 = .ok (.aload_n 0, 1) := by decide +kernel
theorem dX6_mode_21 : decode cX6_mode 21 = .ok (.getfield 7, 3) := by decide +kernel
theorem dX6_mode_24 : decode cX6_mode 24 = .ok (.iconst 0, 1) := by decide +kernel
theorem dX6_mode_25 : decode cX6_mode 25 = .ok (.iload_n 1, 1) := by decide +kernel
theorem dX6_mode_26 : decode cX6_mode 26 = .ok (.iastore, 1) := by decide +kernel
theorem dX6_mode_27 : decode cX6_mode 27 = .ok (.iload_n 1, 1) := by decide +kernel
theorem dX6_mode_28 : decode cX6_mode 28 = .ok (.iload_n 2, 1) := by decide +kernel
theorem dX6_mode_29 : decode cX6_mode 29 = .ok (.if_icmp .eq 7, 3) := by decide +kernel
theorem dX6_mode_32 : decode cX6_mode 32 = .ok (.aload_n 0, 1) := by decide +kernel
theorem dX6_mode_33 : decode cX6_mode 33 = .ok (.invokevirtual 56, 3) := by decide +kernel
theorem dX6_mode_36 : decode cX6_mode 36 = .ok (.iload_n 2, 1) := by decide +kernel
theorem dX6_mode_37 : decode cX6_mode 37 = .ok (.ireturn, 1) := by decide +kernel
set_option maxRecDepth 20000 in
theorem ggX6_shrink_X6_in : GoodIn wsX6_shrink wsX6_in := goodIn_r _ [7] (by decide +kernel) (by decide +kernel)
set_option maxRecDepth 20000 in
theorem gX6_shrink_X6_in : GoodIn wsX6_shrink (va_wsS RX6 52 yX6_in wsX6_in) := goodIn_app (goodIn_of _ (by decide +kernel)) ggX6_shrink_X6_in
theorem dX6_shrink_0 : decode cX6_shrink 0 = .ok (.iload_n 1, 1) := by decide +kernel
theorem dX6_shrink_1 : decode cX6_shrink 1 = .ok (.i2l, 1) := by decide +kernel
theorem dX6_shrink_2 : decode cX6_shrink 2 = .ok (.ldc2_w 59, 3) := by decide +kernel
theorem dX6_shrink_5 : decode cX6_shrink 5 = .ok (.ldc2_w 61, 3) := by decide +kernel
theorem dX6_shrink_8 : decode cX6_shrink 8 = .ok (.invokestatic 52, 3) := by decide +kernel
theorem dX6_shrink_11 : decode cX6_shrink 11 = .ok (.ifCond .ne 6, 3) := by decide +kernel
theorem dX6_shrink_14 : decode cX6_shrink 14 = .ok (.bipush (-2), 2) := by decide +kernel
theorem dX6_shrink_16 : decode cX6_shrink 16 = .ok (.ireturn, 1) := by decide +kernel
theorem dX6_shrink_17 : decode cX6_shrink 17 = .ok (.aload_n 0, 1) := by decide +kernel
theorem dX6_shrink_18 : decode cX6_shrink 18 = .ok (.getfield 7, 3) := by decide +kernel
theorem dX6_shrink_21 : decode cX6_shrink 21 = .ok (.iconst 1, 1) := by decide +kernel
theorem dX6_shrink_22 : decode cX6_shrink 22 = .ok (.iaload, 1) := by decide +kernel
theorem dX6_shrink_23 : decode cX6_shrink 23 = .ok (.istore_n 2, 1) := by decide +kernel
theorem dX6_shrink_24 : decode cX6_shrink 24 = .ok (.aload_n 0, 1) := by decide +kernel
theorem dX6_shrink_25 : decode cX6_shrink 25 = .ok (.getfield 7, 3) := by decide +kernel
theorem dX6_shrink_28 : decode cX6_shrink 28 = .ok (.iconst 1, 1) := by decide +kernel
theorem dX6_shrink_29 : decode cX6_shrink 29 = .ok (.iload_n 1, 1) := by decide +kernel
theorem dX6_shrink_30 : decode cX6_shrink 30 = .ok (.iastore, 1) := by decide +kernel
theorem dX6_shrink_31 : decode cX6_shrink 31 = .ok (.iload_n 2, 1) := by decide +kernel
theorem dX6_shrink_32 : decode cX6_shrink 32 = .ok (.ireturn, 1) := by decide +kernel
set_option maxRecDepth 20000 in
theorem ggX6_kindOf_X6_kinds : GoodIn wsX6_kindOf wsX6_kinds := goodIn_r _ [6, 7, 8, 9, 10, 11, 12, 13, 14, 15, 16, 17, 18, 19, 20, 21, 22] (by decide +kernel) (by decide +kernel)
set_option maxRecDepth 20000 in
theorem gX6_kindOf_X6_kinds : GoodIn wsX6_kindOf (wsV RX6 63 RX6 yX6_kinds wsX6_kinds) := goodIn_app (goodIn_of _ (by decide +kernel)) ggX6_kindOf_X6_kinds
theorem dX6_kindOf_0 : decode cX6_kindOf 0 = .ok (.iconst 0, 1) := by decide +kernel
theorem dX6_kindOf_1 : decode cX6_kindOf 1 = .ok (.istore_n 2, 1) := by decide +kernel
theorem dX6_kindOf_2 : decode cX6_kindOf 2 = .ok (.iload_n 2, 1) := by decide +kernel
theorem dX6_kindOf_3 : decode cX6_kindOf 3 = .ok (.aload_n 0, 1) := by decide +kernel
theorem dX6_kindOf_4 : decode cX6_kindOf 4 = .ok (.invokevirtual 63, 3) := by decide +kernel
theorem dX6_kindOf_7 : decode cX6_kindOf 7 = .ok (.if_icmp .ge 21, 3) := by decide +kernel
theorem dX6_kindOf_10 : decode cX6_kindOf 10 = .ok (.aload_n 0, 1) := by decide +kernel
theorem dX6_kindOf_11 : decode cX6_kindOf 11 = .ok (.getfield 13, 3) := by decide +kernel
theorem dX6_kindOf_14 : decode cX6_kindOf 14 = .ok (.iload_n 2, 1) := by decide +kernel
theorem dX6_kindOf_15 : decode cX6_kindOf 15 = .ok (.iaload, 1) := by decide +kernel
theorem dX6_kindOf_16 : decode cX6_kindOf 16 = .ok (.iload_n 1, 1) := by decide +kernel
theorem dX6_kindOf_17 : decode cX6_kindOf 17 = .ok (.if_icmp .ne 5, 3) := by decide +kernel
theorem dX6_kindOf_20 : decode cX6_kindOf 20 = .ok (.iload_n 2, 1) := by decide +kernel
theorem dX6_kindOf_21 : decode cX6_kindOf 21 = .ok (.ireturn, 1) := by decide +kernel
theorem dX6_kindOf_22 : decode cX6_kindOf 22 = .ok (.iinc 2 1, 3) := by decide +kernel
theorem dX6_kindOf_25 : decode cX6_kindOf 25 = .ok (.goto (-23), 3) := by decide +kernel
theorem dX6_kindOf_28 : decode cX6_kindOf 28 = .ok (.bipush (-6), 2) := by decide +kernel
theorem dX6_kindOf_30 : decode cX6_kindOf 30 = .ok (.ireturn, 1) := by decide +kernel
set_option maxRecDepth 20000 in
theorem ggX6_stocks_X6_kinds : GoodIn wsX6_stocks wsX6_kinds := goodIn_r _ [6, 7, 8, 9, 10, 11, 12, 13, 14, 15, 16, 17, 18, 19, 20, 21, 22] (by decide +kernel) (by decide +kernel)
set_option maxRecDepth 20000 in
theorem gX6_stocks_X6_kinds : GoodIn wsX6_stocks (wsV RX6 63 RX6 yX6_kinds wsX6_kinds) := goodIn_app (goodIn_of _ (by decide +kernel)) ggX6_stocks_X6_kinds
theorem dX6_stocks_0 : decode cX6_stocks 0 = .ok (.iconst 0, 1) := by decide +kernel
theorem dX6_stocks_1 : decode cX6_stocks 1 = .ok (.istore_n 1, 1) := by decide +kernel
theorem dX6_stocks_2 : decode cX6_stocks 2 = .ok (.iconst 0, 1) := by decide +kernel
theorem dX6_stocks_3 : decode cX6_stocks 3 = .ok (.istore_n 2, 1) := by decide +kernel
theorem dX6_stocks_4 : decode cX6_stocks 4 = .ok (.iload_n 2, 1) := by decide +kernel
theorem dX6_stocks_5 : decode cX6_stocks 5 = .ok (.aload_n 0, 1) := by decide +kernel
theorem dX6_stocks_6 : decode cX6_stocks 6 = .ok (.invokevirtual 63, 3) := by decide +kernel
theorem dX6_stocks_9 : decode cX6_stocks 9 = .ok (.if_icmp .ge 18, 3) := by decide +kernel
theorem dX6_stocks_12 : decode cX6_stocks 12 = .ok (.iload_n 1, 1) := by decide +kernel
theorem dX6_stocks_13 : decode cX6_stocks 13 = .ok (.aload_n 0, 1) := by decide +kernel
theorem dX6_stocks_14 : decode cX6_stocks 14 = .ok (.getfield 16, 3) := by decide +kernel
theorem dX6_stocks_17 : decode cX6_stocks 17 = .ok (.iload_n 2, 1) := by decide +kernel
theorem dX6_stocks_18 : decode cX6_stocks 18 = .ok (.iaload, 1) := by decide +kernel
theorem dX6_stocks_19 : decode cX6_stocks 19 = .ok (.iadd, 1) := by decide +kernel
theorem dX6_stocks_20 : decode cX6_stocks 20 = .ok (.istore_n 1, 1) := by decide +kernel
theorem dX6_stocks_21 : decode cX6_stocks 21 = .ok (.iinc 2 1, 3) := by decide +kernel
theorem dX6_stocks_24 : decode cX6_stocks 24 = .ok (.goto (-20), 3) := by decide +kernel
theorem dX6_stocks_27 : decode cX6_stocks 27 = .ok (.iload_n 1, 1) := by decide +kernel
theorem dX6_stocks_28 : decode cX6_stocks 28 = .ok (.ireturn, 1) := by decide +kernel
set_option maxRecDepth 20000 in
theorem ggX6_stock_X6_isDots : GoodIn wsX6_stock wsX6_isDots := goodIn_r _ [8, 9, 10, 11, 7, 12] (by decide +kernel) (by decide +kernel)
set_option maxRecDepth 20000 in
theorem gX6_stock_X6_isDots : GoodIn wsX6_stock (va_wsS RX6 67 yX6_isDots wsX6_isDots) := goodIn_app (goodIn_of _ (by decide +kernel)) ggX6_stock_X6_isDots
set_option maxRecDepth 20000 in
theorem ggX6_stock_X6_in : GoodIn wsX6_stock wsX6_in := goodIn_r _ [12] (by decide +kernel) (by decide +kernel)
set_option maxRecDepth 20000 in
theorem gX6_stock_X6_in : GoodIn wsX6_stock (va_wsS RX6 52 yX6_in wsX6_in) := goodIn_app (goodIn_of _ (by decide +kernel)) ggX6_stock_X6_in
set_option maxRecDepth 20000 in
theorem ggX6_stock_X6_kindOf : GoodIn wsX6_stock wsX6_kindOf := goodIn_r _ [16, 3, 17, 18, 19, 7, 20, 4, 29, 30, 31, 32, 33, 34, 35, 36, 37, 38, 39, 40, 41, 42, 43] (by decide +kernel) (by decide +kernel)
set_option maxRecDepth 20000 in
theorem gX6_stock_X6_kindOf : GoodIn wsX6_stock (wsV RX6 73 RX6 yX6_kindOf wsX6_kindOf) := goodIn_app (goodIn_of _ (by decide +kernel)) ggX6_stock_X6_kindOf
set_option maxRecDepth 20000 in
theorem ggX6_stock_X6_kinds : GoodIn wsX6_stock wsX6_kinds := goodIn_r _ [20, 4, 29, 30, 31, 32, 33, 34, 35, 36, 37, 38, 39, 40, 41, 42, 43] (by decide +kernel) (by decide +kernel)
set_option maxRecDepth 20000 in
theorem gX6_stock_X6_kinds : GoodIn wsX6_stock (wsV RX6 63 RX6 yX6_kinds wsX6_kinds) := goodIn_app (goodIn_of _ (by decide +kernel)) ggX6_stock_X6_kinds
set_option maxRecDepth 20000 in
theorem ggX6_stock_X6_stocks : GoodIn wsX6_stock wsX6_stocks := goodIn_r _ [24, 2, 17, 18, 19, 7, 20, 4, 29, 30, 31, 32, 33, 34, 35, 36, 37, 38, 39, 40, 41, 42, 43] (by decide +kernel) (by decide +kernel)
set_option maxRecDepth 20000 in
theorem gX6_stock_X6_stocks : GoodIn wsX6_stock (wsV RX6 77 RX6 yX6_stocks wsX6_stocks) := goodIn_app (goodIn_of _ (by decide +kernel)) ggX6_stock_X6_stocks
set_option maxRecDepth 20000 in
theorem ggX6_stock_X6_end : GoodIn wsX6_stock wsX6_end := goodIn_r _ [28, 4, 29, 30, 31, 32, 33, 34, 35, 36, 37, 38, 39, 40, 41, 42, 43] (by decide +kernel) (by decide +kernel)
set_option maxRecDepth 20000 in
theorem gX6_stock_X6_end : GoodIn wsX6_stock (wsV RX6 56 RX6 yX6_end wsX6_end) := goodIn_app (goodIn_of _ (by decide +kernel)) ggX6_stock_X6_end
theorem dX6_stock_0 : decode cX6_stock 0 = .ok (.iload_n 1, 1) := by decide +kernel
theorem dX6_stock_1 : decode cX6_stock 1 = .ok (.invokestatic 67, 3) := by decide +kernel
theorem dX6_stock_4 : decode cX6_stock 4 = .ok (.ifCond .eq 15, 3) := by decide +kernel
theorem dX6_stock_7 : decode cX6_stock 7 = .ok (.iload_n 2, 1) := by decide +kernel
theorem dX6_stock_8 : decode cX6_stock 8 = .ok (.i2l, 1) := by decide +kernel
theorem dX6_stock_9 : decode cX6_stock 9 = .ok (.lconst 1, 1) := by decide +kernel
theorem dX6_stock_10 : decode cX6_stock 10 = .ok (.ldc2_w 71, 3) := by decide +kernel
theorem dX6_stock_13 : decode cX6_stock 13 = .ok (.invokestatic 52, 3) := by decide +kernel
theorem dX6_stock_16 : decode cX6_stock 16 = .ok (.ifCond .ne 6, 3) := by decide +kernel
theorem dX6_stock_19 : decode cX6_stock 19 = .ok (.bipush (-2), 2) := by decide +kernel
theorem dX6_stock_21 : decode cX6_stock 21 = .ok (.ireturn, 1) := by decide +kernel
theorem dX6_stock_22 : decode cX6_stock 22 = .ok (.aload_n 0, 1) := by decide +kernel
theorem dX6_stock_23 : decode cX6_stock 23 = .ok (.iload_n 1, 1) := by decide +kernel
theorem dX6_stock_24 : decode cX6_stock 24 = .ok (.invokevirtual 73, 3) := by decide +kernel
theorem dX6_stock_27 : decode cX6_stock 27 = .ok (.istore_n 3, 1) := by decide +kernel
theorem dX6_stock_28 : decode cX6_stock 28 = .ok (.iload_n 3, 1) := by decide +kernel
theorem dX6_stock_29 : decode cX6_stock 29 = .ok (.ifCond .ge 7, 3) := by decide +kernel
theorem dX6_stock_32 : decode cX6_stock 32 = .ok (.iconst 0, 1) := by decide +kernel
theorem dX6_stock_33 : decode cX6_stock 33 = .ok (.goto 9, 3) := by decide +kernel
theorem dX6_stock_36 : decode cX6_stock 36 = .ok (.aload_n 0, 1) := by decide +kernel
theorem dX6_stock_37 : decode cX6_stock 37 = .ok (.getfield 16, 3) := by decide +kernel
theorem dX6_stock_40 : decode cX6_stock 40 = .ok (.iload_n 3, 1) := by decide +kernel
theorem dX6_stock_41 : decode cX6_stock 41 = .ok (.iaload, 1) := by decide +kernel
theorem dX6_stock_42 : decode cX6_stock 42 = .ok (.istore 4, 2) := by decide +kernel
theorem dX6_stock_44 : decode cX6_stock 44 = .ok (.iload_n 3, 1) := by decide +kernel
theorem dX6_stock_45 : decode cX6_stock 45 = .ok (.ifCond .ge 12, 3) := by decide +kernel
theorem dX6_stock_48 : decode cX6_stock 48 = .ok (.aload_n 0, 1) := by decide +kernel
theorem dX6_stock_49 : decode cX6_stock 49 = .ok (.invokevirtual 63, 3) := by decide +kernel
theorem dX6_stock_52 : decode cX6_stock 52 = .ok (.bipush 8, 2) := by decide +kernel
theorem dX6_stock_54 : decode cX6_stock 54 = .ok (.if_icmp .eq 22, 3) := by decide +kernel
theorem dX6_stock_57 : decode cX6_stock 57 = .ok (.iload 4, 2) := by decide +kernel
theorem dX6_stock_59 : decode cX6_stock 59 = .ok (.iload_n 2, 1) := by decide +kernel
theorem dX6_stock_60 : decode cX6_stock 60 = .ok (.iadd, 1) := by decide +kernel
theorem dX6_stock_61 : decode cX6_stock 61 = .ok (.iconst 4, 1) := by decide +kernel
theorem dX6_stock_62 : decode cX6_stock 62 = .ok (.if_icmp .gt 14, 3) := by decide +kernel
theorem dX6_stock_65 : decode cX6_stock 65 = .ok (.aload_n 0, 1) := by decide +kernel
theorem dX6_stock_66 : decode cX6_stock 66 = .ok (.invokevirtual 77, 3) := by decide +kernel
theorem dX6_stock_69 : decode cX6_stock 69 = .ok (.iload_n 2, 1) := by decide +kernel
theorem dX6_stock_70 : decode cX6_stock 70 = .ok (.iadd, 1) := by decide +kernel
theorem dX6_stock_71 : decode cX6_stock 71 = .ok (.bipush 16, 2) := by decide +kernel
theorem dX6_stock_73 : decode cX6_stock 73 = .ok (.if_icmp .le 6, 3) := by decide +kernel
theorem dX6_stock_76 : decode cX6_stock 76 = .ok (.bipush (-4), 2) := by decide +kernel
theorem dX6_stock_78 : decode cX6_stock 78 = .ok (.ireturn, 1) := by decide +kernel
theorem dX6_stock_79 : decode cX6_stock 79 = .ok (.iload_n 3, 1) := by decide +kernel
theorem dX6_stock_80 : decode cX6_stock 80 = .ok (.ifCond .ge 25, 3) := by decide +kernel
theorem dX6_stock_83 : decode cX6_stock 83 = .ok (.aload_n 0, 1) := by decide +kernel
theorem dX6_stock_84 : decode cX6_stock 84 = .ok (.invokevirtual 63, 3) := by decide +kernel
theorem dX6_stock_87 : decode cX6_stock 87 = .ok (.istore_n 3, 1) := by decide +kernel
theorem dX6_stock_88 : decode cX6_stock 88 = .ok (.aload_n 0, 1) := by decide +kernel
theorem dX6_stock_89 : decode cX6_stock 89 = .ok (.getfield 13, 3) := by decide +kernel
theorem dX6_stock_92 : decode cX6_stock 92 = .ok (.iload_n 3, 1) := by decide +kernel
theorem dX6_stock_93 : decode cX6_stock 93 = .ok (.iload_n 1, 1) := by decide +kernel
theorem dX6_stock_94 : decode cX6_stock 94 = .ok (.iastore, 1) := by decide +kernel
theorem dX6_stock_95 : decode cX6_stock 95 = .ok (.aload_n 0, 1) := by decide +kernel
theorem dX6_stock_96 : decode cX6_stock 96 = .ok (.getfield 7, 3) := by decide +kernel
theorem dX6_stock_99 : decode cX6_stock 99 = .ok (.iconst 2, 1) := by decide +kernel
theorem dX6_stock_100 : decode cX6_stock 100 = .ok (.dup2, 1) := by decide +kernel
theorem dX6_stock_101 : decode cX6_stock 101 = .ok (.iaload, 1) := by decide +kernel
theorem dX6_stock_102 : decode cX6_stock 102 = .ok (.iconst 1, 1) := by decide +kernel
theorem dX6_stock_103 : decode cX6_stock 103 = .ok (.iadd, 1) := by decide +kernel
theorem dX6_stock_104 : decode cX6_stock 104 = .ok (.iastore, 1) := by decide +kernel
theorem dX6_stock_105 : decode cX6_stock 105 = .ok (.aload_n 0, 1) := by decide +kernel
theorem dX6_stock_106 : decode cX6_stock 106 = .ok (.getfield 16, 3) := by decide +kernel
theorem dX6_stock_109 : decode cX6_stock 109 = .ok (.iload_n 3, 1) := by decide +kernel
theorem dX6_stock_110 : decode cX6_stock 110 = .ok (.iload 4, 2) := by decide +kernel
theorem dX6_stock_112 : decode cX6_stock 112 = .ok (.iload_n 2, 1) := by decide +kernel
theorem dX6_stock_113 : decode cX6_stock 113 = .ok (.iadd, 1) := by decide +kernel
theorem dX6_stock_114 : decode cX6_stock 114 = .ok (.iastore, 1) := by decide +kernel
theorem dX6_stock_115 : decode cX6_stock 115 = .ok (.aload_n 0, 1) := by decide +kernel
theorem dX6_stock_116 : decode cX6_stock 116 = .ok (.invokevirtual 56, 3) := by decide +kernel
theorem dX6_stock_119 : decode cX6_stock 119 = .ok (.iload 4, 2) := by decide +kernel
theorem dX6_stock_121 : decode cX6_stock 121 = .ok (.iload_n 2, 1) := by decide +kernel
theorem dX6_stock_122 : decode cX6_stock 122 = .ok (.iadd, 1) := by decide +kernel
theorem dX6_stock_123 : decode cX6_stock 123 = .ok (.ireturn, 1) := by decide +kernel
set_option maxRecDepth 20000 in
theorem ggX6_drop_X6_isDots : GoodIn wsX6_drop wsX6_isDots := goodIn_r _ [7, 8, 9, 10, 6, 11] (by decide +kernel) (by decide +kernel)
set_option maxRecDepth 20000 in
theorem gX6_drop_X6_isDots : GoodIn wsX6_drop (va_wsS RX6 67 yX6_isDots wsX6_isDots) := goodIn_app (goodIn_of _ (by decide +kernel)) ggX6_drop_X6_isDots
set_option maxRecDepth 20000 in
theorem ggX6_drop_X6_kindOf : GoodIn wsX6_drop wsX6_kindOf := goodIn_r _ [15, 2, 16, 17, 18, 6, 19, 1, 24, 25, 26, 27, 28, 29, 30, 31, 32, 33, 34, 35, 36, 37, 38] (by decide +kernel) (by decide +kernel)
set_option maxRecDepth 20000 in
theorem gX6_drop_X6_kindOf : GoodIn wsX6_drop (wsV RX6 73 RX6 yX6_kindOf wsX6_kindOf) := goodIn_app (goodIn_of _ (by decide +kernel)) ggX6_drop_X6_kindOf
set_option maxRecDepth 20000 in
theorem ggX6_drop_X6_kinds : GoodIn wsX6_drop wsX6_kinds := goodIn_r _ [19, 1, 24, 25, 26, 27, 28, 29, 30, 31, 32, 33, 34, 35, 36, 37, 38] (by decide +kernel) (by decide +kernel)
set_option maxRecDepth 20000 in
theorem gX6_drop_X6_kinds : GoodIn wsX6_drop (wsV RX6 63 RX6 yX6_kinds wsX6_kinds) := goodIn_app (goodIn_of _ (by decide +kernel)) ggX6_drop_X6_kinds
set_option maxRecDepth 20000 in
theorem ggX6_drop_X6_end : GoodIn wsX6_drop wsX6_end := goodIn_r _ [23, 1, 24, 25, 26, 27, 28, 29, 30, 31, 32, 33, 34, 35, 36, 37, 38] (by decide +kernel) (by decide +kernel)
set_option maxRecDepth 20000 in
theorem gX6_drop_X6_end : GoodIn wsX6_drop (wsV RX6 56 RX6 yX6_end wsX6_end) := goodIn_app (goodIn_of _ (by decide +kernel)) ggX6_drop_X6_end
theorem dX6_drop_0 : decode cX6_drop 0 = .ok (.iload_n 1, 1) := by decide +kernel
theorem dX6_drop_1 : decode cX6_drop 1 = .ok (.invokestatic 67, 3) := by decide +kernel
theorem dX6_drop_4 : decode cX6_drop 4 = .ok (.ifCond .ne 6, 3) := by decide +kernel
theorem dX6_drop_7 : decode cX6_drop 7 = .ok (.bipush (-2), 2) := by decide +kernel
theorem dX6_drop_9 : decode cX6_drop 9 = .ok (.ireturn, 1) := by decide +kernel
theorem dX6_drop_10 : decode cX6_drop 10 = .ok (.aload_n 0, 1) := by decide +kernel
theorem dX6_drop_11 : decode cX6_drop 11 = .ok (.iload_n 1, 1) := by decide +kernel
theorem dX6_drop_12 : decode cX6_drop 12 = .ok (.invokevirtual 73, 3) := by decide +kernel
theorem dX6_drop_15 : decode cX6_drop 15 = .ok (.istore_n 2, 1) := by decide +kernel
theorem dX6_drop_16 : decode cX6_drop 16 = .ok (.iload_n 2, 1) := by decide +kernel
theorem dX6_drop_17 : decode cX6_drop 17 = .ok (.ifCond .ge 6, 3) := by decide +kernel
theorem dX6_drop_20 : decode cX6_drop 20 = .ok (.bipush (-5), 2) := by decide +kernel
theorem dX6_drop_22 : decode cX6_drop 22 = .ok (.ireturn, 1) := by decide +kernel
theorem dX6_drop_23 : decode cX6_drop 23 = .ok (.aload_n 0, 1) := by decide +kernel
theorem dX6_drop_24 : decode cX6_drop 24 = .ok (.getfield 7, 3) := by decide +kernel
theorem dX6_drop_27 : decode cX6_drop 27 = .ok (.iconst 2, 1) := by decide +kernel
theorem dX6_drop_28 : decode cX6_drop 28 = .ok (.dup2, 1) := by decide +kernel
theorem dX6_drop_29 : decode cX6_drop 29 = .ok (.iaload, 1) := by decide +kernel
theorem dX6_drop_30 : decode cX6_drop 30 = .ok (.iconst 1, 1) := by decide +kernel
theorem dX6_drop_31 : decode cX6_drop 31 = .ok (.isub, 1) := by decide +kernel
theorem dX6_drop_32 : decode cX6_drop 32 = .ok (.iastore, 1) := by decide +kernel
theorem dX6_drop_33 : decode cX6_drop 33 = .ok (.iload_n 2, 1) := by decide +kernel
theorem dX6_drop_34 : decode cX6_drop 34 = .ok (.istore_n 3, 1) := by decide +kernel
theorem dX6_drop_35 : decode cX6_drop 35 = .ok (.iload_n 3, 1) := by decide +kernel
theorem dX6_drop_36 : decode cX6_drop 36 = .ok (.aload_n 0, 1) := by decide +kernel
theorem dX6_drop_37 : decode cX6_drop 37 = .ok (.invokevirtual 63, 3) := by decide +kernel
theorem dX6_drop_40 : decode cX6_drop 40 = .ok (.if_icmp .ge 37, 3) := by decide +kernel
theorem dX6_drop_43 : decode cX6_drop 43 = .ok (.aload_n 0, 1) := by decide +kernel
theorem dX6_drop_44 : decode cX6_drop 44 = .ok (.getfield 13, 3) := by decide +kernel
theorem dX6_drop_47 : decode cX6_drop 47 = .ok (.iload_n 3, 1) := by decide +kernel
theorem dX6_drop_48 : decode cX6_drop 48 = .ok (.aload_n 0, 1) := by decide +kernel
theorem dX6_drop_49 : decode cX6_drop 49 = .ok (.getfield 13, 3) := by decide +kernel
theorem dX6_drop_52 : decode cX6_drop 52 = .ok (.iload_n 3, 1) := by decide +kernel
theorem dX6_drop_53 : decode cX6_drop 53 = .ok (.iconst 1, 1) := by decide +kernel
theorem dX6_drop_54 : decode cX6_drop 54 = .ok (.iadd, 1) := by decide +kernel
theorem dX6_drop_55 : decode cX6_drop 55 = .ok (.iaload, 1) := by decide +kernel
theorem dX6_drop_56 : decode cX6_drop 56 = .ok (.iastore, 1) := by decide +kernel
theorem dX6_drop_57 : decode cX6_drop 57 = .ok (.aload_n 0, 1) := by decide +kernel
theorem dX6_drop_58 : decode cX6_drop 58 = .ok (.getfield 16, 3) := by decide +kernel
theorem dX6_drop_61 : decode cX6_drop 61 = .ok (.iload_n 3, 1) := by decide +kernel
theorem dX6_drop_62 : decode cX6_drop 62 = .ok (.aload_n 0, 1) := by decide +kernel
theorem dX6_drop_63 : decode cX6_drop 63 = .ok (.getfield 16, 3) := by decide +kernel
theorem dX6_drop_66 : decode cX6_drop 66 = .ok (.iload_n 3, 1) := by decide +kernel
theorem dX6_drop_67 : decode cX6_drop 67 = .ok (.iconst 1, 1) := by decide +kernel
theorem dX6_drop_68 : decode cX6_drop 68 = .ok (.iadd, 1) := by decide +kernel
theorem dX6_drop_69 : decode cX6_drop 69 = .ok (.iaload, 1) := by decide +kernel
theorem dX6_drop_70 : decode cX6_drop 70 = .ok (.iastore, 1) := by decide +kernel
theorem dX6_drop_71 : decode cX6_drop 71 = .ok (.iinc 3 1, 3) := by decide +kernel
theorem dX6_drop_74 : decode cX6_drop 74 = .ok (.goto (-39), 3) := by decide +kernel
theorem dX6_drop_77 : decode cX6_drop 77 = .ok (.aload_n 0, 1) := by decide +kernel
theorem dX6_drop_78 : decode cX6_drop 78 = .ok (.invokevirtual 56, 3) := by decide +kernel
theorem dX6_drop_81 : decode cX6_drop 81 = .ok (.aload_n 0, 1) := by decide +kernel
theorem dX6_drop_82 : decode cX6_drop 82 = .ok (.invokevirtual 63, 3) := by decide +kernel
theorem dX6_drop_85 : decode cX6_drop 85 = .ok (.ireturn, 1) := by decide +kernel
theorem dX6_firstSlot_0 : decode cX6_firstSlot 0 = .ok (.iconst 0, 1) := by decide +kernel
theorem dX6_firstSlot_1 : decode cX6_firstSlot 1 = .ok (.istore_n 2, 1) := by decide +kernel
theorem dX6_firstSlot_2 : decode cX6_firstSlot 2 = .ok (.iconst 0, 1) := by decide +kernel
theorem dX6_firstSlot_3 : decode cX6_firstSlot 3 = .ok (.istore_n 3, 1) := by decide +kernel
theorem dX6_firstSlot_4 : decode cX6_firstSlot 4 = .ok (.iload_n 3, 1) := by decide +kernel
theorem dX6_firstSlot_5 : decode cX6_firstSlot 5 = .ok (.iload_n 1, 1) := by decide +kernel
theorem dX6_firstSlot_6 : decode cX6_firstSlot 6 = .ok (.if_icmp .ge 18, 3) := by decide +kernel
theorem dX6_firstSlot_9 : decode cX6_firstSlot 9 = .ok (.iload_n 2, 1) := by decide +kernel
theorem dX6_firstSlot_10 : decode cX6_firstSlot 10 = .ok (.aload_n 0, 1) := by decide +kernel
theorem dX6_firstSlot_11 : decode cX6_firstSlot 11 = .ok (.getfield 16, 3) := by decide +kernel
theorem dX6_firstSlot_14 : decode cX6_firstSlot 14 = .ok (.iload_n 3, 1) := by decide +kernel
theorem dX6_firstSlot_15 : decode cX6_firstSlot 15 = .ok (.iaload, 1) := by decide +kernel
theorem dX6_firstSlot_16 : decode cX6_firstSlot 16 = .ok (.iadd, 1) := by decide +kernel
theorem dX6_firstSlot_17 : decode cX6_firstSlot 17 = .ok (.istore_n 2, 1) := by decide +kernel
theorem dX6_firstSlot_18 : decode cX6_firstSlot 18 = .ok (.iinc 3 1, 3) := by decide +kernel
theorem dX6_firstSlot_21 : decode cX6_firstSlot 21 = .ok (.goto (-17), 3) := by decide +kernel
theorem dX6_firstSlot_24 : decode cX6_firstSlot 24 = .ok (.iload_n 2, 1) := by decide +kernel
theorem dX6_firstSlot_25 : decode cX6_firstSlot 25 = .ok (.ireturn, 1) := by decide +kernel
set_option maxRecDepth 20000 in
theorem ggX6_having_X6_cells : GoodIn wsX6_having wsX6_cells := goodIn_r _ [7, 8, 13, 14, 15, 16, 17, 18, 19, 20, 21, 22, 23, 24, 25, 26, 27] (by decide +kernel) (by decide +kernel)
set_option maxRecDepth 20000 in
theorem gX6_having_X6_cells : GoodIn wsX6_having (wsV RX6 80 RX6 yX6_cells wsX6_cells) := goodIn_app (goodIn_of _ (by decide +kernel)) ggX6_having_X6_cells
set_option maxRecDepth 20000 in
theorem ggX6_having_X6_isDone : GoodIn wsX6_having wsX6_isDone := goodIn_r _ [12, 8, 13, 14, 15, 16, 17, 18, 19, 20, 21, 22, 23, 24, 25, 26, 27] (by decide +kernel) (by decide +kernel)
set_option maxRecDepth 20000 in
theorem gX6_having_X6_isDone : GoodIn wsX6_having (wsV RX6 83 RX6 yX6_isDone wsX6_isDone) := goodIn_app (goodIn_of _ (by decide +kernel)) ggX6_having_X6_isDone
theorem dX6_having_0 : decode cX6_having 0 = .ok (.iconst 0, 1) := by decide +kernel
theorem dX6_having_1 : decode cX6_having 1 = .ok (.istore_n 2, 1) := by decide +kernel
theorem dX6_having_2 : decode cX6_having 2 = .ok (.iconst 0, 1) := by decide +kernel
theorem dX6_having_3 : decode cX6_having 3 = .ok (.istore_n 3, 1) := by decide +kernel
theorem dX6_having_4 : decode cX6_having 4 = .ok (.iload_n 3, 1) := by decide +kernel
theorem dX6_having_5 : decode cX6_having 5 = .ok (.aload_n 0, 1) := by decide +kernel
theorem dX6_having_6 : decode cX6_having 6 = .ok (.invokevirtual 80, 3) := by decide +kernel
theorem dX6_having_9 : decode cX6_having 9 = .ok (.if_icmp .ge 39, 3) := by decide +kernel
theorem dX6_having_12 : decode cX6_having 12 = .ok (.aload_n 0, 1) := by decide +kernel
theorem dX6_having_13 : decode cX6_having 13 = .ok (.invokevirtual 83, 3) := by decide +kernel
theorem dX6_having_16 : decode cX6_having 16 = .ok (.ifCond .eq 32, 3) := by decide +kernel
theorem dX6_having_19 : decode cX6_having 19 = .ok (.iload_n 2, 1) := by decide +kernel
theorem dX6_having_20 : decode cX6_having 20 = .ok (.aload_n 0, 1) := by decide +kernel
theorem dX6_having_21 : decode cX6_having 21 = .ok (.getfield 25, 3) := by decide +kernel
theorem dX6_having_24 : decode cX6_having 24 = .ok (.aload_n 0, 1) := by decide +kernel
theorem dX6_having_25 : decode cX6_having 25 = .ok (.getfield 31, 3) := by decide +kernel
theorem dX6_having_28 : decode cX6_having 28 = .ok (.iload_n 3, 1) := by decide +kernel
theorem dX6_having_29 : decode cX6_having 29 = .ok (.iaload, 1) := by decide +kernel
theorem dX6_having_30 : decode cX6_having 30 = .ok (.iaload, 1) := by decide +kernel
theorem dX6_having_31 : decode cX6_having 31 = .ok (.iload_n 1, 1) := by decide +kernel
theorem dX6_having_32 : decode cX6_having 32 = .ok (.if_icmp .ne 7, 3) := by decide +kernel
theorem dX6_having_35 : decode cX6_having 35 = .ok (.iconst 1, 1) := by decide +kernel
theorem dX6_having_36 : decode cX6_having 36 = .ok (.goto 4, 3) := by decide +kernel
theorem dX6_having_39 : decode cX6_having 39 = .ok (.iconst 0, 1) := by decide +kernel
theorem dX6_having_40 : decode cX6_having 40 = .ok (.iadd, 1) := by decide +kernel
theorem dX6_having_41 : decode cX6_having 41 = .ok (.istore_n 2, 1) := by decide +kernel
theorem dX6_having_42 : decode cX6_having 42 = .ok (.iinc 3 1, 3) := by decide +kernel
theorem dX6_having_45 : decode cX6_having 45 = .ok (.goto (-41), 3) := by decide +kernel
theorem dX6_having_48 : decode cX6_having 48 = .ok (.iload_n 2, 1) := by decide +kernel
theorem dX6_having_49 : decode cX6_having 49 = .ok (.ireturn, 1) := by decide +kernel
set_option maxRecDepth 20000 in
theorem ggX6_kind_X6_kinds : GoodIn wsX6_kind wsX6_kinds := goodIn_r _ [7, 8, 30, 31, 32, 33, 34, 35, 36, 37, 38, 39, 40, 41, 42, 43, 44] (by decide +kernel) (by decide +kernel)
set_option maxRecDepth 20000 in
theorem gX6_kind_X6_kinds : GoodIn wsX6_kind (wsV RX6 63 RX6 yX6_kinds wsX6_kinds) := goodIn_app (goodIn_of _ (by decide +kernel)) ggX6_kind_X6_kinds
set_option maxRecDepth 20000 in
theorem ggX6_kind_X6_in : GoodIn wsX6_kind wsX6_in := goodIn_r _ [11] (by decide +kernel) (by decide +kernel)
set_option maxRecDepth 20000 in
theorem gX6_kind_X6_in : GoodIn wsX6_kind (va_wsS RX6 52 yX6_in wsX6_in) := goodIn_app (goodIn_of _ (by decide +kernel)) ggX6_kind_X6_in
set_option maxRecDepth 20000 in
theorem ggX6_kind_X6_firstSlot : GoodIn wsX6_kind wsX6_firstSlot := goodIn_r _ [15, 2, 30, 31, 32, 33, 34, 35, 36, 37, 38, 39, 40, 41, 42, 43, 44] (by decide +kernel) (by decide +kernel)
set_option maxRecDepth 20000 in
theorem gX6_kind_X6_firstSlot : GoodIn wsX6_kind (wsV RX6 87 RX6 yX6_firstSlot wsX6_firstSlot) := goodIn_app (goodIn_of _ (by decide +kernel)) ggX6_kind_X6_firstSlot
set_option maxRecDepth 20000 in
theorem ggX6_kind_X6_having : GoodIn wsX6_kind wsX6_having := goodIn_r _ [19, 20, 21, 22, 23, 24, 6, 25, 8, 26, 27, 28, 29, 30, 31, 32, 33, 34, 35, 36, 37, 38, 39, 40, 41, 42, 43, 44] (by decide +kernel) (by decide +kernel)
set_option maxRecDepth 20000 in
theorem gX6_kind_X6_having : GoodIn wsX6_kind (wsV RX6 90 RX6 yX6_having wsX6_having) := goodIn_app (goodIn_of _ (by decide +kernel)) ggX6_kind_X6_having
theorem dX6_kind_0 : decode cX6_kind 0 = .ok (.iload_n 1, 1) := by decide +kernel
theorem dX6_kind_1 : decode cX6_kind 1 = .ok (.i2l, 1) := by decide +kernel
theorem dX6_kind_2 : decode cX6_kind 2 = .ok (.lconst 0, 1) := by decide +kernel
theorem dX6_kind_3 : decode cX6_kind 3 = .ok (.aload_n 0, 1) := by decide +kernel
theorem dX6_kind_4 : decode cX6_kind 4 = .ok (.invokevirtual 63, 3) := by decide +kernel
theorem dX6_kind_7 : decode cX6_kind 7 = .ok (.iconst 1, 1) := by decide +kernel
theorem dX6_kind_8 : decode cX6_kind 8 = .ok (.isub, 1) := by decide +kernel
theorem dX6_kind_9 : decode cX6_kind 9 = .ok (.i2l, 1) := by decide +kernel
theorem dX6_kind_10 : decode cX6_kind 10 = .ok (.invokestatic 52, 3) := by decide +kernel
theorem dX6_kind_13 : decode cX6_kind 13 = .ok (.ifCond .ne 5, 3) := by decide +kernel
theorem dX6_kind_16 : decode cX6_kind 16 = .ok (.iconst (-1), 1) := by decide +kernel
theorem dX6_kind_17 : decode cX6_kind 17 = .ok (.ireturn, 1) := by decide +kernel
theorem dX6_kind_18 : decode cX6_kind 18 = .ok (.iload_n 2, 1) := by decide +kernel
theorem dX6_kind_19 : decode cX6_kind 19 = .ok (.tableswitch 55 0 3 #[29, 36, 43, 49], 29) := by decide +kernel
theorem dX6_kind_48 : decode cX6_kind 48 = .ok (.aload_n 0, 1) := by decide +kernel
theorem dX6_kind_49 : decode cX6_kind 49 = .ok (.getfield 13, 3) := by decide +kernel
theorem dX6_kind_52 : decode cX6_kind 52 = .ok (.iload_n 1, 1) := by decide +kernel
theorem dX6_kind_53 : decode cX6_kind 53 = .ok (.iaload, 1) := by decide +kernel
theorem dX6_kind_54 : decode cX6_kind 54 = .ok (.ireturn, 1) := by decide +kernel
theorem dX6_kind_55 : decode cX6_kind 55 = .ok (.aload_n 0, 1) := by decide +kernel
theorem dX6_kind_56 : decode cX6_kind 56 = .ok (.getfield 16, 3) := by decide +kernel
theorem dX6_kind_59 : decode cX6_kind 59 = .ok (.iload_n 1, 1) := by decide +kernel
theorem dX6_kind_60 : decode cX6_kind 60 = .ok (.iaload, 1) := by decide +kernel
theorem dX6_kind_61 : decode cX6_kind 61 = .ok (.ireturn, 1) := by decide +kernel
theorem dX6_kind_62 : decode cX6_kind 62 = .ok (.aload_n 0, 1) := by decide +kernel
theorem dX6_kind_63 : decode cX6_kind 63 = .ok (.iload_n 1, 1) := by decide +kernel
theorem dX6_kind_64 : decode cX6_kind 64 = .ok (.invokevirtual 87, 3) := by decide +kernel
theorem dX6_kind_67 : decode cX6_kind 67 = .ok (.ireturn, 1) := by decide +kernel
theorem dX6_kind_68 : decode cX6_kind 68 = .ok (.aload_n 0, 1) := by decide +kernel
theorem dX6_kind_69 : decode cX6_kind 69 = .ok (.iload_n 1, 1) := by decide +kernel
theorem dX6_kind_70 : decode cX6_kind 70 = .ok (.invokevirtual 90, 3) := by decide +kernel
theorem dX6_kind_73 : decode cX6_kind 73 = .ok (.ireturn, 1) := by decide +kernel
theorem dX6_kind_74 : decode cX6_kind 74 = .ok (.bipush (-2), 2) := by decide +kernel
theorem dX6_kind_76 : decode cX6_kind 76 = .ok (.ireturn, 1) := by decide +kernel
set_option maxRecDepth 20000 in
theorem ggX6_find_X6_isDots : GoodIn wsX6_find wsX6_isDots := goodIn_r _ [4, 5, 6, 7, 3, 8] (by decide +kernel) (by decide +kernel)
set_option maxRecDepth 20000 in
theorem gX6_find_X6_isDots : GoodIn wsX6_find (va_wsS RX6 67 yX6_isDots wsX6_isDots) := goodIn_app (goodIn_of _ (by decide +kernel)) ggX6_find_X6_isDots
set_option maxRecDepth 20000 in
theorem ggX6_find_X6_kindOf : GoodIn wsX6_find wsX6_kindOf := goodIn_r _ [12, 13, 14, 15, 16, 3, 17, 18, 19, 20, 21, 22, 23, 24, 25, 26, 27, 28, 29, 30, 31, 32, 33] (by decide +kernel) (by decide +kernel)
set_option maxRecDepth 20000 in
theorem gX6_find_X6_kindOf : GoodIn wsX6_find (wsV RX6 73 RX6 yX6_kindOf wsX6_kindOf) := goodIn_app (goodIn_of _ (by decide +kernel)) ggX6_find_X6_kindOf
theorem dX6_find_0 : decode cX6_find 0 = .ok (.iload_n 1, 1) := by decide +kernel
theorem dX6_find_1 : decode cX6_find 1 = .ok (.invokestatic 67, 3) := by decide +kernel
theorem dX6_find_4 : decode cX6_find 4 = .ok (.ifCond .eq 11, 3) := by decide +kernel
theorem dX6_find_7 : decode cX6_find 7 = .ok (.aload_n 0, 1) := by decide +kernel
theorem dX6_find_8 : decode cX6_find 8 = .ok (.iload_n 1, 1) := by decide +kernel
theorem dX6_find_9 : decode cX6_find 9 = .ok (.invokevirtual 73, 3) := by decide +kernel
theorem dX6_find_12 : decode cX6_find 12 = .ok (.goto 5, 3) := by decide +kernel
theorem dX6_find_15 : decode cX6_find 15 = .ok (.bipush (-2), 2) := by decide +kernel
theorem dX6_find_17 : decode cX6_find 17 = .ok (.ireturn, 1) := by decide +kernel
set_option maxRecDepth 20000 in
theorem ggX6_cell_X6_isDots : GoodIn wsX6_cell wsX6_isDots := goodIn_r _ [6, 7, 8, 9, 5, 10] (by decide +kernel) (by decide +kernel)
set_option maxRecDepth 20000 in
theorem gX6_cell_X6_isDots : GoodIn wsX6_cell (va_wsS RX6 67 yX6_isDots wsX6_isDots) := goodIn_app (goodIn_of _ (by decide +kernel)) ggX6_cell_X6_isDots
set_option maxRecDepth 20000 in
theorem ggX6_cell_X6_cells : GoodIn wsX6_cell wsX6_cells := goodIn_r _ [14, 2, 19, 20, 21, 22, 23, 24, 25, 26, 27, 28, 29, 30, 31, 32, 33] (by decide +kernel) (by decide +kernel)
set_option maxRecDepth 20000 in
theorem gX6_cell_X6_cells : GoodIn wsX6_cell (wsV RX6 80 RX6 yX6_cells wsX6_cells) := goodIn_app (goodIn_of _ (by decide +kernel)) ggX6_cell_X6_cells
set_option maxRecDepth 20000 in
theorem ggX6_cell_X6_end : GoodIn wsX6_cell wsX6_end := goodIn_r _ [18, 2, 19, 20, 21, 22, 23, 24, 25, 26, 27, 28, 29, 30, 31, 32, 33] (by decide +kernel) (by decide +kernel)
set_option maxRecDepth 20000 in
theorem gX6_cell_X6_end : GoodIn wsX6_cell (wsV RX6 56 RX6 yX6_end wsX6_end) := goodIn_app (goodIn_of _ (by decide +kernel)) ggX6_cell_X6_end
theorem dX6_cell_0 : decode cX6_cell 0 = .ok (.iload_n 1, 1) := by decide +kernel
theorem dX6_cell_1 : decode cX6_cell 1 = .ok (.invokestatic 67, 3) := by decide +kernel
theorem dX6_cell_4 : decode cX6_cell 4 = .ok (.ifCond .ne 6, 3) := by decide +kernel
theorem dX6_cell_7 : decode cX6_cell 7 = .ok (.bipush (-2), 2) := by decide +kernel
theorem dX6_cell_9 : decode cX6_cell 9 = .ok (.ireturn, 1) := by decide +kernel
theorem dX6_cell_10 : decode cX6_cell 10 = .ok (.aload_n 0, 1) := by decide +kernel
theorem dX6_cell_11 : decode cX6_cell 11 = .ok (.invokevirtual 80, 3) := by decide +kernel
theorem dX6_cell_14 : decode cX6_cell 14 = .ok (.bipush 12, 2) := by decide +kernel
theorem dX6_cell_16 : decode cX6_cell 16 = .ok (.if_icmp .ne 6, 3) := by decide +kernel
theorem dX6_cell_19 : decode cX6_cell 19 = .ok (.bipush (-4), 2) := by decide +kernel
theorem dX6_cell_21 : decode cX6_cell 21 = .ok (.ireturn, 1) := by decide +kernel
theorem dX6_cell_22 : decode cX6_cell 22 = .ok (.aload_n 0, 1) := by decide +kernel
theorem dX6_cell_23 : decode cX6_cell 23 = .ok (.getfield 19, 3) := by decide +kernel
theorem dX6_cell_26 : decode cX6_cell 26 = .ok (.aload_n 0, 1) := by decide +kernel
theorem dX6_cell_27 : decode cX6_cell 27 = .ok (.invokevirtual 80, 3) := by decide +kernel
theorem dX6_cell_30 : decode cX6_cell 30 = .ok (.iload_n 1, 1) := by decide +kernel
theorem dX6_cell_31 : decode cX6_cell 31 = .ok (.iastore, 1) := by decide +kernel
theorem dX6_cell_32 : decode cX6_cell 32 = .ok (.aload_n 0, 1) := by decide +kernel
theorem dX6_cell_33 : decode cX6_cell 33 = .ok (.getfield 7, 3) := by decide +kernel
theorem dX6_cell_36 : decode cX6_cell 36 = .ok (.iconst 3, 1) := by decide +kernel
theorem dX6_cell_37 : decode cX6_cell 37 = .ok (.dup2, 1) := by decide +kernel
theorem dX6_cell_38 : decode cX6_cell 38 = .ok (.iaload, 1) := by decide +kernel
theorem dX6_cell_39 : decode cX6_cell 39 = .ok (.iconst 1, 1) := by decide +kernel
theorem dX6_cell_40 : decode cX6_cell 40 = .ok (.iadd, 1) := by decide +kernel
theorem dX6_cell_41 : decode cX6_cell 41 = .ok (.iastore, 1) := by decide +kernel
theorem dX6_cell_42 : decode cX6_cell 42 = .ok (.aload_n 0, 1) := by decide +kernel
theorem dX6_cell_43 : decode cX6_cell 43 = .ok (.invokevirtual 56, 3) := by decide +kernel
theorem dX6_cell_46 : decode cX6_cell 46 = .ok (.aload_n 0, 1) := by decide +kernel
theorem dX6_cell_47 : decode cX6_cell 47 = .ok (.invokevirtual 80, 3) := by decide +kernel
theorem dX6_cell_50 : decode cX6_cell 50 = .ok (.ireturn, 1) := by decide +kernel
set_option maxRecDepth 20000 in
theorem ggX6_isCell_X6_cells : GoodIn wsX6_isCell wsX6_cells := goodIn_r _ [5, 6, 10, 11, 12, 13, 14, 15, 16, 17, 18, 19, 20, 21, 22, 23, 24] (by decide +kernel) (by decide +kernel)
set_option maxRecDepth 20000 in
theorem gX6_isCell_X6_cells : GoodIn wsX6_isCell (wsV RX6 80 RX6 yX6_cells wsX6_cells) := goodIn_app (goodIn_of _ (by decide +kernel)) ggX6_isCell_X6_cells
set_option maxRecDepth 20000 in
theorem ggX6_isCell_X6_in : GoodIn wsX6_isCell wsX6_in := goodIn_r _ [9] (by decide +kernel) (by decide +kernel)
set_option maxRecDepth 20000 in
theorem gX6_isCell_X6_in : GoodIn wsX6_isCell (va_wsS RX6 52 yX6_in wsX6_in) := goodIn_app (goodIn_of _ (by decide +kernel)) ggX6_isCell_X6_in
theorem dX6_isCell_0 : decode cX6_isCell 0 = .ok (.iload_n 1, 1) := by decide +kernel
theorem dX6_isCell_1 : decode cX6_isCell 1 = .ok (.i2l, 1) := by decide +kernel
theorem dX6_isCell_2 : decode cX6_isCell 2 = .ok (.lconst 0, 1) := by decide +kernel
theorem dX6_isCell_3 : decode cX6_isCell 3 = .ok (.aload_n 0, 1) := by decide +kernel
theorem dX6_isCell_4 : decode cX6_isCell 4 = .ok (.invokevirtual 80, 3) := by decide +kernel
theorem dX6_isCell_7 : decode cX6_isCell 7 = .ok (.iconst 1, 1) := by decide +kernel
theorem dX6_isCell_8 : decode cX6_isCell 8 = .ok (.isub, 1) := by decide +kernel
theorem dX6_isCell_9 : decode cX6_isCell 9 = .ok (.i2l, 1) := by decide +kernel
theorem dX6_isCell_10 : decode cX6_isCell 10 = .ok (.invokestatic 52, 3) := by decide +kernel
theorem dX6_isCell_13 : decode cX6_isCell 13 = .ok (.ireturn, 1) := by decide +kernel
set_option maxRecDepth 20000 in
theorem ggX6_change_X6_isCell : GoodIn wsX6_change wsX6_isCell := goodIn_r _ [7, 8, 9, 10, 6, 11, 2, 12, 13, 14, 19, 20, 21, 22, 23, 24, 25, 26, 27, 28, 29, 30, 31, 32, 33] (by decide +kernel) (by decide +kernel)
set_option maxRecDepth 20000 in
theorem gX6_change_X6_isCell : GoodIn wsX6_change (wsV RX6 93 RX6 yX6_isCell wsX6_isCell) := goodIn_app (goodIn_of _ (by decide +kernel)) ggX6_change_X6_isCell
set_option maxRecDepth 20000 in
theorem ggX6_change_X6_isDots : GoodIn wsX6_change wsX6_isDots := goodIn_r _ [17, 18, 12, 13, 6, 14] (by decide +kernel) (by decide +kernel)
set_option maxRecDepth 20000 in
theorem gX6_change_X6_isDots : GoodIn wsX6_change (va_wsS RX6 67 yX6_isDots wsX6_isDots) := goodIn_app (goodIn_of _ (by decide +kernel)) ggX6_change_X6_isDots
theorem dX6_change_0 : decode cX6_change 0 = .ok (.aload_n 0, 1) := by decide +kernel
theorem dX6_change_1 : decode cX6_change 1 = .ok (.iload_n 1, 1) := by decide +kernel
theorem dX6_change_2 : decode cX6_change 2 = .ok (.invokevirtual 93, 3) := by decide +kernel
theorem dX6_change_5 : decode cX6_change 5 = .ok (.ifCond .ne 5, 3) := by decide +kernel
theorem dX6_change_8 : decode cX6_change 8 = .ok (.iconst (-1), 1) := by decide +kernel
theorem dX6_change_9 : decode cX6_change 9 = .ok (.ireturn, 1) := by decide +kernel
theorem dX6_change_10 : decode cX6_change 10 = .ok (.iload_n 2, 1) := by decide +kernel
theorem dX6_change_11 : decode cX6_change 11 = .ok (.invokestatic 67, 3) := by decide +kernel
theorem dX6_change_14 : decode cX6_change 14 = .ok (.ifCond .ne 6, 3) := by decide +kernel
theorem dX6_change_17 : decode cX6_change 17 = .ok (.bipush (-2), 2) := by decide +kernel
theorem dX6_change_19 : decode cX6_change 19 = .ok (.ireturn, 1) := by decide +kernel
theorem dX6_change_20 : decode cX6_change 20 = .ok (.aload_n 0, 1) := by decide +kernel
theorem dX6_change_21 : decode cX6_change 21 = .ok (.getfield 19, 3) := by decide +kernel
theorem dX6_change_24 : decode cX6_change 24 = .ok (.iload_n 1, 1) := by decide +kernel
theorem dX6_change_25 : decode cX6_change 25 = .ok (.iaload, 1) := by decide +kernel
theorem dX6_change_26 : decode cX6_change 26 = .ok (.istore_n 3, 1) := by decide +kernel
theorem dX6_change_27 : decode cX6_change 27 = .ok (.aload_n 0, 1) := by decide +kernel
theorem dX6_change_28 : decode cX6_change 28 = .ok (.getfield 19, 3) := by decide +kernel
theorem dX6_change_31 : decode cX6_change 31 = .ok (.iload_n 1, 1) := by decide +kernel
theorem dX6_change_32 : decode cX6_change 32 = .ok (.iload_n 2, 1) := by decide +kernel
theorem dX6_change_33 : decode cX6_change 33 = .ok (.iastore, 1) := by decide +kernel
theorem dX6_change_34 : decode cX6_change 34 = .ok (.aload_n 0, 1) := by decide +kernel
theorem dX6_change_35 : decode cX6_change 35 = .ok (.getfield 7, 3) := by decide +kernel
theorem dX6_change_38 : decode cX6_change 38 = .ok (.bipush 6, 2) := by decide +kernel
theorem dX6_change_40 : decode cX6_change 40 = .ok (.iload_n 2, 1) := by decide +kernel
theorem dX6_change_41 : decode cX6_change 41 = .ok (.iload_n 3, 1) := by decide +kernel
theorem dX6_change_42 : decode cX6_change 42 = .ok (.if_icmp .ne 13, 3) := by decide +kernel
theorem dX6_change_45 : decode cX6_change 45 = .ok (.aload_n 0, 1) := by decide +kernel
theorem dX6_change_46 : decode cX6_change 46 = .ok (.getfield 7, 3) := by decide +kernel
theorem dX6_change_49 : decode cX6_change 49 = .ok (.bipush 6, 2) := by decide +kernel
theorem dX6_change_51 : decode cX6_change 51 = .ok (.iaload, 1) := by decide +kernel
theorem dX6_change_52 : decode cX6_change 52 = .ok (.goto 4, 3) := by decide +kernel
theorem dX6_change_55 : decode cX6_change 55 = .ok (.iconst 0, 1) := by decide +kernel
theorem dX6_change_56 : decode cX6_change 56 = .ok (.iastore, 1) := by decide +kernel
theorem dX6_change_57 : decode cX6_change 57 = .ok (.iload_n 3, 1) := by decide +kernel
theorem dX6_change_58 : decode cX6_change 58 = .ok (.ireturn, 1) := by decide +kernel
set_option maxRecDepth 20000 in
theorem ggX6_remove_X6_isCell : GoodIn wsX6_remove wsX6_isCell := goodIn_r _ [7, 8, 9, 10, 6, 11, 1, 12, 13, 14, 19, 20, 21, 22, 23, 24, 25, 26, 27, 28, 29, 30, 31, 32, 33] (by decide +kernel) (by decide +kernel)
set_option maxRecDepth 20000 in
theorem gX6_remove_X6_isCell : GoodIn wsX6_remove (wsV RX6 93 RX6 yX6_isCell wsX6_isCell) := goodIn_app (goodIn_of _ (by decide +kernel)) ggX6_remove_X6_isCell
set_option maxRecDepth 20000 in
theorem ggX6_remove_X6_cells : GoodIn wsX6_remove wsX6_cells := goodIn_r _ [11, 1, 19, 20, 21, 22, 23, 24, 25, 26, 27, 28, 29, 30, 31, 32, 33] (by decide +kernel) (by decide +kernel)
set_option maxRecDepth 20000 in
theorem gX6_remove_X6_cells : GoodIn wsX6_remove (wsV RX6 80 RX6 yX6_cells wsX6_cells) := goodIn_app (goodIn_of _ (by decide +kernel)) ggX6_remove_X6_cells
set_option maxRecDepth 20000 in
theorem ggX6_remove_X6_end : GoodIn wsX6_remove wsX6_end := goodIn_r _ [18, 1, 19, 20, 21, 22, 23, 24, 25, 26, 27, 28, 29, 30, 31, 32, 33] (by decide +kernel) (by decide +kernel)
set_option maxRecDepth 20000 in
theorem gX6_remove_X6_end : GoodIn wsX6_remove (wsV RX6 56 RX6 yX6_end wsX6_end) := goodIn_app (goodIn_of _ (by decide +kernel)) ggX6_remove_X6_end
theorem dX6_remove_0 : decode cX6_remove 0 = .ok (.aload_n 0, 1) := by decide +kernel
theorem dX6_remove_1 : decode cX6_remove 1 = .ok (.iload_n 1, 1) := by decide +kernel
theorem dX6_remove_2 : decode cX6_remove 2 = .ok (.invokevirtual 93, 3) := by decide +kernel
theorem dX6_remove_5 : decode cX6_remove 5 = .ok (.ifCond .ne 5, 3) := by decide +kernel
theorem dX6_remove_8 : decode cX6_remove 8 = .ok (.iconst (-1), 1) := by decide +kernel
theorem dX6_remove_9 : decode cX6_remove 9 = .ok (.ireturn, 1) := by decide +kernel
theorem dX6_remove_10 : decode cX6_remove 10 = .ok (.aload_n 0, 1) := by decide +kernel
theorem dX6_remove_11 : decode cX6_remove 11 = .ok (.getfield 7, 3) := by decide +kernel
theorem dX6_remove_14 : decode cX6_remove 14 = .ok (.iconst 3, 1) := by decide +kernel
theorem dX6_remove_15 : decode cX6_remove 15 = .ok (.dup2, 1) := by decide +kernel
theorem dX6_remove_16 : decode cX6_remove 16 = .ok (.iaload, 1) := by decide +kernel
theorem dX6_remove_17 : decode cX6_remove 17 = .ok (.iconst 1, 1) := by decide +kernel
theorem dX6_remove_18 : decode cX6_remove 18 = .ok (.isub, 1) := by decide +kernel
theorem dX6_remove_19 : decode cX6_remove 19 = .ok (.iastore, 1) := by decide +kernel
theorem dX6_remove_20 : decode cX6_remove 20 = .ok (.iload_n 1, 1) := by decide +kernel
theorem dX6_remove_21 : decode cX6_remove 21 = .ok (.istore_n 2, 1) := by decide +kernel
theorem dX6_remove_22 : decode cX6_remove 22 = .ok (.iload_n 2, 1) := by decide +kernel
theorem dX6_remove_23 : decode cX6_remove 23 = .ok (.aload_n 0, 1) := by decide +kernel
theorem dX6_remove_24 : decode cX6_remove 24 = .ok (.invokevirtual 80, 3) := by decide +kernel
theorem dX6_remove_27 : decode cX6_remove 27 = .ok (.if_icmp .ge 23, 3) := by decide +kernel
theorem dX6_remove_30 : decode cX6_remove 30 = .ok (.aload_n 0, 1) := by decide +kernel
theorem dX6_remove_31 : decode cX6_remove 31 = .ok (.getfield 19, 3) := by decide +kernel
theorem dX6_remove_34 : decode cX6_remove 34 = .ok (.iload_n 2, 1) := by decide +kernel
theorem dX6_remove_35 : decode cX6_remove 35 = .ok (.aload_n 0, 1) := by decide +kernel
theorem dX6_remove_36 : decode cX6_remove 36 = .ok (.getfield 19, 3) := by decide +kernel
theorem dX6_remove_39 : decode cX6_remove 39 = .ok (.iload_n 2, 1) := by decide +kernel
theorem dX6_remove_40 : decode cX6_remove 40 = .ok (.iconst 1, 1) := by decide +kernel
theorem dX6_remove_41 : decode cX6_remove 41 = .ok (.iadd, 1) := by decide +kernel
theorem dX6_remove_42 : decode cX6_remove 42 = .ok (.iaload, 1) := by decide +kernel
theorem dX6_remove_43 : decode cX6_remove 43 = .ok (.iastore, 1) := by decide +kernel
theorem dX6_remove_44 : decode cX6_remove 44 = .ok (.iinc 2 1, 3) := by decide +kernel
theorem dX6_remove_47 : decode cX6_remove 47 = .ok (.goto (-25), 3) := by decide +kernel
theorem dX6_remove_50 : decode cX6_remove 50 = .ok (.aload_n 0, 1) := by decide +kernel
theorem dX6_remove_51 : decode cX6_remove 51 = .ok (.invokevirtual 56, 3) := by decide +kernel
theorem dX6_remove_54 : decode cX6_remove 54 = .ok (.aload_n 0, 1) := by decide +kernel
theorem dX6_remove_55 : decode cX6_remove 55 = .ok (.invokevirtual 80, 3) := by decide +kernel
theorem dX6_remove_58 : decode cX6_remove 58 = .ok (.ireturn, 1) := by decide +kernel
theorem dX6_differenceOf_0 : decode cX6_differenceOf 0 = .ok (.iconst 0, 1) := by decide +kernel
theorem dX6_differenceOf_1 : decode cX6_differenceOf 1 = .ok (.istore_n 3, 1) := by decide +kernel
theorem dX6_differenceOf_2 : decode cX6_differenceOf 2 = .ok (.iconst 1, 1) := by decide +kernel
theorem dX6_differenceOf_3 : decode cX6_differenceOf 3 = .ok (.istore 4, 2) := by decide +kernel
theorem dX6_differenceOf_5 : decode cX6_differenceOf 5 = .ok (.iload 4, 2) := by decide +kernel
theorem dX6_differenceOf_7 : decode cX6_differenceOf 7 = .ok (.sipush 1000, 3) := by decide +kernel
theorem dX6_differenceOf_10 : decode cX6_differenceOf 10 = .ok (.if_icmp .gt 67, 3) := by decide +kernel
theorem dX6_differenceOf_13 : decode cX6_differenceOf 13 = .ok (.iload_n 1, 1) := by decide +kernel
theorem dX6_differenceOf_14 : decode cX6_differenceOf 14 = .ok (.iload 4, 2) := by decide +kernel
theorem dX6_differenceOf_16 : decode cX6_differenceOf 16 = .ok (.idiv, 1) := by decide +kernel
theorem dX6_differenceOf_17 : decode cX6_differenceOf 17 = .ok (.bipush 10, 2) := by decide +kernel
theorem dX6_differenceOf_19 : decode cX6_differenceOf 19 = .ok (.irem, 1) := by decide +kernel
theorem dX6_differenceOf_20 : decode cX6_differenceOf 20 = .ok (.iload_n 2, 1) := by decide +kernel
theorem dX6_differenceOf_21 : decode cX6_differenceOf 21 = .ok (.iload 4, 2) := by decide +kernel
theorem dX6_differenceOf_23 : decode cX6_differenceOf 23 = .ok (.idiv, 1) := by decide +kernel
theorem dX6_differenceOf_24 : decode cX6_differenceOf 24 = .ok (.bipush 10, 2) := by decide +kernel
theorem dX6_differenceOf_26 : decode cX6_differenceOf 26 = .ok (.irem, 1) := by decide +kernel
theorem dX6_differenceOf_27 : decode cX6_differenceOf 27 = .ok (.isub, 1) := by decide +kernel
theorem dX6_differenceOf_28 : decode cX6_differenceOf 28 = .ok (.istore 5, 2) := by decide +kernel
theorem dX6_differenceOf_30 : decode cX6_differenceOf 30 = .ok (.iload 5, 2) := by decide +kernel
theorem dX6_differenceOf_32 : decode cX6_differenceOf 32 = .ok (.ifCond .ge 9, 3) := by decide +kernel
theorem dX6_differenceOf_35 : decode cX6_differenceOf 35 = .ok (.iload 5, 2) := by decide +kernel
theorem dX6_differenceOf_37 : decode cX6_differenceOf 37 = .ok (.ineg, 1) := by decide +kernel
theorem dX6_differenceOf_38 : decode cX6_differenceOf 38 = .ok (.goto 5, 3) := by decide +kernel
theorem dX6_differenceOf_41 : decode cX6_differenceOf 41 = .ok (.iload 5, 2) := by decide +kernel
theorem dX6_differenceOf_43 : decode cX6_differenceOf 43 = .ok (.istore 6, 2) := by decide +kernel
theorem dX6_differenceOf_45 : decode cX6_differenceOf 45 = .ok (.iload_n 3, 1) := by decide +kernel
theorem dX6_differenceOf_46 : decode cX6_differenceOf 46 = .ok (.aload_n 0, 1) := by decide +kernel
theorem dX6_differenceOf_47 : decode cX6_differenceOf 47 = .ok (.getfield 7, 3) := by decide +kernel
theorem dX6_differenceOf_50 : decode cX6_differenceOf 50 = .ok (.iconst 0, 1) := by decide +kernel
theorem dX6_differenceOf_51 : decode cX6_differenceOf 51 = .ok (.iaload, 1) := by decide +kernel
theorem dX6_differenceOf_52 : decode cX6_differenceOf 52 = .ok (.ifCond .ne 8, 3) := by decide +kernel
theorem dX6_differenceOf_55 : decode cX6_differenceOf 55 = .ok (.iload 6, 2) := by decide +kernel
theorem dX6_differenceOf_57 : decode cX6_differenceOf 57 = .ok (.goto 8, 3) := by decide +kernel
theorem dX6_differenceOf_60 : decode cX6_differenceOf 60 = .ok (.iload 6, 2) := by decide +kernel
theorem dX6_differenceOf_62 : decode cX6_differenceOf 62 = .ok (.iload 6, 2) := by decide +kernel
theorem dX6_differenceOf_64 : decode cX6_differenceOf 64 = .ok (.imul, 1) := by decide +kernel
theorem dX6_differenceOf_65 : decode cX6_differenceOf 65 = .ok (.iadd, 1) := by decide +kernel
theorem dX6_differenceOf_66 : decode cX6_differenceOf 66 = .ok (.istore_n 3, 1) := by decide +kernel
theorem dX6_differenceOf_67 : decode cX6_differenceOf 67 = .ok (.iload 4, 2) := by decide +kernel
theorem dX6_differenceOf_69 : decode cX6_differenceOf 69 = .ok (.bipush 10, 2) := by decide +kernel
theorem dX6_differenceOf_71 : decode cX6_differenceOf 71 = .ok (.imul, 1) := by decide +kernel
theorem dX6_differenceOf_72 : decode cX6_differenceOf 72 = .ok (.istore 4, 2) := by decide +kernel
theorem dX6_differenceOf_74 : decode cX6_differenceOf 74 = .ok (.goto (-69), 3) := by decide +kernel
theorem dX6_differenceOf_77 : decode cX6_differenceOf 77 = .ok (.iload_n 3, 1) := by decide +kernel
theorem dX6_differenceOf_78 : decode cX6_differenceOf 78 = .ok (.ireturn, 1) := by decide +kernel
set_option maxRecDepth 20000 in
theorem ggX6_difference_X6_isCell : GoodIn wsX6_difference wsX6_isCell := goodIn_r _ [7, 8, 9, 10, 6, 11, 12, 13, 14, 15, 24, 25, 26, 27, 28, 29, 30, 31, 32, 33, 34, 35, 36, 37, 38] (by decide +kernel) (by decide +kernel)
set_option maxRecDepth 20000 in
theorem gX6_difference_X6_isCell : GoodIn wsX6_difference (wsV RX6 93 RX6 yX6_isCell wsX6_isCell) := goodIn_app (goodIn_of _ (by decide +kernel)) ggX6_difference_X6_isCell
set_option maxRecDepth 20000 in
theorem ggX6_difference_X6_kinds : GoodIn wsX6_difference wsX6_kinds := goodIn_r _ [19, 12, 24, 25, 26, 27, 28, 29, 30, 31, 32, 33, 34, 35, 36, 37, 38] (by decide +kernel) (by decide +kernel)
set_option maxRecDepth 20000 in
theorem gX6_difference_X6_kinds : GoodIn wsX6_difference (wsV RX6 63 RX6 yX6_kinds wsX6_kinds) := goodIn_app (goodIn_of _ (by decide +kernel)) ggX6_difference_X6_kinds
set_option maxRecDepth 20000 in
theorem ggX6_difference_X6_in : GoodIn wsX6_difference wsX6_in := goodIn_r _ [15] (by decide +kernel) (by decide +kernel)
set_option maxRecDepth 20000 in
theorem gX6_difference_X6_in : GoodIn wsX6_difference (va_wsS RX6 52 yX6_in wsX6_in) := goodIn_app (goodIn_of _ (by decide +kernel)) ggX6_difference_X6_in
set_option maxRecDepth 20000 in
theorem ggX6_difference_X6_differenceOf : GoodIn wsX6_difference wsX6_differenceOf := goodIn_r _ [23, 12, 24, 25, 26, 27, 28, 29, 30, 31, 32, 33, 34, 35, 36, 37, 38] (by decide +kernel) (by decide +kernel)
set_option maxRecDepth 20000 in
theorem gX6_difference_X6_differenceOf : GoodIn wsX6_difference (wsV RX6 96 RX6 yX6_differenceOf wsX6_differenceOf) := goodIn_app (goodIn_of _ (by decide +kernel)) ggX6_difference_X6_differenceOf
theorem dX6_difference_0 : decode cX6_difference 0 = .ok (.aload_n 0, 1) := by decide +kernel
theorem dX6_difference_1 : decode cX6_difference 1 = .ok (.iload_n 1, 1) := by decide +kernel
theorem dX6_difference_2 : decode cX6_difference 2 = .ok (.invokevirtual 93, 3) := by decide +kernel
theorem dX6_difference_5 : decode cX6_difference 5 = .ok (.ifCond .eq 38, 3) := by decide +kernel
theorem dX6_difference_8 : decode cX6_difference 8 = .ok (.iload_n 2, 1) := by decide +kernel
theorem dX6_difference_9 : decode cX6_difference 9 = .ok (.i2l, 1) := by decide +kernel
theorem dX6_difference_10 : decode cX6_difference 10 = .ok (.lconst 0, 1) := by decide +kernel
theorem dX6_difference_11 : decode cX6_difference 11 = .ok (.aload_n 0, 1) := by decide +kernel
theorem dX6_difference_12 : decode cX6_difference 12 = .ok (.invokevirtual 63, 3) := by decide +kernel
theorem dX6_difference_15 : decode cX6_difference 15 = .ok (.iconst 1, 1) := by decide +kernel
theorem dX6_difference_16 : decode cX6_difference 16 = .ok (.isub, 1) := by decide +kernel
theorem dX6_difference_17 : decode cX6_difference 17 = .ok (.i2l, 1) := by decide +kernel
theorem dX6_difference_18 : decode cX6_difference 18 = .ok (.invokestatic 52, 3) := by decide +kernel
theorem dX6_difference_21 : decode cX6_difference 21 = .ok (.ifCond .eq 22, 3) := by decide +kernel
theorem dX6_difference_24 : decode cX6_difference 24 = .ok (.aload_n 0, 1) := by decide +kernel
theorem dX6_difference_25 : decode cX6_difference 25 = .ok (.aload_n 0, 1) := by decide +kernel
theorem dX6_difference_26 : decode cX6_difference 26 = .ok (.getfield 19, 3) := by decide +kernel
theorem dX6_difference_29 : decode cX6_difference 29 = .ok (.iload_n 1, 1) := by decide +kernel
theorem dX6_difference_30 : decode cX6_difference 30 = .ok (.iaload, 1) := by decide +kernel
theorem dX6_difference_31 : decode cX6_difference 31 = .ok (.aload_n 0, 1) := by decide +kernel
theorem dX6_difference_32 : decode cX6_difference 32 = .ok (.getfield 13, 3) := by decide +kernel
theorem dX6_difference_35 : decode cX6_difference 35 = .ok (.iload_n 2, 1) := by decide +kernel
theorem dX6_difference_36 : decode cX6_difference 36 = .ok (.iaload, 1) := by decide +kernel
theorem dX6_difference_37 : decode cX6_difference 37 = .ok (.invokevirtual 96, 3) := by decide +kernel
theorem dX6_difference_40 : decode cX6_difference 40 = .ok (.goto 4, 3) := by decide +kernel
theorem dX6_difference_43 : decode cX6_difference 43 = .ok (.iconst (-1), 1) := by decide +kernel
theorem dX6_difference_44 : decode cX6_difference 44 = .ok (.ireturn, 1) := by decide +kernel
set_option maxRecDepth 20000 in
theorem ggX6_gainOf_X6_cells : GoodIn wsX6_gainOf wsX6_cells := goodIn_r _ [10, 4, 15, 16, 17, 18, 19, 20, 21, 22, 23, 24, 25, 26, 27, 28, 29] (by decide +kernel) (by decide +kernel)
set_option maxRecDepth 20000 in
theorem gX6_gainOf_X6_cells : GoodIn wsX6_gainOf (wsV RX6 80 RX6 yX6_cells wsX6_cells) := goodIn_app (goodIn_of _ (by decide +kernel)) ggX6_gainOf_X6_cells
set_option maxRecDepth 20000 in
theorem ggX6_gainOf_X6_differenceOf : GoodIn wsX6_gainOf wsX6_differenceOf := goodIn_r _ [14, 4, 15, 16, 17, 18, 19, 20, 21, 22, 23, 24, 25, 26, 27, 28, 29] (by decide +kernel) (by decide +kernel)
set_option maxRecDepth 20000 in
theorem gX6_gainOf_X6_differenceOf : GoodIn wsX6_gainOf (wsV RX6 96 RX6 yX6_differenceOf wsX6_differenceOf) := goodIn_app (goodIn_of _ (by decide +kernel)) ggX6_gainOf_X6_differenceOf
theorem dX6_gainOf_0 : decode cX6_gainOf 0 = .ok (.iload_n 1, 1) := by decide +kernel
theorem dX6_gainOf_1 : decode cX6_gainOf 1 = .ok (.aload_n 0, 1) := by decide +kernel
theorem dX6_gainOf_2 : decode cX6_gainOf 2 = .ok (.invokevirtual 80, 3) := by decide +kernel
theorem dX6_gainOf_5 : decode cX6_gainOf 5 = .ok (.if_icmp .ge 37, 3) := by decide +kernel
theorem dX6_gainOf_8 : decode cX6_gainOf 8 = .ok (.aload_n 0, 1) := by decide +kernel
theorem dX6_gainOf_9 : decode cX6_gainOf 9 = .ok (.aload_n 0, 1) := by decide +kernel
theorem dX6_gainOf_10 : decode cX6_gainOf 10 = .ok (.getfield 19, 3) := by decide +kernel
theorem dX6_gainOf_13 : decode cX6_gainOf 13 = .ok (.iload_n 1, 1) := by decide +kernel
theorem dX6_gainOf_14 : decode cX6_gainOf 14 = .ok (.iaload, 1) := by decide +kernel
theorem dX6_gainOf_15 : decode cX6_gainOf 15 = .ok (.aload_n 0, 1) := by decide +kernel
theorem dX6_gainOf_16 : decode cX6_gainOf 16 = .ok (.getfield 13, 3) := by decide +kernel
theorem dX6_gainOf_19 : decode cX6_gainOf 19 = .ok (.aload_n 0, 1) := by decide +kernel
theorem dX6_gainOf_20 : decode cX6_gainOf 20 = .ok (.getfield 25, 3) := by decide +kernel
theorem dX6_gainOf_23 : decode cX6_gainOf 23 = .ok (.iload_n 2, 1) := by decide +kernel
theorem dX6_gainOf_24 : decode cX6_gainOf 24 = .ok (.iaload, 1) := by decide +kernel
theorem dX6_gainOf_25 : decode cX6_gainOf 25 = .ok (.iaload, 1) := by decide +kernel
theorem dX6_gainOf_26 : decode cX6_gainOf 26 = .ok (.invokevirtual 96, 3) := by decide +kernel
theorem dX6_gainOf_29 : decode cX6_gainOf 29 = .ok (.ineg, 1) := by decide +kernel
theorem dX6_gainOf_30 : decode cX6_gainOf 30 = .ok (.aload_n 0, 1) := by decide +kernel
theorem dX6_gainOf_31 : decode cX6_gainOf 31 = .ok (.getfield 7, 3) := by decide +kernel
theorem dX6_gainOf_34 : decode cX6_gainOf 34 = .ok (.iconst 4, 1) := by decide +kernel
theorem dX6_gainOf_35 : decode cX6_gainOf 35 = .ok (.iaload, 1) := by decide +kernel
theorem dX6_gainOf_36 : decode cX6_gainOf 36 = .ok (.iconst 1, 1) := by decide +kernel
theorem dX6_gainOf_37 : decode cX6_gainOf 37 = .ok (.iadd, 1) := by decide +kernel
theorem dX6_gainOf_38 : decode cX6_gainOf 38 = .ok (.imul, 1) := by decide +kernel
theorem dX6_gainOf_39 : decode cX6_gainOf 39 = .ok (.goto 4, 3) := by decide +kernel
theorem dX6_gainOf_42 : decode cX6_gainOf 42 = .ok (.iconst 0, 1) := by decide +kernel
theorem dX6_gainOf_43 : decode cX6_gainOf 43 = .ok (.istore_n 3, 1) := by decide +kernel
theorem dX6_gainOf_44 : decode cX6_gainOf 44 = .ok (.iload_n 3, 1) := by decide +kernel
theorem dX6_gainOf_45 : decode cX6_gainOf 45 = .ok (.aload_n 0, 1) := by decide +kernel
theorem dX6_gainOf_46 : decode cX6_gainOf 46 = .ok (.getfield 22, 3) := by decide +kernel
theorem dX6_gainOf_49 : decode cX6_gainOf 49 = .ok (.iload_n 2, 1) := by decide +kernel
theorem dX6_gainOf_50 : decode cX6_gainOf 50 = .ok (.iaload, 1) := by decide +kernel
theorem dX6_gainOf_51 : decode cX6_gainOf 51 = .ok (.isub, 1) := by decide +kernel
theorem dX6_gainOf_52 : decode cX6_gainOf 52 = .ok (.ireturn, 1) := by decide +kernel
set_option maxRecDepth 20000 in
theorem ggX6_bestFor_X6_gainOf : GoodIn wsX6_bestFor wsX6_gainOf := goodIn_r _ [6, 7, 8, 9, 1, 10, 11, 12, 13, 5, 14, 15, 16, 17, 18, 19, 20, 21, 22, 23, 24, 25, 26, 27, 28, 29, 30, 31, 32, 33] (by decide +kernel) (by decide +kernel)
set_option maxRecDepth 20000 in
theorem gX6_bestFor_X6_gainOf : GoodIn wsX6_bestFor (wsV RX6 100 RX6 yX6_gainOf wsX6_gainOf) := goodIn_app (goodIn_of _ (by decide +kernel)) ggX6_bestFor_X6_gainOf
theorem dX6_bestFor_0 : decode cX6_bestFor 0 = .ok (.bipush (-6), 2) := by decide +kernel
theorem dX6_bestFor_2 : decode cX6_bestFor 2 = .ok (.istore_n 3, 1) := by decide +kernel
theorem dX6_bestFor_3 : decode cX6_bestFor 3 = .ok (.iconst 0, 1) := by decide +kernel
theorem dX6_bestFor_4 : decode cX6_bestFor 4 = .ok (.istore 4, 2) := by decide +kernel
theorem dX6_bestFor_6 : decode cX6_bestFor 6 = .ok (.iload 4, 2) := by decide +kernel
theorem dX6_bestFor_8 : decode cX6_bestFor 8 = .ok (.aload_n 0, 1) := by decide +kernel
theorem dX6_bestFor_9 : decode cX6_bestFor 9 = .ok (.getfield 7, 3) := by decide +kernel
theorem dX6_bestFor_12 : decode cX6_bestFor 12 = .ok (.iconst 4, 1) := by decide +kernel
theorem dX6_bestFor_13 : decode cX6_bestFor 13 = .ok (.iaload, 1) := by decide +kernel
theorem dX6_bestFor_14 : decode cX6_bestFor 14 = .ok (.if_icmp .ge 38, 3) := by decide +kernel
theorem dX6_bestFor_17 : decode cX6_bestFor 17 = .ok (.iload 4, 2) := by decide +kernel
theorem dX6_bestFor_19 : decode cX6_bestFor 19 = .ok (.iload_n 2, 1) := by decide +kernel
theorem dX6_bestFor_20 : decode cX6_bestFor 20 = .ok (.if_icmp .eq 26, 3) := by decide +kernel
theorem dX6_bestFor_23 : decode cX6_bestFor 23 = .ok (.iload_n 3, 1) := by decide +kernel
theorem dX6_bestFor_24 : decode cX6_bestFor 24 = .ok (.ifCond .lt 19, 3) := by decide +kernel
theorem dX6_bestFor_27 : decode cX6_bestFor 27 = .ok (.aload_n 0, 1) := by decide +kernel
theorem dX6_bestFor_28 : decode cX6_bestFor 28 = .ok (.iload_n 1, 1) := by decide +kernel
theorem dX6_bestFor_29 : decode cX6_bestFor 29 = .ok (.iload 4, 2) := by decide +kernel
theorem dX6_bestFor_31 : decode cX6_bestFor 31 = .ok (.invokevirtual 100, 3) := by decide +kernel
theorem dX6_bestFor_34 : decode cX6_bestFor 34 = .ok (.aload_n 0, 1) := by decide +kernel
theorem dX6_bestFor_35 : decode cX6_bestFor 35 = .ok (.iload_n 1, 1) := by decide +kernel
theorem dX6_bestFor_36 : decode cX6_bestFor 36 = .ok (.iload_n 3, 1) := by decide +kernel
theorem dX6_bestFor_37 : decode cX6_bestFor 37 = .ok (.invokevirtual 100, 3) := by decide +kernel
theorem dX6_bestFor_40 : decode cX6_bestFor 40 = .ok (.if_icmp .le 6, 3) := by decide +kernel
theorem dX6_bestFor_43 : decode cX6_bestFor 43 = .ok (.iload 4, 2) := by decide +kernel
theorem dX6_bestFor_45 : decode cX6_bestFor 45 = .ok (.istore_n 3, 1) := by decide +kernel
theorem dX6_bestFor_46 : decode cX6_bestFor 46 = .ok (.iinc 4 1, 3) := by decide +kernel
theorem dX6_bestFor_49 : decode cX6_bestFor 49 = .ok (.goto (-43), 3) := by decide +kernel
theorem dX6_bestFor_52 : decode cX6_bestFor 52 = .ok (.iload_n 3, 1) := by decide +kernel
theorem dX6_bestFor_53 : decode cX6_bestFor 53 = .ok (.ireturn, 1) := by decide +kernel
set_option maxRecDepth 20000 in
theorem ggX6_bid_X6_bestFor : GoodIn wsX6_bid wsX6_bestFor := goodIn_r _ [8, 9, 10, 11, 12, 7, 13, 14, 15, 16, 1, 17, 18, 19, 20, 21, 22, 23, 24, 25, 26, 27, 28, 29, 30, 31, 32, 33, 34, 35, 36, 37, 38, 39] (by decide +kernel) (by decide +kernel)
set_option maxRecDepth 20000 in
theorem gX6_bid_X6_bestFor : GoodIn wsX6_bid (wsV RX6 103 RX6 yX6_bestFor wsX6_bestFor) := goodIn_app (goodIn_of _ (by decide +kernel)) ggX6_bid_X6_bestFor
set_option maxRecDepth 20000 in
theorem ggX6_bid_X6_gainOf : GoodIn wsX6_bid wsX6_gainOf := goodIn_r _ [13, 14, 15, 16, 9, 1, 17, 18, 19, 7, 20, 21, 22, 23, 24, 25, 26, 27, 28, 29, 30, 31, 32, 33, 34, 35, 36, 37, 38, 39] (by decide +kernel) (by decide +kernel)
set_option maxRecDepth 20000 in
theorem gX6_bid_X6_gainOf : GoodIn wsX6_bid (wsV RX6 100 RX6 yX6_gainOf wsX6_gainOf) := goodIn_app (goodIn_of _ (by decide +kernel)) ggX6_bid_X6_gainOf
theorem dX6_bid_0 : decode cX6_bid 0 = .ok (.aload_n 0, 1) := by decide +kernel
theorem dX6_bid_1 : decode cX6_bid 1 = .ok (.iload_n 1, 1) := by decide +kernel
theorem dX6_bid_2 : decode cX6_bid 2 = .ok (.bipush (-6), 2) := by decide +kernel
theorem dX6_bid_4 : decode cX6_bid 4 = .ok (.invokevirtual 103, 3) := by decide +kernel
theorem dX6_bid_7 : decode cX6_bid 7 = .ok (.istore_n 3, 1) := by decide +kernel
theorem dX6_bid_8 : decode cX6_bid 8 = .ok (.aload_n 0, 1) := by decide +kernel
theorem dX6_bid_9 : decode cX6_bid 9 = .ok (.iload_n 1, 1) := by decide +kernel
theorem dX6_bid_10 : decode cX6_bid 10 = .ok (.iload_n 3, 1) := by decide +kernel
theorem dX6_bid_11 : decode cX6_bid 11 = .ok (.invokevirtual 103, 3) := by decide +kernel
theorem dX6_bid_14 : decode cX6_bid 14 = .ok (.istore 4, 2) := by decide +kernel
theorem dX6_bid_16 : decode cX6_bid 16 = .ok (.iload 4, 2) := by decide +kernel
theorem dX6_bid_18 : decode cX6_bid 18 = .ok (.ifCond .ge 7, 3) := by decide +kernel
theorem dX6_bid_21 : decode cX6_bid 21 = .ok (.iconst 0, 1) := by decide +kernel
theorem dX6_bid_22 : decode cX6_bid 22 = .ok (.goto 17, 3) := by decide +kernel
theorem dX6_bid_25 : decode cX6_bid 25 = .ok (.aload_n 0, 1) := by decide +kernel
theorem dX6_bid_26 : decode cX6_bid 26 = .ok (.iload_n 1, 1) := by decide +kernel
theorem dX6_bid_27 : decode cX6_bid 27 = .ok (.iload_n 3, 1) := by decide +kernel
theorem dX6_bid_28 : decode cX6_bid 28 = .ok (.invokevirtual 100, 3) := by decide +kernel
theorem dX6_bid_31 : decode cX6_bid 31 = .ok (.aload_n 0, 1) := by decide +kernel
theorem dX6_bid_32 : decode cX6_bid 32 = .ok (.iload_n 1, 1) := by decide +kernel
theorem dX6_bid_33 : decode cX6_bid 33 = .ok (.iload 4, 2) := by decide +kernel
theorem dX6_bid_35 : decode cX6_bid 35 = .ok (.invokevirtual 100, 3) := by decide +kernel
theorem dX6_bid_38 : decode cX6_bid 38 = .ok (.isub, 1) := by decide +kernel
theorem dX6_bid_39 : decode cX6_bid 39 = .ok (.istore 5, 2) := by decide +kernel
theorem dX6_bid_41 : decode cX6_bid 41 = .ok (.aload_n 0, 1) := by decide +kernel
theorem dX6_bid_42 : decode cX6_bid 42 = .ok (.getfield 22, 3) := by decide +kernel
theorem dX6_bid_45 : decode cX6_bid 45 = .ok (.iload_n 3, 1) := by decide +kernel
theorem dX6_bid_46 : decode cX6_bid 46 = .ok (.dup2, 1) := by decide +kernel
theorem dX6_bid_47 : decode cX6_bid 47 = .ok (.iaload, 1) := by decide +kernel
theorem dX6_bid_48 : decode cX6_bid 48 = .ok (.iload 5, 2) := by decide +kernel
theorem dX6_bid_50 : decode cX6_bid 50 = .ok (.iload_n 2, 1) := by decide +kernel
theorem dX6_bid_51 : decode cX6_bid 51 = .ok (.iadd, 1) := by decide +kernel
theorem dX6_bid_52 : decode cX6_bid 52 = .ok (.iadd, 1) := by decide +kernel
theorem dX6_bid_53 : decode cX6_bid 53 = .ok (.iastore, 1) := by decide +kernel
theorem dX6_bid_54 : decode cX6_bid 54 = .ok (.aload_n 0, 1) := by decide +kernel
theorem dX6_bid_55 : decode cX6_bid 55 = .ok (.getfield 28, 3) := by decide +kernel
theorem dX6_bid_58 : decode cX6_bid 58 = .ok (.iload_n 3, 1) := by decide +kernel
theorem dX6_bid_59 : decode cX6_bid 59 = .ok (.iaload, 1) := by decide +kernel
theorem dX6_bid_60 : decode cX6_bid 60 = .ok (.ifCond .lt 16, 3) := by decide +kernel
theorem dX6_bid_63 : decode cX6_bid 63 = .ok (.aload_n 0, 1) := by decide +kernel
theorem dX6_bid_64 : decode cX6_bid 64 = .ok (.getfield 31, 3) := by decide +kernel
theorem dX6_bid_67 : decode cX6_bid 67 = .ok (.aload_n 0, 1) := by decide +kernel
theorem dX6_bid_68 : decode cX6_bid 68 = .ok (.getfield 28, 3) := by decide +kernel
theorem dX6_bid_71 : decode cX6_bid 71 = .ok (.iload_n 3, 1) := by decide +kernel
theorem dX6_bid_72 : decode cX6_bid 72 = .ok (.iaload, 1) := by decide +kernel
theorem dX6_bid_73 : decode cX6_bid 73 = .ok (.bipush (-6), 2) := by decide +kernel
theorem dX6_bid_75 : decode cX6_bid 75 = .ok (.iastore, 1) := by decide +kernel
theorem dX6_bid_76 : decode cX6_bid 76 = .ok (.aload_n 0, 1) := by decide +kernel
theorem dX6_bid_77 : decode cX6_bid 77 = .ok (.getfield 28, 3) := by decide +kernel
theorem dX6_bid_80 : decode cX6_bid 80 = .ok (.iload_n 3, 1) := by decide +kernel
theorem dX6_bid_81 : decode cX6_bid 81 = .ok (.iload_n 1, 1) := by decide +kernel
theorem dX6_bid_82 : decode cX6_bid 82 = .ok (.iastore, 1) := by decide +kernel
theorem dX6_bid_83 : decode cX6_bid 83 = .ok (.aload_n 0, 1) := by decide +kernel
theorem dX6_bid_84 : decode cX6_bid 84 = .ok (.getfield 31, 3) := by decide +kernel
theorem dX6_bid_87 : decode cX6_bid 87 = .ok (.iload_n 1, 1) := by decide +kernel
theorem dX6_bid_88 : decode cX6_bid 88 = .ok (.iload_n 3, 1) := by decide +kernel
theorem dX6_bid_89 : decode cX6_bid 89 = .ok (.iastore, 1) := by decide +kernel
theorem dX6_bid_90 : decode cX6_bid 90 = .ok (.return_, 1) := by decide +kernel
theorem dX6_firstFree_0 : decode cX6_firstFree 0 = .ok (.iconst 0, 1) := by decide +kernel
theorem dX6_firstFree_1 : decode cX6_firstFree 1 = .ok (.istore_n 1, 1) := by decide +kernel
theorem dX6_firstFree_2 : decode cX6_firstFree 2 = .ok (.iload_n 1, 1) := by decide +kernel
theorem dX6_firstFree_3 : decode cX6_firstFree 3 = .ok (.aload_n 0, 1) := by decide +kernel
theorem dX6_firstFree_4 : decode cX6_firstFree 4 = .ok (.getfield 7, 3) := by decide +kernel
theorem dX6_firstFree_7 : decode cX6_firstFree 7 = .ok (.iconst 4, 1) := by decide +kernel
theorem dX6_firstFree_8 : decode cX6_firstFree 8 = .ok (.iaload, 1) := by decide +kernel
theorem dX6_firstFree_9 : decode cX6_firstFree 9 = .ok (.if_icmp .ge 20, 3) := by decide +kernel
theorem dX6_firstFree_12 : decode cX6_firstFree 12 = .ok (.aload_n 0, 1) := by decide +kernel
theorem dX6_firstFree_13 : decode cX6_firstFree 13 = .ok (.getfield 31, 3) := by decide +kernel
theorem dX6_firstFree_16 : decode cX6_firstFree 16 = .ok (.iload_n 1, 1) := by decide +kernel
theorem dX6_firstFree_17 : decode cX6_firstFree 17 = .ok (.iaload, 1) := by decide +kernel
theorem dX6_firstFree_18 : decode cX6_firstFree 18 = .ok (.ifCond .ge 5, 3) := by decide +kernel
theorem dX6_firstFree_21 : decode cX6_firstFree 21 = .ok (.iload_n 1, 1) := by decide +kernel
theorem dX6_firstFree_22 : decode cX6_firstFree 22 = .ok (.ireturn, 1) := by decide +kernel
theorem dX6_firstFree_23 : decode cX6_firstFree 23 = .ok (.iinc 1 1, 3) := by decide +kernel
theorem dX6_firstFree_26 : decode cX6_firstFree 26 = .ok (.goto (-24), 3) := by decide +kernel
theorem dX6_firstFree_29 : decode cX6_firstFree 29 = .ok (.bipush (-6), 2) := by decide +kernel
theorem dX6_firstFree_31 : decode cX6_firstFree 31 = .ok (.ireturn, 1) := by decide +kernel
set_option maxRecDepth 20000 in
theorem ggX6_phaseOf_X6_firstFree : GoodIn wsX6_phaseOf wsX6_firstFree := goodIn_r _ [5, 6, 7, 33, 34, 35, 36, 37, 38, 39, 40, 41, 42, 43, 44, 45, 46, 47] (by decide +kernel) (by decide +kernel)
set_option maxRecDepth 20000 in
theorem gX6_phaseOf_X6_firstFree : GoodIn wsX6_phaseOf (wsV RX6 106 RX6 yX6_firstFree wsX6_firstFree) := goodIn_app (goodIn_of _ (by decide +kernel)) ggX6_phaseOf_X6_firstFree
set_option maxRecDepth 20000 in
theorem ggX6_phaseOf_X6_bid : GoodIn wsX6_phaseOf wsX6_bid := goodIn_r _ [11, 12, 13, 7, 14, 15, 16, 4, 17, 6, 18, 19, 20, 21, 22, 23, 24, 25, 26, 27, 28, 29, 30, 31, 32, 33, 34, 35, 36, 37, 38, 39, 40, 41, 42, 43, 44, 45, 46, 47] (by decide +kernel) (by decide +kernel)
set_option maxRecDepth 20000 in
theorem gX6_phaseOf_X6_bid : GoodIn wsX6_phaseOf (wsV RX6 109 RX6 yX6_bid wsX6_bid) := goodIn_app (goodIn_of _ (by decide +kernel)) ggX6_phaseOf_X6_bid
theorem dX6_phaseOf_0 : decode cX6_phaseOf 0 = .ok (.iconst 0, 1) := by decide +kernel
theorem dX6_phaseOf_1 : decode cX6_phaseOf 1 = .ok (.istore_n 2, 1) := by decide +kernel
theorem dX6_phaseOf_2 : decode cX6_phaseOf 2 = .ok (.aload_n 0, 1) := by decide +kernel
theorem dX6_phaseOf_3 : decode cX6_phaseOf 3 = .ok (.invokevirtual 106, 3) := by decide +kernel
theorem dX6_phaseOf_6 : decode cX6_phaseOf 6 = .ok (.istore_n 3, 1) := by decide +kernel
theorem dX6_phaseOf_7 : decode cX6_phaseOf 7 = .ok (.iload_n 3, 1) := by decide +kernel
theorem dX6_phaseOf_8 : decode cX6_phaseOf 8 = .ok (.ifCond .lt 20, 3) := by decide +kernel
theorem dX6_phaseOf_11 : decode cX6_phaseOf 11 = .ok (.aload_n 0, 1) := by decide +kernel
theorem dX6_phaseOf_12 : decode cX6_phaseOf 12 = .ok (.iload_n 3, 1) := by decide +kernel
theorem dX6_phaseOf_13 : decode cX6_phaseOf 13 = .ok (.iload_n 1, 1) := by decide +kernel
theorem dX6_phaseOf_14 : decode cX6_phaseOf 14 = .ok (.invokevirtual 109, 3) := by decide +kernel
theorem dX6_phaseOf_17 : decode cX6_phaseOf 17 = .ok (.iinc 2 1, 3) := by decide +kernel
theorem dX6_phaseOf_20 : decode cX6_phaseOf 20 = .ok (.aload_n 0, 1) := by decide +kernel
theorem dX6_phaseOf_21 : decode cX6_phaseOf 21 = .ok (.invokevirtual 106, 3) := by decide +kernel
theorem dX6_phaseOf_24 : decode cX6_phaseOf 24 = .ok (.istore_n 3, 1) := by decide +kernel
theorem dX6_phaseOf_25 : decode cX6_phaseOf 25 = .ok (.goto (-18), 3) := by decide +kernel
theorem dX6_phaseOf_28 : decode cX6_phaseOf 28 = .ok (.iload_n 2, 1) := by decide +kernel
theorem dX6_phaseOf_29 : decode cX6_phaseOf 29 = .ok (.ireturn, 1) := by decide +kernel
theorem dX6_freeAll_0 : decode cX6_freeAll 0 = .ok (.iconst 0, 1) := by decide +kernel
theorem dX6_freeAll_1 : decode cX6_freeAll 1 = .ok (.istore_n 1, 1) := by decide +kernel
theorem dX6_freeAll_2 : decode cX6_freeAll 2 = .ok (.iload_n 1, 1) := by decide +kernel
theorem dX6_freeAll_3 : decode cX6_freeAll 3 = .ok (.bipush 16, 2) := by decide +kernel
theorem dX6_freeAll_5 : decode cX6_freeAll 5 = .ok (.if_icmp .ge 25, 3) := by decide +kernel
theorem dX6_freeAll_8 : decode cX6_freeAll 8 = .ok (.aload_n 0, 1) := by decide +kernel
theorem dX6_freeAll_9 : decode cX6_freeAll 9 = .ok (.getfield 28, 3) := by decide +kernel
theorem dX6_freeAll_12 : decode cX6_freeAll 12 = .ok (.iload_n 1, 1) := by decide +kernel
theorem dX6_freeAll_13 : decode cX6_freeAll 13 = .ok (.bipush (-6), 2) := by decide +kernel
theorem dX6_freeAll_15 : decode cX6_freeAll 15 = .ok (.iastore, 1) := by decide +kernel
theorem dX6_freeAll_16 : decode cX6_freeAll 16 = .ok (.aload_n 0, 1) := by decide +kernel
theorem dX6_freeAll_17 : decode cX6_freeAll 17 = .ok (.getfield 31, 3) := by decide +kernel
theorem dX6_freeAll_20 : decode cX6_freeAll 20 = .ok (.iload_n 1, 1) := by decide +kernel
theorem dX6_freeAll_21 : decode cX6_freeAll 21 = .ok (.bipush (-6), 2) := by decide +kernel
theorem dX6_freeAll_23 : decode cX6_freeAll 23 = .ok (.iastore, 1) := by decide +kernel
theorem dX6_freeAll_24 : decode cX6_freeAll 24 = .ok (.iinc 1 1, 3) := by decide +kernel
theorem dX6_freeAll_27 : decode cX6_freeAll 27 = .ok (.goto (-25), 3) := by decide +kernel
theorem dX6_freeAll_30 : decode cX6_freeAll 30 = .ok (.return_, 1) := by decide +kernel
set_option maxRecDepth 20000 in
theorem ggX6_sumOf_X6_cells : GoodIn wsX6_sumOf wsX6_cells := goodIn_r _ [9, 10, 15, 16, 17, 18, 19, 20, 21, 22, 23, 24, 25, 26, 27, 28, 29] (by decide +kernel) (by decide +kernel)
set_option maxRecDepth 20000 in
theorem gX6_sumOf_X6_cells : GoodIn wsX6_sumOf (wsV RX6 80 RX6 yX6_cells wsX6_cells) := goodIn_app (goodIn_of _ (by decide +kernel)) ggX6_sumOf_X6_cells
set_option maxRecDepth 20000 in
theorem ggX6_sumOf_X6_differenceOf : GoodIn wsX6_sumOf wsX6_differenceOf := goodIn_r _ [14, 10, 15, 16, 17, 18, 19, 20, 21, 22, 23, 24, 25, 26, 27, 28, 29] (by decide +kernel) (by decide +kernel)
set_option maxRecDepth 20000 in
theorem gX6_sumOf_X6_differenceOf : GoodIn wsX6_sumOf (wsV RX6 96 RX6 yX6_differenceOf wsX6_differenceOf) := goodIn_app (goodIn_of _ (by decide +kernel)) ggX6_sumOf_X6_differenceOf
theorem dX6_sumOf_0 : decode cX6_sumOf 0 = .ok (.iconst 0, 1) := by decide +kernel
theorem dX6_sumOf_1 : decode cX6_sumOf 1 = .ok (.istore_n 1, 1) := by decide +kernel
theorem dX6_sumOf_2 : decode cX6_sumOf 2 = .ok (.iconst 0, 1) := by decide +kernel
theorem dX6_sumOf_3 : decode cX6_sumOf 3 = .ok (.istore_n 2, 1) := by decide +kernel
theorem dX6_sumOf_4 : decode cX6_sumOf 4 = .ok (.iload_n 2, 1) := by decide +kernel
theorem dX6_sumOf_5 : decode cX6_sumOf 5 = .ok (.aload_n 0, 1) := by decide +kernel
theorem dX6_sumOf_6 : decode cX6_sumOf 6 = .ok (.invokevirtual 80, 3) := by decide +kernel
theorem dX6_sumOf_9 : decode cX6_sumOf 9 = .ok (.if_icmp .ge 38, 3) := by decide +kernel
theorem dX6_sumOf_12 : decode cX6_sumOf 12 = .ok (.iload_n 1, 1) := by decide +kernel
theorem dX6_sumOf_13 : decode cX6_sumOf 13 = .ok (.aload_n 0, 1) := by decide +kernel
theorem dX6_sumOf_14 : decode cX6_sumOf 14 = .ok (.aload_n 0, 1) := by decide +kernel
theorem dX6_sumOf_15 : decode cX6_sumOf 15 = .ok (.getfield 19, 3) := by decide +kernel
theorem dX6_sumOf_18 : decode cX6_sumOf 18 = .ok (.iload_n 2, 1) := by decide +kernel
theorem dX6_sumOf_19 : decode cX6_sumOf 19 = .ok (.iaload, 1) := by decide +kernel
theorem dX6_sumOf_20 : decode cX6_sumOf 20 = .ok (.aload_n 0, 1) := by decide +kernel
theorem dX6_sumOf_21 : decode cX6_sumOf 21 = .ok (.getfield 13, 3) := by decide +kernel
theorem dX6_sumOf_24 : decode cX6_sumOf 24 = .ok (.aload_n 0, 1) := by decide +kernel
theorem dX6_sumOf_25 : decode cX6_sumOf 25 = .ok (.getfield 25, 3) := by decide +kernel
theorem dX6_sumOf_28 : decode cX6_sumOf 28 = .ok (.aload_n 0, 1) := by decide +kernel
theorem dX6_sumOf_29 : decode cX6_sumOf 29 = .ok (.getfield 31, 3) := by decide +kernel
theorem dX6_sumOf_32 : decode cX6_sumOf 32 = .ok (.iload_n 2, 1) := by decide +kernel
theorem dX6_sumOf_33 : decode cX6_sumOf 33 = .ok (.iaload, 1) := by decide +kernel
theorem dX6_sumOf_34 : decode cX6_sumOf 34 = .ok (.iaload, 1) := by decide +kernel
theorem dX6_sumOf_35 : decode cX6_sumOf 35 = .ok (.iaload, 1) := by decide +kernel
theorem dX6_sumOf_36 : decode cX6_sumOf 36 = .ok (.invokevirtual 96, 3) := by decide +kernel
theorem dX6_sumOf_39 : decode cX6_sumOf 39 = .ok (.iadd, 1) := by decide +kernel
theorem dX6_sumOf_40 : decode cX6_sumOf 40 = .ok (.istore_n 1, 1) := by decide +kernel
theorem dX6_sumOf_41 : decode cX6_sumOf 41 = .ok (.iinc 2 1, 3) := by decide +kernel
theorem dX6_sumOf_44 : decode cX6_sumOf 44 = .ok (.goto (-40), 3) := by decide +kernel
theorem dX6_sumOf_47 : decode cX6_sumOf 47 = .ok (.iload_n 1, 1) := by decide +kernel
theorem dX6_sumOf_48 : decode cX6_sumOf 48 = .ok (.ireturn, 1) := by decide +kernel
set_option maxRecDepth 20000 in
theorem ggX6_greatest_X6_cells : GoodIn wsX6_greatest wsX6_cells := goodIn_r _ [7, 8, 17, 18, 19, 20, 21, 22, 23, 24, 25, 26, 27, 28, 29, 30, 31] (by decide +kernel) (by decide +kernel)
set_option maxRecDepth 20000 in
theorem gX6_greatest_X6_cells : GoodIn wsX6_greatest (wsV RX6 80 RX6 yX6_cells wsX6_cells) := goodIn_app (goodIn_of _ (by decide +kernel)) ggX6_greatest_X6_cells
set_option maxRecDepth 20000 in
theorem ggX6_greatest_X6_kinds : GoodIn wsX6_greatest wsX6_kinds := goodIn_r _ [12, 8, 17, 18, 19, 20, 21, 22, 23, 24, 25, 26, 27, 28, 29, 30, 31] (by decide +kernel) (by decide +kernel)
set_option maxRecDepth 20000 in
theorem gX6_greatest_X6_kinds : GoodIn wsX6_greatest (wsV RX6 63 RX6 yX6_kinds wsX6_kinds) := goodIn_app (goodIn_of _ (by decide +kernel)) ggX6_greatest_X6_kinds
set_option maxRecDepth 20000 in
theorem ggX6_greatest_X6_differenceOf : GoodIn wsX6_greatest wsX6_differenceOf := goodIn_r _ [16, 8, 17, 18, 19, 20, 21, 22, 23, 24, 25, 26, 27, 28, 29, 30, 31] (by decide +kernel) (by decide +kernel)
set_option maxRecDepth 20000 in
theorem gX6_greatest_X6_differenceOf : GoodIn wsX6_greatest (wsV RX6 96 RX6 yX6_differenceOf wsX6_differenceOf) := goodIn_app (goodIn_of _ (by decide +kernel)) ggX6_greatest_X6_differenceOf
theorem dX6_greatest_0 : decode cX6_greatest 0 = .ok (.iconst 0, 1) := by decide +kernel
theorem dX6_greatest_1 : decode cX6_greatest 1 = .ok (.istore_n 1, 1) := by decide +kernel
theorem dX6_greatest_2 : decode cX6_greatest 2 = .ok (.iconst 0, 1) := by decide +kernel
theorem dX6_greatest_3 : decode cX6_greatest 3 = .ok (.istore_n 2, 1) := by decide +kernel
theorem dX6_greatest_4 : decode cX6_greatest 4 = .ok (.iload_n 2, 1) := by decide +kernel
theorem dX6_greatest_5 : decode cX6_greatest 5 = .ok (.aload_n 0, 1) := by decide +kernel
theorem dX6_greatest_6 : decode cX6_greatest 6 = .ok (.invokevirtual 80, 3) := by decide +kernel
theorem dX6_greatest_9 : decode cX6_greatest 9 = .ok (.if_icmp .ge 56, 3) := by decide +kernel
theorem dX6_greatest_12 : decode cX6_greatest 12 = .ok (.iconst 0, 1) := by decide +kernel
theorem dX6_greatest_13 : decode cX6_greatest 13 = .ok (.istore_n 3, 1) := by decide +kernel
theorem dX6_greatest_14 : decode cX6_greatest 14 = .ok (.iload_n 3, 1) := by decide +kernel
theorem dX6_greatest_15 : decode cX6_greatest 15 = .ok (.aload_n 0, 1) := by decide +kernel
theorem dX6_greatest_16 : decode cX6_greatest 16 = .ok (.invokevirtual 63, 3) := by decide +kernel
theorem dX6_greatest_19 : decode cX6_greatest 19 = .ok (.if_icmp .ge 40, 3) := by decide +kernel
theorem dX6_greatest_22 : decode cX6_greatest 22 = .ok (.aload_n 0, 1) := by decide +kernel
theorem dX6_greatest_23 : decode cX6_greatest 23 = .ok (.aload_n 0, 1) := by decide +kernel
theorem dX6_greatest_24 : decode cX6_greatest 24 = .ok (.getfield 19, 3) := by decide +kernel
theorem dX6_greatest_27 : decode cX6_greatest 27 = .ok (.iload_n 2, 1) := by decide +kernel
theorem dX6_greatest_28 : decode cX6_greatest 28 = .ok (.iaload, 1) := by decide +kernel
theorem dX6_greatest_29 : decode cX6_greatest 29 = .ok (.aload_n 0, 1) := by decide +kernel
theorem dX6_greatest_30 : decode cX6_greatest 30 = .ok (.getfield 13, 3) := by decide +kernel
theorem dX6_greatest_33 : decode cX6_greatest 33 = .ok (.iload_n 3, 1) := by decide +kernel
theorem dX6_greatest_34 : decode cX6_greatest 34 = .ok (.iaload, 1) := by decide +kernel
theorem dX6_greatest_35 : decode cX6_greatest 35 = .ok (.invokevirtual 96, 3) := by decide +kernel
theorem dX6_greatest_38 : decode cX6_greatest 38 = .ok (.istore 4, 2) := by decide +kernel
theorem dX6_greatest_40 : decode cX6_greatest 40 = .ok (.iload 4, 2) := by decide +kernel
theorem dX6_greatest_42 : decode cX6_greatest 42 = .ok (.iload_n 1, 1) := by decide +kernel
theorem dX6_greatest_43 : decode cX6_greatest 43 = .ok (.if_icmp .le 8, 3) := by decide +kernel
theorem dX6_greatest_46 : decode cX6_greatest 46 = .ok (.iload 4, 2) := by decide +kernel
theorem dX6_greatest_48 : decode cX6_greatest 48 = .ok (.goto 4, 3) := by decide +kernel
theorem dX6_greatest_51 : decode cX6_greatest 51 = .ok (.iload_n 1, 1) := by decide +kernel
theorem dX6_greatest_52 : decode cX6_greatest 52 = .ok (.istore_n 1, 1) := by decide +kernel
theorem dX6_greatest_53 : decode cX6_greatest 53 = .ok (.iinc 3 1, 3) := by decide +kernel
theorem dX6_greatest_56 : decode cX6_greatest 56 = .ok (.goto (-42), 3) := by decide +kernel
theorem dX6_greatest_59 : decode cX6_greatest 59 = .ok (.iinc 2 1, 3) := by decide +kernel
theorem dX6_greatest_62 : decode cX6_greatest 62 = .ok (.goto (-58), 3) := by decide +kernel
theorem dX6_greatest_65 : decode cX6_greatest 65 = .ok (.iload_n 1, 1) := by decide +kernel
theorem dX6_greatest_66 : decode cX6_greatest 66 = .ok (.ireturn, 1) := by decide +kernel
theorem dX6_oneAtLeast_0 : decode cX6_oneAtLeast 0 = .ok (.iload_n 0, 1) := by decide +kernel
theorem dX6_oneAtLeast_1 : decode cX6_oneAtLeast 1 = .ok (.iconst 1, 1) := by decide +kernel
theorem dX6_oneAtLeast_2 : decode cX6_oneAtLeast 2 = .ok (.if_icmp .ge 7, 3) := by decide +kernel
theorem dX6_oneAtLeast_5 : decode cX6_oneAtLeast 5 = .ok (.iconst 1, 1) := by decide +kernel
theorem dX6_oneAtLeast_6 : decode cX6_oneAtLeast 6 = .ok (.goto 4, 3) := by decide +kernel
theorem dX6_oneAtLeast_9 : decode cX6_oneAtLeast 9 = .ok (.iload_n 0, 1) := by decide +kernel
theorem dX6_oneAtLeast_10 : decode cX6_oneAtLeast 10 = .ok (.ireturn, 1) := by decide +kernel
set_option maxRecDepth 20000 in
theorem ggX6_laySlots_X6_kinds : GoodIn wsX6_laySlots wsX6_kinds := goodIn_r _ [9, 3, 10, 11, 12, 13, 14, 15, 16, 17, 18, 19, 20, 21, 22, 23, 24] (by decide +kernel) (by decide +kernel)
set_option maxRecDepth 20000 in
theorem gX6_laySlots_X6_kinds : GoodIn wsX6_laySlots (wsV RX6 63 RX6 yX6_kinds wsX6_kinds) := goodIn_app (goodIn_of _ (by decide +kernel)) ggX6_laySlots_X6_kinds
theorem dX6_laySlots_0 : decode cX6_laySlots 0 = .ok (.iconst 0, 1) := by decide +kernel
theorem dX6_laySlots_1 : decode cX6_laySlots 1 = .ok (.istore_n 1, 1) := by decide +kernel
theorem dX6_laySlots_2 : decode cX6_laySlots 2 = .ok (.iconst 0, 1) := by decide +kernel
theorem dX6_laySlots_3 : decode cX6_laySlots 3 = .ok (.istore_n 2, 1) := by decide +kernel
theorem dX6_laySlots_4 : decode cX6_laySlots 4 = .ok (.iload_n 2, 1) := by decide +kernel
theorem dX6_laySlots_5 : decode cX6_laySlots 5 = .ok (.aload_n 0, 1) := by decide +kernel
theorem dX6_laySlots_6 : decode cX6_laySlots 6 = .ok (.invokevirtual 63, 3) := by decide +kernel
theorem dX6_laySlots_9 : decode cX6_laySlots 9 = .ok (.if_icmp .ge 37, 3) := by decide +kernel
theorem dX6_laySlots_12 : decode cX6_laySlots 12 = .ok (.iconst 0, 1) := by decide +kernel
theorem dX6_laySlots_13 : decode cX6_laySlots 13 = .ok (.istore_n 3, 1) := by decide +kernel
theorem dX6_laySlots_14 : decode cX6_laySlots 14 = .ok (.iload_n 3, 1) := by decide +kernel
theorem dX6_laySlots_15 : decode cX6_laySlots 15 = .ok (.aload_n 0, 1) := by decide +kernel
theorem dX6_laySlots_16 : decode cX6_laySlots 16 = .ok (.getfield 16, 3) := by decide +kernel
theorem dX6_laySlots_19 : decode cX6_laySlots 19 = .ok (.iload_n 2, 1) := by decide +kernel
theorem dX6_laySlots_20 : decode cX6_laySlots 20 = .ok (.iaload, 1) := by decide +kernel
theorem dX6_laySlots_21 : decode cX6_laySlots 21 = .ok (.if_icmp .ge 19, 3) := by decide +kernel
theorem dX6_laySlots_24 : decode cX6_laySlots 24 = .ok (.aload_n 0, 1) := by decide +kernel
theorem dX6_laySlots_25 : decode cX6_laySlots 25 = .ok (.getfield 25, 3) := by decide +kernel
theorem dX6_laySlots_28 : decode cX6_laySlots 28 = .ok (.iload_n 1, 1) := by decide +kernel
theorem dX6_laySlots_29 : decode cX6_laySlots 29 = .ok (.iload_n 2, 1) := by decide +kernel
theorem dX6_laySlots_30 : decode cX6_laySlots 30 = .ok (.iastore, 1) := by decide +kernel
theorem dX6_laySlots_31 : decode cX6_laySlots 31 = .ok (.iinc 1 1, 3) := by decide +kernel
theorem dX6_laySlots_34 : decode cX6_laySlots 34 = .ok (.iinc 3 1, 3) := by decide +kernel
theorem dX6_laySlots_37 : decode cX6_laySlots 37 = .ok (.goto (-23), 3) := by decide +kernel
theorem dX6_laySlots_40 : decode cX6_laySlots 40 = .ok (.iinc 2 1, 3) := by decide +kernel
theorem dX6_laySlots_43 : decode cX6_laySlots 43 = .ok (.goto (-39), 3) := by decide +kernel
theorem dX6_laySlots_46 : decode cX6_laySlots 46 = .ok (.aload_n 0, 1) := by decide +kernel
theorem dX6_laySlots_47 : decode cX6_laySlots 47 = .ok (.getfield 7, 3) := by decide +kernel
theorem dX6_laySlots_50 : decode cX6_laySlots 50 = .ok (.iconst 4, 1) := by decide +kernel
theorem dX6_laySlots_51 : decode cX6_laySlots 51 = .ok (.iload_n 1, 1) := by decide +kernel
theorem dX6_laySlots_52 : decode cX6_laySlots 52 = .ok (.iastore, 1) := by decide +kernel
theorem dX6_laySlots_53 : decode cX6_laySlots 53 = .ok (.iconst 0, 1) := by decide +kernel
theorem dX6_laySlots_54 : decode cX6_laySlots 54 = .ok (.istore_n 2, 1) := by decide +kernel
theorem dX6_laySlots_55 : decode cX6_laySlots 55 = .ok (.iload_n 2, 1) := by decide +kernel
theorem dX6_laySlots_56 : decode cX6_laySlots 56 = .ok (.bipush 16, 2) := by decide +kernel
theorem dX6_laySlots_58 : decode cX6_laySlots 58 = .ok (.if_icmp .ge 16, 3) := by decide +kernel
theorem dX6_laySlots_61 : decode cX6_laySlots 61 = .ok (.aload_n 0, 1) := by decide +kernel
theorem dX6_laySlots_62 : decode cX6_laySlots 62 = .ok (.getfield 22, 3) := by decide +kernel
theorem dX6_laySlots_65 : decode cX6_laySlots 65 = .ok (.iload_n 2, 1) := by decide +kernel
theorem dX6_laySlots_66 : decode cX6_laySlots 66 = .ok (.iconst 0, 1) := by decide +kernel
theorem dX6_laySlots_67 : decode cX6_laySlots 67 = .ok (.iastore, 1) := by decide +kernel
theorem dX6_laySlots_68 : decode cX6_laySlots 68 = .ok (.iinc 2 1, 3) := by decide +kernel
theorem dX6_laySlots_71 : decode cX6_laySlots 71 = .ok (.goto (-16), 3) := by decide +kernel
theorem dX6_laySlots_74 : decode cX6_laySlots 74 = .ok (.return_, 1) := by decide +kernel
set_option maxRecDepth 20000 in
theorem ggX6_auction_X6_stocks : GoodIn wsX6_auction wsX6_stocks := goodIn_r _ [9, 10, 11, 12, 13, 8, 14, 1, 68, 69, 70, 71, 72, 73, 74, 75, 76, 77, 78, 79, 80, 81, 82] (by decide +kernel) (by decide +kernel)
set_option maxRecDepth 20000 in
theorem gX6_auction_X6_stocks : GoodIn wsX6_auction (wsV RX6 77 RX6 yX6_stocks wsX6_stocks) := goodIn_app (goodIn_of _ (by decide +kernel)) ggX6_auction_X6_stocks
set_option maxRecDepth 20000 in
theorem ggX6_auction_X6_cells : GoodIn wsX6_auction wsX6_cells := goodIn_r _ [18, 1, 68, 69, 70, 71, 72, 73, 74, 75, 76, 77, 78, 79, 80, 81, 82] (by decide +kernel) (by decide +kernel)
set_option maxRecDepth 20000 in
theorem gX6_auction_X6_cells : GoodIn wsX6_auction (wsV RX6 80 RX6 yX6_cells wsX6_cells) := goodIn_app (goodIn_of _ (by decide +kernel)) ggX6_auction_X6_cells
set_option maxRecDepth 20000 in
theorem ggX6_auction_X6_laySlots : GoodIn wsX6_auction wsX6_laySlots := goodIn_r _ [22, 10, 23, 1, 24, 11, 12, 13, 8, 14, 68, 69, 70, 71, 72, 73, 74, 75, 76, 77, 78, 79, 80, 81, 82] (by decide +kernel) (by decide +kernel)
set_option maxRecDepth 20000 in
theorem gX6_auction_X6_laySlots : GoodIn wsX6_auction (wsV RX6 113 RX6 yX6_laySlots wsX6_laySlots) := goodIn_app (goodIn_of _ (by decide +kernel)) ggX6_auction_X6_laySlots
set_option maxRecDepth 20000 in
theorem ggX6_auction_X6_greatest : GoodIn wsX6_auction wsX6_greatest := goodIn_r _ [28, 29, 30, 15, 16, 17, 8, 18, 1, 11, 12, 13, 14, 31, 32, 33, 34, 68, 69, 70, 71, 72, 73, 74, 75, 76, 77, 78, 79, 80, 81, 82] (by decide +kernel) (by decide +kernel)
set_option maxRecDepth 20000 in
theorem gX6_auction_X6_greatest : GoodIn wsX6_auction (wsV RX6 116 RX6 yX6_greatest wsX6_greatest) := goodIn_app (goodIn_of _ (by decide +kernel)) ggX6_auction_X6_greatest
set_option maxRecDepth 20000 in
theorem ggX6_auction_X6_oneAtLeast : GoodIn wsX6_auction wsX6_oneAtLeast := goodIn_r _ [37] (by decide +kernel) (by decide +kernel)
set_option maxRecDepth 20000 in
theorem gX6_auction_X6_oneAtLeast : GoodIn wsX6_auction (va_wsS RX6 119 yX6_oneAtLeast wsX6_oneAtLeast) := goodIn_app (goodIn_of _ (by decide +kernel)) ggX6_auction_X6_oneAtLeast
set_option maxRecDepth 20000 in
theorem ggX6_auction_X6_freeAll : GoodIn wsX6_auction wsX6_freeAll := goodIn_r _ [41, 42, 43, 68, 69, 70, 71, 72, 73, 74, 75, 76, 77, 78, 79, 80, 81, 82] (by decide +kernel) (by decide +kernel)
set_option maxRecDepth 20000 in
theorem gX6_auction_X6_freeAll : GoodIn wsX6_auction (wsV RX6 122 RX6 yX6_freeAll wsX6_freeAll) := goodIn_app (goodIn_of _ (by decide +kernel)) ggX6_auction_X6_freeAll
set_option maxRecDepth 20000 in
theorem ggX6_auction_X6_phaseOf : GoodIn wsX6_auction wsX6_phaseOf := goodIn_r _ [47, 48, 49, 50, 8, 51, 1, 43, 52, 53, 54, 55, 24, 42, 56, 57, 58, 59, 60, 61, 62, 63, 29, 30, 23, 15, 16, 17, 18, 31, 32, 33, 34, 68, 69, 70, 71, 72, 73, 74, 75, 76, 77, 78, 79, 80, 81, 82] (by decide +kernel) (by decide +kernel)
set_option maxRecDepth 20000 in
theorem gX6_auction_X6_phaseOf : GoodIn wsX6_auction (wsV RX6 125 RX6 yX6_phaseOf wsX6_phaseOf) := goodIn_app (goodIn_of _ (by decide +kernel)) ggX6_auction_X6_phaseOf
set_option maxRecDepth 20000 in
theorem ggX6_auction_X6_sumOf : GoodIn wsX6_auction wsX6_sumOf := goodIn_r _ [67, 29, 30, 23, 43, 15, 16, 17, 8, 18, 1, 31, 32, 33, 34, 68, 69, 70, 71, 72, 73, 74, 75, 76, 77, 78, 79, 80, 81, 82] (by decide +kernel) (by decide +kernel)
set_option maxRecDepth 20000 in
theorem gX6_auction_X6_sumOf : GoodIn wsX6_auction (wsV RX6 128 RX6 yX6_sumOf wsX6_sumOf) := goodIn_app (goodIn_of _ (by decide +kernel)) ggX6_auction_X6_sumOf
theorem dX6_auction_0 : decode cX6_auction 0 = .ok (.aload_n 0, 1) := by decide +kernel
theorem dX6_auction_1 : decode cX6_auction 1 = .ok (.invokevirtual 77, 3) := by decide +kernel
theorem dX6_auction_4 : decode cX6_auction 4 = .ok (.ifCond .eq 14, 3) := by decide +kernel
theorem dX6_auction_7 : decode cX6_auction 7 = .ok (.aload_n 0, 1) := by decide +kernel
theorem dX6_auction_8 : decode cX6_auction 8 = .ok (.invokevirtual 77, 3) := by decide +kernel
theorem dX6_auction_11 : decode cX6_auction 11 = .ok (.aload_n 0, 1) := by decide +kernel
theorem dX6_auction_12 : decode cX6_auction 12 = .ok (.invokevirtual 80, 3) := by decide +kernel
theorem dX6_auction_15 : decode cX6_auction 15 = .ok (.if_icmp .ge 6, 3) := by decide +kernel
theorem dX6_auction_18 : decode cX6_auction 18 = .ok (.bipush (-5), 2) := by decide +kernel
theorem dX6_auction_20 : decode cX6_auction 20 = .ok (.ireturn, 1) := by decide +kernel
theorem dX6_auction_21 : decode cX6_auction 21 = .ok (.aload_n 0, 1) := by decide +kernel
theorem dX6_auction_22 : decode cX6_auction 22 = .ok (.invokevirtual 113, 3) := by decide +kernel
theorem dX6_auction_25 : decode cX6_auction 25 = .ok (.aload_n 0, 1) := by decide +kernel
theorem dX6_auction_26 : decode cX6_auction 26 = .ok (.getfield 7, 3) := by decide +kernel
theorem dX6_auction_29 : decode cX6_auction 29 = .ok (.bipush 7, 2) := by decide +kernel
theorem dX6_auction_31 : decode cX6_auction 31 = .ok (.iconst 0, 1) := by decide +kernel
theorem dX6_auction_32 : decode cX6_auction 32 = .ok (.iastore, 1) := by decide +kernel
theorem dX6_auction_33 : decode cX6_auction 33 = .ok (.aload_n 0, 1) := by decide +kernel
theorem dX6_auction_34 : decode cX6_auction 34 = .ok (.getfield 7, 3) := by decide +kernel
theorem dX6_auction_37 : decode cX6_auction 37 = .ok (.bipush 8, 2) := by decide +kernel
theorem dX6_auction_39 : decode cX6_auction 39 = .ok (.iconst 0, 1) := by decide +kernel
theorem dX6_auction_40 : decode cX6_auction 40 = .ok (.iastore, 1) := by decide +kernel
theorem dX6_auction_41 : decode cX6_auction 41 = .ok (.aload_n 0, 1) := by decide +kernel
theorem dX6_auction_42 : decode cX6_auction 42 = .ok (.invokevirtual 116, 3) := by decide +kernel
theorem dX6_auction_45 : decode cX6_auction 45 = .ok (.aload_n 0, 1) := by decide +kernel
theorem dX6_auction_46 : decode cX6_auction 46 = .ok (.getfield 7, 3) := by decide +kernel
theorem dX6_auction_49 : decode cX6_auction 49 = .ok (.iconst 4, 1) := by decide +kernel
theorem dX6_auction_50 : decode cX6_auction 50 = .ok (.iaload, 1) := by decide +kernel
theorem dX6_auction_51 : decode cX6_auction 51 = .ok (.iconst 1, 1) := by decide +kernel
theorem dX6_auction_52 : decode cX6_auction 52 = .ok (.iadd, 1) := by decide +kernel
theorem dX6_auction_53 : decode cX6_auction 53 = .ok (.imul, 1) := by decide +kernel
theorem dX6_auction_54 : decode cX6_auction 54 = .ok (.iconst 4, 1) := by decide +kernel
theorem dX6_auction_55 : decode cX6_auction 55 = .ok (.idiv, 1) := by decide +kernel
theorem dX6_auction_56 : decode cX6_auction 56 = .ok (.invokestatic 119, 3) := by decide +kernel
theorem dX6_auction_59 : decode cX6_auction 59 = .ok (.istore_n 1, 1) := by decide +kernel
theorem dX6_auction_60 : decode cX6_auction 60 = .ok (.iconst 1, 1) := by decide +kernel
theorem dX6_auction_61 : decode cX6_auction 61 = .ok (.istore_n 2, 1) := by decide +kernel
theorem dX6_auction_62 : decode cX6_auction 62 = .ok (.iload_n 2, 1) := by decide +kernel
theorem dX6_auction_63 : decode cX6_auction 63 = .ok (.ifCond .eq 112, 3) := by decide +kernel
theorem dX6_auction_66 : decode cX6_auction 66 = .ok (.aload_n 0, 1) := by decide +kernel
theorem dX6_auction_67 : decode cX6_auction 67 = .ok (.invokevirtual 122, 3) := by decide +kernel
theorem dX6_auction_70 : decode cX6_auction 70 = .ok (.aload_n 0, 1) := by decide +kernel
theorem dX6_auction_71 : decode cX6_auction 71 = .ok (.getfield 34, 3) := by decide +kernel
theorem dX6_auction_74 : decode cX6_auction 74 = .ok (.aload_n 0, 1) := by decide +kernel
theorem dX6_auction_75 : decode cX6_auction 75 = .ok (.getfield 7, 3) := by decide +kernel
theorem dX6_auction_78 : decode cX6_auction 78 = .ok (.bipush 7, 2) := by decide +kernel
theorem dX6_auction_80 : decode cX6_auction 80 = .ok (.iaload, 1) := by decide +kernel
theorem dX6_auction_81 : decode cX6_auction 81 = .ok (.iload_n 1, 1) := by decide +kernel
theorem dX6_auction_82 : decode cX6_auction 82 = .ok (.iastore, 1) := by decide +kernel
theorem dX6_auction_83 : decode cX6_auction 83 = .ok (.aload_n 0, 1) := by decide +kernel
theorem dX6_auction_84 : decode cX6_auction 84 = .ok (.getfield 37, 3) := by decide +kernel
theorem dX6_auction_87 : decode cX6_auction 87 = .ok (.aload_n 0, 1) := by decide +kernel
theorem dX6_auction_88 : decode cX6_auction 88 = .ok (.getfield 7, 3) := by decide +kernel
theorem dX6_auction_91 : decode cX6_auction 91 = .ok (.bipush 7, 2) := by decide +kernel
theorem dX6_auction_93 : decode cX6_auction 93 = .ok (.iaload, 1) := by decide +kernel
theorem dX6_auction_94 : decode cX6_auction 94 = .ok (.aload_n 0, 1) := by decide +kernel
theorem dX6_auction_95 : decode cX6_auction 95 = .ok (.iload_n 1, 1) := by decide +kernel
theorem dX6_auction_96 : decode cX6_auction 96 = .ok (.invokevirtual 125, 3) := by decide +kernel
theorem dX6_auction_99 : decode cX6_auction 99 = .ok (.iastore, 1) := by decide +kernel
theorem dX6_auction_100 : decode cX6_auction 100 = .ok (.aload_n 0, 1) := by decide +kernel
theorem dX6_auction_101 : decode cX6_auction 101 = .ok (.getfield 40, 3) := by decide +kernel
theorem dX6_auction_104 : decode cX6_auction 104 = .ok (.aload_n 0, 1) := by decide +kernel
theorem dX6_auction_105 : decode cX6_auction 105 = .ok (.getfield 7, 3) := by decide +kernel
theorem dX6_auction_108 : decode cX6_auction 108 = .ok (.bipush 7, 2) := by decide +kernel
theorem dX6_auction_110 : decode cX6_auction 110 = .ok (.iaload, 1) := by decide +kernel
theorem dX6_auction_111 : decode cX6_auction 111 = .ok (.aload_n 0, 1) := by decide +kernel
theorem dX6_auction_112 : decode cX6_auction 112 = .ok (.invokevirtual 128, 3) := by decide +kernel
theorem dX6_auction_115 : decode cX6_auction 115 = .ok (.iastore, 1) := by decide +kernel
theorem dX6_auction_116 : decode cX6_auction 116 = .ok (.aload_n 0, 1) := by decide +kernel
theorem dX6_auction_117 : decode cX6_auction 117 = .ok (.getfield 7, 3) := by decide +kernel
theorem dX6_auction_120 : decode cX6_auction 120 = .ok (.bipush 8, 2) := by decide +kernel
theorem dX6_auction_122 : decode cX6_auction 122 = .ok (.dup2, 1) := by decide +kernel
theorem dX6_auction_123 : decode cX6_auction 123 = .ok (.iaload, 1) := by decide +kernel
theorem dX6_auction_124 : decode cX6_auction 124 = .ok (.aload_n 0, 1) := by decide +kernel
theorem dX6_auction_125 : decode cX6_auction 125 = .ok (.getfield 37, 3) := by decide +kernel
theorem dX6_auction_128 : decode cX6_auction 128 = .ok (.aload_n 0, 1) := by decide +kernel
theorem dX6_auction_129 : decode cX6_auction 129 = .ok (.getfield 7, 3) := by decide +kernel
theorem dX6_auction_132 : decode cX6_auction 132 = .ok (.bipush 7, 2) := by decide +kernel
theorem dX6_auction_134 : decode cX6_auction 134 = .ok (.iaload, 1) := by decide +kernel
theorem dX6_auction_135 : decode cX6_auction 135 = .ok (.iaload, 1) := by decide +kernel
theorem dX6_auction_136 : decode cX6_auction 136 = .ok (.iadd, 1) := by decide +kernel
theorem dX6_auction_137 : decode cX6_auction 137 = .ok (.iastore, 1) := by decide +kernel
theorem dX6_auction_138 : decode cX6_auction 138 = .ok (.aload_n 0, 1) := by decide +kernel
theorem dX6_auction_139 : decode cX6_auction 139 = .ok (.getfield 7, 3) := by decide +kernel
theorem dX6_auction_142 : decode cX6_auction 142 = .ok (.bipush 7, 2) := by decide +kernel
theorem dX6_auction_144 : decode cX6_auction 144 = .ok (.dup2, 1) := by decide +kernel
theorem dX6_auction_145 : decode cX6_auction 145 = .ok (.iaload, 1) := by decide +kernel
theorem dX6_auction_146 : decode cX6_auction 146 = .ok (.iconst 1, 1) := by decide +kernel
theorem dX6_auction_147 : decode cX6_auction 147 = .ok (.iadd, 1) := by decide +kernel
theorem dX6_auction_148 : decode cX6_auction 148 = .ok (.iastore, 1) := by decide +kernel
theorem dX6_auction_149 : decode cX6_auction 149 = .ok (.iload_n 1, 1) := by decide +kernel
theorem dX6_auction_150 : decode cX6_auction 150 = .ok (.iconst 1, 1) := by decide +kernel
theorem dX6_auction_151 : decode cX6_auction 151 = .ok (.if_icmp .le 7, 3) := by decide +kernel
theorem dX6_auction_154 : decode cX6_auction 154 = .ok (.iconst 1, 1) := by decide +kernel
theorem dX6_auction_155 : decode cX6_auction 155 = .ok (.goto 4, 3) := by decide +kernel
theorem dX6_auction_158 : decode cX6_auction 158 = .ok (.iconst 0, 1) := by decide +kernel
theorem dX6_auction_159 : decode cX6_auction 159 = .ok (.istore_n 2, 1) := by decide +kernel
theorem dX6_auction_160 : decode cX6_auction 160 = .ok (.iload_n 1, 1) := by decide +kernel
theorem dX6_auction_161 : decode cX6_auction 161 = .ok (.aload_n 0, 1) := by decide +kernel
theorem dX6_auction_162 : decode cX6_auction 162 = .ok (.getfield 7, 3) := by decide +kernel
theorem dX6_auction_165 : decode cX6_auction 165 = .ok (.iconst 1, 1) := by decide +kernel
theorem dX6_auction_166 : decode cX6_auction 166 = .ok (.iaload, 1) := by decide +kernel
theorem dX6_auction_167 : decode cX6_auction 167 = .ok (.idiv, 1) := by decide +kernel
theorem dX6_auction_168 : decode cX6_auction 168 = .ok (.invokestatic 119, 3) := by decide +kernel
theorem dX6_auction_171 : decode cX6_auction 171 = .ok (.istore_n 1, 1) := by decide +kernel
theorem dX6_auction_172 : decode cX6_auction 172 = .ok (.goto (-110), 3) := by decide +kernel
theorem dX6_auction_175 : decode cX6_auction 175 = .ok (.aload_n 0, 1) := by decide +kernel
theorem dX6_auction_176 : decode cX6_auction 176 = .ok (.getfield 7, 3) := by decide +kernel
theorem dX6_auction_179 : decode cX6_auction 179 = .ok (.iconst 5, 1) := by decide +kernel
theorem dX6_auction_180 : decode cX6_auction 180 = .ok (.iconst 1, 1) := by decide +kernel
theorem dX6_auction_181 : decode cX6_auction 181 = .ok (.iastore, 1) := by decide +kernel
theorem dX6_auction_182 : decode cX6_auction 182 = .ok (.aload_n 0, 1) := by decide +kernel
theorem dX6_auction_183 : decode cX6_auction 183 = .ok (.getfield 7, 3) := by decide +kernel
theorem dX6_auction_186 : decode cX6_auction 186 = .ok (.bipush 6, 2) := by decide +kernel
theorem dX6_auction_188 : decode cX6_auction 188 = .ok (.iconst 1, 1) := by decide +kernel
theorem dX6_auction_189 : decode cX6_auction 189 = .ok (.iastore, 1) := by decide +kernel
theorem dX6_auction_190 : decode cX6_auction 190 = .ok (.aload_n 0, 1) := by decide +kernel
theorem dX6_auction_191 : decode cX6_auction 191 = .ok (.getfield 7, 3) := by decide +kernel
theorem dX6_auction_194 : decode cX6_auction 194 = .ok (.bipush 8, 2) := by decide +kernel
theorem dX6_auction_196 : decode cX6_auction 196 = .ok (.iaload, 1) := by decide +kernel
theorem dX6_auction_197 : decode cX6_auction 197 = .ok (.ireturn, 1) := by decide +kernel
set_option maxRecDepth 20000 in
theorem ggX6_repair_X6_isValid : GoodIn wsX6_repair wsX6_isValid := goodIn_r _ [8, 1, 45, 46, 47, 48, 49, 50, 51, 52, 53, 54, 55, 56, 57, 58, 59] (by decide +kernel) (by decide +kernel)
set_option maxRecDepth 20000 in
theorem gX6_repair_X6_isValid : GoodIn wsX6_repair (wsV RX6 131 RX6 yX6_isValid wsX6_isValid) := goodIn_app (goodIn_of _ (by decide +kernel)) ggX6_repair_X6_isValid
set_option maxRecDepth 20000 in
theorem ggX6_repair_X6_isDone : GoodIn wsX6_repair wsX6_isDone := goodIn_r _ [12, 1, 45, 46, 47, 48, 49, 50, 51, 52, 53, 54, 55, 56, 57, 58, 59] (by decide +kernel) (by decide +kernel)
set_option maxRecDepth 20000 in
theorem gX6_repair_X6_isDone : GoodIn wsX6_repair (wsV RX6 83 RX6 yX6_isDone wsX6_isDone) := goodIn_app (goodIn_of _ (by decide +kernel)) ggX6_repair_X6_isDone
set_option maxRecDepth 20000 in
theorem ggX6_repair_X6_gainOf : GoodIn wsX6_repair wsX6_gainOf := goodIn_r _ [16, 17, 18, 19, 1, 20, 21, 22, 23, 7, 24, 25, 26, 27, 28, 45, 46, 47, 48, 49, 50, 51, 52, 53, 54, 55, 56, 57, 58, 59] (by decide +kernel) (by decide +kernel)
set_option maxRecDepth 20000 in
theorem gX6_repair_X6_gainOf : GoodIn wsX6_repair (wsV RX6 100 RX6 yX6_gainOf wsX6_gainOf) := goodIn_app (goodIn_of _ (by decide +kernel)) ggX6_repair_X6_gainOf
set_option maxRecDepth 20000 in
theorem ggX6_repair_X6_bestFor : GoodIn wsX6_repair wsX6_bestFor := goodIn_r _ [32, 1, 13, 14, 15, 7, 16, 17, 18, 19, 20, 21, 22, 23, 24, 25, 26, 27, 28, 45, 46, 47, 48, 49, 50, 51, 52, 53, 54, 55, 56, 57, 58, 59] (by decide +kernel) (by decide +kernel)
set_option maxRecDepth 20000 in
theorem gX6_repair_X6_bestFor : GoodIn wsX6_repair (wsV RX6 103 RX6 yX6_bestFor wsX6_bestFor) := goodIn_app (goodIn_of _ (by decide +kernel)) ggX6_repair_X6_bestFor
set_option maxRecDepth 20000 in
theorem ggX6_repair_X6_phaseOf : GoodIn wsX6_repair wsX6_phaseOf := goodIn_r _ [36, 37, 38, 39, 7, 40, 1, 2, 41, 42, 43, 44, 20, 3, 29, 30, 31, 32, 13, 14, 15, 16, 17, 18, 19, 21, 22, 23, 24, 25, 26, 27, 28, 45, 46, 47, 48, 49, 50, 51, 52, 53, 54, 55, 56, 57, 58, 59] (by decide +kernel) (by decide +kernel)
set_option maxRecDepth 20000 in
theorem gX6_repair_X6_phaseOf : GoodIn wsX6_repair (wsV RX6 125 RX6 yX6_phaseOf wsX6_phaseOf) := goodIn_app (goodIn_of _ (by decide +kernel)) ggX6_repair_X6_phaseOf
theorem dX6_repair_0 : decode cX6_repair 0 = .ok (.aload_n 0, 1) := by decide +kernel
theorem dX6_repair_1 : decode cX6_repair 1 = .ok (.invokevirtual 131, 3) := by decide +kernel
theorem dX6_repair_4 : decode cX6_repair 4 = .ok (.ifCond .ne 6, 3) := by decide +kernel
theorem dX6_repair_7 : decode cX6_repair 7 = .ok (.bipush (-3), 2) := by decide +kernel
theorem dX6_repair_9 : decode cX6_repair 9 = .ok (.ireturn, 1) := by decide +kernel
theorem dX6_repair_10 : decode cX6_repair 10 = .ok (.aload_n 0, 1) := by decide +kernel
theorem dX6_repair_11 : decode cX6_repair 11 = .ok (.invokevirtual 83, 3) := by decide +kernel
theorem dX6_repair_14 : decode cX6_repair 14 = .ok (.ifCond .eq 5, 3) := by decide +kernel
theorem dX6_repair_17 : decode cX6_repair 17 = .ok (.iconst 0, 1) := by decide +kernel
theorem dX6_repair_18 : decode cX6_repair 18 = .ok (.ireturn, 1) := by decide +kernel
theorem dX6_repair_19 : decode cX6_repair 19 = .ok (.iconst 0, 1) := by decide +kernel
theorem dX6_repair_20 : decode cX6_repair 20 = .ok (.istore_n 1, 1) := by decide +kernel
theorem dX6_repair_21 : decode cX6_repair 21 = .ok (.iload_n 1, 1) := by decide +kernel
theorem dX6_repair_22 : decode cX6_repair 22 = .ok (.aload_n 0, 1) := by decide +kernel
theorem dX6_repair_23 : decode cX6_repair 23 = .ok (.getfield 7, 3) := by decide +kernel
theorem dX6_repair_26 : decode cX6_repair 26 = .ok (.iconst 4, 1) := by decide +kernel
theorem dX6_repair_27 : decode cX6_repair 27 = .ok (.iaload, 1) := by decide +kernel
theorem dX6_repair_28 : decode cX6_repair 28 = .ok (.if_icmp .ge 58, 3) := by decide +kernel
theorem dX6_repair_31 : decode cX6_repair 31 = .ok (.aload_n 0, 1) := by decide +kernel
theorem dX6_repair_32 : decode cX6_repair 32 = .ok (.iload_n 1, 1) := by decide +kernel
theorem dX6_repair_33 : decode cX6_repair 33 = .ok (.aload_n 0, 1) := by decide +kernel
theorem dX6_repair_34 : decode cX6_repair 34 = .ok (.getfield 31, 3) := by decide +kernel
theorem dX6_repair_37 : decode cX6_repair 37 = .ok (.iload_n 1, 1) := by decide +kernel
theorem dX6_repair_38 : decode cX6_repair 38 = .ok (.iaload, 1) := by decide +kernel
theorem dX6_repair_39 : decode cX6_repair 39 = .ok (.invokevirtual 100, 3) := by decide +kernel
theorem dX6_repair_42 : decode cX6_repair 42 = .ok (.aload_n 0, 1) := by decide +kernel
theorem dX6_repair_43 : decode cX6_repair 43 = .ok (.iload_n 1, 1) := by decide +kernel
theorem dX6_repair_44 : decode cX6_repair 44 = .ok (.aload_n 0, 1) := by decide +kernel
theorem dX6_repair_45 : decode cX6_repair 45 = .ok (.iload_n 1, 1) := by decide +kernel
theorem dX6_repair_46 : decode cX6_repair 46 = .ok (.bipush (-6), 2) := by decide +kernel
theorem dX6_repair_48 : decode cX6_repair 48 = .ok (.invokevirtual 103, 3) := by decide +kernel
theorem dX6_repair_51 : decode cX6_repair 51 = .ok (.invokevirtual 100, 3) := by decide +kernel
theorem dX6_repair_54 : decode cX6_repair 54 = .ok (.iconst 1, 1) := by decide +kernel
theorem dX6_repair_55 : decode cX6_repair 55 = .ok (.isub, 1) := by decide +kernel
theorem dX6_repair_56 : decode cX6_repair 56 = .ok (.if_icmp .ge 24, 3) := by decide +kernel
theorem dX6_repair_59 : decode cX6_repair 59 = .ok (.aload_n 0, 1) := by decide +kernel
theorem dX6_repair_60 : decode cX6_repair 60 = .ok (.getfield 28, 3) := by decide +kernel
theorem dX6_repair_63 : decode cX6_repair 63 = .ok (.aload_n 0, 1) := by decide +kernel
theorem dX6_repair_64 : decode cX6_repair 64 = .ok (.getfield 31, 3) := by decide +kernel
theorem dX6_repair_67 : decode cX6_repair 67 = .ok (.iload_n 1, 1) := by decide +kernel
theorem dX6_repair_68 : decode cX6_repair 68 = .ok (.iaload, 1) := by decide +kernel
theorem dX6_repair_69 : decode cX6_repair 69 = .ok (.bipush (-6), 2) := by decide +kernel
theorem dX6_repair_71 : decode cX6_repair 71 = .ok (.iastore, 1) := by decide +kernel
theorem dX6_repair_72 : decode cX6_repair 72 = .ok (.aload_n 0, 1) := by decide +kernel
theorem dX6_repair_73 : decode cX6_repair 73 = .ok (.getfield 31, 3) := by decide +kernel
theorem dX6_repair_76 : decode cX6_repair 76 = .ok (.iload_n 1, 1) := by decide +kernel
theorem dX6_repair_77 : decode cX6_repair 77 = .ok (.bipush (-6), 2) := by decide +kernel
theorem dX6_repair_79 : decode cX6_repair 79 = .ok (.iastore, 1) := by decide +kernel
theorem dX6_repair_80 : decode cX6_repair 80 = .ok (.iinc 1 1, 3) := by decide +kernel
theorem dX6_repair_83 : decode cX6_repair 83 = .ok (.goto (-62), 3) := by decide +kernel
theorem dX6_repair_86 : decode cX6_repair 86 = .ok (.aload_n 0, 1) := by decide +kernel
theorem dX6_repair_87 : decode cX6_repair 87 = .ok (.getfield 7, 3) := by decide +kernel
theorem dX6_repair_90 : decode cX6_repair 90 = .ok (.bipush 8, 2) := by decide +kernel
theorem dX6_repair_92 : decode cX6_repair 92 = .ok (.aload_n 0, 1) := by decide +kernel
theorem dX6_repair_93 : decode cX6_repair 93 = .ok (.iconst 1, 1) := by decide +kernel
theorem dX6_repair_94 : decode cX6_repair 94 = .ok (.invokevirtual 125, 3) := by decide +kernel
theorem dX6_repair_97 : decode cX6_repair 97 = .ok (.iastore, 1) := by decide +kernel
theorem dX6_repair_98 : decode cX6_repair 98 = .ok (.aload_n 0, 1) := by decide +kernel
theorem dX6_repair_99 : decode cX6_repair 99 = .ok (.getfield 7, 3) := by decide +kernel
theorem dX6_repair_102 : decode cX6_repair 102 = .ok (.bipush 6, 2) := by decide +kernel
theorem dX6_repair_104 : decode cX6_repair 104 = .ok (.iconst 1, 1) := by decide +kernel
theorem dX6_repair_105 : decode cX6_repair 105 = .ok (.iastore, 1) := by decide +kernel
theorem dX6_repair_106 : decode cX6_repair 106 = .ok (.aload_n 0, 1) := by decide +kernel
theorem dX6_repair_107 : decode cX6_repair 107 = .ok (.getfield 7, 3) := by decide +kernel
theorem dX6_repair_110 : decode cX6_repair 110 = .ok (.bipush 8, 2) := by decide +kernel
theorem dX6_repair_112 : decode cX6_repair 112 = .ok (.iaload, 1) := by decide +kernel
theorem dX6_repair_113 : decode cX6_repair 113 = .ok (.ireturn, 1) := by decide +kernel
set_option maxRecDepth 20000 in
theorem ggX6_phase_X6_isValid : GoodIn wsX6_phase wsX6_isValid := goodIn_r _ [9, 1, 13, 14, 15, 16, 17, 18, 19, 20, 21, 22, 23, 24, 25, 26, 27] (by decide +kernel) (by decide +kernel)
set_option maxRecDepth 20000 in
theorem gX6_phase_X6_isValid : GoodIn wsX6_phase (wsV RX6 131 RX6 yX6_isValid wsX6_isValid) := goodIn_app (goodIn_of _ (by decide +kernel)) ggX6_phase_X6_isValid
set_option maxRecDepth 20000 in
theorem ggX6_phase_X6_in : GoodIn wsX6_phase wsX6_in := goodIn_r _ [12] (by decide +kernel) (by decide +kernel)
set_option maxRecDepth 20000 in
theorem gX6_phase_X6_in : GoodIn wsX6_phase (va_wsS RX6 52 yX6_in wsX6_in) := goodIn_app (goodIn_of _ (by decide +kernel)) ggX6_phase_X6_in
theorem dX6_phase_0 : decode cX6_phase 0 = .ok (.aload_n 0, 1) := by decide +kernel
theorem dX6_phase_1 : decode cX6_phase 1 = .ok (.invokevirtual 131, 3) := by decide +kernel
theorem dX6_phase_4 : decode cX6_phase 4 = .ok (.ifCond .ne 6, 3) := by decide +kernel
theorem dX6_phase_7 : decode cX6_phase 7 = .ok (.bipush (-3), 2) := by decide +kernel
theorem dX6_phase_9 : decode cX6_phase 9 = .ok (.ireturn, 1) := by decide +kernel
theorem dX6_phase_10 : decode cX6_phase 10 = .ok (.iload_n 1, 1) := by decide +kernel
theorem dX6_phase_11 : decode cX6_phase 11 = .ok (.i2l, 1) := by decide +kernel
theorem dX6_phase_12 : decode cX6_phase 12 = .ok (.lconst 0, 1) := by decide +kernel
theorem dX6_phase_13 : decode cX6_phase 13 = .ok (.aload_n 0, 1) := by decide +kernel
theorem dX6_phase_14 : decode cX6_phase 14 = .ok (.getfield 7, 3) := by decide +kernel
theorem dX6_phase_17 : decode cX6_phase 17 = .ok (.bipush 7, 2) := by decide +kernel
theorem dX6_phase_19 : decode cX6_phase 19 = .ok (.iaload, 1) := by decide +kernel
theorem dX6_phase_20 : decode cX6_phase 20 = .ok (.iconst 1, 1) := by decide +kernel
theorem dX6_phase_21 : decode cX6_phase 21 = .ok (.isub, 1) := by decide +kernel
theorem dX6_phase_22 : decode cX6_phase 22 = .ok (.i2l, 1) := by decide +kernel
theorem dX6_phase_23 : decode cX6_phase 23 = .ok (.invokestatic 52, 3) := by decide +kernel
theorem dX6_phase_26 : decode cX6_phase 26 = .ok (.ifCond .ne 5, 3) := by decide +kernel
theorem dX6_phase_29 : decode cX6_phase 29 = .ok (.iconst (-1), 1) := by decide +kernel
theorem dX6_phase_30 : decode cX6_phase 30 = .ok (.ireturn, 1) := by decide +kernel
theorem dX6_phase_31 : decode cX6_phase 31 = .ok (.iload_n 2, 1) := by decide +kernel
theorem dX6_phase_32 : decode cX6_phase 32 = .ok (.ifCond .ne 12, 3) := by decide +kernel
theorem dX6_phase_35 : decode cX6_phase 35 = .ok (.aload_n 0, 1) := by decide +kernel
theorem dX6_phase_36 : decode cX6_phase 36 = .ok (.getfield 34, 3) := by decide +kernel
theorem dX6_phase_39 : decode cX6_phase 39 = .ok (.iload_n 1, 1) := by decide +kernel
theorem dX6_phase_40 : decode cX6_phase 40 = .ok (.iaload, 1) := by decide +kernel
theorem dX6_phase_41 : decode cX6_phase 41 = .ok (.goto 33, 3) := by decide +kernel
theorem dX6_phase_44 : decode cX6_phase 44 = .ok (.iload_n 2, 1) := by decide +kernel
theorem dX6_phase_45 : decode cX6_phase 45 = .ok (.iconst 1, 1) := by decide +kernel
theorem dX6_phase_46 : decode cX6_phase 46 = .ok (.if_icmp .ne 12, 3) := by decide +kernel
theorem dX6_phase_49 : decode cX6_phase 49 = .ok (.aload_n 0, 1) := by decide +kernel
theorem dX6_phase_50 : decode cX6_phase 50 = .ok (.getfield 37, 3) := by decide +kernel
theorem dX6_phase_53 : decode cX6_phase 53 = .ok (.iload_n 1, 1) := by decide +kernel
theorem dX6_phase_54 : decode cX6_phase 54 = .ok (.iaload, 1) := by decide +kernel
theorem dX6_phase_55 : decode cX6_phase 55 = .ok (.goto 19, 3) := by decide +kernel
theorem dX6_phase_58 : decode cX6_phase 58 = .ok (.iload_n 2, 1) := by decide +kernel
theorem dX6_phase_59 : decode cX6_phase 59 = .ok (.iconst 2, 1) := by decide +kernel
theorem dX6_phase_60 : decode cX6_phase 60 = .ok (.if_icmp .ne 12, 3) := by decide +kernel
theorem dX6_phase_63 : decode cX6_phase 63 = .ok (.aload_n 0, 1) := by decide +kernel
theorem dX6_phase_64 : decode cX6_phase 64 = .ok (.getfield 40, 3) := by decide +kernel
theorem dX6_phase_67 : decode cX6_phase 67 = .ok (.iload_n 1, 1) := by decide +kernel
theorem dX6_phase_68 : decode cX6_phase 68 = .ok (.iaload, 1) := by decide +kernel
theorem dX6_phase_69 : decode cX6_phase 69 = .ok (.goto 5, 3) := by decide +kernel
theorem dX6_phase_72 : decode cX6_phase 72 = .ok (.bipush (-2), 2) := by decide +kernel
theorem dX6_phase_74 : decode cX6_phase 74 = .ok (.ireturn, 1) := by decide +kernel
set_option maxRecDepth 20000 in
theorem ggX6_place_X6_isDone : GoodIn wsX6_place wsX6_isDone := goodIn_r _ [7, 8, 20, 21, 22, 23, 24, 25, 26, 27, 28, 29, 30, 31, 32, 33, 34] (by decide +kernel) (by decide +kernel)
set_option maxRecDepth 20000 in
theorem gX6_place_X6_isDone : GoodIn wsX6_place (wsV RX6 83 RX6 yX6_isDone wsX6_isDone) := goodIn_app (goodIn_of _ (by decide +kernel)) ggX6_place_X6_isDone
set_option maxRecDepth 20000 in
theorem ggX6_place_X6_isCell : GoodIn wsX6_place wsX6_isCell := goodIn_r _ [12, 13, 14, 15, 6, 16, 8, 17, 18, 19, 20, 21, 22, 23, 24, 25, 26, 27, 28, 29, 30, 31, 32, 33, 34] (by decide +kernel) (by decide +kernel)
set_option maxRecDepth 20000 in
theorem gX6_place_X6_isCell : GoodIn wsX6_place (wsV RX6 93 RX6 yX6_isCell wsX6_isCell) := goodIn_app (goodIn_of _ (by decide +kernel)) ggX6_place_X6_isCell
theorem dX6_place_0 : decode cX6_place 0 = .ok (.aload_n 0, 1) := by decide +kernel
theorem dX6_place_1 : decode cX6_place 1 = .ok (.invokevirtual 83, 3) := by decide +kernel
theorem dX6_place_4 : decode cX6_place 4 = .ok (.ifCond .ne 6, 3) := by decide +kernel
theorem dX6_place_7 : decode cX6_place 7 = .ok (.bipush (-3), 2) := by decide +kernel
theorem dX6_place_9 : decode cX6_place 9 = .ok (.ireturn, 1) := by decide +kernel
theorem dX6_place_10 : decode cX6_place 10 = .ok (.aload_n 0, 1) := by decide +kernel
theorem dX6_place_11 : decode cX6_place 11 = .ok (.iload_n 1, 1) := by decide +kernel
theorem dX6_place_12 : decode cX6_place 12 = .ok (.invokevirtual 93, 3) := by decide +kernel
theorem dX6_place_15 : decode cX6_place 15 = .ok (.ifCond .eq 17, 3) := by decide +kernel
theorem dX6_place_18 : decode cX6_place 18 = .ok (.aload_n 0, 1) := by decide +kernel
theorem dX6_place_19 : decode cX6_place 19 = .ok (.getfield 25, 3) := by decide +kernel
theorem dX6_place_22 : decode cX6_place 22 = .ok (.aload_n 0, 1) := by decide +kernel
theorem dX6_place_23 : decode cX6_place 23 = .ok (.getfield 31, 3) := by decide +kernel
theorem dX6_place_26 : decode cX6_place 26 = .ok (.iload_n 1, 1) := by decide +kernel
theorem dX6_place_27 : decode cX6_place 27 = .ok (.iaload, 1) := by decide +kernel
theorem dX6_place_28 : decode cX6_place 28 = .ok (.iaload, 1) := by decide +kernel
theorem dX6_place_29 : decode cX6_place 29 = .ok (.goto 4, 3) := by decide +kernel
theorem dX6_place_32 : decode cX6_place 32 = .ok (.iconst (-1), 1) := by decide +kernel
theorem dX6_place_33 : decode cX6_place 33 = .ok (.ireturn, 1) := by decide +kernel
set_option maxRecDepth 20000 in
theorem ggX6_slot_X6_isValid : GoodIn wsX6_slot wsX6_isValid := goodIn_r _ [9, 1, 21, 22, 23, 24, 25, 26, 27, 28, 29, 30, 31, 32, 33, 34, 35] (by decide +kernel) (by decide +kernel)
set_option maxRecDepth 20000 in
theorem gX6_slot_X6_isValid : GoodIn wsX6_slot (wsV RX6 131 RX6 yX6_isValid wsX6_isValid) := goodIn_app (goodIn_of _ (by decide +kernel)) ggX6_slot_X6_isValid
set_option maxRecDepth 20000 in
theorem ggX6_slot_X6_isDone : GoodIn wsX6_slot wsX6_isDone := goodIn_r _ [13, 1, 21, 22, 23, 24, 25, 26, 27, 28, 29, 30, 31, 32, 33, 34, 35] (by decide +kernel) (by decide +kernel)
set_option maxRecDepth 20000 in
theorem gX6_slot_X6_isDone : GoodIn wsX6_slot (wsV RX6 83 RX6 yX6_isDone wsX6_isDone) := goodIn_app (goodIn_of _ (by decide +kernel)) ggX6_slot_X6_isDone
set_option maxRecDepth 20000 in
theorem ggX6_slot_X6_in : GoodIn wsX6_slot wsX6_in := goodIn_r _ [16] (by decide +kernel) (by decide +kernel)
set_option maxRecDepth 20000 in
theorem gX6_slot_X6_in : GoodIn wsX6_slot (va_wsS RX6 52 yX6_in wsX6_in) := goodIn_app (goodIn_of _ (by decide +kernel)) ggX6_slot_X6_in
set_option maxRecDepth 20000 in
theorem ggX6_slot_X6_cells : GoodIn wsX6_slot wsX6_cells := goodIn_r _ [20, 1, 21, 22, 23, 24, 25, 26, 27, 28, 29, 30, 31, 32, 33, 34, 35] (by decide +kernel) (by decide +kernel)
set_option maxRecDepth 20000 in
theorem gX6_slot_X6_cells : GoodIn wsX6_slot (wsV RX6 80 RX6 yX6_cells wsX6_cells) := goodIn_app (goodIn_of _ (by decide +kernel)) ggX6_slot_X6_cells
theorem dX6_slot_0 : decode cX6_slot 0 = .ok (.aload_n 0, 1) := by decide +kernel
theorem dX6_slot_1 : decode cX6_slot 1 = .ok (.invokevirtual 131, 3) := by decide +kernel
theorem dX6_slot_4 : decode cX6_slot 4 = .ok (.ifCond .eq 15, 3) := by decide +kernel
theorem dX6_slot_7 : decode cX6_slot 7 = .ok (.iload_n 2, 1) := by decide +kernel
theorem dX6_slot_8 : decode cX6_slot 8 = .ok (.iconst 2, 1) := by decide +kernel
theorem dX6_slot_9 : decode cX6_slot 9 = .ok (.if_icmp .ne 13, 3) := by decide +kernel
theorem dX6_slot_12 : decode cX6_slot 12 = .ok (.aload_n 0, 1) := by decide +kernel
theorem dX6_slot_13 : decode cX6_slot 13 = .ok (.invokevirtual 83, 3) := by decide +kernel
theorem dX6_slot_16 : decode cX6_slot 16 = .ok (.ifCond .ne 6, 3) := by decide +kernel
theorem dX6_slot_19 : decode cX6_slot 19 = .ok (.bipush (-3), 2) := by decide +kernel
theorem dX6_slot_21 : decode cX6_slot 21 = .ok (.ireturn, 1) := by decide +kernel
theorem dX6_slot_22 : decode cX6_slot 22 = .ok (.iload_n 1, 1) := by decide +kernel
theorem dX6_slot_23 : decode cX6_slot 23 = .ok (.i2l, 1) := by decide +kernel
theorem dX6_slot_24 : decode cX6_slot 24 = .ok (.lconst 0, 1) := by decide +kernel
theorem dX6_slot_25 : decode cX6_slot 25 = .ok (.aload_n 0, 1) := by decide +kernel
theorem dX6_slot_26 : decode cX6_slot 26 = .ok (.getfield 7, 3) := by decide +kernel
theorem dX6_slot_29 : decode cX6_slot 29 = .ok (.iconst 4, 1) := by decide +kernel
theorem dX6_slot_30 : decode cX6_slot 30 = .ok (.iaload, 1) := by decide +kernel
theorem dX6_slot_31 : decode cX6_slot 31 = .ok (.iconst 1, 1) := by decide +kernel
theorem dX6_slot_32 : decode cX6_slot 32 = .ok (.isub, 1) := by decide +kernel
theorem dX6_slot_33 : decode cX6_slot 33 = .ok (.i2l, 1) := by decide +kernel
theorem dX6_slot_34 : decode cX6_slot 34 = .ok (.invokestatic 52, 3) := by decide +kernel
theorem dX6_slot_37 : decode cX6_slot 37 = .ok (.ifCond .ne 5, 3) := by decide +kernel
theorem dX6_slot_40 : decode cX6_slot 40 = .ok (.iconst (-1), 1) := by decide +kernel
theorem dX6_slot_41 : decode cX6_slot 41 = .ok (.ireturn, 1) := by decide +kernel
theorem dX6_slot_42 : decode cX6_slot 42 = .ok (.iload_n 2, 1) := by decide +kernel
theorem dX6_slot_43 : decode cX6_slot 43 = .ok (.tableswitch 64 0 2 #[25, 32, 39], 25) := by decide +kernel
theorem dX6_slot_68 : decode cX6_slot 68 = .ok (.aload_n 0, 1) := by decide +kernel
theorem dX6_slot_69 : decode cX6_slot 69 = .ok (.getfield 22, 3) := by decide +kernel
theorem dX6_slot_72 : decode cX6_slot 72 = .ok (.iload_n 1, 1) := by decide +kernel
theorem dX6_slot_73 : decode cX6_slot 73 = .ok (.iaload, 1) := by decide +kernel
theorem dX6_slot_74 : decode cX6_slot 74 = .ok (.ireturn, 1) := by decide +kernel
theorem dX6_slot_75 : decode cX6_slot 75 = .ok (.aload_n 0, 1) := by decide +kernel
theorem dX6_slot_76 : decode cX6_slot 76 = .ok (.getfield 25, 3) := by decide +kernel
theorem dX6_slot_79 : decode cX6_slot 79 = .ok (.iload_n 1, 1) := by decide +kernel
theorem dX6_slot_80 : decode cX6_slot 80 = .ok (.iaload, 1) := by decide +kernel
theorem dX6_slot_81 : decode cX6_slot 81 = .ok (.ireturn, 1) := by decide +kernel
theorem dX6_slot_82 : decode cX6_slot 82 = .ok (.aload_n 0, 1) := by decide +kernel
theorem dX6_slot_83 : decode cX6_slot 83 = .ok (.getfield 28, 3) := by decide +kernel
theorem dX6_slot_86 : decode cX6_slot 86 = .ok (.iload_n 1, 1) := by decide +kernel
theorem dX6_slot_87 : decode cX6_slot 87 = .ok (.iaload, 1) := by decide +kernel
theorem dX6_slot_88 : decode cX6_slot 88 = .ok (.aload_n 0, 1) := by decide +kernel
theorem dX6_slot_89 : decode cX6_slot 89 = .ok (.invokevirtual 80, 3) := by decide +kernel
theorem dX6_slot_92 : decode cX6_slot 92 = .ok (.if_icmp .ge 12, 3) := by decide +kernel
theorem dX6_slot_95 : decode cX6_slot 95 = .ok (.aload_n 0, 1) := by decide +kernel
theorem dX6_slot_96 : decode cX6_slot 96 = .ok (.getfield 28, 3) := by decide +kernel
theorem dX6_slot_99 : decode cX6_slot 99 = .ok (.iload_n 1, 1) := by decide +kernel
theorem dX6_slot_100 : decode cX6_slot 100 = .ok (.iaload, 1) := by decide +kernel
theorem dX6_slot_101 : decode cX6_slot 101 = .ok (.goto 5, 3) := by decide +kernel
theorem dX6_slot_104 : decode cX6_slot 104 = .ok (.bipush (-6), 2) := by decide +kernel
theorem dX6_slot_106 : decode cX6_slot 106 = .ok (.ireturn, 1) := by decide +kernel
theorem dX6_slot_107 : decode cX6_slot 107 = .ok (.bipush (-2), 2) := by decide +kernel
theorem dX6_slot_109 : decode cX6_slot 109 = .ok (.ireturn, 1) := by decide +kernel
set_option maxRecDepth 20000 in
theorem ggX6_gain_X6_isValid : GoodIn wsX6_gain wsX6_isValid := goodIn_r _ [9, 10, 42, 43, 44, 45, 46, 47, 48, 49, 50, 51, 52, 53, 54, 55, 56] (by decide +kernel) (by decide +kernel)
set_option maxRecDepth 20000 in
theorem gX6_gain_X6_isValid : GoodIn wsX6_gain (wsV RX6 131 RX6 yX6_isValid wsX6_isValid) := goodIn_app (goodIn_of _ (by decide +kernel)) ggX6_gain_X6_isValid
set_option maxRecDepth 20000 in
theorem ggX6_gain_X6_isDone : GoodIn wsX6_gain wsX6_isDone := goodIn_r _ [14, 10, 42, 43, 44, 45, 46, 47, 48, 49, 50, 51, 52, 53, 54, 55, 56] (by decide +kernel) (by decide +kernel)
set_option maxRecDepth 20000 in
theorem gX6_gain_X6_isDone : GoodIn wsX6_gain (wsV RX6 83 RX6 yX6_isDone wsX6_isDone) := goodIn_app (goodIn_of _ (by decide +kernel)) ggX6_gain_X6_isDone
set_option maxRecDepth 20000 in
theorem ggX6_gain_X6_isCell : GoodIn wsX6_gain wsX6_isCell := goodIn_r _ [18, 19, 20, 21, 8, 22, 10, 23, 24, 25, 42, 43, 44, 45, 46, 47, 48, 49, 50, 51, 52, 53, 54, 55, 56] (by decide +kernel) (by decide +kernel)
set_option maxRecDepth 20000 in
theorem gX6_gain_X6_isCell : GoodIn wsX6_gain (wsV RX6 93 RX6 yX6_isCell wsX6_isCell) := goodIn_app (goodIn_of _ (by decide +kernel)) ggX6_gain_X6_isCell
set_option maxRecDepth 20000 in
theorem ggX6_gain_X6_in : GoodIn wsX6_gain wsX6_in := goodIn_r _ [25] (by decide +kernel) (by decide +kernel)
set_option maxRecDepth 20000 in
theorem gX6_gain_X6_in : GoodIn wsX6_gain (va_wsS RX6 52 yX6_in wsX6_in) := goodIn_app (goodIn_of _ (by decide +kernel)) ggX6_gain_X6_in
set_option maxRecDepth 20000 in
theorem ggX6_gain_X6_bestFor : GoodIn wsX6_gain wsX6_bestFor := goodIn_r _ [29, 10, 30, 31, 32, 8, 33, 34, 35, 36, 37, 19, 20, 21, 22, 38, 39, 40, 41, 42, 43, 44, 45, 46, 47, 48, 49, 50, 51, 52, 53, 54, 55, 56] (by decide +kernel) (by decide +kernel)
set_option maxRecDepth 20000 in
theorem gX6_gain_X6_bestFor : GoodIn wsX6_gain (wsV RX6 103 RX6 yX6_bestFor wsX6_bestFor) := goodIn_app (goodIn_of _ (by decide +kernel)) ggX6_gain_X6_bestFor
set_option maxRecDepth 20000 in
theorem ggX6_gain_X6_gainOf : GoodIn wsX6_gain wsX6_gainOf := goodIn_r _ [33, 34, 35, 36, 10, 37, 19, 20, 21, 8, 22, 38, 39, 40, 41, 42, 43, 44, 45, 46, 47, 48, 49, 50, 51, 52, 53, 54, 55, 56] (by decide +kernel) (by decide +kernel)
set_option maxRecDepth 20000 in
theorem gX6_gain_X6_gainOf : GoodIn wsX6_gain (wsV RX6 100 RX6 yX6_gainOf wsX6_gainOf) := goodIn_app (goodIn_of _ (by decide +kernel)) ggX6_gain_X6_gainOf
theorem dX6_gain_0 : decode cX6_gain 0 = .ok (.aload_n 0, 1) := by decide +kernel
theorem dX6_gain_1 : decode cX6_gain 1 = .ok (.invokevirtual 131, 3) := by decide +kernel
theorem dX6_gain_4 : decode cX6_gain 4 = .ok (.ifCond .eq 14, 3) := by decide +kernel
theorem dX6_gain_7 : decode cX6_gain 7 = .ok (.iload_n 2, 1) := by decide +kernel
theorem dX6_gain_8 : decode cX6_gain 8 = .ok (.ifCond .ne 13, 3) := by decide +kernel
theorem dX6_gain_11 : decode cX6_gain 11 = .ok (.aload_n 0, 1) := by decide +kernel
theorem dX6_gain_12 : decode cX6_gain 12 = .ok (.invokevirtual 83, 3) := by decide +kernel
theorem dX6_gain_15 : decode cX6_gain 15 = .ok (.ifCond .ne 6, 3) := by decide +kernel
theorem dX6_gain_18 : decode cX6_gain 18 = .ok (.ldc 134, 2) := by decide +kernel
theorem dX6_gain_20 : decode cX6_gain 20 = .ok (.ireturn, 1) := by decide +kernel
theorem dX6_gain_21 : decode cX6_gain 21 = .ok (.aload_n 0, 1) := by decide +kernel
theorem dX6_gain_22 : decode cX6_gain 22 = .ok (.iload_n 1, 1) := by decide +kernel
theorem dX6_gain_23 : decode cX6_gain 23 = .ok (.invokevirtual 93, 3) := by decide +kernel
theorem dX6_gain_26 : decode cX6_gain 26 = .ok (.ifCond .ne 6, 3) := by decide +kernel
theorem dX6_gain_29 : decode cX6_gain 29 = .ok (.ldc 135, 2) := by decide +kernel
theorem dX6_gain_31 : decode cX6_gain 31 = .ok (.ireturn, 1) := by decide +kernel
theorem dX6_gain_32 : decode cX6_gain 32 = .ok (.iload_n 2, 1) := by decide +kernel
theorem dX6_gain_33 : decode cX6_gain 33 = .ok (.i2l, 1) := by decide +kernel
theorem dX6_gain_34 : decode cX6_gain 34 = .ok (.lconst 0, 1) := by decide +kernel
theorem dX6_gain_35 : decode cX6_gain 35 = .ok (.lconst 1, 1) := by decide +kernel
theorem dX6_gain_36 : decode cX6_gain 36 = .ok (.invokestatic 52, 3) := by decide +kernel
theorem dX6_gain_39 : decode cX6_gain 39 = .ok (.ifCond .ne 6, 3) := by decide +kernel
theorem dX6_gain_42 : decode cX6_gain 42 = .ok (.ldc 136, 2) := by decide +kernel
theorem dX6_gain_44 : decode cX6_gain 44 = .ok (.ireturn, 1) := by decide +kernel
theorem dX6_gain_45 : decode cX6_gain 45 = .ok (.aload_n 0, 1) := by decide +kernel
theorem dX6_gain_46 : decode cX6_gain 46 = .ok (.iload_n 1, 1) := by decide +kernel
theorem dX6_gain_47 : decode cX6_gain 47 = .ok (.iload_n 2, 1) := by decide +kernel
theorem dX6_gain_48 : decode cX6_gain 48 = .ok (.ifCond .ne 12, 3) := by decide +kernel
theorem dX6_gain_51 : decode cX6_gain 51 = .ok (.aload_n 0, 1) := by decide +kernel
theorem dX6_gain_52 : decode cX6_gain 52 = .ok (.getfield 31, 3) := by decide +kernel
theorem dX6_gain_55 : decode cX6_gain 55 = .ok (.iload_n 1, 1) := by decide +kernel
theorem dX6_gain_56 : decode cX6_gain 56 = .ok (.iaload, 1) := by decide +kernel
theorem dX6_gain_57 : decode cX6_gain 57 = .ok (.goto 10, 3) := by decide +kernel
theorem dX6_gain_60 : decode cX6_gain 60 = .ok (.aload_n 0, 1) := by decide +kernel
theorem dX6_gain_61 : decode cX6_gain 61 = .ok (.iload_n 1, 1) := by decide +kernel
theorem dX6_gain_62 : decode cX6_gain 62 = .ok (.bipush (-6), 2) := by decide +kernel
theorem dX6_gain_64 : decode cX6_gain 64 = .ok (.invokevirtual 103, 3) := by decide +kernel
theorem dX6_gain_67 : decode cX6_gain 67 = .ok (.invokevirtual 100, 3) := by decide +kernel
theorem dX6_gain_70 : decode cX6_gain 70 = .ok (.ireturn, 1) := by decide +kernel
set_option maxRecDepth 20000 in
theorem ggX6_total_X6_isDone : GoodIn wsX6_total wsX6_isDone := goodIn_r _ [5, 6, 23, 24, 25, 26, 27, 28, 29, 30, 31, 32, 33, 34, 35, 36, 37] (by decide +kernel) (by decide +kernel)
set_option maxRecDepth 20000 in
theorem gX6_total_X6_isDone : GoodIn wsX6_total (wsV RX6 83 RX6 yX6_isDone wsX6_isDone) := goodIn_app (goodIn_of _ (by decide +kernel)) ggX6_total_X6_isDone
set_option maxRecDepth 20000 in
theorem ggX6_total_X6_sumOf : GoodIn wsX6_total wsX6_sumOf := goodIn_r _ [10, 11, 12, 13, 14, 15, 16, 17, 4, 18, 6, 19, 20, 21, 22, 23, 24, 25, 26, 27, 28, 29, 30, 31, 32, 33, 34, 35, 36, 37] (by decide +kernel) (by decide +kernel)
set_option maxRecDepth 20000 in
theorem gX6_total_X6_sumOf : GoodIn wsX6_total (wsV RX6 128 RX6 yX6_sumOf wsX6_sumOf) := goodIn_app (goodIn_of _ (by decide +kernel)) ggX6_total_X6_sumOf
theorem dX6_total_0 : decode cX6_total 0 = .ok (.aload_n 0, 1) := by decide +kernel
theorem dX6_total_1 : decode cX6_total 1 = .ok (.invokevirtual 83, 3) := by decide +kernel
theorem dX6_total_4 : decode cX6_total 4 = .ok (.ifCond .eq 10, 3) := by decide +kernel
theorem dX6_total_7 : decode cX6_total 7 = .ok (.aload_n 0, 1) := by decide +kernel
theorem dX6_total_8 : decode cX6_total 8 = .ok (.invokevirtual 128, 3) := by decide +kernel
theorem dX6_total_11 : decode cX6_total 11 = .ok (.goto 5, 3) := by decide +kernel
theorem dX6_total_14 : decode cX6_total 14 = .ok (.bipush (-3), 2) := by decide +kernel
theorem dX6_total_16 : decode cX6_total 16 = .ok (.ireturn, 1) := by decide +kernel
theorem dX6_passRow_0 : decode cX6_passRow 0 = .ok (.iconst 0, 1) := by decide +kernel
theorem dX6_passRow_1 : decode cX6_passRow 1 = .ok (.istore_n 3, 1) := by decide +kernel
theorem dX6_passRow_2 : decode cX6_passRow 2 = .ok (.iload_n 3, 1) := by decide +kernel
theorem dX6_passRow_3 : decode cX6_passRow 3 = .ok (.iload_n 2, 1) := by decide +kernel
theorem dX6_passRow_4 : decode cX6_passRow 4 = .ok (.if_icmp .ge 56, 3) := by decide +kernel
theorem dX6_passRow_7 : decode cX6_passRow 7 = .ok (.aload_n 1, 1) := by decide +kernel
theorem dX6_passRow_8 : decode cX6_passRow 8 = .ok (.iload_n 3, 1) := by decide +kernel
theorem dX6_passRow_9 : decode cX6_passRow 9 = .ok (.aload_n 0, 1) := by decide +kernel
theorem dX6_passRow_10 : decode cX6_passRow 10 = .ok (.getfield 137, 3) := by decide +kernel
theorem dX6_passRow_13 : decode cX6_passRow 13 = .ok (.ifCond .eq 9, 3) := by decide +kernel
theorem dX6_passRow_16 : decode cX6_passRow 16 = .ok (.aload_n 1, 1) := by decide +kernel
theorem dX6_passRow_17 : decode cX6_passRow 17 = .ok (.iload_n 3, 1) := by decide +kernel
theorem dX6_passRow_18 : decode cX6_passRow 18 = .ok (.iaload, 1) := by decide +kernel
theorem dX6_passRow_19 : decode cX6_passRow 19 = .ok (.goto 12, 3) := by decide +kernel
theorem dX6_passRow_22 : decode cX6_passRow 22 = .ok (.aload_n 0, 1) := by decide +kernel
theorem dX6_passRow_23 : decode cX6_passRow 23 = .ok (.getfield 43, 3) := by decide +kernel
theorem dX6_passRow_26 : decode cX6_passRow 26 = .ok (.aload_n 0, 1) := by decide +kernel
theorem dX6_passRow_27 : decode cX6_passRow 27 = .ok (.getfield 141, 3) := by decide +kernel
theorem dX6_passRow_30 : decode cX6_passRow 30 = .ok (.iaload, 1) := by decide +kernel
theorem dX6_passRow_31 : decode cX6_passRow 31 = .ok (.iastore, 1) := by decide +kernel
theorem dX6_passRow_32 : decode cX6_passRow 32 = .ok (.aload_n 0, 1) := by decide +kernel
theorem dX6_passRow_33 : decode cX6_passRow 33 = .ok (.getfield 43, 3) := by decide +kernel
theorem dX6_passRow_36 : decode cX6_passRow 36 = .ok (.aload_n 0, 1) := by decide +kernel
theorem dX6_passRow_37 : decode cX6_passRow 37 = .ok (.getfield 141, 3) := by decide +kernel
theorem dX6_passRow_40 : decode cX6_passRow 40 = .ok (.aload_n 1, 1) := by decide +kernel
theorem dX6_passRow_41 : decode cX6_passRow 41 = .ok (.iload_n 3, 1) := by decide +kernel
theorem dX6_passRow_42 : decode cX6_passRow 42 = .ok (.iaload, 1) := by decide +kernel
theorem dX6_passRow_43 : decode cX6_passRow 43 = .ok (.iastore, 1) := by decide +kernel
theorem dX6_passRow_44 : decode cX6_passRow 44 = .ok (.aload_n 0, 1) := by decide +kernel
theorem dX6_passRow_45 : decode cX6_passRow 45 = .ok (.dup, 1) := by decide +kernel
theorem dX6_passRow_46 : decode cX6_passRow 46 = .ok (.getfield 141, 3) := by decide +kernel
theorem dX6_passRow_49 : decode cX6_passRow 49 = .ok (.iconst 1, 1) := by decide +kernel
theorem dX6_passRow_50 : decode cX6_passRow 50 = .ok (.iadd, 1) := by decide +kernel
theorem dX6_passRow_51 : decode cX6_passRow 51 = .ok (.putfield 141, 3) := by decide +kernel
theorem dX6_passRow_54 : decode cX6_passRow 54 = .ok (.iinc 3 1, 3) := by decide +kernel
theorem dX6_passRow_57 : decode cX6_passRow 57 = .ok (.goto (-55), 3) := by decide +kernel
theorem dX6_passRow_60 : decode cX6_passRow 60 = .ok (.return_, 1) := by decide +kernel
set_option maxRecDepth 20000 in
theorem ggX6_passAll_X6_passRow : GoodIn wsX6_passAll wsX6_passRow := goodIn_r _ [16, 17, 18, 19, 20, 21, 22, 23, 24, 25, 26, 27, 28, 29, 30, 31, 32, 33, 34] (by decide +kernel) (by decide +kernel)
set_option maxRecDepth 20000 in
theorem gX6_passAll_X6_passRow : GoodIn wsX6_passAll (wsV RX6 145 RX6 yX6_passRow wsX6_passRow) := goodIn_app (goodIn_of _ (by decide +kernel)) ggX6_passAll_X6_passRow
theorem dX6_passAll_0 : decode cX6_passAll 0 = .ok (.aload_n 0, 1) := by decide +kernel
theorem dX6_passAll_1 : decode cX6_passAll 1 = .ok (.aload_n 0, 1) := by decide +kernel
theorem dX6_passAll_2 : decode cX6_passAll 2 = .ok (.getfield 7, 3) := by decide +kernel
theorem dX6_passAll_5 : decode cX6_passAll 5 = .ok (.bipush 9, 2) := by decide +kernel
theorem dX6_passAll_7 : decode cX6_passAll 7 = .ok (.invokevirtual 145, 3) := by decide +kernel
theorem dX6_passAll_10 : decode cX6_passAll 10 = .ok (.aload_n 0, 1) := by decide +kernel
theorem dX6_passAll_11 : decode cX6_passAll 11 = .ok (.aload_n 0, 1) := by decide +kernel
theorem dX6_passAll_12 : decode cX6_passAll 12 = .ok (.getfield 13, 3) := by decide +kernel
theorem dX6_passAll_15 : decode cX6_passAll 15 = .ok (.bipush 8, 2) := by decide +kernel
theorem dX6_passAll_17 : decode cX6_passAll 17 = .ok (.invokevirtual 145, 3) := by decide +kernel
theorem dX6_passAll_20 : decode cX6_passAll 20 = .ok (.aload_n 0, 1) := by decide +kernel
theorem dX6_passAll_21 : decode cX6_passAll 21 = .ok (.aload_n 0, 1) := by decide +kernel
theorem dX6_passAll_22 : decode cX6_passAll 22 = .ok (.getfield 16, 3) := by decide +kernel
theorem dX6_passAll_25 : decode cX6_passAll 25 = .ok (.bipush 8, 2) := by decide +kernel
theorem dX6_passAll_27 : decode cX6_passAll 27 = .ok (.invokevirtual 145, 3) := by decide +kernel
theorem dX6_passAll_30 : decode cX6_passAll 30 = .ok (.aload_n 0, 1) := by decide +kernel
theorem dX6_passAll_31 : decode cX6_passAll 31 = .ok (.aload_n 0, 1) := by decide +kernel
theorem dX6_passAll_32 : decode cX6_passAll 32 = .ok (.getfield 19, 3) := by decide +kernel
theorem dX6_passAll_35 : decode cX6_passAll 35 = .ok (.bipush 12, 2) := by decide +kernel
theorem dX6_passAll_37 : decode cX6_passAll 37 = .ok (.invokevirtual 145, 3) := by decide +kernel
theorem dX6_passAll_40 : decode cX6_passAll 40 = .ok (.aload_n 0, 1) := by decide +kernel
theorem dX6_passAll_41 : decode cX6_passAll 41 = .ok (.aload_n 0, 1) := by decide +kernel
theorem dX6_passAll_42 : decode cX6_passAll 42 = .ok (.getfield 22, 3) := by decide +kernel
theorem dX6_passAll_45 : decode cX6_passAll 45 = .ok (.bipush 16, 2) := by decide +kernel
theorem dX6_passAll_47 : decode cX6_passAll 47 = .ok (.invokevirtual 145, 3) := by decide +kernel
theorem dX6_passAll_50 : decode cX6_passAll 50 = .ok (.aload_n 0, 1) := by decide +kernel
theorem dX6_passAll_51 : decode cX6_passAll 51 = .ok (.aload_n 0, 1) := by decide +kernel
theorem dX6_passAll_52 : decode cX6_passAll 52 = .ok (.getfield 25, 3) := by decide +kernel
theorem dX6_passAll_55 : decode cX6_passAll 55 = .ok (.bipush 16, 2) := by decide +kernel
theorem dX6_passAll_57 : decode cX6_passAll 57 = .ok (.invokevirtual 145, 3) := by decide +kernel
theorem dX6_passAll_60 : decode cX6_passAll 60 = .ok (.aload_n 0, 1) := by decide +kernel
theorem dX6_passAll_61 : decode cX6_passAll 61 = .ok (.aload_n 0, 1) := by decide +kernel
theorem dX6_passAll_62 : decode cX6_passAll 62 = .ok (.getfield 28, 3) := by decide +kernel
theorem dX6_passAll_65 : decode cX6_passAll 65 = .ok (.bipush 16, 2) := by decide +kernel
theorem dX6_passAll_67 : decode cX6_passAll 67 = .ok (.invokevirtual 145, 3) := by decide +kernel
theorem dX6_passAll_70 : decode cX6_passAll 70 = .ok (.aload_n 0, 1) := by decide +kernel
theorem dX6_passAll_71 : decode cX6_passAll 71 = .ok (.aload_n 0, 1) := by decide +kernel
theorem dX6_passAll_72 : decode cX6_passAll 72 = .ok (.getfield 31, 3) := by decide +kernel
theorem dX6_passAll_75 : decode cX6_passAll 75 = .ok (.bipush 16, 2) := by decide +kernel
theorem dX6_passAll_77 : decode cX6_passAll 77 = .ok (.invokevirtual 145, 3) := by decide +kernel
theorem dX6_passAll_80 : decode cX6_passAll 80 = .ok (.aload_n 0, 1) := by decide +kernel
theorem dX6_passAll_81 : decode cX6_passAll 81 = .ok (.aload_n 0, 1) := by decide +kernel
theorem dX6_passAll_82 : decode cX6_passAll 82 = .ok (.getfield 34, 3) := by decide +kernel
theorem dX6_passAll_85 : decode cX6_passAll 85 = .ok (.bipush 16, 2) := by decide +kernel
theorem dX6_passAll_87 : decode cX6_passAll 87 = .ok (.invokevirtual 145, 3) := by decide +kernel
theorem dX6_passAll_90 : decode cX6_passAll 90 = .ok (.aload_n 0, 1) := by decide +kernel
theorem dX6_passAll_91 : decode cX6_passAll 91 = .ok (.aload_n 0, 1) := by decide +kernel
theorem dX6_passAll_92 : decode cX6_passAll 92 = .ok (.getfield 37, 3) := by decide +kernel
theorem dX6_passAll_95 : decode cX6_passAll 95 = .ok (.bipush 16, 2) := by decide +kernel
theorem dX6_passAll_97 : decode cX6_passAll 97 = .ok (.invokevirtual 145, 3) := by decide +kernel
theorem dX6_passAll_100 : decode cX6_passAll 100 = .ok (.aload_n 0, 1) := by decide +kernel
theorem dX6_passAll_101 : decode cX6_passAll 101 = .ok (.aload_n 0, 1) := by decide +kernel
theorem dX6_passAll_102 : decode cX6_passAll 102 = .ok (.getfield 40, 3) := by decide +kernel
theorem dX6_passAll_105 : decode cX6_passAll 105 = .ok (.bipush 16, 2) := by decide +kernel
theorem dX6_passAll_107 : decode cX6_passAll 107 = .ok (.invokevirtual 145, 3) := by decide +kernel
theorem dX6_passAll_110 : decode cX6_passAll 110 = .ok (.return_, 1) := by decide +kernel
set_option maxRecDepth 20000 in
theorem ggX6_image_X6_in : GoodIn wsX6_image wsX6_in := goodIn_r _ [7] (by decide +kernel) (by decide +kernel)
set_option maxRecDepth 20000 in
theorem gX6_image_X6_in : GoodIn wsX6_image (va_wsS RX6 52 yX6_in wsX6_in) := goodIn_app (goodIn_of _ (by decide +kernel)) ggX6_image_X6_in
set_option maxRecDepth 20000 in
theorem ggX6_image_X6_passAll : GoodIn wsX6_image wsX6_passAll := goodIn_r _ [11, 12, 13, 14, 15, 16, 17, 18, 19, 20, 21, 22, 23, 24, 25, 6, 26, 2, 27, 1, 28, 29, 30, 31, 32, 33, 34, 35, 36, 37, 38, 39, 40, 41, 42] (by decide +kernel) (by decide +kernel)
set_option maxRecDepth 20000 in
theorem gX6_image_X6_passAll : GoodIn wsX6_image (wsV RX6 149 RX6 yX6_passAll wsX6_passAll) := goodIn_app (goodIn_of _ (by decide +kernel)) ggX6_image_X6_passAll
theorem dX6_image_0 : decode cX6_image 0 = .ok (.iload_n 1, 1) := by decide +kernel
theorem dX6_image_1 : decode cX6_image 1 = .ok (.i2l, 1) := by decide +kernel
theorem dX6_image_2 : decode cX6_image 2 = .ok (.lconst 0, 1) := by decide +kernel
theorem dX6_image_3 : decode cX6_image 3 = .ok (.lconst 1, 1) := by decide +kernel
theorem dX6_image_4 : decode cX6_image 4 = .ok (.invokestatic 52, 3) := by decide +kernel
theorem dX6_image_7 : decode cX6_image 7 = .ok (.ifCond .ne 6, 3) := by decide +kernel
theorem dX6_image_10 : decode cX6_image 10 = .ok (.bipush (-2), 2) := by decide +kernel
theorem dX6_image_12 : decode cX6_image 12 = .ok (.ireturn, 1) := by decide +kernel
theorem dX6_image_13 : decode cX6_image 13 = .ok (.aload_n 0, 1) := by decide +kernel
theorem dX6_image_14 : decode cX6_image 14 = .ok (.sipush 149, 3) := by decide +kernel
theorem dX6_image_17 : decode cX6_image 17 = .ok (.iload_n 1, 1) := by decide +kernel
theorem dX6_image_18 : decode cX6_image 18 = .ok (.imul, 1) := by decide +kernel
theorem dX6_image_19 : decode cX6_image 19 = .ok (.putfield 141, 3) := by decide +kernel
theorem dX6_image_22 : decode cX6_image 22 = .ok (.aload_n 0, 1) := by decide +kernel
theorem dX6_image_23 : decode cX6_image 23 = .ok (.iconst 1, 1) := by decide +kernel
theorem dX6_image_24 : decode cX6_image 24 = .ok (.putfield 137, 3) := by decide +kernel
theorem dX6_image_27 : decode cX6_image 27 = .ok (.aload_n 0, 1) := by decide +kernel
theorem dX6_image_28 : decode cX6_image 28 = .ok (.invokevirtual 149, 3) := by decide +kernel
theorem dX6_image_31 : decode cX6_image 31 = .ok (.aload_n 0, 1) := by decide +kernel
theorem dX6_image_32 : decode cX6_image 32 = .ok (.getfield 46, 3) := by decide +kernel
theorem dX6_image_35 : decode cX6_image 35 = .ok (.iload_n 1, 1) := by decide +kernel
theorem dX6_image_36 : decode cX6_image 36 = .ok (.iconst 1, 1) := by decide +kernel
theorem dX6_image_37 : decode cX6_image 37 = .ok (.bastore, 1) := by decide +kernel
theorem dX6_image_38 : decode cX6_image 38 = .ok (.iconst 1, 1) := by decide +kernel
theorem dX6_image_39 : decode cX6_image 39 = .ok (.ireturn, 1) := by decide +kernel
set_option maxRecDepth 20000 in
theorem ggX6_restore_X6_in : GoodIn wsX6_restore wsX6_in := goodIn_r _ [7] (by decide +kernel) (by decide +kernel)
set_option maxRecDepth 20000 in
theorem gX6_restore_X6_in : GoodIn wsX6_restore (va_wsS RX6 52 yX6_in wsX6_in) := goodIn_app (goodIn_of _ (by decide +kernel)) ggX6_restore_X6_in
set_option maxRecDepth 20000 in
theorem ggX6_restore_X6_passAll : GoodIn wsX6_restore wsX6_passAll := goodIn_r _ [11, 12, 13, 14, 15, 16, 17, 18, 19, 20, 21, 22, 23, 24, 25, 6, 26, 3, 27, 2, 28, 29, 30, 31, 32, 33, 34, 35, 36, 37, 38, 39, 40, 41, 42] (by decide +kernel) (by decide +kernel)
set_option maxRecDepth 20000 in
theorem gX6_restore_X6_passAll : GoodIn wsX6_restore (wsV RX6 149 RX6 yX6_passAll wsX6_passAll) := goodIn_app (goodIn_of _ (by decide +kernel)) ggX6_restore_X6_passAll
theorem dX6_restore_0 : decode cX6_restore 0 = .ok (.iload_n 1, 1) := by decide +kernel
theorem dX6_restore_1 : decode cX6_restore 1 = .ok (.i2l, 1) := by decide +kernel
theorem dX6_restore_2 : decode cX6_restore 2 = .ok (.lconst 0, 1) := by decide +kernel
theorem dX6_restore_3 : decode cX6_restore 3 = .ok (.lconst 1, 1) := by decide +kernel
theorem dX6_restore_4 : decode cX6_restore 4 = .ok (.invokestatic 52, 3) := by decide +kernel
theorem dX6_restore_7 : decode cX6_restore 7 = .ok (.ifCond .ne 6, 3) := by decide +kernel
theorem dX6_restore_10 : decode cX6_restore 10 = .ok (.bipush (-2), 2) := by decide +kernel
theorem dX6_restore_12 : decode cX6_restore 12 = .ok (.ireturn, 1) := by decide +kernel
theorem dX6_restore_13 : decode cX6_restore 13 = .ok (.aload_n 0, 1) := by decide +kernel
theorem dX6_restore_14 : decode cX6_restore 14 = .ok (.getfield 46, 3) := by decide +kernel
theorem dX6_restore_17 : decode cX6_restore 17 = .ok (.iload_n 1, 1) := by decide +kernel
theorem dX6_restore_18 : decode cX6_restore 18 = .ok (.baload, 1) := by decide +kernel
theorem dX6_restore_19 : decode cX6_restore 19 = .ok (.ifCond .ne 6, 3) := by decide +kernel
theorem dX6_restore_22 : decode cX6_restore 22 = .ok (.bipush (-3), 2) := by decide +kernel
theorem dX6_restore_24 : decode cX6_restore 24 = .ok (.ireturn, 1) := by decide +kernel
theorem dX6_restore_25 : decode cX6_restore 25 = .ok (.aload_n 0, 1) := by decide +kernel
theorem dX6_restore_26 : decode cX6_restore 26 = .ok (.sipush 149, 3) := by decide +kernel
theorem dX6_restore_29 : decode cX6_restore 29 = .ok (.iload_n 1, 1) := by decide +kernel
theorem dX6_restore_30 : decode cX6_restore 30 = .ok (.imul, 1) := by decide +kernel
theorem dX6_restore_31 : decode cX6_restore 31 = .ok (.putfield 141, 3) := by decide +kernel
theorem dX6_restore_34 : decode cX6_restore 34 = .ok (.aload_n 0, 1) := by decide +kernel
theorem dX6_restore_35 : decode cX6_restore 35 = .ok (.iconst 0, 1) := by decide +kernel
theorem dX6_restore_36 : decode cX6_restore 36 = .ok (.putfield 137, 3) := by decide +kernel
theorem dX6_restore_39 : decode cX6_restore 39 = .ok (.aload_n 0, 1) := by decide +kernel
theorem dX6_restore_40 : decode cX6_restore 40 = .ok (.invokevirtual 149, 3) := by decide +kernel
theorem dX6_restore_43 : decode cX6_restore 43 = .ok (.iconst 1, 1) := by decide +kernel
theorem dX6_restore_44 : decode cX6_restore 44 = .ok (.ireturn, 1) := by decide +kernel
set_option maxRecDepth 20000 in
theorem ggX6_told_X6_isCell : GoodIn wsX6_told wsX6_isCell := goodIn_r _ [8, 9, 10, 11, 7, 12, 3, 13, 14, 15, 25, 26, 27, 28, 29, 30, 31, 32, 33, 34, 35, 36, 37, 38, 39] (by decide +kernel) (by decide +kernel)
set_option maxRecDepth 20000 in
theorem gX6_told_X6_isCell : GoodIn wsX6_told (wsV RX6 93 RX6 yX6_isCell wsX6_isCell) := goodIn_app (goodIn_of _ (by decide +kernel)) ggX6_told_X6_isCell
set_option maxRecDepth 20000 in
theorem ggX6_told_X6_stocks : GoodIn wsX6_told wsX6_stocks := goodIn_r _ [19, 20, 21, 22, 23, 7, 24, 3, 25, 26, 27, 28, 29, 30, 31, 32, 33, 34, 35, 36, 37, 38, 39] (by decide +kernel) (by decide +kernel)
set_option maxRecDepth 20000 in
theorem gX6_told_X6_stocks : GoodIn wsX6_told (wsV RX6 77 RX6 yX6_stocks wsX6_stocks) := goodIn_app (goodIn_of _ (by decide +kernel)) ggX6_told_X6_stocks
set_option maxRecDepth 20000 in
theorem ggX6_told_X6_in : GoodIn wsX6_told wsX6_in := goodIn_r _ [15] (by decide +kernel) (by decide +kernel)
set_option maxRecDepth 20000 in
theorem gX6_told_X6_in : GoodIn wsX6_told (va_wsS RX6 52 yX6_in wsX6_in) := goodIn_app (goodIn_of _ (by decide +kernel)) ggX6_told_X6_in
theorem dX6_told_0 : decode cX6_told 0 = .ok (.aload_n 0, 1) := by decide +kernel
theorem dX6_told_1 : decode cX6_told 1 = .ok (.iload_n 1, 1) := by decide +kernel
theorem dX6_told_2 : decode cX6_told 2 = .ok (.bipush 100, 2) := by decide +kernel
theorem dX6_told_4 : decode cX6_told 4 = .ok (.isub, 1) := by decide +kernel
theorem dX6_told_5 : decode cX6_told 5 = .ok (.invokevirtual 93, 3) := by decide +kernel
theorem dX6_told_8 : decode cX6_told 8 = .ok (.ifCond .eq 13, 3) := by decide +kernel
theorem dX6_told_11 : decode cX6_told 11 = .ok (.aload_n 0, 1) := by decide +kernel
theorem dX6_told_12 : decode cX6_told 12 = .ok (.getfield 19, 3) := by decide +kernel
theorem dX6_told_15 : decode cX6_told 15 = .ok (.iload_n 1, 1) := by decide +kernel
theorem dX6_told_16 : decode cX6_told 16 = .ok (.bipush 100, 2) := by decide +kernel
theorem dX6_told_18 : decode cX6_told 18 = .ok (.isub, 1) := by decide +kernel
theorem dX6_told_19 : decode cX6_told 19 = .ok (.iaload, 1) := by decide +kernel
theorem dX6_told_20 : decode cX6_told 20 = .ok (.ireturn, 1) := by decide +kernel
theorem dX6_told_21 : decode cX6_told 21 = .ok (.iload_n 1, 1) := by decide +kernel
theorem dX6_told_22 : decode cX6_told 22 = .ok (.iconst 4, 1) := by decide +kernel
theorem dX6_told_23 : decode cX6_told 23 = .ok (.if_icmp .ne 8, 3) := by decide +kernel
theorem dX6_told_26 : decode cX6_told 26 = .ok (.aload_n 0, 1) := by decide +kernel
theorem dX6_told_27 : decode cX6_told 27 = .ok (.invokevirtual 77, 3) := by decide +kernel
theorem dX6_told_30 : decode cX6_told 30 = .ok (.ireturn, 1) := by decide +kernel
theorem dX6_told_31 : decode cX6_told 31 = .ok (.iload_n 1, 1) := by decide +kernel
theorem dX6_told_32 : decode cX6_told 32 = .ok (.i2l, 1) := by decide +kernel
theorem dX6_told_33 : decode cX6_told 33 = .ok (.lconst 0, 1) := by decide +kernel
theorem dX6_told_34 : decode cX6_told 34 = .ok (.ldc2_w 152, 3) := by decide +kernel
theorem dX6_told_37 : decode cX6_told 37 = .ok (.invokestatic 52, 3) := by decide +kernel
theorem dX6_told_40 : decode cX6_told 40 = .ok (.ifCond .eq 12, 3) := by decide +kernel
theorem dX6_told_43 : decode cX6_told 43 = .ok (.aload_n 0, 1) := by decide +kernel
theorem dX6_told_44 : decode cX6_told 44 = .ok (.getfield 7, 3) := by decide +kernel
theorem dX6_told_47 : decode cX6_told 47 = .ok (.iload_n 1, 1) := by decide +kernel
theorem dX6_told_48 : decode cX6_told 48 = .ok (.iaload, 1) := by decide +kernel
theorem dX6_told_49 : decode cX6_told 49 = .ok (.goto 5, 3) := by decide +kernel
theorem dX6_told_52 : decode cX6_told 52 = .ok (.bipush (-2), 2) := by decide +kernel
theorem dX6_told_54 : decode cX6_told 54 = .ok (.ireturn, 1) := by decide +kernel
theorem dJ9_abs_0f7a4_0 : decode cJ9_abs_0f7a4 0 = .ok (.iload_n 0, 1) := by decide +kernel
theorem dJ9_abs_0f7a4_1 : decode cJ9_abs_0f7a4 1 = .ok (.ifCond .ge 8, 3) := by decide +kernel
theorem dJ9_abs_0f7a4_4 : decode cJ9_abs_0f7a4 4 = .ok (.iload_n 0, 1) := by decide +kernel
theorem dJ9_abs_0f7a4_5 : decode cJ9_abs_0f7a4 5 = .ok (.ineg, 1) := by decide +kernel
theorem dJ9_abs_0f7a4_6 : decode cJ9_abs_0f7a4 6 = .ok (.goto 4, 3) := by decide +kernel
theorem dJ9_abs_0f7a4_9 : decode cJ9_abs_0f7a4 9 = .ok (.iload_n 0, 1) := by decide +kernel
theorem dJ9_abs_0f7a4_10 : decode cJ9_abs_0f7a4 10 = .ok (.ireturn, 1) := by decide +kernel
theorem dJ9_max_7cf53_0 : decode cJ9_max_7cf53 0 = .ok (.iload_n 0, 1) := by decide +kernel
theorem dJ9_max_7cf53_1 : decode cJ9_max_7cf53 1 = .ok (.iload_n 1, 1) := by decide +kernel
theorem dJ9_max_7cf53_2 : decode cJ9_max_7cf53 2 = .ok (.if_icmp .lt 7, 3) := by decide +kernel
theorem dJ9_max_7cf53_5 : decode cJ9_max_7cf53 5 = .ok (.iload_n 0, 1) := by decide +kernel
theorem dJ9_max_7cf53_6 : decode cJ9_max_7cf53 6 = .ok (.goto 4, 3) := by decide +kernel
theorem dJ9_max_7cf53_9 : decode cJ9_max_7cf53 9 = .ok (.iload_n 1, 1) := by decide +kernel
theorem dJ9_max_7cf53_10 : decode cJ9_max_7cf53 10 = .ok (.ireturn, 1) := by decide +kernel
theorem dJ9_min_7cf53_0 : decode cJ9_min_7cf53 0 = .ok (.iload_n 0, 1) := by decide +kernel
theorem dJ9_min_7cf53_1 : decode cJ9_min_7cf53 1 = .ok (.iload_n 1, 1) := by decide +kernel
theorem dJ9_min_7cf53_2 : decode cJ9_min_7cf53 2 = .ok (.if_icmp .gt 7, 3) := by decide +kernel
theorem dJ9_min_7cf53_5 : decode cJ9_min_7cf53 5 = .ok (.iload_n 0, 1) := by decide +kernel
theorem dJ9_min_7cf53_6 : decode cJ9_min_7cf53 6 = .ok (.goto 4, 3) := by decide +kernel
theorem dJ9_min_7cf53_9 : decode cJ9_min_7cf53 9 = .ok (.iload_n 1, 1) := by decide +kernel
theorem dJ9_min_7cf53_10 : decode cJ9_min_7cf53 10 = .ok (.ireturn, 1) := by decide +kernel
