theorem dX4_init_0 : decode cX4_init 0 = .ok (.aload_n 0, 1) := by decide +kernel
theorem dX4_init_1 : decode cX4_init 1 = .ok (.invokespecial 1, 3) := by decide +kernel
theorem dX4_init_4 : decode cX4_init 4 = .ok (.aload_n 0, 1) := by decide +kernel
theorem dX4_init_5 : decode cX4_init 5 = .ok (.new 7, 3) := by decide +kernel
theorem dX4_init_8 : decode cX4_init 8 = .ok (.dup, 1) := by decide +kernel
theorem dX4_init_9 : decode cX4_init 9 = .ok (.bipush 6, 2) := by decide +kernel
theorem dX4_init_11 : decode cX4_init 11 = .ok (.bipush 40, 2) := by decide +kernel
theorem dX4_init_13 : decode cX4_init 13 = .ok (.iconst 0, 1) := by decide +kernel
theorem dX4_init_14 : decode cX4_init 14 = .ok (.invokespecial 9, 3) := by decide +kernel
theorem dX4_init_17 : decode cX4_init 17 = .ok (.putfield 12, 3) := by decide +kernel
theorem dX4_init_20 : decode cX4_init 20 = .ok (.aload_n 0, 1) := by decide +kernel
theorem dX4_init_21 : decode cX4_init 21 = .ok (.new 7, 3) := by decide +kernel
theorem dX4_init_24 : decode cX4_init 24 = .ok (.dup, 1) := by decide +kernel
theorem dX4_init_25 : decode cX4_init 25 = .ok (.iconst 4, 1) := by decide +kernel
theorem dX4_init_26 : decode cX4_init 26 = .ok (.bipush 60, 2) := by decide +kernel
theorem dX4_init_28 : decode cX4_init 28 = .ok (.bipush 32, 2) := by decide +kernel
theorem dX4_init_30 : decode cX4_init 30 = .ok (.invokespecial 9, 3) := by decide +kernel
theorem dX4_init_33 : decode cX4_init 33 = .ok (.putfield 18, 3) := by decide +kernel
theorem dX4_init_36 : decode cX4_init 36 = .ok (.aload_n 0, 1) := by decide +kernel
theorem dX4_init_37 : decode cX4_init 37 = .ok (.new 21, 3) := by decide +kernel
theorem dX4_init_40 : decode cX4_init 40 = .ok (.dup, 1) := by decide +kernel
theorem dX4_init_41 : decode cX4_init 41 = .ok (.invokespecial 23, 3) := by decide +kernel
theorem dX4_init_44 : decode cX4_init 44 = .ok (.putfield 24, 3) := by decide +kernel
theorem dX4_init_47 : decode cX4_init 47 = .ok (.aload_n 0, 1) := by decide +kernel
theorem dX4_init_48 : decode cX4_init 48 = .ok (.iconst 3, 1) := by decide +kernel
theorem dX4_init_49 : decode cX4_init 49 = .ok (.anewarray 21, 3) := by decide +kernel
theorem dX4_init_52 : decode cX4_init 52 = .ok (.putfield 28, 3) := by decide +kernel
theorem dX4_init_55 : decode cX4_init 55 = .ok (.iconst 0, 1) := by decide +kernel
theorem dX4_init_56 : decode cX4_init 56 = .ok (.istore_n 1, 1) := by decide +kernel
theorem dX4_init_57 : decode cX4_init 57 = .ok (.iload_n 1, 1) := by decide +kernel
theorem dX4_init_58 : decode cX4_init 58 = .ok (.iconst 3, 1) := by decide +kernel
theorem dX4_init_59 : decode cX4_init 59 = .ok (.if_icmp .ge 22, 3) := by decide +kernel
theorem dX4_init_62 : decode cX4_init 62 = .ok (.aload_n 0, 1) := by decide +kernel
theorem dX4_init_63 : decode cX4_init 63 = .ok (.getfield 28, 3) := by decide +kernel
theorem dX4_init_66 : decode cX4_init 66 = .ok (.iload_n 1, 1) := by decide +kernel
theorem dX4_init_67 : decode cX4_init 67 = .ok (.new 21, 3) := by decide +kernel
theorem dX4_init_70 : decode cX4_init 70 = .ok (.dup, 1) := by decide +kernel
theorem dX4_init_71 : decode cX4_init 71 = .ok (.invokespecial 23, 3) := by decide +kernel
theorem dX4_init_74 : decode cX4_init 74 = .ok (.aastore, 1) := by decide +kernel
theorem dX4_init_75 : decode cX4_init 75 = .ok (.iinc 1 1, 3) := by decide +kernel
theorem dX4_init_78 : decode cX4_init 78 = .ok (.goto (-21), 3) := by decide +kernel
theorem dX4_init_81 : decode cX4_init 81 = .ok (.aload_n 0, 1) := by decide +kernel
theorem dX4_init_82 : decode cX4_init 82 = .ok (.iconst 3, 1) := by decide +kernel
theorem dX4_init_83 : decode cX4_init 83 = .ok (.newarray .boolean, 2) := by decide +kernel
theorem dX4_init_85 : decode cX4_init 85 = .ok (.putfield 32, 3) := by decide +kernel
theorem dX4_init_88 : decode cX4_init 88 = .ok (.aload_n 0, 1) := by decide +kernel
theorem dX4_init_89 : decode cX4_init 89 = .ok (.new 36, 3) := by decide +kernel
theorem dX4_init_92 : decode cX4_init 92 = .ok (.dup, 1) := by decide +kernel
theorem dX4_init_93 : decode cX4_init 93 = .ok (.invokespecial 38, 3) := by decide +kernel
theorem dX4_init_96 : decode cX4_init 96 = .ok (.putfield 39, 3) := by decide +kernel
theorem dX4_init_99 : decode cX4_init 99 = .ok (.aload_n 0, 1) := by decide +kernel
theorem dX4_init_100 : decode cX4_init 100 = .ok (.bipush 6, 2) := by decide +kernel
theorem dX4_init_102 : decode cX4_init 102 = .ok (.newarray .int, 2) := by decide +kernel
theorem dX4_init_104 : decode cX4_init 104 = .ok (.putfield 43, 3) := by decide +kernel
theorem dX4_init_107 : decode cX4_init 107 = .ok (.aload_n 0, 1) := by decide +kernel
theorem dX4_init_108 : decode cX4_init 108 = .ok (.new 47, 3) := by decide +kernel
theorem dX4_init_111 : decode cX4_init 111 = .ok (.dup, 1) := by decide +kernel
theorem dX4_init_112 : decode cX4_init 112 = .ok (.invokespecial 49, 3) := by decide +kernel
theorem dX4_init_115 : decode cX4_init 115 = .ok (.putfield 50, 3) := by decide +kernel
theorem dX4_init_118 : decode cX4_init 118 = .ok (.aload_n 0, 1) := by decide +kernel
theorem dX4_init_119 : decode cX4_init 119 = .ok (.new 47, 3) := by decide +kernel
theorem dX4_init_122 : decode cX4_init 122 = .ok (.dup, 1) := by decide +kernel
theorem dX4_init_123 : decode cX4_init 123 = .ok (.invokespecial 49, 3) := by decide +kernel
theorem dX4_init_126 : decode cX4_init 126 = .ok (.putfield 54, 3) := by decide +kernel
theorem dX4_init_129 : decode cX4_init 129 = .ok (.aload_n 0, 1) := by decide +kernel
theorem dX4_init_130 : decode cX4_init 130 = .ok (.lconst 1, 1) := by decide +kernel
theorem dX4_init_131 : decode cX4_init 131 = .ok (.putfield 57, 3) := by decide +kernel
theorem dX4_init_134 : decode cX4_init 134 = .ok (.return_, 1) := by decide +kernel
set_option maxRecDepth 20000 in
theorem ggX4_row_X4_renewed : GoodIn wsX4_row wsX4_renewed := goodIn_r _ [6, 7, 8, 9, 10, 11, 12, 13, 14, 15, 16, 5, 17, 18, 19, 20, 21, 22, 23, 24, 25, 26, 27, 28, 29, 30, 44, 45, 46, 47, 48, 31, 32, 33, 34, 35, 36, 37, 38, 39, 40, 41, 42, 43] (by rfl) (by decide +kernel)
set_option maxRecDepth 20000 in
theorem gX4_row_X4_renewed : GoodIn wsX4_row (wsV RX4 61 RX4 yX4_renewed wsX4_renewed) := goodIn_app (goodIn_of _ (by decide +kernel)) ggX4_row_X4_renewed
theorem dX4_row_0 : decode cX4_row 0 = .ok (.aload_n 0, 1) := by decide +kernel
theorem dX4_row_1 : decode cX4_row 1 = .ok (.aload_n 0, 1) := by decide +kernel
theorem dX4_row_2 : decode cX4_row 2 = .ok (.getfield 12, 3) := by decide +kernel
theorem dX4_row_5 : decode cX4_row 5 = .ok (.iload_n 1, 1) := by decide +kernel
theorem dX4_row_6 : decode cX4_row 6 = .ok (.iload_n 2, 1) := by decide +kernel
theorem dX4_row_7 : decode cX4_row 7 = .ok (.invokevirtual 61, 3) := by decide +kernel
theorem dX4_row_10 : decode cX4_row 10 = .ok (.ireturn, 1) := by decide +kernel
set_option maxRecDepth 20000 in
theorem ggX4_lay_X4_refusedPlace : GoodIn wsX4_lay wsX4_refusedPlace := goodIn_r _ [8, 9, 10, 11, 7, 12, 13, 14, 15, 16, 17, 18, 19, 20, 21, 22, 23, 24, 25, 26, 27, 28, 29, 30, 31, 32, 33, 47, 48, 49, 50, 51, 34, 35, 36, 37, 38, 39, 40, 41, 42, 43, 44, 45, 46] (by rfl) (by decide +kernel)
set_option maxRecDepth 20000 in
theorem gX4_lay_X4_refusedPlace : GoodIn wsX4_lay (wsV RX4 65 RX4 yX4_refusedPlace wsX4_refusedPlace) := goodIn_app (goodIn_of _ (by decide +kernel)) ggX4_lay_X4_refusedPlace
theorem dX4_lay_0 : decode cX4_lay 0 = .ok (.aload_n 0, 1) := by decide +kernel
theorem dX4_lay_1 : decode cX4_lay 1 = .ok (.aload_n 0, 1) := by decide +kernel
theorem dX4_lay_2 : decode cX4_lay 2 = .ok (.getfield 12, 3) := by decide +kernel
theorem dX4_lay_5 : decode cX4_lay 5 = .ok (.iload_n 1, 1) := by decide +kernel
theorem dX4_lay_6 : decode cX4_lay 6 = .ok (.iload_n 2, 1) := by decide +kernel
theorem dX4_lay_7 : decode cX4_lay 7 = .ok (.invokevirtual 65, 3) := by decide +kernel
theorem dX4_lay_10 : decode cX4_lay 10 = .ok (.istore 4, 2) := by decide +kernel
theorem dX4_lay_12 : decode cX4_lay 12 = .ok (.iload 4, 2) := by decide +kernel
theorem dX4_lay_14 : decode cX4_lay 14 = .ok (.ifCond .eq 6, 3) := by decide +kernel
theorem dX4_lay_17 : decode cX4_lay 17 = .ok (.iload 4, 2) := by decide +kernel
theorem dX4_lay_19 : decode cX4_lay 19 = .ok (.ireturn, 1) := by decide +kernel
theorem dX4_lay_20 : decode cX4_lay 20 = .ok (.aload_n 0, 1) := by decide +kernel
theorem dX4_lay_21 : decode cX4_lay 21 = .ok (.aload_n 0, 1) := by decide +kernel
theorem dX4_lay_22 : decode cX4_lay 22 = .ok (.getfield 12, 3) := by decide +kernel
theorem dX4_lay_25 : decode cX4_lay 25 = .ok (.getfield 68, 3) := by decide +kernel
theorem dX4_lay_28 : decode cX4_lay 28 = .ok (.iload_n 1, 1) := by decide +kernel
theorem dX4_lay_29 : decode cX4_lay 29 = .ok (.aaload, 1) := by decide +kernel
theorem dX4_lay_30 : decode cX4_lay 30 = .ok (.iload_n 2, 1) := by decide +kernel
theorem dX4_lay_31 : decode cX4_lay 31 = .ok (.iaload, 1) := by decide +kernel
theorem dX4_lay_32 : decode cX4_lay 32 = .ok (.putfield 72, 3) := by decide +kernel
theorem dX4_lay_35 : decode cX4_lay 35 = .ok (.aload_n 0, 1) := by decide +kernel
theorem dX4_lay_36 : decode cX4_lay 36 = .ok (.getfield 12, 3) := by decide +kernel
theorem dX4_lay_39 : decode cX4_lay 39 = .ok (.getfield 68, 3) := by decide +kernel
theorem dX4_lay_42 : decode cX4_lay 42 = .ok (.iload_n 1, 1) := by decide +kernel
theorem dX4_lay_43 : decode cX4_lay 43 = .ok (.aaload, 1) := by decide +kernel
theorem dX4_lay_44 : decode cX4_lay 44 = .ok (.iload_n 2, 1) := by decide +kernel
theorem dX4_lay_45 : decode cX4_lay 45 = .ok (.iload_n 3, 1) := by decide +kernel
theorem dX4_lay_46 : decode cX4_lay 46 = .ok (.iastore, 1) := by decide +kernel
theorem dX4_lay_47 : decode cX4_lay 47 = .ok (.iconst 1, 1) := by decide +kernel
theorem dX4_lay_48 : decode cX4_lay 48 = .ok (.ireturn, 1) := by decide +kernel
set_option maxRecDepth 20000 in
theorem ggX4_tear_X4_refusedRow : GoodIn wsX4_tear wsX4_refusedRow := goodIn_r _ [7, 8, 9, 10, 11, 12, 13, 14, 15, 16, 17, 18, 19, 20, 21, 6, 22, 23, 24, 38, 39, 40, 41, 42, 25, 26, 27, 28, 29, 30, 31, 32, 33, 34, 35, 36, 37] (by rfl) (by decide +kernel)
set_option maxRecDepth 20000 in
theorem gX4_tear_X4_refusedRow : GoodIn wsX4_tear (wsV RX4 76 RX4 yX4_refusedRow wsX4_refusedRow) := goodIn_app (goodIn_of _ (by decide +kernel)) ggX4_tear_X4_refusedRow
theorem dX4_tear_0 : decode cX4_tear 0 = .ok (.aload_n 0, 1) := by decide +kernel
theorem dX4_tear_1 : decode cX4_tear 1 = .ok (.aload_n 0, 1) := by decide +kernel
theorem dX4_tear_2 : decode cX4_tear 2 = .ok (.getfield 12, 3) := by decide +kernel
theorem dX4_tear_5 : decode cX4_tear 5 = .ok (.iload_n 1, 1) := by decide +kernel
theorem dX4_tear_6 : decode cX4_tear 6 = .ok (.invokevirtual 76, 3) := by decide +kernel
theorem dX4_tear_9 : decode cX4_tear 9 = .ok (.istore_n 2, 1) := by decide +kernel
theorem dX4_tear_10 : decode cX4_tear 10 = .ok (.iload_n 2, 1) := by decide +kernel
theorem dX4_tear_11 : decode cX4_tear 11 = .ok (.ifCond .eq 5, 3) := by decide +kernel
theorem dX4_tear_14 : decode cX4_tear 14 = .ok (.iload_n 2, 1) := by decide +kernel
theorem dX4_tear_15 : decode cX4_tear 15 = .ok (.ireturn, 1) := by decide +kernel
theorem dX4_tear_16 : decode cX4_tear 16 = .ok (.aload_n 0, 1) := by decide +kernel
theorem dX4_tear_17 : decode cX4_tear 17 = .ok (.getfield 12, 3) := by decide +kernel
theorem dX4_tear_20 : decode cX4_tear 20 = .ok (.getfield 80, 3) := by decide +kernel
theorem dX4_tear_23 : decode cX4_tear 23 = .ok (.iload_n 1, 1) := by decide +kernel
theorem dX4_tear_24 : decode cX4_tear 24 = .ok (.iconst (-1), 1) := by decide +kernel
theorem dX4_tear_25 : decode cX4_tear 25 = .ok (.iastore, 1) := by decide +kernel
theorem dX4_tear_26 : decode cX4_tear 26 = .ok (.iconst 1, 1) := by decide +kernel
theorem dX4_tear_27 : decode cX4_tear 27 = .ok (.ireturn, 1) := by decide +kernel
set_option maxRecDepth 20000 in
theorem ggX4_text_X4_renewed : GoodIn wsX4_text wsX4_renewed := goodIn_r _ [6, 7, 8, 9, 10, 11, 12, 13, 14, 15, 16, 5, 17, 18, 19, 20, 21, 22, 23, 24, 25, 26, 27, 28, 29, 30, 44, 45, 46, 47, 48, 31, 32, 33, 34, 35, 36, 37, 38, 39, 40, 41, 42, 43] (by rfl) (by decide +kernel)
set_option maxRecDepth 20000 in
theorem gX4_text_X4_renewed : GoodIn wsX4_text (wsV RX4 61 RX4 yX4_renewed wsX4_renewed) := goodIn_app (goodIn_of _ (by decide +kernel)) ggX4_text_X4_renewed
theorem dX4_text_0 : decode cX4_text 0 = .ok (.aload_n 0, 1) := by decide +kernel
theorem dX4_text_1 : decode cX4_text 1 = .ok (.aload_n 0, 1) := by decide +kernel
theorem dX4_text_2 : decode cX4_text 2 = .ok (.getfield 18, 3) := by decide +kernel
theorem dX4_text_5 : decode cX4_text 5 = .ok (.iload_n 1, 1) := by decide +kernel
theorem dX4_text_6 : decode cX4_text 6 = .ok (.iload_n 2, 1) := by decide +kernel
theorem dX4_text_7 : decode cX4_text 7 = .ok (.invokevirtual 61, 3) := by decide +kernel
theorem dX4_text_10 : decode cX4_text 10 = .ok (.ireturn, 1) := by decide +kernel
set_option maxRecDepth 20000 in
theorem ggX4_put_X4_refusedPlace : GoodIn wsX4_put wsX4_refusedPlace := goodIn_r _ [7, 8, 9, 10, 6, 11, 12, 13, 14, 15, 16, 17, 18, 19, 20, 21, 22, 23, 24, 25, 26, 27, 28, 29, 30, 31, 32, 46, 47, 48, 49, 50, 33, 34, 35, 36, 37, 38, 39, 40, 41, 42, 43, 44, 45] (by rfl) (by decide +kernel)
set_option maxRecDepth 20000 in
theorem gX4_put_X4_refusedPlace : GoodIn wsX4_put (wsV RX4 65 RX4 yX4_refusedPlace wsX4_refusedPlace) := goodIn_app (goodIn_of _ (by decide +kernel)) ggX4_put_X4_refusedPlace
theorem dX4_put_0 : decode cX4_put 0 = .ok (.aload_n 0, 1) := by decide +kernel
theorem dX4_put_1 : decode cX4_put 1 = .ok (.aload_n 0, 1) := by decide +kernel
theorem dX4_put_2 : decode cX4_put 2 = .ok (.getfield 18, 3) := by decide +kernel
theorem dX4_put_5 : decode cX4_put 5 = .ok (.iload_n 1, 1) := by decide +kernel
theorem dX4_put_6 : decode cX4_put 6 = .ok (.iload_n 2, 1) := by decide +kernel
theorem dX4_put_7 : decode cX4_put 7 = .ok (.invokevirtual 65, 3) := by decide +kernel
theorem dX4_put_10 : decode cX4_put 10 = .ok (.istore 4, 2) := by decide +kernel
theorem dX4_put_12 : decode cX4_put 12 = .ok (.iload 4, 2) := by decide +kernel
theorem dX4_put_14 : decode cX4_put 14 = .ok (.ifCond .eq 6, 3) := by decide +kernel
theorem dX4_put_17 : decode cX4_put 17 = .ok (.iload 4, 2) := by decide +kernel
theorem dX4_put_19 : decode cX4_put 19 = .ok (.ireturn, 1) := by decide +kernel
theorem dX4_put_20 : decode cX4_put 20 = .ok (.aload_n 0, 1) := by decide +kernel
theorem dX4_put_21 : decode cX4_put 21 = .ok (.getfield 18, 3) := by decide +kernel
theorem dX4_put_24 : decode cX4_put 24 = .ok (.getfield 68, 3) := by decide +kernel
theorem dX4_put_27 : decode cX4_put 27 = .ok (.iload_n 1, 1) := by decide +kernel
theorem dX4_put_28 : decode cX4_put 28 = .ok (.aaload, 1) := by decide +kernel
theorem dX4_put_29 : decode cX4_put 29 = .ok (.iload_n 2, 1) := by decide +kernel
theorem dX4_put_30 : decode cX4_put 30 = .ok (.iaload, 1) := by decide +kernel
theorem dX4_put_31 : decode cX4_put 31 = .ok (.istore 5, 2) := by decide +kernel
theorem dX4_put_33 : decode cX4_put 33 = .ok (.aload_n 0, 1) := by decide +kernel
theorem dX4_put_34 : decode cX4_put 34 = .ok (.getfield 18, 3) := by decide +kernel
theorem dX4_put_37 : decode cX4_put 37 = .ok (.getfield 68, 3) := by decide +kernel
theorem dX4_put_40 : decode cX4_put 40 = .ok (.iload_n 1, 1) := by decide +kernel
theorem dX4_put_41 : decode cX4_put 41 = .ok (.aaload, 1) := by decide +kernel
theorem dX4_put_42 : decode cX4_put 42 = .ok (.iload_n 2, 1) := by decide +kernel
theorem dX4_put_43 : decode cX4_put 43 = .ok (.iload_n 3, 1) := by decide +kernel
theorem dX4_put_44 : decode cX4_put 44 = .ok (.i2b, 1) := by decide +kernel
theorem dX4_put_45 : decode cX4_put 45 = .ok (.iastore, 1) := by decide +kernel
theorem dX4_put_46 : decode cX4_put 46 = .ok (.iload 5, 2) := by decide +kernel
theorem dX4_put_48 : decode cX4_put 48 = .ok (.sipush 1000, 3) := by decide +kernel
theorem dX4_put_51 : decode cX4_put 51 = .ok (.iadd, 1) := by decide +kernel
theorem dX4_put_52 : decode cX4_put 52 = .ok (.ireturn, 1) := by decide +kernel
set_option maxRecDepth 20000 in
theorem ggX4_fault_X4_refusedRow : GoodIn wsX4_fault wsX4_refusedRow := goodIn_r _ [9, 10, 11, 12, 13, 14, 15, 16, 17, 18, 19, 20, 21, 22, 23, 8, 24, 25, 26, 93, 94, 95, 96, 97, 80, 81, 82, 83, 84, 85, 86, 87, 88, 89, 90, 91, 92] (by rfl) (by decide +kernel)
set_option maxRecDepth 20000 in
theorem gX4_fault_X4_refusedRow : GoodIn wsX4_fault (wsV RX4 76 RX4 yX4_refusedRow wsX4_refusedRow) := goodIn_app (goodIn_of _ (by decide +kernel)) ggX4_fault_X4_refusedRow
set_option maxRecDepth 20000 in
theorem ggX4_fault_X1_read : GoodIn wsX4_fault wsX1_read := goodIn_r _ [31, 32, 33, 34, 35, 36, 37, 30, 38, 39, 40, 41, 42, 43, 44, 45, 46, 47, 48, 49, 50, 51, 52, 53, 54, 55, 56, 57, 58, 59, 60, 61, 62, 63, 64, 65, 66, 67, 68, 69, 70, 71, 72, 73, 74, 75, 76, 77, 78, 79, 98, 99, 100, 101, 102, 103, 104, 105, 106] (by rfl) (by decide +kernel)
set_option maxRecDepth 20000 in
theorem gX4_fault_X1_read : GoodIn wsX4_fault (wsV RX4 108 RX1 yX1_read wsX1_read) := goodIn_app (goodIn_of _ (by decide +kernel)) ggX4_fault_X1_read
theorem dX4_fault_0 : decode cX4_fault 0 = .ok (.aload_n 0, 1) := by decide +kernel
theorem dX4_fault_1 : decode cX4_fault 1 = .ok (.aload_n 0, 1) := by decide +kernel
theorem dX4_fault_2 : decode cX4_fault 2 = .ok (.getfield 18, 3) := by decide +kernel
theorem dX4_fault_5 : decode cX4_fault 5 = .ok (.iload_n 1, 1) := by decide +kernel
theorem dX4_fault_6 : decode cX4_fault 6 = .ok (.invokevirtual 76, 3) := by decide +kernel
theorem dX4_fault_9 : decode cX4_fault 9 = .ok (.istore_n 2, 1) := by decide +kernel
theorem dX4_fault_10 : decode cX4_fault 10 = .ok (.iload_n 2, 1) := by decide +kernel
theorem dX4_fault_11 : decode cX4_fault 11 = .ok (.ifCond .eq 7, 3) := by decide +kernel
theorem dX4_fault_14 : decode cX4_fault 14 = .ok (.iload_n 2, 1) := by decide +kernel
theorem dX4_fault_15 : decode cX4_fault 15 = .ok (.goto 28, 3) := by decide +kernel
theorem dX4_fault_18 : decode cX4_fault 18 = .ok (.aload_n 0, 1) := by decide +kernel
theorem dX4_fault_19 : decode cX4_fault 19 = .ok (.getfield 54, 3) := by decide +kernel
theorem dX4_fault_22 : decode cX4_fault 22 = .ok (.aload_n 0, 1) := by decide +kernel
theorem dX4_fault_23 : decode cX4_fault 23 = .ok (.getfield 18, 3) := by decide +kernel
theorem dX4_fault_26 : decode cX4_fault 26 = .ok (.getfield 68, 3) := by decide +kernel
theorem dX4_fault_29 : decode cX4_fault 29 = .ok (.iload_n 1, 1) := by decide +kernel
theorem dX4_fault_30 : decode cX4_fault 30 = .ok (.aaload, 1) := by decide +kernel
theorem dX4_fault_31 : decode cX4_fault 31 = .ok (.aload_n 0, 1) := by decide +kernel
theorem dX4_fault_32 : decode cX4_fault 32 = .ok (.getfield 18, 3) := by decide +kernel
theorem dX4_fault_35 : decode cX4_fault 35 = .ok (.getfield 80, 3) := by decide +kernel
theorem dX4_fault_38 : decode cX4_fault 38 = .ok (.iload_n 1, 1) := by decide +kernel
theorem dX4_fault_39 : decode cX4_fault 39 = .ok (.iaload, 1) := by decide +kernel
theorem dX4_fault_40 : decode cX4_fault 40 = .ok (.invokevirtual 108, 3) := by decide +kernel
theorem dX4_fault_43 : decode cX4_fault 43 = .ok (.ireturn, 1) := by decide +kernel
set_option maxRecDepth 20000 in
theorem ggX4_tower_X4_refusedRow : GoodIn wsX4_tower wsX4_refusedRow := goodIn_r _ [14, 15, 16, 17, 18, 19, 20, 21, 22, 23, 24, 25, 26, 27, 28, 13, 29, 30, 31, 98, 99, 100, 101, 102, 85, 86, 87, 88, 89, 90, 91, 92, 93, 94, 95, 96, 97] (by rfl) (by decide +kernel)
set_option maxRecDepth 20000 in
theorem gX4_tower_X4_refusedRow : GoodIn wsX4_tower (wsV RX4 76 RX4 yX4_refusedRow wsX4_refusedRow) := goodIn_app (goodIn_of _ (by decide +kernel)) ggX4_tower_X4_refusedRow
set_option maxRecDepth 20000 in
theorem ggX4_tower_X1_read : GoodIn wsX4_tower wsX1_read := goodIn_r _ [36, 37, 38, 39, 40, 41, 42, 35, 43, 44, 45, 46, 47, 48, 49, 50, 51, 52, 53, 54, 55, 56, 57, 58, 59, 60, 61, 62, 63, 64, 65, 66, 67, 68, 69, 70, 71, 72, 73, 74, 75, 76, 77, 78, 79, 80, 81, 82, 83, 84, 108, 109, 110, 111, 112, 113, 114, 115, 116] (by rfl) (by decide +kernel)
set_option maxRecDepth 20000 in
theorem gX4_tower_X1_read : GoodIn wsX4_tower (wsV RX4 108 RX1 yX1_read wsX1_read) := goodIn_app (goodIn_of _ (by decide +kernel)) ggX4_tower_X1_read
theorem dX4_tower_0 : decode cX4_tower 0 = .ok (.aload_n 0, 1) := by decide +kernel
theorem dX4_tower_1 : decode cX4_tower 1 = .ok (.aload_n 0, 1) := by decide +kernel
theorem dX4_tower_2 : decode cX4_tower 2 = .ok (.getfield 18, 3) := by decide +kernel
theorem dX4_tower_5 : decode cX4_tower 5 = .ok (.iload_n 1, 1) := by decide +kernel
theorem dX4_tower_6 : decode cX4_tower 6 = .ok (.invokevirtual 76, 3) := by decide +kernel
theorem dX4_tower_9 : decode cX4_tower 9 = .ok (.istore_n 2, 1) := by decide +kernel
theorem dX4_tower_10 : decode cX4_tower 10 = .ok (.iload_n 2, 1) := by decide +kernel
theorem dX4_tower_11 : decode cX4_tower 11 = .ok (.ifCond .eq 5, 3) := by decide +kernel
theorem dX4_tower_14 : decode cX4_tower 14 = .ok (.iload_n 2, 1) := by decide +kernel
theorem dX4_tower_15 : decode cX4_tower 15 = .ok (.ireturn, 1) := by decide +kernel
theorem dX4_tower_16 : decode cX4_tower 16 = .ok (.aload_n 0, 1) := by decide +kernel
theorem dX4_tower_17 : decode cX4_tower 17 = .ok (.getfield 54, 3) := by decide +kernel
theorem dX4_tower_20 : decode cX4_tower 20 = .ok (.aload_n 0, 1) := by decide +kernel
theorem dX4_tower_21 : decode cX4_tower 21 = .ok (.getfield 18, 3) := by decide +kernel
theorem dX4_tower_24 : decode cX4_tower 24 = .ok (.getfield 68, 3) := by decide +kernel
theorem dX4_tower_27 : decode cX4_tower 27 = .ok (.iload_n 1, 1) := by decide +kernel
theorem dX4_tower_28 : decode cX4_tower 28 = .ok (.aaload, 1) := by decide +kernel
theorem dX4_tower_29 : decode cX4_tower 29 = .ok (.aload_n 0, 1) := by decide +kernel
theorem dX4_tower_30 : decode cX4_tower 30 = .ok (.getfield 18, 3) := by decide +kernel
theorem dX4_tower_33 : decode cX4_tower 33 = .ok (.getfield 80, 3) := by decide +kernel
theorem dX4_tower_36 : decode cX4_tower 36 = .ok (.iload_n 1, 1) := by decide +kernel
theorem dX4_tower_37 : decode cX4_tower 37 = .ok (.iaload, 1) := by decide +kernel
theorem dX4_tower_38 : decode cX4_tower 38 = .ok (.invokevirtual 108, 3) := by decide +kernel
theorem dX4_tower_41 : decode cX4_tower 41 = .ok (.bipush (-9), 2) := by decide +kernel
theorem dX4_tower_43 : decode cX4_tower 43 = .ok (.if_icmp .eq 6, 3) := by decide +kernel
theorem dX4_tower_46 : decode cX4_tower 46 = .ok (.bipush (-4), 2) := by decide +kernel
theorem dX4_tower_48 : decode cX4_tower 48 = .ok (.ireturn, 1) := by decide +kernel
theorem dX4_tower_49 : decode cX4_tower 49 = .ok (.aload_n 0, 1) := by decide +kernel
theorem dX4_tower_50 : decode cX4_tower 50 = .ok (.getfield 50, 3) := by decide +kernel
theorem dX4_tower_53 : decode cX4_tower 53 = .ok (.astore_n 3, 1) := by decide +kernel
theorem dX4_tower_54 : decode cX4_tower 54 = .ok (.aload_n 0, 1) := by decide +kernel
theorem dX4_tower_55 : decode cX4_tower 55 = .ok (.aload_n 0, 1) := by decide +kernel
theorem dX4_tower_56 : decode cX4_tower 56 = .ok (.getfield 54, 3) := by decide +kernel
theorem dX4_tower_59 : decode cX4_tower 59 = .ok (.putfield 50, 3) := by decide +kernel
theorem dX4_tower_62 : decode cX4_tower 62 = .ok (.aload_n 0, 1) := by decide +kernel
theorem dX4_tower_63 : decode cX4_tower 63 = .ok (.aload_n 3, 1) := by decide +kernel
theorem dX4_tower_64 : decode cX4_tower 64 = .ok (.putfield 54, 3) := by decide +kernel
theorem dX4_tower_67 : decode cX4_tower 67 = .ok (.aload_n 0, 1) := by decide +kernel
theorem dX4_tower_68 : decode cX4_tower 68 = .ok (.getfield 24, 3) := by decide +kernel
theorem dX4_tower_71 : decode cX4_tower 71 = .ok (.iconst 0, 1) := by decide +kernel
theorem dX4_tower_72 : decode cX4_tower 72 = .ok (.putfield 112, 3) := by decide +kernel
theorem dX4_tower_75 : decode cX4_tower 75 = .ok (.iconst 0, 1) := by decide +kernel
theorem dX4_tower_76 : decode cX4_tower 76 = .ok (.istore 4, 2) := by decide +kernel
theorem dX4_tower_78 : decode cX4_tower 78 = .ok (.iload 4, 2) := by decide +kernel
theorem dX4_tower_80 : decode cX4_tower 80 = .ok (.iconst 3, 1) := by decide +kernel
theorem dX4_tower_81 : decode cX4_tower 81 = .ok (.if_icmp .ge 17, 3) := by decide +kernel
theorem dX4_tower_84 : decode cX4_tower 84 = .ok (.aload_n 0, 1) := by decide +kernel
theorem dX4_tower_85 : decode cX4_tower 85 = .ok (.getfield 32, 3) := by decide +kernel
theorem dX4_tower_88 : decode cX4_tower 88 = .ok (.iload 4, 2) := by decide +kernel
theorem dX4_tower_90 : decode cX4_tower 90 = .ok (.iconst 0, 1) := by decide +kernel
theorem dX4_tower_91 : decode cX4_tower 91 = .ok (.bastore, 1) := by decide +kernel
theorem dX4_tower_92 : decode cX4_tower 92 = .ok (.iinc 4 1, 3) := by decide +kernel
theorem dX4_tower_95 : decode cX4_tower 95 = .ok (.goto (-17), 3) := by decide +kernel
theorem dX4_tower_98 : decode cX4_tower 98 = .ok (.aload_n 0, 1) := by decide +kernel
theorem dX4_tower_99 : decode cX4_tower 99 = .ok (.getfield 50, 3) := by decide +kernel
theorem dX4_tower_102 : decode cX4_tower 102 = .ok (.getfield 115, 3) := by decide +kernel
theorem dX4_tower_105 : decode cX4_tower 105 = .ok (.ireturn, 1) := by decide +kernel
set_option maxRecDepth 20000 in
theorem ggX4_one_X4_isNobody : GoodIn wsX4_one wsX4_isNobody := goodIn_r _ [6, 7, 8, 88, 89, 90, 91, 92, 93, 94, 95, 96, 97, 98, 99, 100, 101, 102, 103, 104, 105, 106, 107, 108, 109] (by rfl) (by decide +kernel)
set_option maxRecDepth 20000 in
theorem gX4_one_X4_isNobody : GoodIn wsX4_one (wsV RX4 118 RX4 yX4_isNobody wsX4_isNobody) := goodIn_app (goodIn_of _ (by decide +kernel)) ggX4_one_X4_isNobody
set_option maxRecDepth 20000 in
theorem ggX4_one_X4_about : GoodIn wsX4_one wsX4_about := goodIn_r _ [12, 7, 13, 14, 15, 16, 17, 18, 5, 19, 20, 21, 22, 23, 24, 25, 26, 27, 28, 29, 30, 31, 32, 33, 34, 35, 36, 37, 38, 8, 39, 40, 41, 42, 43, 44, 45, 46, 47, 48, 49, 50, 51, 52, 53, 54, 55, 56, 57, 58, 59, 60, 61, 62, 63, 64, 65, 66, 67, 68, 69, 70, 71, 72, 73, 74, 75, 76, 77, 78, 79, 80, 81, 82, 83, 84, 85, 86, 87, 88, 89, 90, 91, 92, 93, 94, 95, 96, 97, 98, 99, 100, 101, 102, 103, 104, 105, 106, 107, 108, 109, 110, 111, 112, 113, 114] (by rfl) (by decide +kernel)
set_option maxRecDepth 20000 in
theorem gX4_one_X4_about : GoodIn wsX4_one (wsV RX4 121 RX4 yX4_about wsX4_about) := goodIn_app (goodIn_of _ (by decide +kernel)) ggX4_one_X4_about
theorem dX4_one_0 : decode cX4_one 0 = .ok (.aload_n 0, 1) := by decide +kernel
theorem dX4_one_1 : decode cX4_one 1 = .ok (.iload_n 1, 1) := by decide +kernel
theorem dX4_one_2 : decode cX4_one 2 = .ok (.invokevirtual 118, 3) := by decide +kernel
theorem dX4_one_5 : decode cX4_one 5 = .ok (.ifCond .ne 12, 3) := by decide +kernel
theorem dX4_one_8 : decode cX4_one 8 = .ok (.iload_n 2, 1) := by decide +kernel
theorem dX4_one_9 : decode cX4_one 9 = .ok (.ifCond .lt 8, 3) := by decide +kernel
theorem dX4_one_12 : decode cX4_one 12 = .ok (.iload_n 2, 1) := by decide +kernel
theorem dX4_one_13 : decode cX4_one 13 = .ok (.iconst 4, 1) := by decide +kernel
theorem dX4_one_14 : decode cX4_one 14 = .ok (.if_icmp .le 5, 3) := by decide +kernel
theorem dX4_one_17 : decode cX4_one 17 = .ok (.iconst (-1), 1) := by decide +kernel
theorem dX4_one_18 : decode cX4_one 18 = .ok (.ireturn, 1) := by decide +kernel
theorem dX4_one_19 : decode cX4_one 19 = .ok (.aload_n 0, 1) := by decide +kernel
theorem dX4_one_20 : decode cX4_one 20 = .ok (.aload_n 0, 1) := by decide +kernel
theorem dX4_one_21 : decode cX4_one 21 = .ok (.iload_n 1, 1) := by decide +kernel
theorem dX4_one_22 : decode cX4_one 22 = .ok (.iload_n 2, 1) := by decide +kernel
theorem dX4_one_23 : decode cX4_one 23 = .ok (.invokevirtual 121, 3) := by decide +kernel
theorem dX4_one_26 : decode cX4_one 26 = .ok (.putfield 72, 3) := by decide +kernel
theorem dX4_one_29 : decode cX4_one 29 = .ok (.iconst 1, 1) := by decide +kernel
theorem dX4_one_30 : decode cX4_one 30 = .ok (.ireturn, 1) := by decide +kernel
set_option maxRecDepth 20000 in
theorem ggX4_go_X4_isNoPair : GoodIn wsX4_go wsX4_isNoPair := goodIn_r _ [9, 10, 11, 12, 8, 13, 1, 14, 78, 79, 80, 81, 82, 83, 84, 85, 86, 87, 88, 89, 90, 91, 92, 93, 94, 95, 96, 97, 98, 99] (by rfl) (by decide +kernel)
set_option maxRecDepth 20000 in
theorem gX4_go_X4_isNoPair : GoodIn wsX4_go (wsV RX4 151 RX4 yX4_isNoPair wsX4_isNoPair) := goodIn_app (goodIn_of _ (by decide +kernel)) ggX4_go_X4_isNoPair
set_option maxRecDepth 20000 in
theorem ggX4_go_X4_areNoSets : GoodIn wsX4_go wsX4_areNoSets := goodIn_r _ [18, 1, 19, 20, 21, 22, 23, 24, 78, 79, 80, 81, 82, 83, 84, 85, 86, 87, 88, 89, 90, 91, 92, 93, 94, 95, 96, 97, 98, 99] (by rfl) (by decide +kernel)
set_option maxRecDepth 20000 in
theorem gX4_go_X4_areNoSets : GoodIn wsX4_go (wsV RX4 155 RX4 yX4_areNoSets wsX4_areNoSets) := goodIn_app (goodIn_of _ (by decide +kernel)) ggX4_go_X4_areNoSets
set_option maxRecDepth 20000 in
theorem ggX4_go_X4_areApart : GoodIn wsX4_go wsX4_areApart := goodIn_r _ [28, 3, 29, 30, 31, 32, 33, 34, 35, 78, 79, 80, 81, 82, 83, 84, 85, 86, 87, 88, 89, 90, 100, 101, 102, 103, 104] (by rfl) (by decide +kernel)
set_option maxRecDepth 20000 in
theorem gX4_go_X4_areApart : GoodIn wsX4_go (wsV RX4 158 RX4 yX4_areApart wsX4_areApart) := goodIn_app (goodIn_of _ (by decide +kernel)) ggX4_go_X4_areApart
set_option maxRecDepth 20000 in
theorem ggX4_go_X4_stonesWith : GoodIn wsX4_go wsX4_stonesWith := goodIn_r _ [39, 3, 1, 40, 41, 42, 32, 43, 44, 35, 29, 30, 31, 33, 34, 19, 20, 21, 22, 23, 24, 78, 79, 80, 81, 82, 83, 84, 85, 86, 87, 88, 89, 90, 100, 101, 102, 103, 104, 91, 92, 93, 94, 95, 96, 97, 98, 99] (by rfl) (by decide +kernel)
set_option maxRecDepth 20000 in
theorem gX4_go_X4_stonesWith : GoodIn wsX4_go (wsV RX4 161 RX4 yX4_stonesWith wsX4_stonesWith) := goodIn_app (goodIn_of _ (by decide +kernel)) ggX4_go_X4_stonesWith
set_option maxRecDepth 20000 in
theorem ggX4_go_X4_steps : GoodIn wsX4_go wsX4_steps := goodIn_r _ [48, 1, 3, 49, 50, 51, 32, 52, 53, 35, 54, 55, 56, 22, 57, 58, 59, 60, 61, 8, 62, 63, 64, 65, 66, 67, 68, 69, 70, 71, 72, 78, 79, 80, 81, 82, 83, 84, 85, 86, 87, 88, 89, 90, 100, 101, 102, 103, 104, 91, 92, 93, 94, 95, 96, 97, 98, 99] (by rfl) (by decide +kernel)
set_option maxRecDepth 20000 in
theorem gX4_go_X4_steps : GoodIn wsX4_go (wsV RX4 164 RX4 yX4_steps wsX4_steps) := goodIn_app (goodIn_of _ (by decide +kernel)) ggX4_go_X4_steps
set_option maxRecDepth 20000 in
theorem ggX4_go_X0_add : GoodIn wsX4_go wsX0_add := goodIn_r _ [76, 35, 34, 44, 53, 77, 100, 101, 102, 103, 104] (by rfl) (by decide +kernel)
set_option maxRecDepth 20000 in
theorem gX4_go_X0_add : GoodIn wsX4_go (wsV RX4 171 RX0 yX0_add wsX0_add) := goodIn_app (goodIn_of _ (by decide +kernel)) ggX4_go_X0_add
theorem dX4_go_0 : decode cX4_go 0 = .ok (.aload_n 0, 1) := by decide +kernel
theorem dX4_go_1 : decode cX4_go 1 = .ok (.iload_n 1, 1) := by decide +kernel
theorem dX4_go_2 : decode cX4_go 2 = .ok (.iload_n 2, 1) := by decide +kernel
theorem dX4_go_3 : decode cX4_go 3 = .ok (.invokevirtual 151, 3) := by decide +kernel
theorem dX4_go_6 : decode cX4_go 6 = .ok (.ifCond .ne 13, 3) := by decide +kernel
theorem dX4_go_9 : decode cX4_go 9 = .ok (.aload_n 0, 1) := by decide +kernel
theorem dX4_go_10 : decode cX4_go 10 = .ok (.iload_n 3, 1) := by decide +kernel
theorem dX4_go_11 : decode cX4_go 11 = .ok (.iload 4, 2) := by decide +kernel
theorem dX4_go_13 : decode cX4_go 13 = .ok (.invokevirtual 155, 3) := by decide +kernel
theorem dX4_go_16 : decode cX4_go 16 = .ok (.ifCond .eq 5, 3) := by decide +kernel
theorem dX4_go_19 : decode cX4_go 19 = .ok (.iconst (-1), 1) := by decide +kernel
theorem dX4_go_20 : decode cX4_go 20 = .ok (.ireturn, 1) := by decide +kernel
theorem dX4_go_21 : decode cX4_go 21 = .ok (.aload_n 0, 1) := by decide +kernel
theorem dX4_go_22 : decode cX4_go 22 = .ok (.iload_n 1, 1) := by decide +kernel
theorem dX4_go_23 : decode cX4_go 23 = .ok (.iload_n 2, 1) := by decide +kernel
theorem dX4_go_24 : decode cX4_go 24 = .ok (.invokevirtual 158, 3) := by decide +kernel
theorem dX4_go_27 : decode cX4_go 27 = .ok (.ifCond .ne 18, 3) := by decide +kernel
theorem dX4_go_30 : decode cX4_go 30 = .ok (.iload_n 3, 1) := by decide +kernel
theorem dX4_go_31 : decode cX4_go 31 = .ok (.iload 4, 2) := by decide +kernel
theorem dX4_go_33 : decode cX4_go 33 = .ok (.ior, 1) := by decide +kernel
theorem dX4_go_34 : decode cX4_go 34 = .ok (.aload_n 0, 1) := by decide +kernel
theorem dX4_go_35 : decode cX4_go 35 = .ok (.iload_n 1, 1) := by decide +kernel
theorem dX4_go_36 : decode cX4_go 36 = .ok (.invokevirtual 161, 3) := by decide +kernel
theorem dX4_go_39 : decode cX4_go 39 = .ok (.iconst (-1), 1) := by decide +kernel
theorem dX4_go_40 : decode cX4_go 40 = .ok (.ixor, 1) := by decide +kernel
theorem dX4_go_41 : decode cX4_go 41 = .ok (.iand, 1) := by decide +kernel
theorem dX4_go_42 : decode cX4_go 42 = .ok (.ifCond .eq 6, 3) := by decide +kernel
theorem dX4_go_45 : decode cX4_go 45 = .ok (.bipush (-4), 2) := by decide +kernel
theorem dX4_go_47 : decode cX4_go 47 = .ok (.ireturn, 1) := by decide +kernel
theorem dX4_go_48 : decode cX4_go 48 = .ok (.aload_n 0, 1) := by decide +kernel
theorem dX4_go_49 : decode cX4_go 49 = .ok (.iload_n 1, 1) := by decide +kernel
theorem dX4_go_50 : decode cX4_go 50 = .ok (.iload_n 2, 1) := by decide +kernel
theorem dX4_go_51 : decode cX4_go 51 = .ok (.iload_n 3, 1) := by decide +kernel
theorem dX4_go_52 : decode cX4_go 52 = .ok (.iload 4, 2) := by decide +kernel
theorem dX4_go_54 : decode cX4_go 54 = .ok (.invokevirtual 164, 3) := by decide +kernel
theorem dX4_go_57 : decode cX4_go 57 = .ok (.istore 5, 2) := by decide +kernel
theorem dX4_go_59 : decode cX4_go 59 = .ok (.iload 5, 2) := by decide +kernel
theorem dX4_go_61 : decode cX4_go 61 = .ok (.aload_n 0, 1) := by decide +kernel
theorem dX4_go_62 : decode cX4_go 62 = .ok (.getfield 50, 3) := by decide +kernel
theorem dX4_go_65 : decode cX4_go 65 = .ok (.getfield 168, 3) := by decide +kernel
theorem dX4_go_68 : decode cX4_go 68 = .ok (.if_icmp .le 6, 3) := by decide +kernel
theorem dX4_go_71 : decode cX4_go 71 = .ok (.bipush (-6), 2) := by decide +kernel
theorem dX4_go_73 : decode cX4_go 73 = .ok (.ireturn, 1) := by decide +kernel
theorem dX4_go_74 : decode cX4_go 74 = .ok (.aload_n 0, 1) := by decide +kernel
theorem dX4_go_75 : decode cX4_go 75 = .ok (.getfield 24, 3) := by decide +kernel
theorem dX4_go_78 : decode cX4_go 78 = .ok (.getfield 112, 3) := by decide +kernel
theorem dX4_go_81 : decode cX4_go 81 = .ok (.bipush 40, 2) := by decide +kernel
theorem dX4_go_83 : decode cX4_go 83 = .ok (.if_icmp .lt 6, 3) := by decide +kernel
theorem dX4_go_86 : decode cX4_go 86 = .ok (.bipush (-2), 2) := by decide +kernel
theorem dX4_go_88 : decode cX4_go 88 = .ok (.ireturn, 1) := by decide +kernel
theorem dX4_go_89 : decode cX4_go 89 = .ok (.aload_n 0, 1) := by decide +kernel
theorem dX4_go_90 : decode cX4_go 90 = .ok (.getfield 24, 3) := by decide +kernel
theorem dX4_go_93 : decode cX4_go 93 = .ok (.iconst 1, 1) := by decide +kernel
theorem dX4_go_94 : decode cX4_go 94 = .ok (.iload_n 1, 1) := by decide +kernel
theorem dX4_go_95 : decode cX4_go 95 = .ok (.ishl, 1) := by decide +kernel
theorem dX4_go_96 : decode cX4_go 96 = .ok (.iconst 1, 1) := by decide +kernel
theorem dX4_go_97 : decode cX4_go 97 = .ok (.iload_n 2, 1) := by decide +kernel
theorem dX4_go_98 : decode cX4_go 98 = .ok (.ishl, 1) := by decide +kernel
theorem dX4_go_99 : decode cX4_go 99 = .ok (.ior, 1) := by decide +kernel
theorem dX4_go_100 : decode cX4_go 100 = .ok (.iload_n 3, 1) := by decide +kernel
theorem dX4_go_101 : decode cX4_go 101 = .ok (.iload 4, 2) := by decide +kernel
theorem dX4_go_103 : decode cX4_go 103 = .ok (.ior, 1) := by decide +kernel
theorem dX4_go_104 : decode cX4_go 104 = .ok (.iconst 0, 1) := by decide +kernel
theorem dX4_go_105 : decode cX4_go 105 = .ok (.iload 5, 2) := by decide +kernel
theorem dX4_go_107 : decode cX4_go 107 = .ok (.invokevirtual 171, 3) := by decide +kernel
theorem dX4_go_110 : decode cX4_go 110 = .ok (.iload 5, 2) := by decide +kernel
theorem dX4_go_112 : decode cX4_go 112 = .ok (.ireturn, 1) := by decide +kernel
set_option maxRecDepth 20000 in
theorem ggX4_loaf_X0_eaten : GoodIn wsX4_loaf wsX0_eaten := goodIn_r _ [9, 10, 11, 41, 42, 43, 44, 45] (by rfl) (by decide +kernel)
set_option maxRecDepth 20000 in
theorem gX4_loaf_X0_eaten : GoodIn wsX4_loaf (wsV RX4 143 RX0 yX0_eaten wsX0_eaten) := goodIn_app (goodIn_of _ (by decide +kernel)) ggX4_loaf_X0_eaten
set_option maxRecDepth 20000 in
theorem ggX4_loaf_X0_add : GoodIn wsX4_loaf wsX0_add := goodIn_r _ [15, 11, 16, 17, 10, 18, 41, 42, 43, 44, 45] (by rfl) (by decide +kernel)
set_option maxRecDepth 20000 in
theorem gX4_loaf_X0_add : GoodIn wsX4_loaf (wsV RX4 171 RX0 yX0_add wsX0_add) := goodIn_app (goodIn_of _ (by decide +kernel)) ggX4_loaf_X0_add
theorem dX4_loaf_0 : decode cX4_loaf 0 = .ok (.aload_n 0, 1) := by decide +kernel
theorem dX4_loaf_1 : decode cX4_loaf 1 = .ok (.getfield 50, 3) := by decide +kernel
theorem dX4_loaf_4 : decode cX4_loaf 4 = .ok (.getfield 115, 3) := by decide +kernel
theorem dX4_loaf_7 : decode cX4_loaf 7 = .ok (.ifCond .eq 15, 3) := by decide +kernel
theorem dX4_loaf_10 : decode cX4_loaf 10 = .ok (.aload_n 0, 1) := by decide +kernel
theorem dX4_loaf_11 : decode cX4_loaf 11 = .ok (.getfield 24, 3) := by decide +kernel
theorem dX4_loaf_14 : decode cX4_loaf 14 = .ok (.invokevirtual 143, 3) := by decide +kernel
theorem dX4_loaf_17 : decode cX4_loaf 17 = .ok (.bipush 9, 2) := by decide +kernel
theorem dX4_loaf_19 : decode cX4_loaf 19 = .ok (.if_icmp .lt 6, 3) := by decide +kernel
theorem dX4_loaf_22 : decode cX4_loaf 22 = .ok (.bipush (-4), 2) := by decide +kernel
theorem dX4_loaf_24 : decode cX4_loaf 24 = .ok (.ireturn, 1) := by decide +kernel
theorem dX4_loaf_25 : decode cX4_loaf 25 = .ok (.aload_n 0, 1) := by decide +kernel
theorem dX4_loaf_26 : decode cX4_loaf 26 = .ok (.getfield 24, 3) := by decide +kernel
theorem dX4_loaf_29 : decode cX4_loaf 29 = .ok (.getfield 112, 3) := by decide +kernel
theorem dX4_loaf_32 : decode cX4_loaf 32 = .ok (.bipush 40, 2) := by decide +kernel
theorem dX4_loaf_34 : decode cX4_loaf 34 = .ok (.if_icmp .lt 6, 3) := by decide +kernel
theorem dX4_loaf_37 : decode cX4_loaf 37 = .ok (.bipush (-2), 2) := by decide +kernel
theorem dX4_loaf_39 : decode cX4_loaf 39 = .ok (.ireturn, 1) := by decide +kernel
theorem dX4_loaf_40 : decode cX4_loaf 40 = .ok (.aload_n 0, 1) := by decide +kernel
theorem dX4_loaf_41 : decode cX4_loaf 41 = .ok (.getfield 24, 3) := by decide +kernel
theorem dX4_loaf_44 : decode cX4_loaf 44 = .ok (.iconst 0, 1) := by decide +kernel
theorem dX4_loaf_45 : decode cX4_loaf 45 = .ok (.iconst 0, 1) := by decide +kernel
theorem dX4_loaf_46 : decode cX4_loaf 46 = .ok (.iconst 1, 1) := by decide +kernel
theorem dX4_loaf_47 : decode cX4_loaf 47 = .ok (.iconst 0, 1) := by decide +kernel
theorem dX4_loaf_48 : decode cX4_loaf 48 = .ok (.invokevirtual 171, 3) := by decide +kernel
theorem dX4_loaf_51 : decode cX4_loaf 51 = .ok (.aload_n 0, 1) := by decide +kernel
theorem dX4_loaf_52 : decode cX4_loaf 52 = .ok (.getfield 24, 3) := by decide +kernel
theorem dX4_loaf_55 : decode cX4_loaf 55 = .ok (.invokevirtual 143, 3) := by decide +kernel
theorem dX4_loaf_58 : decode cX4_loaf 58 = .ok (.ireturn, 1) := by decide +kernel
theorem dX4_undo_0 : decode cX4_undo 0 = .ok (.iload_n 1, 1) := by decide +kernel
theorem dX4_undo_1 : decode cX4_undo 1 = .ok (.ifCond .lt 14, 3) := by decide +kernel
theorem dX4_undo_4 : decode cX4_undo 4 = .ok (.iload_n 1, 1) := by decide +kernel
theorem dX4_undo_5 : decode cX4_undo 5 = .ok (.aload_n 0, 1) := by decide +kernel
theorem dX4_undo_6 : decode cX4_undo 6 = .ok (.getfield 24, 3) := by decide +kernel
theorem dX4_undo_9 : decode cX4_undo 9 = .ok (.getfield 112, 3) := by decide +kernel
theorem dX4_undo_12 : decode cX4_undo 12 = .ok (.if_icmp .le 5, 3) := by decide +kernel
theorem dX4_undo_15 : decode cX4_undo 15 = .ok (.iconst (-1), 1) := by decide +kernel
theorem dX4_undo_16 : decode cX4_undo 16 = .ok (.ireturn, 1) := by decide +kernel
theorem dX4_undo_17 : decode cX4_undo 17 = .ok (.aload_n 0, 1) := by decide +kernel
theorem dX4_undo_18 : decode cX4_undo 18 = .ok (.getfield 24, 3) := by decide +kernel
theorem dX4_undo_21 : decode cX4_undo 21 = .ok (.getfield 112, 3) := by decide +kernel
theorem dX4_undo_24 : decode cX4_undo 24 = .ok (.iload_n 1, 1) := by decide +kernel
theorem dX4_undo_25 : decode cX4_undo 25 = .ok (.isub, 1) := by decide +kernel
theorem dX4_undo_26 : decode cX4_undo 26 = .ok (.istore_n 2, 1) := by decide +kernel
theorem dX4_undo_27 : decode cX4_undo 27 = .ok (.aload_n 0, 1) := by decide +kernel
theorem dX4_undo_28 : decode cX4_undo 28 = .ok (.getfield 24, 3) := by decide +kernel
theorem dX4_undo_31 : decode cX4_undo 31 = .ok (.iload_n 1, 1) := by decide +kernel
theorem dX4_undo_32 : decode cX4_undo 32 = .ok (.putfield 112, 3) := by decide +kernel
theorem dX4_undo_35 : decode cX4_undo 35 = .ok (.iload_n 2, 1) := by decide +kernel
theorem dX4_undo_36 : decode cX4_undo 36 = .ok (.ireturn, 1) := by decide +kernel
set_option maxRecDepth 20000 in
theorem ggX4_keep_X0_become : GoodIn wsX4_keep wsX0_become := goodIn_r _ [11, 12, 13, 14, 15, 16, 17, 18, 19, 20, 43, 44, 45, 46, 47] (by rfl) (by decide +kernel)
set_option maxRecDepth 20000 in
theorem gX4_keep_X0_become : GoodIn wsX4_keep (wsV RX4 175 RX0 yX0_become wsX0_become) := goodIn_app (goodIn_of _ (by decide +kernel)) ggX4_keep_X0_become
theorem dX4_keep_0 : decode cX4_keep 0 = .ok (.iload_n 1, 1) := by decide +kernel
theorem dX4_keep_1 : decode cX4_keep 1 = .ok (.ifCond .lt 8, 3) := by decide +kernel
theorem dX4_keep_4 : decode cX4_keep 4 = .ok (.iload_n 1, 1) := by decide +kernel
theorem dX4_keep_5 : decode cX4_keep 5 = .ok (.iconst 3, 1) := by decide +kernel
theorem dX4_keep_6 : decode cX4_keep 6 = .ok (.if_icmp .lt 5, 3) := by decide +kernel
theorem dX4_keep_9 : decode cX4_keep 9 = .ok (.iconst (-1), 1) := by decide +kernel
theorem dX4_keep_10 : decode cX4_keep 10 = .ok (.ireturn, 1) := by decide +kernel
theorem dX4_keep_11 : decode cX4_keep 11 = .ok (.aload_n 0, 1) := by decide +kernel
theorem dX4_keep_12 : decode cX4_keep 12 = .ok (.getfield 50, 3) := by decide +kernel
theorem dX4_keep_15 : decode cX4_keep 15 = .ok (.getfield 115, 3) := by decide +kernel
theorem dX4_keep_18 : decode cX4_keep 18 = .ok (.ifCond .ne 6, 3) := by decide +kernel
theorem dX4_keep_21 : decode cX4_keep 21 = .ok (.bipush (-4), 2) := by decide +kernel
theorem dX4_keep_23 : decode cX4_keep 23 = .ok (.ireturn, 1) := by decide +kernel
theorem dX4_keep_24 : decode cX4_keep 24 = .ok (.aload_n 0, 1) := by decide +kernel
theorem dX4_keep_25 : decode cX4_keep 25 = .ok (.getfield 28, 3) := by decide +kernel
theorem dX4_keep_28 : decode cX4_keep 28 = .ok (.iload_n 1, 1) := by decide +kernel
theorem dX4_keep_29 : decode cX4_keep 29 = .ok (.aaload, 1) := by decide +kernel
theorem dX4_keep_30 : decode cX4_keep 30 = .ok (.aload_n 0, 1) := by decide +kernel
theorem dX4_keep_31 : decode cX4_keep 31 = .ok (.getfield 24, 3) := by decide +kernel
theorem dX4_keep_34 : decode cX4_keep 34 = .ok (.invokevirtual 175, 3) := by decide +kernel
theorem dX4_keep_37 : decode cX4_keep 37 = .ok (.aload_n 0, 1) := by decide +kernel
theorem dX4_keep_38 : decode cX4_keep 38 = .ok (.getfield 32, 3) := by decide +kernel
theorem dX4_keep_41 : decode cX4_keep 41 = .ok (.iload_n 1, 1) := by decide +kernel
theorem dX4_keep_42 : decode cX4_keep 42 = .ok (.iconst 1, 1) := by decide +kernel
theorem dX4_keep_43 : decode cX4_keep 43 = .ok (.bastore, 1) := by decide +kernel
theorem dX4_keep_44 : decode cX4_keep 44 = .ok (.aload_n 0, 1) := by decide +kernel
theorem dX4_keep_45 : decode cX4_keep 45 = .ok (.getfield 24, 3) := by decide +kernel
theorem dX4_keep_48 : decode cX4_keep 48 = .ok (.getfield 112, 3) := by decide +kernel
theorem dX4_keep_51 : decode cX4_keep 51 = .ok (.ireturn, 1) := by decide +kernel
set_option maxRecDepth 20000 in
theorem ggX4_on_X4_found : GoodIn wsX4_on wsX4_found := goodIn_r _ [9, 10, 11, 26, 27, 28, 29, 30, 31, 32, 33, 34, 35, 36, 37, 38] (by rfl) (by decide +kernel)
set_option maxRecDepth 20000 in
theorem gX4_on_X4_found : GoodIn wsX4_on (wsV RX4 87 RX4 yX4_found wsX4_found) := goodIn_app (goodIn_of _ (by decide +kernel)) ggX4_on_X4_found
set_option maxRecDepth 20000 in
theorem ggX4_on_X0_become : GoodIn wsX4_on wsX0_become := goodIn_r _ [16, 17, 18, 19, 20, 21, 22, 23, 24, 25, 39, 40, 41, 42, 43] (by rfl) (by decide +kernel)
set_option maxRecDepth 20000 in
theorem gX4_on_X0_become : GoodIn wsX4_on (wsV RX4 175 RX0 yX0_become wsX0_become) := goodIn_app (goodIn_of _ (by decide +kernel)) ggX4_on_X0_become
theorem dX4_on_0 : decode cX4_on 0 = .ok (.iload_n 1, 1) := by decide +kernel
theorem dX4_on_1 : decode cX4_on 1 = .ok (.ifCond .lt 8, 3) := by decide +kernel
theorem dX4_on_4 : decode cX4_on 4 = .ok (.iload_n 1, 1) := by decide +kernel
theorem dX4_on_5 : decode cX4_on 5 = .ok (.iconst 3, 1) := by decide +kernel
theorem dX4_on_6 : decode cX4_on 6 = .ok (.if_icmp .lt 5, 3) := by decide +kernel
theorem dX4_on_9 : decode cX4_on 9 = .ok (.iconst (-1), 1) := by decide +kernel
theorem dX4_on_10 : decode cX4_on 10 = .ok (.ireturn, 1) := by decide +kernel
theorem dX4_on_11 : decode cX4_on 11 = .ok (.aload_n 0, 1) := by decide +kernel
theorem dX4_on_12 : decode cX4_on 12 = .ok (.getfield 32, 3) := by decide +kernel
theorem dX4_on_15 : decode cX4_on 15 = .ok (.iload_n 1, 1) := by decide +kernel
theorem dX4_on_16 : decode cX4_on 16 = .ok (.baload, 1) := by decide +kernel
theorem dX4_on_17 : decode cX4_on 17 = .ok (.ifCond .ne 9, 3) := by decide +kernel
theorem dX4_on_20 : decode cX4_on 20 = .ok (.aload_n 0, 1) := by decide +kernel
theorem dX4_on_21 : decode cX4_on 21 = .ok (.iconst 1, 1) := by decide +kernel
theorem dX4_on_22 : decode cX4_on 22 = .ok (.invokevirtual 87, 3) := by decide +kernel
theorem dX4_on_25 : decode cX4_on 25 = .ok (.ireturn, 1) := by decide +kernel
theorem dX4_on_26 : decode cX4_on 26 = .ok (.aload_n 0, 1) := by decide +kernel
theorem dX4_on_27 : decode cX4_on 27 = .ok (.getfield 24, 3) := by decide +kernel
theorem dX4_on_30 : decode cX4_on 30 = .ok (.aload_n 0, 1) := by decide +kernel
theorem dX4_on_31 : decode cX4_on 31 = .ok (.getfield 28, 3) := by decide +kernel
theorem dX4_on_34 : decode cX4_on 34 = .ok (.iload_n 1, 1) := by decide +kernel
theorem dX4_on_35 : decode cX4_on 35 = .ok (.aaload, 1) := by decide +kernel
theorem dX4_on_36 : decode cX4_on 36 = .ok (.invokevirtual 175, 3) := by decide +kernel
theorem dX4_on_39 : decode cX4_on 39 = .ok (.aload_n 0, 1) := by decide +kernel
theorem dX4_on_40 : decode cX4_on 40 = .ok (.getfield 24, 3) := by decide +kernel
theorem dX4_on_43 : decode cX4_on 43 = .ok (.getfield 112, 3) := by decide +kernel
theorem dX4_on_46 : decode cX4_on 46 = .ok (.ireturn, 1) := by decide +kernel
set_option maxRecDepth 20000 in
theorem ggX4_sink_X4_isNoPair : GoodIn wsX4_sink wsX4_isNoPair := goodIn_r _ [5, 6, 7, 8, 4, 9, 10, 11, 53, 54, 55, 56, 57, 58, 59, 60, 61, 62, 63, 64, 65, 66, 67, 68, 69, 70, 71, 72, 73, 74] (by rfl) (by decide +kernel)
set_option maxRecDepth 20000 in
theorem gX4_sink_X4_isNoPair : GoodIn wsX4_sink (wsV RX4 151 RX4 yX4_isNoPair wsX4_isNoPair) := goodIn_app (goodIn_of _ (by decide +kernel)) ggX4_sink_X4_isNoPair
set_option maxRecDepth 20000 in
theorem ggX4_sink_X4_areNoSets : GoodIn wsX4_sink wsX4_areNoSets := goodIn_r _ [15, 10, 16, 17, 18, 19, 20, 21, 53, 54, 55, 56, 57, 58, 59, 60, 61, 62, 63, 64, 65, 66, 67, 68, 69, 70, 71, 72, 73, 74] (by rfl) (by decide +kernel)
set_option maxRecDepth 20000 in
theorem gX4_sink_X4_areNoSets : GoodIn wsX4_sink (wsV RX4 155 RX4 yX4_areNoSets wsX4_areNoSets) := goodIn_app (goodIn_of _ (by decide +kernel)) ggX4_sink_X4_areNoSets
set_option maxRecDepth 20000 in
theorem ggX4_sink_X4_steps : GoodIn wsX4_sink wsX4_steps := goodIn_r _ [25, 10, 26, 27, 28, 29, 30, 31, 32, 33, 34, 35, 36, 19, 37, 38, 39, 40, 41, 4, 42, 43, 44, 45, 46, 47, 48, 49, 50, 51, 52, 53, 54, 55, 56, 57, 58, 59, 60, 61, 62, 63, 64, 65, 75, 76, 77, 78, 79, 66, 67, 68, 69, 70, 71, 72, 73, 74] (by rfl) (by decide +kernel)
set_option maxRecDepth 20000 in
theorem gX4_sink_X4_steps : GoodIn wsX4_sink (wsV RX4 164 RX4 yX4_steps wsX4_steps) := goodIn_app (goodIn_of _ (by decide +kernel)) ggX4_sink_X4_steps
theorem dX4_sink_0 : decode cX4_sink 0 = .ok (.aload_n 0, 1) := by decide +kernel
theorem dX4_sink_1 : decode cX4_sink 1 = .ok (.iload_n 1, 1) := by decide +kernel
theorem dX4_sink_2 : decode cX4_sink 2 = .ok (.iload_n 2, 1) := by decide +kernel
theorem dX4_sink_3 : decode cX4_sink 3 = .ok (.invokevirtual 151, 3) := by decide +kernel
theorem dX4_sink_6 : decode cX4_sink 6 = .ok (.ifCond .ne 13, 3) := by decide +kernel
theorem dX4_sink_9 : decode cX4_sink 9 = .ok (.aload_n 0, 1) := by decide +kernel
theorem dX4_sink_10 : decode cX4_sink 10 = .ok (.iload_n 3, 1) := by decide +kernel
theorem dX4_sink_11 : decode cX4_sink 11 = .ok (.iload 4, 2) := by decide +kernel
theorem dX4_sink_13 : decode cX4_sink 13 = .ok (.invokevirtual 155, 3) := by decide +kernel
theorem dX4_sink_16 : decode cX4_sink 16 = .ok (.ifCond .eq 5, 3) := by decide +kernel
theorem dX4_sink_19 : decode cX4_sink 19 = .ok (.iconst (-1), 1) := by decide +kernel
theorem dX4_sink_20 : decode cX4_sink 20 = .ok (.ireturn, 1) := by decide +kernel
theorem dX4_sink_21 : decode cX4_sink 21 = .ok (.aload_n 0, 1) := by decide +kernel
theorem dX4_sink_22 : decode cX4_sink 22 = .ok (.iload_n 1, 1) := by decide +kernel
theorem dX4_sink_23 : decode cX4_sink 23 = .ok (.iload_n 2, 1) := by decide +kernel
theorem dX4_sink_24 : decode cX4_sink 24 = .ok (.iload_n 3, 1) := by decide +kernel
theorem dX4_sink_25 : decode cX4_sink 25 = .ok (.iload 4, 2) := by decide +kernel
theorem dX4_sink_27 : decode cX4_sink 27 = .ok (.invokevirtual 164, 3) := by decide +kernel
theorem dX4_sink_30 : decode cX4_sink 30 = .ok (.ireturn, 1) := by decide +kernel
set_option maxRecDepth 20000 in
theorem ggX4_best_X4_isNoPair : GoodIn wsX4_best wsX4_isNoPair := goodIn_r _ [6, 7, 8, 9, 5, 10, 11, 12, 79, 80, 81, 82, 83, 84, 85, 86, 87, 88, 89, 90, 91, 92, 93, 94, 95, 96, 97, 98, 99, 100] (by rfl) (by decide +kernel)
set_option maxRecDepth 20000 in
theorem gX4_best_X4_isNoPair : GoodIn wsX4_best (wsV RX4 151 RX4 yX4_isNoPair wsX4_isNoPair) := goodIn_app (goodIn_of _ (by decide +kernel)) ggX4_best_X4_isNoPair
set_option maxRecDepth 20000 in
theorem ggX4_best_X4_areApart : GoodIn wsX4_best wsX4_areApart := goodIn_r _ [16, 17, 18, 19, 20, 21, 22, 23, 24, 79, 80, 81, 82, 83, 84, 85, 86, 87, 88, 89, 90, 91, 101, 102, 103, 104, 105] (by rfl) (by decide +kernel)
set_option maxRecDepth 20000 in
theorem gX4_best_X4_areApart : GoodIn wsX4_best (wsV RX4 158 RX4 yX4_areApart wsX4_areApart) := goodIn_app (goodIn_of _ (by decide +kernel)) ggX4_best_X4_areApart
set_option maxRecDepth 20000 in
theorem ggX4_best_X4_stonesWith : GoodIn wsX4_best wsX4_stonesWith := goodIn_r _ [28, 17, 11, 29, 30, 31, 21, 32, 33, 24, 18, 19, 20, 22, 23, 34, 35, 36, 37, 38, 39, 79, 80, 81, 82, 83, 84, 85, 86, 87, 88, 89, 90, 91, 101, 102, 103, 104, 105, 92, 93, 94, 95, 96, 97, 98, 99, 100] (by rfl) (by decide +kernel)
set_option maxRecDepth 20000 in
theorem gX4_best_X4_stonesWith : GoodIn wsX4_best (wsV RX4 161 RX4 yX4_stonesWith wsX4_stonesWith) := goodIn_app (goodIn_of _ (by decide +kernel)) ggX4_best_X4_stonesWith
set_option maxRecDepth 20000 in
theorem ggX4_best_X4_least : GoodIn wsX4_best wsX4_least := goodIn_r _ [43, 11, 44, 45, 46, 5, 47, 48, 49, 17, 50, 51, 52, 21, 53, 54, 24, 55, 56, 57, 58, 59, 60, 37, 61, 62, 63, 64, 65, 66, 67, 68, 69, 70, 71, 72, 73, 35, 36, 38, 39, 74, 75, 76, 77, 78, 79, 80, 81, 82, 83, 84, 85, 86, 87, 88, 89, 90, 91, 92, 93, 94, 95, 96, 97, 98, 99, 100, 101, 102, 103, 104, 105] (by rfl) (by decide +kernel)
set_option maxRecDepth 20000 in
theorem gX4_best_X4_least : GoodIn wsX4_best (wsV RX4 179 RX4 yX4_least wsX4_least) := goodIn_app (goodIn_of _ (by decide +kernel)) ggX4_best_X4_least
theorem dX4_best_0 : decode cX4_best 0 = .ok (.aload_n 0, 1) := by decide +kernel
theorem dX4_best_1 : decode cX4_best 1 = .ok (.iload_n 1, 1) := by decide +kernel
theorem dX4_best_2 : decode cX4_best 2 = .ok (.iload_n 2, 1) := by decide +kernel
theorem dX4_best_3 : decode cX4_best 3 = .ok (.invokevirtual 151, 3) := by decide +kernel
theorem dX4_best_6 : decode cX4_best 6 = .ok (.ifCond .eq 5, 3) := by decide +kernel
theorem dX4_best_9 : decode cX4_best 9 = .ok (.iconst (-1), 1) := by decide +kernel
theorem dX4_best_10 : decode cX4_best 10 = .ok (.ireturn, 1) := by decide +kernel
theorem dX4_best_11 : decode cX4_best 11 = .ok (.aload_n 0, 1) := by decide +kernel
theorem dX4_best_12 : decode cX4_best 12 = .ok (.iload_n 1, 1) := by decide +kernel
theorem dX4_best_13 : decode cX4_best 13 = .ok (.iload_n 2, 1) := by decide +kernel
theorem dX4_best_14 : decode cX4_best 14 = .ok (.invokevirtual 158, 3) := by decide +kernel
theorem dX4_best_17 : decode cX4_best 17 = .ok (.ifCond .eq 6, 3) := by decide +kernel
theorem dX4_best_20 : decode cX4_best 20 = .ok (.bipush (-4), 2) := by decide +kernel
theorem dX4_best_22 : decode cX4_best 22 = .ok (.ireturn, 1) := by decide +kernel
theorem dX4_best_23 : decode cX4_best 23 = .ok (.aload_n 0, 1) := by decide +kernel
theorem dX4_best_24 : decode cX4_best 24 = .ok (.iload_n 1, 1) := by decide +kernel
theorem dX4_best_25 : decode cX4_best 25 = .ok (.iload_n 2, 1) := by decide +kernel
theorem dX4_best_26 : decode cX4_best 26 = .ok (.aload_n 0, 1) := by decide +kernel
theorem dX4_best_27 : decode cX4_best 27 = .ok (.iload_n 1, 1) := by decide +kernel
theorem dX4_best_28 : decode cX4_best 28 = .ok (.invokevirtual 161, 3) := by decide +kernel
theorem dX4_best_31 : decode cX4_best 31 = .ok (.invokevirtual 179, 3) := by decide +kernel
theorem dX4_best_34 : decode cX4_best 34 = .ok (.istore_n 3, 1) := by decide +kernel
theorem dX4_best_35 : decode cX4_best 35 = .ok (.aload_n 0, 1) := by decide +kernel
theorem dX4_best_36 : decode cX4_best 36 = .ok (.iload_n 3, 1) := by decide +kernel
theorem dX4_best_37 : decode cX4_best 37 = .ok (.sipush 256, 3) := by decide +kernel
theorem dX4_best_40 : decode cX4_best 40 = .ok (.irem, 1) := by decide +kernel
theorem dX4_best_41 : decode cX4_best 41 = .ok (.putfield 72, 3) := by decide +kernel
theorem dX4_best_44 : decode cX4_best 44 = .ok (.iload_n 3, 1) := by decide +kernel
theorem dX4_best_45 : decode cX4_best 45 = .ok (.sipush 256, 3) := by decide +kernel
theorem dX4_best_48 : decode cX4_best 48 = .ok (.idiv, 1) := by decide +kernel
theorem dX4_best_49 : decode cX4_best 49 = .ok (.ireturn, 1) := by decide +kernel
set_option maxRecDepth 20000 in
theorem ggX4_pairs_X4_firstPair : GoodIn wsX4_pairs wsX4_firstPair := goodIn_r _ [6, 7, 8, 9, 10, 11, 5, 12, 13, 14, 15, 16, 17, 18, 19, 20, 21, 22, 23, 24, 25, 26, 27, 28, 29, 30, 31, 32, 33, 34, 35, 36, 37, 38, 39, 40, 41, 42, 43, 44, 45, 46, 47, 48, 49, 50, 51, 52, 53, 54, 55, 56, 57, 58, 59, 60, 61, 62, 63, 64, 65, 66, 67, 68, 69, 70, 71, 72, 73, 74, 75, 76, 77, 78, 79, 84, 85, 86, 87, 88, 89, 90, 91, 92, 93, 94, 95, 96, 97, 98, 99, 100, 101, 102, 103, 104, 105, 106, 107, 108, 109, 110] (by rfl) (by decide +kernel)
set_option maxRecDepth 20000 in
theorem gX4_pairs_X4_firstPair : GoodIn wsX4_pairs (wsV RX4 182 RX4 yX4_firstPair wsX4_firstPair) := goodIn_app (goodIn_of _ (by decide +kernel)) ggX4_pairs_X4_firstPair
set_option maxRecDepth 20000 in
theorem ggX4_pairs_X4_pairsWithout : GoodIn wsX4_pairs wsX4_pairsWithout := goodIn_r _ [83, 7, 8, 9, 10, 11, 5, 12, 13, 14, 15, 16, 17, 18, 19, 20, 21, 22, 23, 24, 25, 26, 27, 28, 29, 30, 31, 32, 33, 34, 35, 36, 37, 38, 39, 40, 41, 42, 43, 44, 45, 46, 47, 48, 49, 50, 51, 52, 53, 54, 55, 56, 57, 58, 59, 60, 61, 62, 63, 64, 65, 66, 67, 68, 69, 70, 71, 72, 73, 74, 75, 76, 77, 78, 79, 84, 85, 86, 87, 88, 89, 90, 91, 92, 93, 94, 95, 96, 97, 98, 99, 100, 101, 102, 103, 104, 105, 106, 107, 108, 109, 110] (by rfl) (by decide +kernel)
set_option maxRecDepth 20000 in
theorem gX4_pairs_X4_pairsWithout : GoodIn wsX4_pairs (wsV RX4 185 RX4 yX4_pairsWithout wsX4_pairsWithout) := goodIn_app (goodIn_of _ (by decide +kernel)) ggX4_pairs_X4_pairsWithout
theorem dX4_pairs_0 : decode cX4_pairs 0 = .ok (.aload_n 0, 1) := by decide +kernel
theorem dX4_pairs_1 : decode cX4_pairs 1 = .ok (.aload_n 0, 1) := by decide +kernel
theorem dX4_pairs_2 : decode cX4_pairs 2 = .ok (.invokevirtual 182, 3) := by decide +kernel
theorem dX4_pairs_5 : decode cX4_pairs 5 = .ok (.putfield 72, 3) := by decide +kernel
theorem dX4_pairs_8 : decode cX4_pairs 8 = .ok (.aload_n 0, 1) := by decide +kernel
theorem dX4_pairs_9 : decode cX4_pairs 9 = .ok (.iconst 0, 1) := by decide +kernel
theorem dX4_pairs_10 : decode cX4_pairs 10 = .ok (.invokevirtual 185, 3) := by decide +kernel
theorem dX4_pairs_13 : decode cX4_pairs 13 = .ok (.ireturn, 1) := by decide +kernel
set_option maxRecDepth 20000 in
theorem ggX4_match_X4_findWays : GoodIn wsX4_match wsX4_findWays := goodIn_r _ [10, 3, 1, 2, 11, 12, 13, 14, 15, 9, 16, 17, 18, 4, 19, 20, 21, 22, 23, 24, 25, 26, 27, 28, 29, 30, 31, 32, 33, 34, 35, 36, 37, 38, 39, 40, 41, 42, 43, 44, 45, 46, 47, 48, 49, 50, 51, 99, 100, 101, 102, 103, 104, 105, 106, 107, 108, 109, 110, 111, 112, 113, 114, 115, 116, 117, 118, 119, 120, 121, 122, 123, 124, 125, 126, 127, 128, 129, 130, 131, 132, 133] (by rfl) (by decide +kernel)
set_option maxRecDepth 20000 in
theorem gX4_match_X4_findWays : GoodIn wsX4_match (wsV RX4 188 RX4 yX4_findWays wsX4_findWays) := goodIn_app (goodIn_of _ (by decide +kernel)) ggX4_match_X4_findWays
set_option maxRecDepth 20000 in
theorem ggX4_match_X0_top : GoodIn wsX4_match wsX0_top := goodIn_r _ [55, 56, 25, 129, 130, 131, 132, 133] (by rfl) (by decide +kernel)
set_option maxRecDepth 20000 in
theorem gX4_match_X0_top : GoodIn wsX4_match (wsV RX4 191 RX0 yX0_top wsX0_top) := goodIn_app (goodIn_of _ (by decide +kernel)) ggX4_match_X0_top
set_option maxRecDepth 20000 in
theorem ggX4_match_X0_stonesUp : GoodIn wsX4_match wsX0_stonesUp := goodIn_r _ [60, 61, 25, 129, 130, 131, 132, 133] (by rfl) (by decide +kernel)
set_option maxRecDepth 20000 in
theorem gX4_match_X0_stonesUp : GoodIn wsX4_match (wsV RX4 194 RX0 yX0_stonesUp wsX0_stonesUp) := goodIn_app (goodIn_of _ (by decide +kernel)) ggX4_match_X0_stonesUp
set_option maxRecDepth 20000 in
theorem ggX4_match_X1_allStones : GoodIn wsX4_match wsX1_allStones := goodIn_r _ [44, 45, 112, 113, 114, 115, 116, 117, 118, 119, 120] (by rfl) (by decide +kernel)
set_option maxRecDepth 20000 in
theorem gX4_match_X1_allStones : GoodIn wsX4_match (wsV RX4 197 RX1 yX1_allStones wsX1_allStones) := goodIn_app (goodIn_of _ (by decide +kernel)) ggX4_match_X1_allStones
set_option maxRecDepth 20000 in
theorem ggX4_match_X3_paired : GoodIn wsX4_match wsX3_paired := goodIn_r _ [67, 68, 69, 70, 71, 72, 73, 74, 75, 76, 66, 77, 78, 79, 80, 81, 82, 83, 84, 85, 86, 87, 88, 89, 90, 91, 92, 93, 94, 95, 96, 97, 121, 122, 123, 124, 125, 126, 127, 128] (by rfl) (by decide +kernel)
set_option maxRecDepth 20000 in
theorem gX4_match_X3_paired : GoodIn wsX4_match (wsV RX4 200 RX3 yX3_paired wsX3_paired) := goodIn_app (goodIn_of _ (by decide +kernel)) ggX4_match_X3_paired
set_option maxRecDepth 20000 in
theorem ggX4_match_J6_bitCount_0f7a4 : GoodIn wsX4_match wsJ6_bitCount_0f7a4 := goodIn_r _ [94, 95, 96, 97] (by rfl) (by decide +kernel)
set_option maxRecDepth 20000 in
theorem gX4_match_J6_bitCount_0f7a4 : GoodIn wsX4_match (va_wsS RX4 203 yJ6_bitCount_0f7a4 wsJ6_bitCount_0f7a4) := goodIn_app (goodIn_of _ (by decide +kernel)) ggX4_match_J6_bitCount_0f7a4
theorem dX4_match_0 : decode cX4_match 0 = .ok (.aload_n 0, 1) := by decide +kernel
theorem dX4_match_1 : decode cX4_match 1 = .ok (.getfield 50, 3) := by decide +kernel
theorem dX4_match_4 : decode cX4_match 4 = .ok (.getfield 115, 3) := by decide +kernel
theorem dX4_match_7 : decode cX4_match 7 = .ok (.ifCond .ne 6, 3) := by decide +kernel
theorem dX4_match_10 : decode cX4_match 10 = .ok (.bipush (-4), 2) := by decide +kernel
theorem dX4_match_12 : decode cX4_match 12 = .ok (.ireturn, 1) := by decide +kernel
theorem dX4_match_13 : decode cX4_match 13 = .ok (.aload_n 0, 1) := by decide +kernel
theorem dX4_match_14 : decode cX4_match 14 = .ok (.invokevirtual 188, 3) := by decide +kernel
theorem dX4_match_17 : decode cX4_match 17 = .ok (.aload_n 0, 1) := by decide +kernel
theorem dX4_match_18 : decode cX4_match 18 = .ok (.aload_n 0, 1) := by decide +kernel
theorem dX4_match_19 : decode cX4_match 19 = .ok (.getfield 39, 3) := by decide +kernel
theorem dX4_match_22 : decode cX4_match 22 = .ok (.aload_n 0, 1) := by decide +kernel
theorem dX4_match_23 : decode cX4_match 23 = .ok (.getfield 24, 3) := by decide +kernel
theorem dX4_match_26 : decode cX4_match 26 = .ok (.invokevirtual 191, 3) := by decide +kernel
theorem dX4_match_29 : decode cX4_match 29 = .ok (.aload_n 0, 1) := by decide +kernel
theorem dX4_match_30 : decode cX4_match 30 = .ok (.getfield 24, 3) := by decide +kernel
theorem dX4_match_33 : decode cX4_match 33 = .ok (.invokevirtual 194, 3) := by decide +kernel
theorem dX4_match_36 : decode cX4_match 36 = .ok (.aload_n 0, 1) := by decide +kernel
theorem dX4_match_37 : decode cX4_match 37 = .ok (.getfield 50, 3) := by decide +kernel
theorem dX4_match_40 : decode cX4_match 40 = .ok (.invokevirtual 197, 3) := by decide +kernel
theorem dX4_match_43 : decode cX4_match 43 = .ok (.invokevirtual 200, 3) := by decide +kernel
theorem dX4_match_46 : decode cX4_match 46 = .ok (.putfield 72, 3) := by decide +kernel
theorem dX4_match_49 : decode cX4_match 49 = .ok (.aload_n 0, 1) := by decide +kernel
theorem dX4_match_50 : decode cX4_match 50 = .ok (.getfield 72, 3) := by decide +kernel
theorem dX4_match_53 : decode cX4_match 53 = .ok (.invokestatic 203, 3) := by decide +kernel
theorem dX4_match_56 : decode cX4_match 56 = .ok (.iconst 2, 1) := by decide +kernel
theorem dX4_match_57 : decode cX4_match 57 = .ok (.idiv, 1) := by decide +kernel
theorem dX4_match_58 : decode cX4_match 58 = .ok (.ireturn, 1) := by decide +kernel
set_option maxRecDepth 20000 in
theorem ggX4_waits_X4_isNobody : GoodIn wsX4_waits wsX4_isNobody := goodIn_r _ [7, 1, 8, 62, 63, 64, 65, 66, 67, 68, 69, 70, 71, 72, 73, 74, 75, 76, 77, 78, 79, 80, 81, 82, 83] (by rfl) (by decide +kernel)
set_option maxRecDepth 20000 in
theorem gX4_waits_X4_isNobody : GoodIn wsX4_waits (wsV RX4 118 RX4 yX4_isNobody wsX4_isNobody) := goodIn_app (goodIn_of _ (by decide +kernel)) ggX4_waits_X4_isNobody
set_option maxRecDepth 20000 in
theorem ggX4_waits_X4_counts : GoodIn wsX4_waits wsX4_counts := goodIn_r _ [12, 1, 13, 14, 15, 16, 17, 18, 19, 20, 21, 22, 23, 24, 6, 25, 62, 63, 64, 65, 66, 67, 68, 69, 70, 71, 72, 73, 74, 75, 76, 77, 78, 79, 80, 81, 82, 83, 84, 85, 86, 87, 88] (by rfl) (by decide +kernel)
set_option maxRecDepth 20000 in
theorem gX4_waits_X4_counts : GoodIn wsX4_waits (wsV RX4 137 RX4 yX4_counts wsX4_counts) := goodIn_app (goodIn_of _ (by decide +kernel)) ggX4_waits_X4_counts
set_option maxRecDepth 20000 in
theorem ggX4_waits_X4_stonesWith : GoodIn wsX4_waits wsX4_stonesWith := goodIn_r _ [29, 15, 1, 30, 31, 32, 19, 33, 34, 22, 35, 36, 37, 38, 39, 40, 41, 42, 43, 44, 45, 62, 63, 64, 65, 66, 67, 68, 69, 70, 71, 72, 73, 74, 84, 85, 86, 87, 88, 75, 76, 77, 78, 79, 80, 81, 82, 83] (by rfl) (by decide +kernel)
set_option maxRecDepth 20000 in
theorem gX4_waits_X4_stonesWith : GoodIn wsX4_waits (wsV RX4 161 RX4 yX4_stonesWith wsX4_stonesWith) := goodIn_app (goodIn_of _ (by decide +kernel)) ggX4_waits_X4_stonesWith
set_option maxRecDepth 20000 in
theorem ggX4_waits_X1_least : GoodIn wsX4_waits wsX1_least := goodIn_r _ [49, 50, 51, 52, 53, 54, 55, 56, 41, 42, 43, 44, 45, 57, 6, 58, 59, 60, 61, 75, 76, 77, 78, 79, 80, 81, 82, 83] (by rfl) (by decide +kernel)
set_option maxRecDepth 20000 in
theorem gX4_waits_X1_least : GoodIn wsX4_waits (wsV RX4 208 RX1 yX1_least wsX1_least) := goodIn_app (goodIn_of _ (by decide +kernel)) ggX4_waits_X1_least
theorem dX4_waits_0 : decode cX4_waits 0 = .ok (.aload_n 0, 1) := by decide +kernel
theorem dX4_waits_1 : decode cX4_waits 1 = .ok (.iload_n 1, 1) := by decide +kernel
theorem dX4_waits_2 : decode cX4_waits 2 = .ok (.invokevirtual 118, 3) := by decide +kernel
theorem dX4_waits_5 : decode cX4_waits 5 = .ok (.ifCond .eq 5, 3) := by decide +kernel
theorem dX4_waits_8 : decode cX4_waits 8 = .ok (.iconst (-1), 1) := by decide +kernel
theorem dX4_waits_9 : decode cX4_waits 9 = .ok (.ireturn, 1) := by decide +kernel
theorem dX4_waits_10 : decode cX4_waits 10 = .ok (.aload_n 0, 1) := by decide +kernel
theorem dX4_waits_11 : decode cX4_waits 11 = .ok (.iload_n 1, 1) := by decide +kernel
theorem dX4_waits_12 : decode cX4_waits 12 = .ok (.invokevirtual 137, 3) := by decide +kernel
theorem dX4_waits_15 : decode cX4_waits 15 = .ok (.istore_n 2, 1) := by decide +kernel
theorem dX4_waits_16 : decode cX4_waits 16 = .ok (.aload_n 0, 1) := by decide +kernel
theorem dX4_waits_17 : decode cX4_waits 17 = .ok (.iload_n 1, 1) := by decide +kernel
theorem dX4_waits_18 : decode cX4_waits 18 = .ok (.invokevirtual 161, 3) := by decide +kernel
theorem dX4_waits_21 : decode cX4_waits 21 = .ok (.istore_n 3, 1) := by decide +kernel
theorem dX4_waits_22 : decode cX4_waits 22 = .ok (.iconst 1, 1) := by decide +kernel
theorem dX4_waits_23 : decode cX4_waits 23 = .ok (.istore 4, 2) := by decide +kernel
theorem dX4_waits_25 : decode cX4_waits 25 = .ok (.iload 4, 2) := by decide +kernel
theorem dX4_waits_27 : decode cX4_waits 27 = .ok (.bipush 99, 2) := by decide +kernel
theorem dX4_waits_29 : decode cX4_waits 29 = .ok (.if_icmp .gt 39, 3) := by decide +kernel
theorem dX4_waits_32 : decode cX4_waits 32 = .ok (.aload_n 0, 1) := by decide +kernel
theorem dX4_waits_33 : decode cX4_waits 33 = .ok (.getfield 50, 3) := by decide +kernel
theorem dX4_waits_36 : decode cX4_waits 36 = .ok (.iload_n 2, 1) := by decide +kernel
theorem dX4_waits_37 : decode cX4_waits 37 = .ok (.iload 4, 2) := by decide +kernel
theorem dX4_waits_39 : decode cX4_waits 39 = .ok (.isub, 1) := by decide +kernel
theorem dX4_waits_40 : decode cX4_waits 40 = .ok (.iconst 0, 1) := by decide +kernel
theorem dX4_waits_41 : decode cX4_waits 41 = .ok (.iload_n 3, 1) := by decide +kernel
theorem dX4_waits_42 : decode cX4_waits 42 = .ok (.invokevirtual 208, 3) := by decide +kernel
theorem dX4_waits_45 : decode cX4_waits 45 = .ok (.sipush 256, 3) := by decide +kernel
theorem dX4_waits_48 : decode cX4_waits 48 = .ok (.idiv, 1) := by decide +kernel
theorem dX4_waits_49 : decode cX4_waits 49 = .ok (.aload_n 0, 1) := by decide +kernel
theorem dX4_waits_50 : decode cX4_waits 50 = .ok (.getfield 50, 3) := by decide +kernel
theorem dX4_waits_53 : decode cX4_waits 53 = .ok (.getfield 168, 3) := by decide +kernel
theorem dX4_waits_56 : decode cX4_waits 56 = .ok (.if_icmp .gt 6, 3) := by decide +kernel
theorem dX4_waits_59 : decode cX4_waits 59 = .ok (.iload 4, 2) := by decide +kernel
theorem dX4_waits_61 : decode cX4_waits 61 = .ok (.ireturn, 1) := by decide +kernel
theorem dX4_waits_62 : decode cX4_waits 62 = .ok (.iinc 4 1, 3) := by decide +kernel
theorem dX4_waits_65 : decode cX4_waits 65 = .ok (.goto (-40), 3) := by decide +kernel
theorem dX4_waits_68 : decode cX4_waits 68 = .ok (.bipush (-9), 2) := by decide +kernel
theorem dX4_waits_70 : decode cX4_waits 70 = .ok (.ireturn, 1) := by decide +kernel
set_option maxRecDepth 20000 in
theorem ggX4_worth_X4_pairsWithout : GoodIn wsX4_worth wsX4_pairsWithout := goodIn_r _ [9, 1, 2, 10, 11, 12, 8, 13, 14, 15, 16, 17, 18, 19, 20, 21, 22, 23, 24, 25, 26, 27, 28, 29, 30, 31, 32, 33, 34, 35, 36, 37, 38, 39, 40, 41, 42, 43, 44, 45, 46, 47, 48, 49, 50, 51, 52, 53, 54, 55, 56, 57, 58, 59, 60, 61, 62, 63, 64, 65, 66, 67, 68, 69, 70, 71, 72, 73, 74, 75, 76, 77, 78, 79, 80, 81, 82, 83, 84, 85, 86, 87, 88, 89, 90, 91, 92, 93, 94, 95, 96, 97, 98, 99, 100, 101, 102, 103, 104, 105, 106, 107] (by rfl) (by decide +kernel)
set_option maxRecDepth 20000 in
theorem gX4_worth_X4_pairsWithout : GoodIn wsX4_worth (wsV RX4 185 RX4 yX4_pairsWithout wsX4_pairsWithout) := goodIn_app (goodIn_of _ (by decide +kernel)) ggX4_worth_X4_pairsWithout
theorem dX4_worth_0 : decode cX4_worth 0 = .ok (.aload_n 0, 1) := by decide +kernel
theorem dX4_worth_1 : decode cX4_worth 1 = .ok (.getfield 50, 3) := by decide +kernel
theorem dX4_worth_4 : decode cX4_worth 4 = .ok (.getfield 115, 3) := by decide +kernel
theorem dX4_worth_7 : decode cX4_worth 7 = .ok (.ifCond .ne 6, 3) := by decide +kernel
theorem dX4_worth_10 : decode cX4_worth 10 = .ok (.bipush (-4), 2) := by decide +kernel
theorem dX4_worth_12 : decode cX4_worth 12 = .ok (.ireturn, 1) := by decide +kernel
theorem dX4_worth_13 : decode cX4_worth 13 = .ok (.aload_n 0, 1) := by decide +kernel
theorem dX4_worth_14 : decode cX4_worth 14 = .ok (.getfield 50, 3) := by decide +kernel
theorem dX4_worth_17 : decode cX4_worth 17 = .ok (.getfield 211, 3) := by decide +kernel
theorem dX4_worth_20 : decode cX4_worth 20 = .ok (.ifCond .ne 6, 3) := by decide +kernel
theorem dX4_worth_23 : decode cX4_worth 23 = .ok (.bipush (-9), 2) := by decide +kernel
theorem dX4_worth_25 : decode cX4_worth 25 = .ok (.ireturn, 1) := by decide +kernel
theorem dX4_worth_26 : decode cX4_worth 26 = .ok (.iconst 0, 1) := by decide +kernel
theorem dX4_worth_27 : decode cX4_worth 27 = .ok (.istore_n 1, 1) := by decide +kernel
theorem dX4_worth_28 : decode cX4_worth 28 = .ok (.aload_n 0, 1) := by decide +kernel
theorem dX4_worth_29 : decode cX4_worth 29 = .ok (.iconst 1, 1) := by decide +kernel
theorem dX4_worth_30 : decode cX4_worth 30 = .ok (.invokevirtual 185, 3) := by decide +kernel
theorem dX4_worth_33 : decode cX4_worth 33 = .ok (.istore_n 2, 1) := by decide +kernel
theorem dX4_worth_34 : decode cX4_worth 34 = .ok (.iconst 1, 1) := by decide +kernel
theorem dX4_worth_35 : decode cX4_worth 35 = .ok (.istore_n 3, 1) := by decide +kernel
theorem dX4_worth_36 : decode cX4_worth 36 = .ok (.iload_n 3, 1) := by decide +kernel
theorem dX4_worth_37 : decode cX4_worth 37 = .ok (.aload_n 0, 1) := by decide +kernel
theorem dX4_worth_38 : decode cX4_worth 38 = .ok (.getfield 50, 3) := by decide +kernel
theorem dX4_worth_41 : decode cX4_worth 41 = .ok (.getfield 211, 3) := by decide +kernel
theorem dX4_worth_44 : decode cX4_worth 44 = .ok (.if_icmp .ge 29, 3) := by decide +kernel
theorem dX4_worth_47 : decode cX4_worth 47 = .ok (.aload_n 0, 1) := by decide +kernel
theorem dX4_worth_48 : decode cX4_worth 48 = .ok (.iconst 1, 1) := by decide +kernel
theorem dX4_worth_49 : decode cX4_worth 49 = .ok (.iload_n 3, 1) := by decide +kernel
theorem dX4_worth_50 : decode cX4_worth 50 = .ok (.ishl, 1) := by decide +kernel
theorem dX4_worth_51 : decode cX4_worth 51 = .ok (.invokevirtual 185, 3) := by decide +kernel
theorem dX4_worth_54 : decode cX4_worth 54 = .ok (.istore 4, 2) := by decide +kernel
theorem dX4_worth_56 : decode cX4_worth 56 = .ok (.iload 4, 2) := by decide +kernel
theorem dX4_worth_58 : decode cX4_worth 58 = .ok (.iload_n 2, 1) := by decide +kernel
theorem dX4_worth_59 : decode cX4_worth 59 = .ok (.if_icmp .ge 8, 3) := by decide +kernel
theorem dX4_worth_62 : decode cX4_worth 62 = .ok (.iload_n 3, 1) := by decide +kernel
theorem dX4_worth_63 : decode cX4_worth 63 = .ok (.istore_n 1, 1) := by decide +kernel
theorem dX4_worth_64 : decode cX4_worth 64 = .ok (.iload 4, 2) := by decide +kernel
theorem dX4_worth_66 : decode cX4_worth 66 = .ok (.istore_n 2, 1) := by decide +kernel
theorem dX4_worth_67 : decode cX4_worth 67 = .ok (.iinc 3 1, 3) := by decide +kernel
theorem dX4_worth_70 : decode cX4_worth 70 = .ok (.goto (-34), 3) := by decide +kernel
theorem dX4_worth_73 : decode cX4_worth 73 = .ok (.aload_n 0, 1) := by decide +kernel
theorem dX4_worth_74 : decode cX4_worth 74 = .ok (.aload_n 0, 1) := by decide +kernel
theorem dX4_worth_75 : decode cX4_worth 75 = .ok (.iconst 0, 1) := by decide +kernel
theorem dX4_worth_76 : decode cX4_worth 76 = .ok (.invokevirtual 185, 3) := by decide +kernel
theorem dX4_worth_79 : decode cX4_worth 79 = .ok (.iload_n 2, 1) := by decide +kernel
theorem dX4_worth_80 : decode cX4_worth 80 = .ok (.isub, 1) := by decide +kernel
theorem dX4_worth_81 : decode cX4_worth 81 = .ok (.putfield 72, 3) := by decide +kernel
theorem dX4_worth_84 : decode cX4_worth 84 = .ok (.iload_n 1, 1) := by decide +kernel
theorem dX4_worth_85 : decode cX4_worth 85 = .ok (.ireturn, 1) := by decide +kernel
set_option maxRecDepth 20000 in
theorem ggX4_loaves_X4_isNoPair : GoodIn wsX4_loaves wsX4_isNoPair := goodIn_r _ [8, 9, 10, 11, 7, 12, 2, 13, 50, 51, 52, 53, 54, 55, 56, 57, 58, 59, 60, 61, 62, 63, 64, 65, 66, 67, 68, 69, 70, 71] (by rfl) (by decide +kernel)
set_option maxRecDepth 20000 in
theorem gX4_loaves_X4_isNoPair : GoodIn wsX4_loaves (wsV RX4 151 RX4 yX4_isNoPair wsX4_isNoPair) := goodIn_app (goodIn_of _ (by decide +kernel)) ggX4_loaves_X4_isNoPair
set_option maxRecDepth 20000 in
theorem ggX4_loaves_X4_areApart : GoodIn wsX4_loaves wsX4_areApart := goodIn_r _ [17, 1, 18, 19, 20, 21, 22, 23, 24, 50, 51, 52, 53, 54, 55, 56, 57, 58, 59, 60, 61, 62, 72, 73, 74, 75, 76] (by rfl) (by decide +kernel)
set_option maxRecDepth 20000 in
theorem gX4_loaves_X4_areApart : GoodIn wsX4_loaves (wsV RX4 158 RX4 yX4_areApart wsX4_areApart) := goodIn_app (goodIn_of _ (by decide +kernel)) ggX4_loaves_X4_areApart
set_option maxRecDepth 20000 in
theorem ggX4_loaves_X0_eaten : GoodIn wsX4_loaves wsX0_eaten := goodIn_r _ [28, 29, 24, 72, 73, 74, 75, 76] (by rfl) (by decide +kernel)
set_option maxRecDepth 20000 in
theorem gX4_loaves_X0_eaten : GoodIn wsX4_loaves (wsV RX4 143 RX0 yX0_eaten wsX0_eaten) := goodIn_app (goodIn_of _ (by decide +kernel)) ggX4_loaves_X0_eaten
set_option maxRecDepth 20000 in
theorem ggX4_loaves_X1_steps : GoodIn wsX4_loaves wsX1_steps := goodIn_r _ [34, 35, 36, 37, 38, 7, 39, 40, 41, 42, 33, 43, 44, 45, 46, 47, 48, 49, 63, 64, 65, 66, 67, 68, 69, 70, 71] (by rfl) (by decide +kernel)
set_option maxRecDepth 20000 in
theorem gX4_loaves_X1_steps : GoodIn wsX4_loaves (wsV RX4 214 RX1 yX1_steps wsX1_steps) := goodIn_app (goodIn_of _ (by decide +kernel)) ggX4_loaves_X1_steps
theorem dX4_loaves_0 : decode cX4_loaves 0 = .ok (.aload_n 0, 1) := by decide +kernel
theorem dX4_loaves_1 : decode cX4_loaves 1 = .ok (.iload_n 1, 1) := by decide +kernel
theorem dX4_loaves_2 : decode cX4_loaves 2 = .ok (.iload_n 2, 1) := by decide +kernel
theorem dX4_loaves_3 : decode cX4_loaves 3 = .ok (.invokevirtual 151, 3) := by decide +kernel
theorem dX4_loaves_6 : decode cX4_loaves 6 = .ok (.ifCond .eq 5, 3) := by decide +kernel
theorem dX4_loaves_9 : decode cX4_loaves 9 = .ok (.iconst (-1), 1) := by decide +kernel
theorem dX4_loaves_10 : decode cX4_loaves 10 = .ok (.ireturn, 1) := by decide +kernel
theorem dX4_loaves_11 : decode cX4_loaves 11 = .ok (.aload_n 0, 1) := by decide +kernel
theorem dX4_loaves_12 : decode cX4_loaves 12 = .ok (.iload_n 1, 1) := by decide +kernel
theorem dX4_loaves_13 : decode cX4_loaves 13 = .ok (.iload_n 2, 1) := by decide +kernel
theorem dX4_loaves_14 : decode cX4_loaves 14 = .ok (.invokevirtual 158, 3) := by decide +kernel
theorem dX4_loaves_17 : decode cX4_loaves 17 = .ok (.ifCond .eq 6, 3) := by decide +kernel
theorem dX4_loaves_20 : decode cX4_loaves 20 = .ok (.bipush (-4), 2) := by decide +kernel
theorem dX4_loaves_22 : decode cX4_loaves 22 = .ok (.ireturn, 1) := by decide +kernel
theorem dX4_loaves_23 : decode cX4_loaves 23 = .ok (.iconst 0, 1) := by decide +kernel
theorem dX4_loaves_24 : decode cX4_loaves 24 = .ok (.istore_n 3, 1) := by decide +kernel
theorem dX4_loaves_25 : decode cX4_loaves 25 = .ok (.iload_n 3, 1) := by decide +kernel
theorem dX4_loaves_26 : decode cX4_loaves 26 = .ok (.bipush 9, 2) := by decide +kernel
theorem dX4_loaves_28 : decode cX4_loaves 28 = .ok (.aload_n 0, 1) := by decide +kernel
theorem dX4_loaves_29 : decode cX4_loaves 29 = .ok (.getfield 24, 3) := by decide +kernel
theorem dX4_loaves_32 : decode cX4_loaves 32 = .ok (.invokevirtual 143, 3) := by decide +kernel
theorem dX4_loaves_35 : decode cX4_loaves 35 = .ok (.isub, 1) := by decide +kernel
theorem dX4_loaves_36 : decode cX4_loaves 36 = .ok (.if_icmp .gt 41, 3) := by decide +kernel
theorem dX4_loaves_39 : decode cX4_loaves 39 = .ok (.aload_n 0, 1) := by decide +kernel
theorem dX4_loaves_40 : decode cX4_loaves 40 = .ok (.getfield 50, 3) := by decide +kernel
theorem dX4_loaves_43 : decode cX4_loaves 43 = .ok (.iload_n 1, 1) := by decide +kernel
theorem dX4_loaves_44 : decode cX4_loaves 44 = .ok (.iload_n 2, 1) := by decide +kernel
theorem dX4_loaves_45 : decode cX4_loaves 45 = .ok (.iconst 0, 1) := by decide +kernel
theorem dX4_loaves_46 : decode cX4_loaves 46 = .ok (.iconst 0, 1) := by decide +kernel
theorem dX4_loaves_47 : decode cX4_loaves 47 = .ok (.aload_n 0, 1) := by decide +kernel
theorem dX4_loaves_48 : decode cX4_loaves 48 = .ok (.getfield 24, 3) := by decide +kernel
theorem dX4_loaves_51 : decode cX4_loaves 51 = .ok (.invokevirtual 143, 3) := by decide +kernel
theorem dX4_loaves_54 : decode cX4_loaves 54 = .ok (.iload_n 3, 1) := by decide +kernel
theorem dX4_loaves_55 : decode cX4_loaves 55 = .ok (.iadd, 1) := by decide +kernel
theorem dX4_loaves_56 : decode cX4_loaves 56 = .ok (.invokevirtual 214, 3) := by decide +kernel
theorem dX4_loaves_59 : decode cX4_loaves 59 = .ok (.aload_n 0, 1) := by decide +kernel
theorem dX4_loaves_60 : decode cX4_loaves 60 = .ok (.getfield 50, 3) := by decide +kernel
theorem dX4_loaves_63 : decode cX4_loaves 63 = .ok (.getfield 168, 3) := by decide +kernel
theorem dX4_loaves_66 : decode cX4_loaves 66 = .ok (.if_icmp .gt 5, 3) := by decide +kernel
theorem dX4_loaves_69 : decode cX4_loaves 69 = .ok (.iload_n 3, 1) := by decide +kernel
theorem dX4_loaves_70 : decode cX4_loaves 70 = .ok (.ireturn, 1) := by decide +kernel
theorem dX4_loaves_71 : decode cX4_loaves 71 = .ok (.iinc 3 1, 3) := by decide +kernel
theorem dX4_loaves_74 : decode cX4_loaves 74 = .ok (.goto (-49), 3) := by decide +kernel
theorem dX4_loaves_77 : decode cX4_loaves 77 = .ok (.bipush (-9), 2) := by decide +kernel
theorem dX4_loaves_79 : decode cX4_loaves 79 = .ok (.ireturn, 1) := by decide +kernel
set_option maxRecDepth 20000 in
theorem ggX4_up_X4_isNoGroup : GoodIn wsX4_up wsX4_isNoGroup := goodIn_r _ [5, 6, 7, 114, 115, 116, 117, 118, 119, 120, 121, 122, 123, 124, 125, 126, 127, 128, 129, 130, 131, 132, 133, 134, 135] (by rfl) (by decide +kernel)
set_option maxRecDepth 20000 in
theorem gX4_up_X4_isNoGroup : GoodIn wsX4_up (wsV RX4 217 RX4 yX4_isNoGroup wsX4_isNoGroup) := goodIn_app (goodIn_of _ (by decide +kernel)) ggX4_up_X4_isNoGroup
set_option maxRecDepth 20000 in
theorem ggX4_up_X4_fewestGoes : GoodIn wsX4_up wsX4_fewestGoes := goodIn_r _ [11, 12, 13, 14, 15, 16, 17, 18, 4, 19, 20, 6, 21, 22, 23, 24, 7, 25, 26, 27, 28, 29, 30, 31, 32, 33, 34, 35, 36, 37, 38, 39, 40, 41, 42, 43, 44, 45, 46, 47, 48, 49, 50, 51, 52, 53, 54, 55, 56, 57, 58, 59, 60, 61, 62, 63, 64, 65, 66, 67, 68, 69, 70, 71, 72, 73, 74, 75, 76, 77, 78, 79, 80, 81, 82, 83, 84, 85, 86, 87, 88, 89, 90, 91, 92, 93, 94, 95, 96, 97, 98, 99, 100, 101, 102, 103, 104, 105, 106, 107, 108, 109, 110, 111, 112, 113, 114, 115, 116, 117, 118, 119, 120, 121, 122, 123, 124, 125, 126, 136, 137, 138, 139, 140, 141, 142, 143, 127, 128, 129, 130, 131, 132, 133, 134, 135, 144, 145, 146, 147, 148] (by rfl) (by decide +kernel)
set_option maxRecDepth 20000 in
theorem gX4_up_X4_fewestGoes : GoodIn wsX4_up (wsV RX4 220 RX4 yX4_fewestGoes wsX4_fewestGoes) := goodIn_app (goodIn_of _ (by decide +kernel)) ggX4_up_X4_fewestGoes
theorem dX4_up_0 : decode cX4_up 0 = .ok (.aload_n 0, 1) := by decide +kernel
theorem dX4_up_1 : decode cX4_up 1 = .ok (.iload_n 1, 1) := by decide +kernel
theorem dX4_up_2 : decode cX4_up 2 = .ok (.invokevirtual 217, 3) := by decide +kernel
theorem dX4_up_5 : decode cX4_up 5 = .ok (.ifCond .eq 7, 3) := by decide +kernel
theorem dX4_up_8 : decode cX4_up 8 = .ok (.iconst (-1), 1) := by decide +kernel
theorem dX4_up_9 : decode cX4_up 9 = .ok (.goto 9, 3) := by decide +kernel
theorem dX4_up_12 : decode cX4_up 12 = .ok (.aload_n 0, 1) := by decide +kernel
theorem dX4_up_13 : decode cX4_up 13 = .ok (.iload_n 1, 1) := by decide +kernel
theorem dX4_up_14 : decode cX4_up 14 = .ok (.iload_n 1, 1) := by decide +kernel
theorem dX4_up_15 : decode cX4_up 15 = .ok (.invokevirtual 220, 3) := by decide +kernel
theorem dX4_up_18 : decode cX4_up 18 = .ok (.ireturn, 1) := by decide +kernel
set_option maxRecDepth 20000 in
theorem ggX4_down_X4_isNoGroup : GoodIn wsX4_down wsX4_isNoGroup := goodIn_r _ [5, 6, 7, 114, 115, 116, 117, 118, 119, 120, 121, 122, 123, 124, 125, 126, 127, 128, 129, 130, 131, 132, 133, 134, 135] (by rfl) (by decide +kernel)
set_option maxRecDepth 20000 in
theorem gX4_down_X4_isNoGroup : GoodIn wsX4_down (wsV RX4 217 RX4 yX4_isNoGroup wsX4_isNoGroup) := goodIn_app (goodIn_of _ (by decide +kernel)) ggX4_down_X4_isNoGroup
set_option maxRecDepth 20000 in
theorem ggX4_down_X4_fewestGoes : GoodIn wsX4_down wsX4_fewestGoes := goodIn_r _ [11, 12, 13, 14, 15, 16, 17, 18, 4, 19, 20, 6, 21, 22, 23, 24, 7, 25, 26, 27, 28, 29, 30, 31, 32, 33, 34, 35, 36, 37, 38, 39, 40, 41, 42, 43, 44, 45, 46, 47, 48, 49, 50, 51, 52, 53, 54, 55, 56, 57, 58, 59, 60, 61, 62, 63, 64, 65, 66, 67, 68, 69, 70, 71, 72, 73, 74, 75, 76, 77, 78, 79, 80, 81, 82, 83, 84, 85, 86, 87, 88, 89, 90, 91, 92, 93, 94, 95, 96, 97, 98, 99, 100, 101, 102, 103, 104, 105, 106, 107, 108, 109, 110, 111, 112, 113, 114, 115, 116, 117, 118, 119, 120, 121, 122, 123, 124, 125, 126, 136, 137, 138, 139, 140, 141, 142, 143, 127, 128, 129, 130, 131, 132, 133, 134, 135, 144, 145, 146, 147, 148] (by rfl) (by decide +kernel)
set_option maxRecDepth 20000 in
theorem gX4_down_X4_fewestGoes : GoodIn wsX4_down (wsV RX4 220 RX4 yX4_fewestGoes wsX4_fewestGoes) := goodIn_app (goodIn_of _ (by decide +kernel)) ggX4_down_X4_fewestGoes
theorem dX4_down_0 : decode cX4_down 0 = .ok (.aload_n 0, 1) := by decide +kernel
theorem dX4_down_1 : decode cX4_down 1 = .ok (.iload_n 1, 1) := by decide +kernel
theorem dX4_down_2 : decode cX4_down 2 = .ok (.invokevirtual 217, 3) := by decide +kernel
theorem dX4_down_5 : decode cX4_down 5 = .ok (.ifCond .eq 7, 3) := by decide +kernel
theorem dX4_down_8 : decode cX4_down 8 = .ok (.iconst (-1), 1) := by decide +kernel
theorem dX4_down_9 : decode cX4_down 9 = .ok (.goto 9, 3) := by decide +kernel
theorem dX4_down_12 : decode cX4_down 12 = .ok (.aload_n 0, 1) := by decide +kernel
theorem dX4_down_13 : decode cX4_down 13 = .ok (.iload_n 1, 1) := by decide +kernel
theorem dX4_down_14 : decode cX4_down 14 = .ok (.iconst 0, 1) := by decide +kernel
theorem dX4_down_15 : decode cX4_down 15 = .ok (.invokevirtual 220, 3) := by decide +kernel
theorem dX4_down_18 : decode cX4_down 18 = .ok (.ireturn, 1) := by decide +kernel
set_option maxRecDepth 20000 in
theorem ggX4_ever_X4_spread : GoodIn wsX4_ever wsX4_spread := goodIn_r _ [9, 3, 4, 1, 10, 11, 12, 8, 13, 2, 14, 15, 16, 17, 18, 19, 20, 21, 22, 23, 24, 25, 26, 27, 28, 29, 30, 31, 32, 33, 34, 35, 36, 37, 38, 39, 40, 41, 42, 43, 44, 45, 46, 47, 48, 49, 50, 51, 52, 53, 54, 55, 56, 57, 58, 59, 60, 61, 62, 63, 64, 65, 66, 67, 68, 69, 70, 71, 72, 73, 74, 75, 76, 77, 78, 79, 80, 81, 82, 83, 84, 85, 86, 87, 88, 89, 90, 91, 92, 93, 94, 95, 96, 97, 98, 103, 104, 105, 106, 107, 108, 109, 110, 111, 112, 113, 114, 115, 116, 117, 118, 119, 120, 121, 122, 123, 124, 125, 126, 127, 128, 129, 130, 131, 132, 133, 134, 135, 136, 137] (by rfl) (by decide +kernel)
set_option maxRecDepth 20000 in
theorem gX4_ever_X4_spread : GoodIn wsX4_ever (wsV RX4 223 RX4 yX4_spread wsX4_spread) := goodIn_app (goodIn_of _ (by decide +kernel)) ggX4_ever_X4_spread
set_option maxRecDepth 20000 in
theorem ggX4_ever_X0_top : GoodIn wsX4_ever wsX0_top := goodIn_r _ [58, 59, 28, 133, 134, 135, 136, 137] (by rfl) (by decide +kernel)
set_option maxRecDepth 20000 in
theorem gX4_ever_X0_top : GoodIn wsX4_ever (wsV RX4 191 RX0 yX0_top wsX0_top) := goodIn_app (goodIn_of _ (by decide +kernel)) ggX4_ever_X0_top
set_option maxRecDepth 20000 in
theorem ggX4_ever_X3_moved : GoodIn wsX4_ever wsX3_moved := goodIn_r _ [102, 74, 73, 125, 126, 127, 128, 129, 130, 131, 132] (by rfl) (by decide +kernel)
set_option maxRecDepth 20000 in
theorem gX4_ever_X3_moved : GoodIn wsX4_ever (wsV RX4 226 RX3 yX3_moved wsX3_moved) := goodIn_app (goodIn_of _ (by decide +kernel)) ggX4_ever_X3_moved
theorem dX4_ever_0 : decode cX4_ever 0 = .ok (.aload_n 0, 1) := by decide +kernel
theorem dX4_ever_1 : decode cX4_ever 1 = .ok (.getfield 50, 3) := by decide +kernel
theorem dX4_ever_4 : decode cX4_ever 4 = .ok (.getfield 115, 3) := by decide +kernel
theorem dX4_ever_7 : decode cX4_ever 7 = .ok (.ifCond .ne 6, 3) := by decide +kernel
theorem dX4_ever_10 : decode cX4_ever 10 = .ok (.bipush (-4), 2) := by decide +kernel
theorem dX4_ever_12 : decode cX4_ever 12 = .ok (.ireturn, 1) := by decide +kernel
theorem dX4_ever_13 : decode cX4_ever 13 = .ok (.aload_n 0, 1) := by decide +kernel
theorem dX4_ever_14 : decode cX4_ever 14 = .ok (.invokevirtual 223, 3) := by decide +kernel
theorem dX4_ever_17 : decode cX4_ever 17 = .ok (.aload_n 0, 1) := by decide +kernel
theorem dX4_ever_18 : decode cX4_ever 18 = .ok (.getfield 39, 3) := by decide +kernel
theorem dX4_ever_21 : decode cX4_ever 21 = .ok (.aload_n 0, 1) := by decide +kernel
theorem dX4_ever_22 : decode cX4_ever 22 = .ok (.getfield 24, 3) := by decide +kernel
theorem dX4_ever_25 : decode cX4_ever 25 = .ok (.invokevirtual 191, 3) := by decide +kernel
theorem dX4_ever_28 : decode cX4_ever 28 = .ok (.invokevirtual 226, 3) := by decide +kernel
theorem dX4_ever_31 : decode cX4_ever 31 = .ok (.ireturn, 1) := by decide +kernel
set_option maxRecDepth 20000 in
theorem ggX4_pounds_X4_refusedWeighing : GoodIn wsX4_pounds wsX4_refusedWeighing := goodIn_r _ [8, 9, 10, 11, 12, 13, 14, 7, 15, 2, 16, 17, 18, 19, 20, 21, 22, 23, 24, 25, 26, 27, 28, 29, 30, 31, 32, 33, 34, 35, 36, 37, 69, 70, 71, 72, 73, 74, 75, 76, 77, 78, 79, 80, 81, 91, 92, 93, 94, 95, 82, 83, 84, 85, 86, 87, 88, 89, 90] (by rfl) (by decide +kernel)
set_option maxRecDepth 20000 in
theorem gX4_pounds_X4_refusedWeighing : GoodIn wsX4_pounds (wsV RX4 229 RX4 yX4_refusedWeighing wsX4_refusedWeighing) := goodIn_app (goodIn_of _ (by decide +kernel)) ggX4_pounds_X4_refusedWeighing
set_option maxRecDepth 20000 in
theorem ggX4_pounds_X4_fits : GoodIn wsX4_pounds wsX4_fits := goodIn_r _ [41, 9, 10, 11, 42, 43, 44, 7, 45, 46, 2, 3, 47, 48, 49, 50, 51, 52, 53, 54, 55, 56, 57, 58, 59, 60, 61, 62, 63, 64, 65, 66, 67, 68, 69, 70, 71, 72, 73, 74, 75, 76, 77, 78, 79, 80, 81, 91, 92, 93, 94, 95, 82, 83, 84, 85, 86, 87, 88, 89, 90, 96, 97, 98, 99, 100] (by rfl) (by decide +kernel)
set_option maxRecDepth 20000 in
theorem gX4_pounds_X4_fits : GoodIn wsX4_pounds (wsV RX4 232 RX4 yX4_fits wsX4_fits) := goodIn_app (goodIn_of _ (by decide +kernel)) ggX4_pounds_X4_fits
theorem dX4_pounds_0 : decode cX4_pounds 0 = .ok (.aload_n 0, 1) := by decide +kernel
theorem dX4_pounds_1 : decode cX4_pounds 1 = .ok (.iload_n 1, 1) := by decide +kernel
theorem dX4_pounds_2 : decode cX4_pounds 2 = .ok (.iload_n 2, 1) := by decide +kernel
theorem dX4_pounds_3 : decode cX4_pounds 3 = .ok (.invokevirtual 229, 3) := by decide +kernel
theorem dX4_pounds_6 : decode cX4_pounds 6 = .ok (.istore_n 3, 1) := by decide +kernel
theorem dX4_pounds_7 : decode cX4_pounds 7 = .ok (.iload_n 3, 1) := by decide +kernel
theorem dX4_pounds_8 : decode cX4_pounds 8 = .ok (.ifCond .eq 5, 3) := by decide +kernel
theorem dX4_pounds_11 : decode cX4_pounds 11 = .ok (.iload_n 3, 1) := by decide +kernel
theorem dX4_pounds_12 : decode cX4_pounds 12 = .ok (.ireturn, 1) := by decide +kernel
theorem dX4_pounds_13 : decode cX4_pounds 13 = .ok (.iconst 0, 1) := by decide +kernel
theorem dX4_pounds_14 : decode cX4_pounds 14 = .ok (.istore 4, 2) := by decide +kernel
theorem dX4_pounds_16 : decode cX4_pounds 16 = .ok (.aload_n 0, 1) := by decide +kernel
theorem dX4_pounds_17 : decode cX4_pounds 17 = .ok (.bipush (-9), 2) := by decide +kernel
theorem dX4_pounds_19 : decode cX4_pounds 19 = .ok (.putfield 72, 3) := by decide +kernel
theorem dX4_pounds_22 : decode cX4_pounds 22 = .ok (.bipush 99, 2) := by decide +kernel
theorem dX4_pounds_24 : decode cX4_pounds 24 = .ok (.istore 5, 2) := by decide +kernel
theorem dX4_pounds_26 : decode cX4_pounds 26 = .ok (.iload 5, 2) := by decide +kernel
theorem dX4_pounds_28 : decode cX4_pounds 28 = .ok (.iconst 1, 1) := by decide +kernel
theorem dX4_pounds_29 : decode cX4_pounds 29 = .ok (.if_icmp .lt 37, 3) := by decide +kernel
theorem dX4_pounds_32 : decode cX4_pounds 32 = .ok (.aload_n 0, 1) := by decide +kernel
theorem dX4_pounds_33 : decode cX4_pounds 33 = .ok (.aload_n 0, 1) := by decide +kernel
theorem dX4_pounds_34 : decode cX4_pounds 34 = .ok (.getfield 50, 3) := by decide +kernel
theorem dX4_pounds_37 : decode cX4_pounds 37 = .ok (.getfield 128, 3) := by decide +kernel
theorem dX4_pounds_40 : decode cX4_pounds 40 = .ok (.iload_n 1, 1) := by decide +kernel
theorem dX4_pounds_41 : decode cX4_pounds 41 = .ok (.iaload, 1) := by decide +kernel
theorem dX4_pounds_42 : decode cX4_pounds 42 = .ok (.iload 5, 2) := by decide +kernel
theorem dX4_pounds_44 : decode cX4_pounds 44 = .ok (.iload_n 2, 1) := by decide +kernel
theorem dX4_pounds_45 : decode cX4_pounds 45 = .ok (.invokevirtual 232, 3) := by decide +kernel
theorem dX4_pounds_48 : decode cX4_pounds 48 = .ok (.ifCond .eq 12, 3) := by decide +kernel
theorem dX4_pounds_51 : decode cX4_pounds 51 = .ok (.iinc 4 1, 3) := by decide +kernel
theorem dX4_pounds_54 : decode cX4_pounds 54 = .ok (.aload_n 0, 1) := by decide +kernel
theorem dX4_pounds_55 : decode cX4_pounds 55 = .ok (.iload 5, 2) := by decide +kernel
theorem dX4_pounds_57 : decode cX4_pounds 57 = .ok (.putfield 72, 3) := by decide +kernel
theorem dX4_pounds_60 : decode cX4_pounds 60 = .ok (.iinc 5 (-1), 3) := by decide +kernel
theorem dX4_pounds_63 : decode cX4_pounds 63 = .ok (.goto (-37), 3) := by decide +kernel
theorem dX4_pounds_66 : decode cX4_pounds 66 = .ok (.iload 4, 2) := by decide +kernel
theorem dX4_pounds_68 : decode cX4_pounds 68 = .ok (.ireturn, 1) := by decide +kernel
set_option maxRecDepth 20000 in
theorem ggX4_kinds_X4_refusedWeighing : GoodIn wsX4_kinds wsX4_refusedWeighing := goodIn_r _ [5, 6, 7, 8, 9, 10, 11, 4, 12, 13, 14, 15, 16, 17, 18, 19, 20, 21, 22, 23, 24, 25, 26, 27, 28, 29, 30, 31, 32, 33, 34, 35, 72, 73, 74, 75, 76, 77, 78, 79, 80, 81, 82, 83, 84, 85, 86, 87, 88, 89, 90, 91, 92, 93, 94, 95, 96, 97, 98] (by rfl) (by decide +kernel)
set_option maxRecDepth 20000 in
theorem gX4_kinds_X4_refusedWeighing : GoodIn wsX4_kinds (wsV RX4 229 RX4 yX4_refusedWeighing wsX4_refusedWeighing) := goodIn_app (goodIn_of _ (by decide +kernel)) ggX4_kinds_X4_refusedWeighing
set_option maxRecDepth 20000 in
theorem ggX4_kinds_X4_fittingKinds : GoodIn wsX4_kinds wsX4_fittingKinds := goodIn_r _ [39, 13, 40, 41, 42, 43, 4, 44, 6, 7, 8, 45, 46, 47, 48, 49, 50, 51, 52, 53, 54, 55, 56, 57, 58, 59, 60, 61, 62, 63, 64, 65, 66, 67, 68, 69, 70, 71, 72, 73, 74, 75, 76, 77, 78, 79, 80, 81, 82, 83, 84, 90, 91, 92, 93, 94, 95, 96, 97, 98, 85, 86, 87, 88, 89, 99, 100, 101, 102, 103] (by rfl) (by decide +kernel)
set_option maxRecDepth 20000 in
theorem gX4_kinds_X4_fittingKinds : GoodIn wsX4_kinds (wsV RX4 235 RX4 yX4_fittingKinds wsX4_fittingKinds) := goodIn_app (goodIn_of _ (by decide +kernel)) ggX4_kinds_X4_fittingKinds
theorem dX4_kinds_0 : decode cX4_kinds 0 = .ok (.aload_n 0, 1) := by decide +kernel
theorem dX4_kinds_1 : decode cX4_kinds 1 = .ok (.iload_n 1, 1) := by decide +kernel
theorem dX4_kinds_2 : decode cX4_kinds 2 = .ok (.iload_n 2, 1) := by decide +kernel
theorem dX4_kinds_3 : decode cX4_kinds 3 = .ok (.invokevirtual 229, 3) := by decide +kernel
theorem dX4_kinds_6 : decode cX4_kinds 6 = .ok (.istore_n 3, 1) := by decide +kernel
theorem dX4_kinds_7 : decode cX4_kinds 7 = .ok (.iload_n 3, 1) := by decide +kernel
theorem dX4_kinds_8 : decode cX4_kinds 8 = .ok (.ifCond .eq 7, 3) := by decide +kernel
theorem dX4_kinds_11 : decode cX4_kinds 11 = .ok (.iload_n 3, 1) := by decide +kernel
theorem dX4_kinds_12 : decode cX4_kinds 12 = .ok (.goto 9, 3) := by decide +kernel
theorem dX4_kinds_15 : decode cX4_kinds 15 = .ok (.aload_n 0, 1) := by decide +kernel
theorem dX4_kinds_16 : decode cX4_kinds 16 = .ok (.iload_n 1, 1) := by decide +kernel
theorem dX4_kinds_17 : decode cX4_kinds 17 = .ok (.iload_n 2, 1) := by decide +kernel
theorem dX4_kinds_18 : decode cX4_kinds 18 = .ok (.invokevirtual 235, 3) := by decide +kernel
theorem dX4_kinds_21 : decode cX4_kinds 21 = .ok (.ireturn, 1) := by decide +kernel
set_option maxRecDepth 20000 in
theorem ggX4_next_X4_refusedWeighing : GoodIn wsX4_next wsX4_refusedWeighing := goodIn_r _ [9, 10, 11, 12, 13, 14, 15, 8, 16, 1, 2, 17, 18, 19, 20, 21, 22, 23, 24, 25, 26, 27, 28, 29, 30, 31, 32, 33, 34, 35, 36, 37, 80, 81, 82, 83, 84, 85, 86, 87, 88, 89, 90, 91, 92, 102, 103, 104, 105, 106, 93, 94, 95, 96, 97, 98, 99, 100, 101] (by rfl) (by decide +kernel)
set_option maxRecDepth 20000 in
theorem gX4_next_X4_refusedWeighing : GoodIn wsX4_next (wsV RX4 229 RX4 yX4_refusedWeighing wsX4_refusedWeighing) := goodIn_app (goodIn_of _ (by decide +kernel)) ggX4_next_X4_refusedWeighing
set_option maxRecDepth 20000 in
theorem ggX4_next_X4_fittingKinds : GoodIn wsX4_next wsX4_fittingKinds := goodIn_r _ [41, 1, 3, 42, 43, 44, 8, 45, 10, 11, 12, 46, 47, 48, 49, 50, 51, 52, 53, 54, 55, 56, 57, 58, 59, 60, 61, 62, 63, 64, 65, 66, 67, 68, 69, 70, 71, 72, 80, 81, 82, 83, 84, 85, 86, 87, 88, 89, 90, 91, 92, 93, 94, 95, 96, 97, 98, 99, 100, 101, 102, 103, 104, 105, 106, 107, 108, 109, 110, 111] (by rfl) (by decide +kernel)
set_option maxRecDepth 20000 in
theorem gX4_next_X4_fittingKinds : GoodIn wsX4_next (wsV RX4 235 RX4 yX4_fittingKinds wsX4_fittingKinds) := goodIn_app (goodIn_of _ (by decide +kernel)) ggX4_next_X4_fittingKinds
set_option maxRecDepth 20000 in
theorem ggX4_next_X4_greatestPart : GoodIn wsX4_next wsX4_greatestPart := goodIn_r _ [76, 77, 78, 71, 79, 46, 47, 48, 8, 49, 50, 1, 51, 52, 53, 54, 55, 56, 57, 58, 59, 60, 61, 62, 63, 64, 65, 3, 66, 67, 68, 69, 70, 72, 80, 81, 82, 83, 84, 85, 86, 87, 88, 89, 90, 91, 92, 93, 94, 95, 96, 97, 98, 99, 100, 101, 107, 108, 109, 110, 111] (by rfl) (by decide +kernel)
set_option maxRecDepth 20000 in
theorem gX4_next_X4_greatestPart : GoodIn wsX4_next (wsV RX4 238 RX4 yX4_greatestPart wsX4_greatestPart) := goodIn_app (goodIn_of _ (by decide +kernel)) ggX4_next_X4_greatestPart
theorem dX4_next_0 : decode cX4_next 0 = .ok (.aload_n 0, 1) := by decide +kernel
theorem dX4_next_1 : decode cX4_next 1 = .ok (.iload_n 1, 1) := by decide +kernel
theorem dX4_next_2 : decode cX4_next 2 = .ok (.iload_n 2, 1) := by decide +kernel
theorem dX4_next_3 : decode cX4_next 3 = .ok (.invokevirtual 229, 3) := by decide +kernel
theorem dX4_next_6 : decode cX4_next 6 = .ok (.istore_n 3, 1) := by decide +kernel
theorem dX4_next_7 : decode cX4_next 7 = .ok (.iload_n 3, 1) := by decide +kernel
theorem dX4_next_8 : decode cX4_next 8 = .ok (.ifCond .eq 5, 3) := by decide +kernel
theorem dX4_next_11 : decode cX4_next 11 = .ok (.iload_n 3, 1) := by decide +kernel
theorem dX4_next_12 : decode cX4_next 12 = .ok (.ireturn, 1) := by decide +kernel
theorem dX4_next_13 : decode cX4_next 13 = .ok (.aload_n 0, 1) := by decide +kernel
theorem dX4_next_14 : decode cX4_next 14 = .ok (.iload_n 1, 1) := by decide +kernel
theorem dX4_next_15 : decode cX4_next 15 = .ok (.iload_n 2, 1) := by decide +kernel
theorem dX4_next_16 : decode cX4_next 16 = .ok (.invokevirtual 235, 3) := by decide +kernel
theorem dX4_next_19 : decode cX4_next 19 = .ok (.istore 4, 2) := by decide +kernel
theorem dX4_next_21 : decode cX4_next 21 = .ok (.iload 4, 2) := by decide +kernel
theorem dX4_next_23 : decode cX4_next 23 = .ok (.ifCond .ne 6, 3) := by decide +kernel
theorem dX4_next_26 : decode cX4_next 26 = .ok (.bipush (-9), 2) := by decide +kernel
theorem dX4_next_28 : decode cX4_next 28 = .ok (.ireturn, 1) := by decide +kernel
theorem dX4_next_29 : decode cX4_next 29 = .ok (.bipush (-9), 2) := by decide +kernel
theorem dX4_next_31 : decode cX4_next 31 = .ok (.istore 5, 2) := by decide +kernel
theorem dX4_next_33 : decode cX4_next 33 = .ok (.bipush 7, 2) := by decide +kernel
theorem dX4_next_35 : decode cX4_next 35 = .ok (.istore 6, 2) := by decide +kernel
theorem dX4_next_37 : decode cX4_next 37 = .ok (.iconst 0, 1) := by decide +kernel
theorem dX4_next_38 : decode cX4_next 38 = .ok (.istore 7, 2) := by decide +kernel
theorem dX4_next_40 : decode cX4_next 40 = .ok (.iload 7, 2) := by decide +kernel
theorem dX4_next_42 : decode cX4_next 42 = .ok (.aload_n 0, 1) := by decide +kernel
theorem dX4_next_43 : decode cX4_next 43 = .ok (.getfield 50, 3) := by decide +kernel
theorem dX4_next_46 : decode cX4_next 46 = .ok (.getfield 115, 3) := by decide +kernel
theorem dX4_next_49 : decode cX4_next 49 = .ok (.if_icmp .ge 54, 3) := by decide +kernel
theorem dX4_next_52 : decode cX4_next 52 = .ok (.iload 7, 2) := by decide +kernel
theorem dX4_next_54 : decode cX4_next 54 = .ok (.iload_n 1, 1) := by decide +kernel
theorem dX4_next_55 : decode cX4_next 55 = .ok (.if_icmp .ne 8, 3) := by decide +kernel
theorem dX4_next_58 : decode cX4_next 58 = .ok (.bipush 7, 2) := by decide +kernel
theorem dX4_next_60 : decode cX4_next 60 = .ok (.goto 20, 3) := by decide +kernel
theorem dX4_next_63 : decode cX4_next 63 = .ok (.aload_n 0, 1) := by decide +kernel
theorem dX4_next_64 : decode cX4_next 64 = .ok (.aload_n 0, 1) := by decide +kernel
theorem dX4_next_65 : decode cX4_next 65 = .ok (.getfield 50, 3) := by decide +kernel
theorem dX4_next_68 : decode cX4_next 68 = .ok (.getfield 134, 3) := by decide +kernel
theorem dX4_next_71 : decode cX4_next 71 = .ok (.iload_n 1, 1) := by decide +kernel
theorem dX4_next_72 : decode cX4_next 72 = .ok (.iaload, 1) := by decide +kernel
theorem dX4_next_73 : decode cX4_next 73 = .ok (.iload 4, 2) := by decide +kernel
theorem dX4_next_75 : decode cX4_next 75 = .ok (.iload 7, 2) := by decide +kernel
theorem dX4_next_77 : decode cX4_next 77 = .ok (.invokevirtual 238, 3) := by decide +kernel
theorem dX4_next_80 : decode cX4_next 80 = .ok (.istore 8, 2) := by decide +kernel
theorem dX4_next_82 : decode cX4_next 82 = .ok (.iload 8, 2) := by decide +kernel
theorem dX4_next_84 : decode cX4_next 84 = .ok (.iload 6, 2) := by decide +kernel
theorem dX4_next_86 : decode cX4_next 86 = .ok (.if_icmp .ge 11, 3) := by decide +kernel
theorem dX4_next_89 : decode cX4_next 89 = .ok (.iload 7, 2) := by decide +kernel
theorem dX4_next_91 : decode cX4_next 91 = .ok (.istore 5, 2) := by decide +kernel
theorem dX4_next_93 : decode cX4_next 93 = .ok (.iload 8, 2) := by decide +kernel
theorem dX4_next_95 : decode cX4_next 95 = .ok (.istore 6, 2) := by decide +kernel
theorem dX4_next_97 : decode cX4_next 97 = .ok (.iinc 7 1, 3) := by decide +kernel
theorem dX4_next_100 : decode cX4_next 100 = .ok (.goto (-60), 3) := by decide +kernel
theorem dX4_next_103 : decode cX4_next 103 = .ok (.aload_n 0, 1) := by decide +kernel
theorem dX4_next_104 : decode cX4_next 104 = .ok (.iload 6, 2) := by decide +kernel
theorem dX4_next_106 : decode cX4_next 106 = .ok (.putfield 72, 3) := by decide +kernel
theorem dX4_next_109 : decode cX4_next 109 = .ok (.iload 5, 2) := by decide +kernel
theorem dX4_next_111 : decode cX4_next 111 = .ok (.ireturn, 1) := by decide +kernel
set_option maxRecDepth 20000 in
theorem ggX4_send_X4_findWays : GoodIn wsX4_send wsX4_findWays := goodIn_r _ [9, 3, 1, 2, 10, 11, 12, 13, 14, 8, 15, 16, 17, 4, 18, 19, 20, 21, 22, 23, 24, 25, 26, 27, 28, 29, 30, 31, 32, 33, 34, 35, 36, 37, 38, 39, 40, 41, 42, 43, 44, 45, 46, 47, 48, 49, 50, 84, 85, 86, 87, 88, 89, 90, 91, 92, 93, 94, 95, 96, 97, 98, 99, 100, 101, 102, 103, 104, 105, 106, 107, 108, 109, 110, 111, 112, 113, 114, 115, 116, 117, 118] (by rfl) (by decide +kernel)
set_option maxRecDepth 20000 in
theorem gX4_send_X4_findWays : GoodIn wsX4_send (wsV RX4 188 RX4 yX4_findWays wsX4_findWays) := goodIn_app (goodIn_of _ (by decide +kernel)) ggX4_send_X4_findWays
set_option maxRecDepth 20000 in
theorem ggX4_send_X0_top : GoodIn wsX4_send wsX0_top := goodIn_r _ [54, 55, 24, 114, 115, 116, 117, 118] (by rfl) (by decide +kernel)
set_option maxRecDepth 20000 in
theorem gX4_send_X0_top : GoodIn wsX4_send (wsV RX4 191 RX0 yX0_top wsX0_top) := goodIn_app (goodIn_of _ (by decide +kernel)) ggX4_send_X0_top
set_option maxRecDepth 20000 in
theorem ggX4_send_X3_byTurns : GoodIn wsX4_send wsX3_byTurns := goodIn_r _ [60, 61, 62, 63, 64, 65, 66, 67, 68, 69, 70, 71, 59, 72, 73, 74, 75, 76, 49, 77, 78, 79, 80, 81, 82, 83, 106, 107, 108, 109, 110, 111, 112, 113] (by rfl) (by decide +kernel)
set_option maxRecDepth 20000 in
theorem gX4_send_X3_byTurns : GoodIn wsX4_send (wsV RX4 241 RX3 yX3_byTurns wsX3_byTurns) := goodIn_app (goodIn_of _ (by decide +kernel)) ggX4_send_X3_byTurns
theorem dX4_send_0 : decode cX4_send 0 = .ok (.iload_n 1, 1) := by decide +kernel
theorem dX4_send_1 : decode cX4_send 1 = .ok (.ifCond .lt 8, 3) := by decide +kernel
theorem dX4_send_4 : decode cX4_send 4 = .ok (.iload_n 1, 1) := by decide +kernel
theorem dX4_send_5 : decode cX4_send 5 = .ok (.iconst 2, 1) := by decide +kernel
theorem dX4_send_6 : decode cX4_send 6 = .ok (.if_icmp .le 5, 3) := by decide +kernel
theorem dX4_send_9 : decode cX4_send 9 = .ok (.iconst (-1), 1) := by decide +kernel
theorem dX4_send_10 : decode cX4_send 10 = .ok (.ireturn, 1) := by decide +kernel
theorem dX4_send_11 : decode cX4_send 11 = .ok (.aload_n 0, 1) := by decide +kernel
theorem dX4_send_12 : decode cX4_send 12 = .ok (.getfield 50, 3) := by decide +kernel
theorem dX4_send_15 : decode cX4_send 15 = .ok (.getfield 115, 3) := by decide +kernel
theorem dX4_send_18 : decode cX4_send 18 = .ok (.ifCond .ne 6, 3) := by decide +kernel
theorem dX4_send_21 : decode cX4_send 21 = .ok (.bipush (-4), 2) := by decide +kernel
theorem dX4_send_23 : decode cX4_send 23 = .ok (.ireturn, 1) := by decide +kernel
theorem dX4_send_24 : decode cX4_send 24 = .ok (.aload_n 0, 1) := by decide +kernel
theorem dX4_send_25 : decode cX4_send 25 = .ok (.invokevirtual 188, 3) := by decide +kernel
theorem dX4_send_28 : decode cX4_send 28 = .ok (.aload_n 0, 1) := by decide +kernel
theorem dX4_send_29 : decode cX4_send 29 = .ok (.getfield 39, 3) := by decide +kernel
theorem dX4_send_32 : decode cX4_send 32 = .ok (.iconst 2, 1) := by decide +kernel
theorem dX4_send_33 : decode cX4_send 33 = .ok (.iload_n 1, 1) := by decide +kernel
theorem dX4_send_34 : decode cX4_send 34 = .ok (.imul, 1) := by decide +kernel
theorem dX4_send_35 : decode cX4_send 35 = .ok (.aload_n 0, 1) := by decide +kernel
theorem dX4_send_36 : decode cX4_send 36 = .ok (.getfield 24, 3) := by decide +kernel
theorem dX4_send_39 : decode cX4_send 39 = .ok (.invokevirtual 191, 3) := by decide +kernel
theorem dX4_send_42 : decode cX4_send 42 = .ok (.invokevirtual 241, 3) := by decide +kernel
theorem dX4_send_45 : decode cX4_send 45 = .ok (.ireturn, 1) := by decide +kernel
set_option maxRecDepth 20000 in
theorem ggX4_odds_X4_isNoPair : GoodIn wsX4_odds wsX4_isNoPair := goodIn_r _ [7, 8, 9, 10, 6, 11, 1, 12, 99, 100, 101, 102, 103, 104, 105, 106, 107, 108, 109, 110, 111, 112, 113, 114, 115, 116, 117, 118, 119, 120] (by rfl) (by decide +kernel)
set_option maxRecDepth 20000 in
theorem gX4_odds_X4_isNoPair : GoodIn wsX4_odds (wsV RX4 151 RX4 yX4_isNoPair wsX4_isNoPair) := goodIn_app (goodIn_of _ (by decide +kernel)) ggX4_odds_X4_isNoPair
set_option maxRecDepth 20000 in
theorem ggX4_odds_X4_areApart : GoodIn wsX4_odds wsX4_areApart := goodIn_r _ [16, 17, 18, 19, 20, 21, 22, 23, 24, 99, 100, 101, 102, 103, 104, 105, 106, 107, 108, 109, 110, 111, 121, 122, 123, 124, 125] (by rfl) (by decide +kernel)
set_option maxRecDepth 20000 in
theorem gX4_odds_X4_areApart : GoodIn wsX4_odds (wsV RX4 158 RX4 yX4_areApart wsX4_areApart) := goodIn_app (goodIn_of _ (by decide +kernel)) ggX4_odds_X4_areApart
set_option maxRecDepth 20000 in
theorem ggX4_odds_X1_allStones : GoodIn wsX4_odds wsX1_allStones := goodIn_r _ [29, 30, 112, 113, 114, 115, 116, 117, 118, 119, 120] (by rfl) (by decide +kernel)
set_option maxRecDepth 20000 in
theorem gX4_odds_X1_allStones : GoodIn wsX4_odds (wsV RX4 197 RX1 yX1_allStones wsX1_allStones) := goodIn_app (goodIn_of _ (by decide +kernel)) ggX4_odds_X1_allStones
set_option maxRecDepth 20000 in
theorem ggX4_odds_X4_least : GoodIn wsX4_odds wsX4_least := goodIn_r _ [34, 1, 35, 36, 37, 6, 38, 39, 40, 17, 41, 42, 43, 21, 44, 45, 24, 46, 47, 48, 49, 50, 51, 28, 52, 53, 54, 55, 56, 57, 58, 59, 60, 61, 62, 63, 64, 26, 27, 29, 30, 65, 66, 67, 68, 69, 99, 100, 101, 102, 103, 104, 105, 106, 107, 108, 109, 110, 111, 112, 113, 114, 115, 116, 117, 118, 119, 120, 121, 122, 123, 124, 125] (by rfl) (by decide +kernel)
set_option maxRecDepth 20000 in
theorem gX4_odds_X4_least : GoodIn wsX4_odds (wsV RX4 179 RX4 yX4_least wsX4_least) := goodIn_app (goodIn_of _ (by decide +kernel)) ggX4_odds_X4_least
set_option maxRecDepth 20000 in
theorem ggX4_odds_X4_stonesWith : GoodIn wsX4_odds wsX4_stonesWith := goodIn_r _ [73, 17, 1, 74, 75, 76, 21, 77, 78, 24, 18, 19, 20, 22, 23, 25, 26, 27, 28, 29, 30, 99, 100, 101, 102, 103, 104, 105, 106, 107, 108, 109, 110, 111, 121, 122, 123, 124, 125, 112, 113, 114, 115, 116, 117, 118, 119, 120] (by rfl) (by decide +kernel)
set_option maxRecDepth 20000 in
theorem gX4_odds_X4_stonesWith : GoodIn wsX4_odds (wsV RX4 161 RX4 yX4_stonesWith wsX4_stonesWith) := goodIn_app (goodIn_of _ (by decide +kernel)) ggX4_odds_X4_stonesWith
set_option maxRecDepth 20000 in
theorem ggX4_odds_X4_chance : GoodIn wsX4_odds wsX4_chance := goodIn_r _ [81, 82, 83, 84, 85, 86, 87, 88, 89, 90, 6, 91] (by rfl) (by decide +kernel)
set_option maxRecDepth 20000 in
theorem gX4_odds_X4_chance : GoodIn wsX4_odds (va_wsS RX4 244 yX4_chance wsX4_chance) := goodIn_app (goodIn_of _ (by decide +kernel)) ggX4_odds_X4_chance
set_option maxRecDepth 20000 in
theorem ggX4_odds_J6_bitCount_0f7a4 : GoodIn wsX4_odds wsJ6_bitCount_0f7a4 := goodIn_r _ [85, 86, 87, 88] (by rfl) (by decide +kernel)
set_option maxRecDepth 20000 in
theorem gX4_odds_J6_bitCount_0f7a4 : GoodIn wsX4_odds (va_wsS RX4 203 yJ6_bitCount_0f7a4 wsJ6_bitCount_0f7a4) := goodIn_app (goodIn_of _ (by decide +kernel)) ggX4_odds_J6_bitCount_0f7a4
set_option maxRecDepth 20000 in
theorem ggX4_odds_X4_power : GoodIn wsX4_odds wsX4_power := goodIn_r _ [91] (by rfl) (by decide +kernel)
set_option maxRecDepth 20000 in
theorem gX4_odds_X4_power : GoodIn wsX4_odds (va_wsS RX4 248 yX4_power wsX4_power) := goodIn_app (goodIn_of _ (by decide +kernel)) ggX4_odds_X4_power
set_option maxRecDepth 20000 in
theorem ggX4_odds_X4_tell : GoodIn wsX4_odds wsX4_tell := goodIn_r _ [95, 96, 97, 98, 99, 100, 101, 102, 103, 104, 105, 106, 107, 108, 109, 110, 111] (by rfl) (by decide +kernel)
set_option maxRecDepth 20000 in
theorem gX4_odds_X4_tell : GoodIn wsX4_odds (wsV RX4 252 RX4 yX4_tell wsX4_tell) := goodIn_app (goodIn_of _ (by decide +kernel)) ggX4_odds_X4_tell
theorem dX4_odds_0 : decode cX4_odds 0 = .ok (.aload_n 0, 1) := by decide +kernel
theorem dX4_odds_1 : decode cX4_odds 1 = .ok (.iload_n 1, 1) := by decide +kernel
theorem dX4_odds_2 : decode cX4_odds 2 = .ok (.iload_n 2, 1) := by decide +kernel
theorem dX4_odds_3 : decode cX4_odds 3 = .ok (.invokevirtual 151, 3) := by decide +kernel
theorem dX4_odds_6 : decode cX4_odds 6 = .ok (.ifCond .ne 13, 3) := by decide +kernel
theorem dX4_odds_9 : decode cX4_odds 9 = .ok (.iload_n 3, 1) := by decide +kernel
theorem dX4_odds_10 : decode cX4_odds 10 = .ok (.ifCond .lt 9, 3) := by decide +kernel
theorem dX4_odds_13 : decode cX4_odds 13 = .ok (.iload_n 3, 1) := by decide +kernel
theorem dX4_odds_14 : decode cX4_odds 14 = .ok (.bipush 12, 2) := by decide +kernel
theorem dX4_odds_16 : decode cX4_odds 16 = .ok (.if_icmp .le 5, 3) := by decide +kernel
theorem dX4_odds_19 : decode cX4_odds 19 = .ok (.iconst (-1), 1) := by decide +kernel
theorem dX4_odds_20 : decode cX4_odds 20 = .ok (.ireturn, 1) := by decide +kernel
theorem dX4_odds_21 : decode cX4_odds 21 = .ok (.aload_n 0, 1) := by decide +kernel
theorem dX4_odds_22 : decode cX4_odds 22 = .ok (.iload_n 1, 1) := by decide +kernel
theorem dX4_odds_23 : decode cX4_odds 23 = .ok (.iload_n 2, 1) := by decide +kernel
theorem dX4_odds_24 : decode cX4_odds 24 = .ok (.invokevirtual 158, 3) := by decide +kernel
theorem dX4_odds_27 : decode cX4_odds 27 = .ok (.ifCond .eq 6, 3) := by decide +kernel
theorem dX4_odds_30 : decode cX4_odds 30 = .ok (.bipush (-4), 2) := by decide +kernel
theorem dX4_odds_32 : decode cX4_odds 32 = .ok (.ireturn, 1) := by decide +kernel
theorem dX4_odds_33 : decode cX4_odds 33 = .ok (.lconst 0, 1) := by decide +kernel
theorem dX4_odds_34 : decode cX4_odds 34 = .ok (.lstore 4, 2) := by decide +kernel
theorem dX4_odds_36 : decode cX4_odds 36 = .ok (.iconst 0, 1) := by decide +kernel
theorem dX4_odds_37 : decode cX4_odds 37 = .ok (.istore 6, 2) := by decide +kernel
theorem dX4_odds_39 : decode cX4_odds 39 = .ok (.iload 6, 2) := by decide +kernel
theorem dX4_odds_41 : decode cX4_odds 41 = .ok (.aload_n 0, 1) := by decide +kernel
theorem dX4_odds_42 : decode cX4_odds 42 = .ok (.getfield 50, 3) := by decide +kernel
theorem dX4_odds_45 : decode cX4_odds 45 = .ok (.invokevirtual 197, 3) := by decide +kernel
theorem dX4_odds_48 : decode cX4_odds 48 = .ok (.if_icmp .gt 47, 3) := by decide +kernel
theorem dX4_odds_51 : decode cX4_odds 51 = .ok (.aload_n 0, 1) := by decide +kernel
theorem dX4_odds_52 : decode cX4_odds 52 = .ok (.iload_n 1, 1) := by decide +kernel
theorem dX4_odds_53 : decode cX4_odds 53 = .ok (.iload_n 2, 1) := by decide +kernel
theorem dX4_odds_54 : decode cX4_odds 54 = .ok (.iload 6, 2) := by decide +kernel
theorem dX4_odds_56 : decode cX4_odds 56 = .ok (.invokevirtual 179, 3) := by decide +kernel
theorem dX4_odds_59 : decode cX4_odds 59 = .ok (.sipush 256, 3) := by decide +kernel
theorem dX4_odds_62 : decode cX4_odds 62 = .ok (.idiv, 1) := by decide +kernel
theorem dX4_odds_63 : decode cX4_odds 63 = .ok (.aload_n 0, 1) := by decide +kernel
theorem dX4_odds_64 : decode cX4_odds 64 = .ok (.getfield 50, 3) := by decide +kernel
theorem dX4_odds_67 : decode cX4_odds 67 = .ok (.getfield 168, 3) := by decide +kernel
theorem dX4_odds_70 : decode cX4_odds 70 = .ok (.if_icmp .gt 19, 3) := by decide +kernel
theorem dX4_odds_73 : decode cX4_odds 73 = .ok (.lload 4, 2) := by decide +kernel
theorem dX4_odds_75 : decode cX4_odds 75 = .ok (.aload_n 0, 1) := by decide +kernel
theorem dX4_odds_76 : decode cX4_odds 76 = .ok (.iload_n 1, 1) := by decide +kernel
theorem dX4_odds_77 : decode cX4_odds 77 = .ok (.invokevirtual 161, 3) := by decide +kernel
theorem dX4_odds_80 : decode cX4_odds 80 = .ok (.iload 6, 2) := by decide +kernel
theorem dX4_odds_82 : decode cX4_odds 82 = .ok (.iload_n 3, 1) := by decide +kernel
theorem dX4_odds_83 : decode cX4_odds 83 = .ok (.invokestatic 244, 3) := by decide +kernel
theorem dX4_odds_86 : decode cX4_odds 86 = .ok (.ladd, 1) := by decide +kernel
theorem dX4_odds_87 : decode cX4_odds 87 = .ok (.lstore 4, 2) := by decide +kernel
theorem dX4_odds_89 : decode cX4_odds 89 = .ok (.iinc 6 1, 3) := by decide +kernel
theorem dX4_odds_92 : decode cX4_odds 92 = .ok (.goto (-53), 3) := by decide +kernel
theorem dX4_odds_95 : decode cX4_odds 95 = .ok (.aload_n 0, 1) := by decide +kernel
theorem dX4_odds_96 : decode cX4_odds 96 = .ok (.lload 4, 2) := by decide +kernel
theorem dX4_odds_98 : decode cX4_odds 98 = .ok (.bipush 12, 2) := by decide +kernel
theorem dX4_odds_100 : decode cX4_odds 100 = .ok (.aload_n 0, 1) := by decide +kernel
theorem dX4_odds_101 : decode cX4_odds 101 = .ok (.iload_n 1, 1) := by decide +kernel
theorem dX4_odds_102 : decode cX4_odds 102 = .ok (.invokevirtual 161, 3) := by decide +kernel
theorem dX4_odds_105 : decode cX4_odds 105 = .ok (.invokestatic 203, 3) := by decide +kernel
theorem dX4_odds_108 : decode cX4_odds 108 = .ok (.invokestatic 248, 3) := by decide +kernel
theorem dX4_odds_111 : decode cX4_odds 111 = .ok (.invokevirtual 252, 3) := by decide +kernel
theorem dX4_odds_114 : decode cX4_odds 114 = .ok (.iconst 1, 1) := by decide +kernel
theorem dX4_odds_115 : decode cX4_odds 115 = .ok (.ireturn, 1) := by decide +kernel
set_option maxRecDepth 20000 in
theorem ggX4_mid_X4_isNoPair : GoodIn wsX4_mid wsX4_isNoPair := goodIn_r _ [6, 7, 8, 9, 5, 10, 1, 11, 98, 99, 100, 101, 102, 103, 104, 105, 106, 107, 108, 109, 110, 111, 112, 113, 114, 115, 116, 117, 118, 119] (by rfl) (by decide +kernel)
set_option maxRecDepth 20000 in
theorem gX4_mid_X4_isNoPair : GoodIn wsX4_mid (wsV RX4 151 RX4 yX4_isNoPair wsX4_isNoPair) := goodIn_app (goodIn_of _ (by decide +kernel)) ggX4_mid_X4_isNoPair
set_option maxRecDepth 20000 in
theorem ggX4_mid_X4_areApart : GoodIn wsX4_mid wsX4_areApart := goodIn_r _ [15, 16, 17, 18, 19, 20, 21, 22, 23, 98, 99, 100, 101, 102, 103, 104, 105, 106, 107, 108, 109, 110, 120, 121, 122, 123, 124] (by rfl) (by decide +kernel)
set_option maxRecDepth 20000 in
theorem gX4_mid_X4_areApart : GoodIn wsX4_mid (wsV RX4 158 RX4 yX4_areApart wsX4_areApart) := goodIn_app (goodIn_of _ (by decide +kernel)) ggX4_mid_X4_areApart
set_option maxRecDepth 20000 in
theorem ggX4_mid_X1_allStones : GoodIn wsX4_mid wsX1_allStones := goodIn_r _ [28, 29, 111, 112, 113, 114, 115, 116, 117, 118, 119] (by rfl) (by decide +kernel)
set_option maxRecDepth 20000 in
theorem gX4_mid_X1_allStones : GoodIn wsX4_mid (wsV RX4 197 RX1 yX1_allStones wsX1_allStones) := goodIn_app (goodIn_of _ (by decide +kernel)) ggX4_mid_X1_allStones
set_option maxRecDepth 20000 in
theorem ggX4_mid_X4_stonesWith : GoodIn wsX4_mid wsX4_stonesWith := goodIn_r _ [33, 16, 1, 34, 35, 36, 20, 37, 38, 23, 17, 18, 19, 21, 22, 24, 25, 26, 27, 28, 29, 98, 99, 100, 101, 102, 103, 104, 105, 106, 107, 108, 109, 110, 120, 121, 122, 123, 124, 111, 112, 113, 114, 115, 116, 117, 118, 119] (by rfl) (by decide +kernel)
set_option maxRecDepth 20000 in
theorem gX4_mid_X4_stonesWith : GoodIn wsX4_mid (wsV RX4 161 RX4 yX4_stonesWith wsX4_stonesWith) := goodIn_app (goodIn_of _ (by decide +kernel)) ggX4_mid_X4_stonesWith
set_option maxRecDepth 20000 in
theorem ggX4_mid_X4_chance : GoodIn wsX4_mid wsX4_chance := goodIn_r _ [41, 42, 43, 44, 45, 46, 47, 48, 49, 50, 5, 51] (by rfl) (by decide +kernel)
set_option maxRecDepth 20000 in
theorem gX4_mid_X4_chance : GoodIn wsX4_mid (va_wsS RX4 244 yX4_chance wsX4_chance) := goodIn_app (goodIn_of _ (by decide +kernel)) ggX4_mid_X4_chance
set_option maxRecDepth 20000 in
theorem ggX4_mid_X4_least : GoodIn wsX4_mid wsX4_least := goodIn_r _ [55, 1, 56, 57, 58, 5, 59, 60, 61, 16, 62, 63, 64, 20, 65, 66, 23, 67, 68, 69, 70, 71, 72, 27, 73, 74, 75, 76, 77, 78, 79, 80, 81, 82, 83, 84, 85, 25, 26, 28, 29, 86, 87, 88, 89, 90, 98, 99, 100, 101, 102, 103, 104, 105, 106, 107, 108, 109, 110, 111, 112, 113, 114, 115, 116, 117, 118, 119, 120, 121, 122, 123, 124] (by rfl) (by decide +kernel)
set_option maxRecDepth 20000 in
theorem gX4_mid_X4_least : GoodIn wsX4_mid (wsV RX4 179 RX4 yX4_least wsX4_least) := goodIn_app (goodIn_of _ (by decide +kernel)) ggX4_mid_X4_least
set_option maxRecDepth 20000 in
theorem ggX4_mid_J6_bitCount_0f7a4 : GoodIn wsX4_mid wsJ6_bitCount_0f7a4 := goodIn_r _ [45, 46, 47, 48] (by rfl) (by decide +kernel)
set_option maxRecDepth 20000 in
theorem gX4_mid_J6_bitCount_0f7a4 : GoodIn wsX4_mid (va_wsS RX4 203 yJ6_bitCount_0f7a4 wsJ6_bitCount_0f7a4) := goodIn_app (goodIn_of _ (by decide +kernel)) ggX4_mid_J6_bitCount_0f7a4
set_option maxRecDepth 20000 in
theorem ggX4_mid_X4_power : GoodIn wsX4_mid wsX4_power := goodIn_r _ [51] (by rfl) (by decide +kernel)
set_option maxRecDepth 20000 in
theorem gX4_mid_X4_power : GoodIn wsX4_mid (va_wsS RX4 248 yX4_power wsX4_power) := goodIn_app (goodIn_of _ (by decide +kernel)) ggX4_mid_X4_power
set_option maxRecDepth 20000 in
theorem ggX4_mid_X4_tell : GoodIn wsX4_mid wsX4_tell := goodIn_r _ [94, 95, 96, 97, 98, 99, 100, 101, 102, 103, 104, 105, 106, 107, 108, 109, 110] (by rfl) (by decide +kernel)
set_option maxRecDepth 20000 in
theorem gX4_mid_X4_tell : GoodIn wsX4_mid (wsV RX4 252 RX4 yX4_tell wsX4_tell) := goodIn_app (goodIn_of _ (by decide +kernel)) ggX4_mid_X4_tell
theorem dX4_mid_0 : decode cX4_mid 0 = .ok (.aload_n 0, 1) := by decide +kernel
theorem dX4_mid_1 : decode cX4_mid 1 = .ok (.iload_n 1, 1) := by decide +kernel
theorem dX4_mid_2 : decode cX4_mid 2 = .ok (.iload_n 2, 1) := by decide +kernel
theorem dX4_mid_3 : decode cX4_mid 3 = .ok (.invokevirtual 151, 3) := by decide +kernel
theorem dX4_mid_6 : decode cX4_mid 6 = .ok (.ifCond .ne 13, 3) := by decide +kernel
theorem dX4_mid_9 : decode cX4_mid 9 = .ok (.iload_n 3, 1) := by decide +kernel
theorem dX4_mid_10 : decode cX4_mid 10 = .ok (.ifCond .lt 9, 3) := by decide +kernel
theorem dX4_mid_13 : decode cX4_mid 13 = .ok (.iload_n 3, 1) := by decide +kernel
theorem dX4_mid_14 : decode cX4_mid 14 = .ok (.bipush 12, 2) := by decide +kernel
theorem dX4_mid_16 : decode cX4_mid 16 = .ok (.if_icmp .le 5, 3) := by decide +kernel
theorem dX4_mid_19 : decode cX4_mid 19 = .ok (.iconst (-1), 1) := by decide +kernel
theorem dX4_mid_20 : decode cX4_mid 20 = .ok (.ireturn, 1) := by decide +kernel
theorem dX4_mid_21 : decode cX4_mid 21 = .ok (.aload_n 0, 1) := by decide +kernel
theorem dX4_mid_22 : decode cX4_mid 22 = .ok (.iload_n 1, 1) := by decide +kernel
theorem dX4_mid_23 : decode cX4_mid 23 = .ok (.iload_n 2, 1) := by decide +kernel
theorem dX4_mid_24 : decode cX4_mid 24 = .ok (.invokevirtual 158, 3) := by decide +kernel
theorem dX4_mid_27 : decode cX4_mid 27 = .ok (.ifCond .eq 6, 3) := by decide +kernel
theorem dX4_mid_30 : decode cX4_mid 30 = .ok (.bipush (-4), 2) := by decide +kernel
theorem dX4_mid_32 : decode cX4_mid 32 = .ok (.ireturn, 1) := by decide +kernel
theorem dX4_mid_33 : decode cX4_mid 33 = .ok (.lconst 0, 1) := by decide +kernel
theorem dX4_mid_34 : decode cX4_mid 34 = .ok (.lstore 4, 2) := by decide +kernel
theorem dX4_mid_36 : decode cX4_mid 36 = .ok (.iconst 0, 1) := by decide +kernel
theorem dX4_mid_37 : decode cX4_mid 37 = .ok (.istore 6, 2) := by decide +kernel
theorem dX4_mid_39 : decode cX4_mid 39 = .ok (.iload 6, 2) := by decide +kernel
theorem dX4_mid_41 : decode cX4_mid 41 = .ok (.aload_n 0, 1) := by decide +kernel
theorem dX4_mid_42 : decode cX4_mid 42 = .ok (.getfield 50, 3) := by decide +kernel
theorem dX4_mid_45 : decode cX4_mid 45 = .ok (.invokevirtual 197, 3) := by decide +kernel
theorem dX4_mid_48 : decode cX4_mid 48 = .ok (.if_icmp .gt 39, 3) := by decide +kernel
theorem dX4_mid_51 : decode cX4_mid 51 = .ok (.lload 4, 2) := by decide +kernel
theorem dX4_mid_53 : decode cX4_mid 53 = .ok (.aload_n 0, 1) := by decide +kernel
theorem dX4_mid_54 : decode cX4_mid 54 = .ok (.iload_n 1, 1) := by decide +kernel
theorem dX4_mid_55 : decode cX4_mid 55 = .ok (.invokevirtual 161, 3) := by decide +kernel
theorem dX4_mid_58 : decode cX4_mid 58 = .ok (.iload 6, 2) := by decide +kernel
theorem dX4_mid_60 : decode cX4_mid 60 = .ok (.iload_n 3, 1) := by decide +kernel
theorem dX4_mid_61 : decode cX4_mid 61 = .ok (.invokestatic 244, 3) := by decide +kernel
theorem dX4_mid_64 : decode cX4_mid 64 = .ok (.aload_n 0, 1) := by decide +kernel
theorem dX4_mid_65 : decode cX4_mid 65 = .ok (.iload_n 1, 1) := by decide +kernel
theorem dX4_mid_66 : decode cX4_mid 66 = .ok (.iload_n 2, 1) := by decide +kernel
theorem dX4_mid_67 : decode cX4_mid 67 = .ok (.iload 6, 2) := by decide +kernel
theorem dX4_mid_69 : decode cX4_mid 69 = .ok (.invokevirtual 179, 3) := by decide +kernel
theorem dX4_mid_72 : decode cX4_mid 72 = .ok (.sipush 256, 3) := by decide +kernel
theorem dX4_mid_75 : decode cX4_mid 75 = .ok (.idiv, 1) := by decide +kernel
theorem dX4_mid_76 : decode cX4_mid 76 = .ok (.i2l, 1) := by decide +kernel
theorem dX4_mid_77 : decode cX4_mid 77 = .ok (.lmul, 1) := by decide +kernel
theorem dX4_mid_78 : decode cX4_mid 78 = .ok (.ladd, 1) := by decide +kernel
theorem dX4_mid_79 : decode cX4_mid 79 = .ok (.lstore 4, 2) := by decide +kernel
theorem dX4_mid_81 : decode cX4_mid 81 = .ok (.iinc 6 1, 3) := by decide +kernel
theorem dX4_mid_84 : decode cX4_mid 84 = .ok (.goto (-45), 3) := by decide +kernel
theorem dX4_mid_87 : decode cX4_mid 87 = .ok (.aload_n 0, 1) := by decide +kernel
theorem dX4_mid_88 : decode cX4_mid 88 = .ok (.lload 4, 2) := by decide +kernel
theorem dX4_mid_90 : decode cX4_mid 90 = .ok (.bipush 12, 2) := by decide +kernel
theorem dX4_mid_92 : decode cX4_mid 92 = .ok (.aload_n 0, 1) := by decide +kernel
theorem dX4_mid_93 : decode cX4_mid 93 = .ok (.iload_n 1, 1) := by decide +kernel
theorem dX4_mid_94 : decode cX4_mid 94 = .ok (.invokevirtual 161, 3) := by decide +kernel
theorem dX4_mid_97 : decode cX4_mid 97 = .ok (.invokestatic 203, 3) := by decide +kernel
theorem dX4_mid_100 : decode cX4_mid 100 = .ok (.invokestatic 248, 3) := by decide +kernel
theorem dX4_mid_103 : decode cX4_mid 103 = .ok (.invokevirtual 252, 3) := by decide +kernel
theorem dX4_mid_106 : decode cX4_mid 106 = .ok (.iconst 1, 1) := by decide +kernel
theorem dX4_mid_107 : decode cX4_mid 107 = .ok (.ireturn, 1) := by decide +kernel
set_option maxRecDepth 20000 in
theorem ggX4_lots_X4_doByLot : GoodIn wsX4_lots wsX4_doByLot := goodIn_r _ [11, 12, 13, 4, 2, 3, 14, 15, 16, 17, 18, 19, 20, 21, 22, 23, 24, 25, 26, 27, 28, 29, 30, 31, 32, 33, 10, 34, 35, 36, 37, 38, 39, 40, 41, 42, 43, 44, 45, 46, 47, 48, 49, 50, 51, 52, 53, 54, 55, 56, 57, 58, 59, 60, 61, 62, 63, 64, 65, 66, 67, 68, 69, 70, 71, 72, 73, 74, 75, 76, 77, 78, 79, 80, 81, 82, 83, 84, 85, 86, 94, 95, 96, 97, 98, 99, 100, 101, 102, 103, 104, 105, 106, 107, 108, 109, 110, 111, 112, 113, 114, 115, 116, 117, 118, 119, 120] (by rfl) (by decide +kernel)
set_option maxRecDepth 20000 in
theorem gX4_lots_X4_doByLot : GoodIn wsX4_lots (wsV RX4 260 RX4 yX4_doByLot wsX4_doByLot) := goodIn_app (goodIn_of _ (by decide +kernel)) ggX4_lots_X4_doByLot
set_option maxRecDepth 20000 in
theorem ggX4_lots_X0_top : GoodIn wsX4_lots wsX0_top := goodIn_r _ [38, 28, 23, 116, 117, 118, 119, 120] (by rfl) (by decide +kernel)
set_option maxRecDepth 20000 in
theorem gX4_lots_X0_top : GoodIn wsX4_lots (wsV RX4 191 RX0 yX0_top wsX0_top) := goodIn_app (goodIn_of _ (by decide +kernel)) ggX4_lots_X0_top
set_option maxRecDepth 20000 in
theorem ggX4_lots_J6_bitCount_0f7a4 : GoodIn wsX4_lots wsJ6_bitCount_0f7a4 := goodIn_r _ [90, 91, 92, 93] (by rfl) (by decide +kernel)
set_option maxRecDepth 20000 in
theorem gX4_lots_J6_bitCount_0f7a4 : GoodIn wsX4_lots (va_wsS RX4 203 yJ6_bitCount_0f7a4 wsJ6_bitCount_0f7a4) := goodIn_app (goodIn_of _ (by decide +kernel)) ggX4_lots_J6_bitCount_0f7a4
theorem dX4_lots_0 : decode cX4_lots 0 = .ok (.iload_n 1, 1) := by decide +kernel
theorem dX4_lots_1 : decode cX4_lots 1 = .ok (.iconst 1, 1) := by decide +kernel
theorem dX4_lots_2 : decode cX4_lots 2 = .ok (.if_icmp .lt 23, 3) := by decide +kernel
theorem dX4_lots_5 : decode cX4_lots 5 = .ok (.iload_n 1, 1) := by decide +kernel
theorem dX4_lots_6 : decode cX4_lots 6 = .ok (.bipush 20, 2) := by decide +kernel
theorem dX4_lots_8 : decode cX4_lots 8 = .ok (.if_icmp .gt 17, 3) := by decide +kernel
theorem dX4_lots_11 : decode cX4_lots 11 = .ok (.iload_n 2, 1) := by decide +kernel
theorem dX4_lots_12 : decode cX4_lots 12 = .ok (.iconst 1, 1) := by decide +kernel
theorem dX4_lots_13 : decode cX4_lots 13 = .ok (.if_icmp .lt 12, 3) := by decide +kernel
theorem dX4_lots_16 : decode cX4_lots 16 = .ok (.iload_n 2, 1) := by decide +kernel
theorem dX4_lots_17 : decode cX4_lots 17 = .ok (.i2l, 1) := by decide +kernel
theorem dX4_lots_18 : decode cX4_lots 18 = .ok (.ldc2_w 256, 3) := by decide +kernel
theorem dX4_lots_21 : decode cX4_lots 21 = .ok (.lcmp, 1) := by decide +kernel
theorem dX4_lots_22 : decode cX4_lots 22 = .ok (.ifCond .lt 5, 3) := by decide +kernel
theorem dX4_lots_25 : decode cX4_lots 25 = .ok (.iconst (-1), 1) := by decide +kernel
theorem dX4_lots_26 : decode cX4_lots 26 = .ok (.ireturn, 1) := by decide +kernel
theorem dX4_lots_27 : decode cX4_lots 27 = .ok (.aload_n 0, 1) := by decide +kernel
theorem dX4_lots_28 : decode cX4_lots 28 = .ok (.getfield 50, 3) := by decide +kernel
theorem dX4_lots_31 : decode cX4_lots 31 = .ok (.getfield 115, 3) := by decide +kernel
theorem dX4_lots_34 : decode cX4_lots 34 = .ok (.ifCond .ne 6, 3) := by decide +kernel
theorem dX4_lots_37 : decode cX4_lots 37 = .ok (.bipush (-4), 2) := by decide +kernel
theorem dX4_lots_39 : decode cX4_lots 39 = .ok (.ireturn, 1) := by decide +kernel
theorem dX4_lots_40 : decode cX4_lots 40 = .ok (.aload_n 0, 1) := by decide +kernel
theorem dX4_lots_41 : decode cX4_lots 41 = .ok (.getfield 24, 3) := by decide +kernel
theorem dX4_lots_44 : decode cX4_lots 44 = .ok (.getfield 112, 3) := by decide +kernel
theorem dX4_lots_47 : decode cX4_lots 47 = .ok (.iload_n 1, 1) := by decide +kernel
theorem dX4_lots_48 : decode cX4_lots 48 = .ok (.iadd, 1) := by decide +kernel
theorem dX4_lots_49 : decode cX4_lots 49 = .ok (.bipush 40, 2) := by decide +kernel
theorem dX4_lots_51 : decode cX4_lots 51 = .ok (.if_icmp .le 6, 3) := by decide +kernel
theorem dX4_lots_54 : decode cX4_lots 54 = .ok (.bipush (-2), 2) := by decide +kernel
theorem dX4_lots_56 : decode cX4_lots 56 = .ok (.ireturn, 1) := by decide +kernel
theorem dX4_lots_57 : decode cX4_lots 57 = .ok (.iload_n 2, 1) := by decide +kernel
theorem dX4_lots_58 : decode cX4_lots 58 = .ok (.i2l, 1) := by decide +kernel
theorem dX4_lots_59 : decode cX4_lots 59 = .ok (.lstore_n 3, 1) := by decide +kernel
theorem dX4_lots_60 : decode cX4_lots 60 = .ok (.iconst 0, 1) := by decide +kernel
theorem dX4_lots_61 : decode cX4_lots 61 = .ok (.istore 5, 2) := by decide +kernel
theorem dX4_lots_63 : decode cX4_lots 63 = .ok (.iload 5, 2) := by decide +kernel
theorem dX4_lots_65 : decode cX4_lots 65 = .ok (.iload_n 1, 1) := by decide +kernel
theorem dX4_lots_66 : decode cX4_lots 66 = .ok (.if_icmp .ge 24, 3) := by decide +kernel
theorem dX4_lots_69 : decode cX4_lots 69 = .ok (.lload_n 3, 1) := by decide +kernel
theorem dX4_lots_70 : decode cX4_lots 70 = .ok (.ldc2_w 258, 3) := by decide +kernel
theorem dX4_lots_73 : decode cX4_lots 73 = .ok (.lmul, 1) := by decide +kernel
theorem dX4_lots_74 : decode cX4_lots 74 = .ok (.ldc2_w 256, 3) := by decide +kernel
theorem dX4_lots_77 : decode cX4_lots 77 = .ok (.lrem, 1) := by decide +kernel
theorem dX4_lots_78 : decode cX4_lots 78 = .ok (.lstore_n 3, 1) := by decide +kernel
theorem dX4_lots_79 : decode cX4_lots 79 = .ok (.aload_n 0, 1) := by decide +kernel
theorem dX4_lots_80 : decode cX4_lots 80 = .ok (.lload_n 3, 1) := by decide +kernel
theorem dX4_lots_81 : decode cX4_lots 81 = .ok (.invokevirtual 260, 3) := by decide +kernel
theorem dX4_lots_84 : decode cX4_lots 84 = .ok (.iinc 5 1, 3) := by decide +kernel
theorem dX4_lots_87 : decode cX4_lots 87 = .ok (.goto (-24), 3) := by decide +kernel
theorem dX4_lots_90 : decode cX4_lots 90 = .ok (.aload_n 0, 1) := by decide +kernel
theorem dX4_lots_91 : decode cX4_lots 91 = .ok (.getfield 24, 3) := by decide +kernel
theorem dX4_lots_94 : decode cX4_lots 94 = .ok (.invokevirtual 191, 3) := by decide +kernel
theorem dX4_lots_97 : decode cX4_lots 97 = .ok (.invokestatic 203, 3) := by decide +kernel
theorem dX4_lots_100 : decode cX4_lots 100 = .ok (.ireturn, 1) := by decide +kernel
theorem dX4_asked_0 : decode cX4_asked 0 = .ok (.aload_n 0, 1) := by decide +kernel
theorem dX4_asked_1 : decode cX4_asked 1 = .ok (.getfield 72, 3) := by decide +kernel
theorem dX4_asked_4 : decode cX4_asked 4 = .ok (.ireturn, 1) := by decide +kernel
theorem dX4_upper_0 : decode cX4_upper 0 = .ok (.aload_n 0, 1) := by decide +kernel
theorem dX4_upper_1 : decode cX4_upper 1 = .ok (.getfield 264, 3) := by decide +kernel
theorem dX4_upper_4 : decode cX4_upper 4 = .ok (.lreturn, 1) := by decide +kernel
theorem dX4_lower_0 : decode cX4_lower 0 = .ok (.aload_n 0, 1) := by decide +kernel
theorem dX4_lower_1 : decode cX4_lower 1 = .ok (.getfield 57, 3) := by decide +kernel
theorem dX4_lower_4 : decode cX4_lower 4 = .ok (.lreturn, 1) := by decide +kernel
set_option maxRecDepth 20000 in
theorem ggX4_count_X0_eaten : GoodIn wsX4_count wsX0_eaten := goodIn_r _ [13, 14, 15, 77, 78, 79, 80, 81] (by rfl) (by decide +kernel)
set_option maxRecDepth 20000 in
theorem gX4_count_X0_eaten : GoodIn wsX4_count (wsV RX4 143 RX0 yX0_eaten wsX0_eaten) := goodIn_app (goodIn_of _ (by decide +kernel)) ggX4_count_X0_eaten
set_option maxRecDepth 20000 in
theorem ggX4_count_X0_top : GoodIn wsX4_count wsX0_top := goodIn_r _ [19, 20, 15, 77, 78, 79, 80, 81] (by rfl) (by decide +kernel)
set_option maxRecDepth 20000 in
theorem gX4_count_X0_top : GoodIn wsX4_count (wsV RX4 191 RX0 yX0_top wsX0_top) := goodIn_app (goodIn_of _ (by decide +kernel)) ggX4_count_X0_top
set_option maxRecDepth 20000 in
theorem ggX4_count_X0_stonesUp : GoodIn wsX4_count wsX0_stonesUp := goodIn_r _ [24, 25, 15, 77, 78, 79, 80, 81] (by rfl) (by decide +kernel)
set_option maxRecDepth 20000 in
theorem gX4_count_X0_stonesUp : GoodIn wsX4_count (wsV RX4 194 RX0 yX0_stonesUp wsX0_stonesUp) := goodIn_app (goodIn_of _ (by decide +kernel)) ggX4_count_X0_stonesUp
set_option maxRecDepth 20000 in
theorem ggX4_count_X0_stepsSunk : GoodIn wsX4_count wsX0_stepsSunk := goodIn_r _ [29, 30, 15, 77, 78, 79, 80, 81] (by rfl) (by decide +kernel)
set_option maxRecDepth 20000 in
theorem gX4_count_X0_stepsSunk : GoodIn wsX4_count (wsV RX4 267 RX0 yX0_stepsSunk wsX0_stepsSunk) := goodIn_app (goodIn_of _ (by decide +kernel)) ggX4_count_X0_stepsSunk
set_option maxRecDepth 20000 in
theorem ggX4_count_X1_howMany : GoodIn wsX4_count wsX1_howMany := goodIn_r _ [35, 36, 37, 68, 69, 70, 71, 72, 73, 74, 75, 76] (by rfl) (by decide +kernel)
set_option maxRecDepth 20000 in
theorem gX4_count_X1_howMany : GoodIn wsX4_count (wsV RX4 131 RX1 yX1_howMany wsX1_howMany) := goodIn_app (goodIn_of _ (by decide +kernel)) ggX4_count_X1_howMany
set_option maxRecDepth 20000 in
theorem ggX4_count_X2_howMany : GoodIn wsX4_count wsX2_howMany := goodIn_r _ [42, 43, 44, 45, 46, 41, 47, 48, 82, 83, 84, 85, 86] (by rfl) (by decide +kernel)
set_option maxRecDepth 20000 in
theorem gX4_count_X2_howMany : GoodIn wsX4_count (wsV RX4 270 RX2 yX2_howMany wsX2_howMany) := goodIn_app (goodIn_of _ (by decide +kernel)) ggX4_count_X2_howMany
set_option maxRecDepth 20000 in
theorem ggX4_count_X4_howManyKept : GoodIn wsX4_count wsX4_howManyKept := goodIn_r _ [53, 54, 55, 56, 57, 58, 59, 60, 61, 62, 63, 64, 65, 66, 67] (by rfl) (by decide +kernel)
set_option maxRecDepth 20000 in
theorem gX4_count_X4_howManyKept : GoodIn wsX4_count (wsV RX4 272 RX4 yX4_howManyKept wsX4_howManyKept) := goodIn_app (goodIn_of _ (by decide +kernel)) ggX4_count_X4_howManyKept
