theorem dX5_one_0 : decode cX5_one 0 = .ok (.aload_n 0, 1) := by decide +kernel
theorem dX5_one_1 : decode cX5_one 1 = .ok (.iload_n 1, 1) := by decide +kernel
theorem dX5_one_2 : decode cX5_one 2 = .ok (.invokevirtual 160, 3) := by decide +kernel
theorem dX5_one_5 : decode cX5_one 5 = .ok (.ifCond .eq 28, 3) := by decide +kernel
theorem dX5_one_8 : decode cX5_one 8 = .ok (.iload_n 2, 1) := by decide +kernel
theorem dX5_one_9 : decode cX5_one 9 = .ok (.i2l, 1) := by decide +kernel
theorem dX5_one_10 : decode cX5_one 10 = .ok (.lconst 0, 1) := by decide +kernel
theorem dX5_one_11 : decode cX5_one 11 = .ok (.ldc2_w 205, 3) := by decide +kernel
theorem dX5_one_14 : decode cX5_one 14 = .ok (.invokestatic 75, 3) := by decide +kernel
theorem dX5_one_17 : decode cX5_one 17 = .ok (.ifCond .eq 16, 3) := by decide +kernel
theorem dX5_one_20 : decode cX5_one 20 = .ok (.aload_n 0, 1) := by decide +kernel
theorem dX5_one_21 : decode cX5_one 21 = .ok (.aload_n 0, 1) := by decide +kernel
theorem dX5_one_22 : decode cX5_one 22 = .ok (.iload_n 1, 1) := by decide +kernel
theorem dX5_one_23 : decode cX5_one 23 = .ok (.iload_n 2, 1) := by decide +kernel
theorem dX5_one_24 : decode cX5_one 24 = .ok (.invokevirtual 207, 3) := by decide +kernel
theorem dX5_one_27 : decode cX5_one 27 = .ok (.invokevirtual 97, 3) := by decide +kernel
theorem dX5_one_30 : decode cX5_one 30 = .ok (.goto 4, 3) := by decide +kernel
theorem dX5_one_33 : decode cX5_one 33 = .ok (.iconst (-1), 1) := by decide +kernel
theorem dX5_one_34 : decode cX5_one 34 = .ok (.ireturn, 1) := by decide +kernel
theorem dX5_isOf_0 : decode cX5_isOf 0 = .ok (.aload_n 0, 1) := by decide +kernel
theorem dX5_isOf_1 : decode cX5_isOf 1 = .ok (.getfield 16, 3) := by decide +kernel
theorem dX5_isOf_4 : decode cX5_isOf 4 = .ok (.iload_n 1, 1) := by decide +kernel
theorem dX5_isOf_5 : decode cX5_isOf 5 = .ok (.iaload, 1) := by decide +kernel
theorem dX5_isOf_6 : decode cX5_isOf 6 = .ok (.istore_n 3, 1) := by decide +kernel
theorem dX5_isOf_7 : decode cX5_isOf 7 = .ok (.iload_n 3, 1) := by decide +kernel
theorem dX5_isOf_8 : decode cX5_isOf 8 = .ok (.iload_n 2, 1) := by decide +kernel
theorem dX5_isOf_9 : decode cX5_isOf 9 = .ok (.if_icmp .eq 23, 3) := by decide +kernel
theorem dX5_isOf_12 : decode cX5_isOf 12 = .ok (.iload_n 2, 1) := by decide +kernel
theorem dX5_isOf_13 : decode cX5_isOf 13 = .ok (.iconst 2, 1) := by decide +kernel
theorem dX5_isOf_14 : decode cX5_isOf 14 = .ok (.if_icmp .ne 8, 3) := by decide +kernel
theorem dX5_isOf_17 : decode cX5_isOf 17 = .ok (.iload_n 3, 1) := by decide +kernel
theorem dX5_isOf_18 : decode cX5_isOf 18 = .ok (.iconst 5, 1) := by decide +kernel
theorem dX5_isOf_19 : decode cX5_isOf 19 = .ok (.if_icmp .eq 13, 3) := by decide +kernel
theorem dX5_isOf_22 : decode cX5_isOf 22 = .ok (.iload_n 2, 1) := by decide +kernel
theorem dX5_isOf_23 : decode cX5_isOf 23 = .ok (.iconst 3, 1) := by decide +kernel
theorem dX5_isOf_24 : decode cX5_isOf 24 = .ok (.if_icmp .ne 12, 3) := by decide +kernel
theorem dX5_isOf_27 : decode cX5_isOf 27 = .ok (.iload_n 3, 1) := by decide +kernel
theorem dX5_isOf_28 : decode cX5_isOf 28 = .ok (.iconst 4, 1) := by decide +kernel
theorem dX5_isOf_29 : decode cX5_isOf 29 = .ok (.if_icmp .ne 7, 3) := by decide +kernel
theorem dX5_isOf_32 : decode cX5_isOf 32 = .ok (.iconst 1, 1) := by decide +kernel
theorem dX5_isOf_33 : decode cX5_isOf 33 = .ok (.goto 4, 3) := by decide +kernel
theorem dX5_isOf_36 : decode cX5_isOf 36 = .ok (.iconst 0, 1) := by decide +kernel
theorem dX5_isOf_37 : decode cX5_isOf 37 = .ok (.ireturn, 1) := by decide +kernel
set_option maxRecDepth 20000 in
theorem ggX5_othersThat_X5_counts : GoodIn wsX5_othersThat wsX5_counts := goodIn_r _ [7, 2, 8, 9, 10, 11, 6, 12, 13, 14, 15, 16, 17, 18, 19, 20, 21, 22, 23, 24, 25, 26, 27, 28, 29, 30, 31, 32, 33, 34, 35, 36, 37, 38, 39, 40, 41, 42, 43, 44] (by rfl) (by decide +kernel)
set_option maxRecDepth 20000 in
theorem gX5_othersThat_X5_counts : GoodIn wsX5_othersThat (wsV RX5 174 RX5 yX5_counts wsX5_counts) := goodIn_app (goodIn_of _ (by decide +kernel)) ggX5_othersThat_X5_counts
theorem dX5_othersThat_0 : decode cX5_othersThat 0 = .ok (.iconst 0, 1) := by decide +kernel
theorem dX5_othersThat_1 : decode cX5_othersThat 1 = .ok (.istore_n 3, 1) := by decide +kernel
theorem dX5_othersThat_2 : decode cX5_othersThat 2 = .ok (.iconst 0, 1) := by decide +kernel
theorem dX5_othersThat_3 : decode cX5_othersThat 3 = .ok (.istore 4, 2) := by decide +kernel
theorem dX5_othersThat_5 : decode cX5_othersThat 5 = .ok (.iload 4, 2) := by decide +kernel
theorem dX5_othersThat_7 : decode cX5_othersThat 7 = .ok (.aload_n 0, 1) := by decide +kernel
theorem dX5_othersThat_8 : decode cX5_othersThat 8 = .ok (.getfield 157, 3) := by decide +kernel
theorem dX5_othersThat_11 : decode cX5_othersThat 11 = .ok (.if_icmp .ge 55, 3) := by decide +kernel
theorem dX5_othersThat_14 : decode cX5_othersThat 14 = .ok (.iload_n 3, 1) := by decide +kernel
theorem dX5_othersThat_15 : decode cX5_othersThat 15 = .ok (.iload 4, 2) := by decide +kernel
theorem dX5_othersThat_17 : decode cX5_othersThat 17 = .ok (.iload_n 1, 1) := by decide +kernel
theorem dX5_othersThat_18 : decode cX5_othersThat 18 = .ok (.if_icmp .eq 39, 3) := by decide +kernel
theorem dX5_othersThat_21 : decode cX5_othersThat 21 = .ok (.iload_n 2, 1) := by decide +kernel
theorem dX5_othersThat_22 : decode cX5_othersThat 22 = .ok (.ifCond .eq 17, 3) := by decide +kernel
theorem dX5_othersThat_25 : decode cX5_othersThat 25 = .ok (.aload_n 0, 1) := by decide +kernel
theorem dX5_othersThat_26 : decode cX5_othersThat 26 = .ok (.getfield 16, 3) := by decide +kernel
theorem dX5_othersThat_29 : decode cX5_othersThat 29 = .ok (.iload 4, 2) := by decide +kernel
theorem dX5_othersThat_31 : decode cX5_othersThat 31 = .ok (.iaload, 1) := by decide +kernel
theorem dX5_othersThat_32 : decode cX5_othersThat 32 = .ok (.iconst 1, 1) := by decide +kernel
theorem dX5_othersThat_33 : decode cX5_othersThat 33 = .ok (.if_icmp .ne 24, 3) := by decide +kernel
theorem dX5_othersThat_36 : decode cX5_othersThat 36 = .ok (.goto 17, 3) := by decide +kernel
theorem dX5_othersThat_39 : decode cX5_othersThat 39 = .ok (.aload_n 0, 1) := by decide +kernel
theorem dX5_othersThat_40 : decode cX5_othersThat 40 = .ok (.iload 4, 2) := by decide +kernel
theorem dX5_othersThat_42 : decode cX5_othersThat 42 = .ok (.invokevirtual 174, 3) := by decide +kernel
theorem dX5_othersThat_45 : decode cX5_othersThat 45 = .ok (.aload_n 0, 1) := by decide +kernel
theorem dX5_othersThat_46 : decode cX5_othersThat 46 = .ok (.iload_n 1, 1) := by decide +kernel
theorem dX5_othersThat_47 : decode cX5_othersThat 47 = .ok (.invokevirtual 174, 3) := by decide +kernel
theorem dX5_othersThat_50 : decode cX5_othersThat 50 = .ok (.if_icmp .le 7, 3) := by decide +kernel
theorem dX5_othersThat_53 : decode cX5_othersThat 53 = .ok (.iconst 1, 1) := by decide +kernel
theorem dX5_othersThat_54 : decode cX5_othersThat 54 = .ok (.goto 4, 3) := by decide +kernel
theorem dX5_othersThat_57 : decode cX5_othersThat 57 = .ok (.iconst 0, 1) := by decide +kernel
theorem dX5_othersThat_58 : decode cX5_othersThat 58 = .ok (.iadd, 1) := by decide +kernel
theorem dX5_othersThat_59 : decode cX5_othersThat 59 = .ok (.istore_n 3, 1) := by decide +kernel
theorem dX5_othersThat_60 : decode cX5_othersThat 60 = .ok (.iinc 4 1, 3) := by decide +kernel
theorem dX5_othersThat_63 : decode cX5_othersThat 63 = .ok (.goto (-58), 3) := by decide +kernel
theorem dX5_othersThat_66 : decode cX5_othersThat 66 = .ok (.iload_n 3, 1) := by decide +kernel
theorem dX5_othersThat_67 : decode cX5_othersThat 67 = .ok (.ireturn, 1) := by decide +kernel
set_option maxRecDepth 20000 in
theorem ggX5_mark_X5_isOne : GoodIn wsX5_mark wsX5_isOne := goodIn_r _ [8, 9, 10, 11, 7, 12, 35, 36, 37, 38, 39, 40, 41, 42, 43, 44, 45, 46, 47, 48, 49, 50, 51, 52, 53, 54, 55, 56, 57, 58, 59, 60, 61, 62, 63, 64, 65, 66] (by rfl) (by decide +kernel)
set_option maxRecDepth 20000 in
theorem gX5_mark_X5_isOne : GoodIn wsX5_mark (wsV RX5 160 RX5 yX5_isOne wsX5_isOne) := goodIn_app (goodIn_of _ (by decide +kernel)) ggX5_mark_X5_isOne
set_option maxRecDepth 20000 in
theorem ggX5_mark_X5_in : GoodIn wsX5_mark wsX5_in := goodIn_r _ [12] (by rfl) (by decide +kernel)
set_option maxRecDepth 20000 in
theorem gX5_mark_X5_in : GoodIn wsX5_mark (va_wsS RX5 75 yX5_in wsX5_in) := goodIn_app (goodIn_of _ (by decide +kernel)) ggX5_mark_X5_in
set_option maxRecDepth 20000 in
theorem ggX5_mark_X5_isOf : GoodIn wsX5_mark wsX5_isOf := goodIn_r _ [16, 17, 35, 36, 37, 38, 39, 40, 41, 42, 43, 44, 45, 46, 47, 48, 49, 50, 51, 52, 53, 54, 55, 56, 57, 58, 59, 60, 61, 62, 63, 64, 65, 66] (by rfl) (by decide +kernel)
set_option maxRecDepth 20000 in
theorem gX5_mark_X5_isOf : GoodIn wsX5_mark (wsV RX5 210 RX5 yX5_isOf wsX5_isOf) := goodIn_app (goodIn_of _ (by decide +kernel)) ggX5_mark_X5_isOf
set_option maxRecDepth 20000 in
theorem ggX5_mark_X5_find : GoodIn wsX5_mark wsX5_find := goodIn_r _ [21, 22, 23, 35, 36, 37, 38, 39, 40, 41, 42, 43, 44, 45, 46, 47, 48, 49, 50, 51, 52, 53, 54, 55, 56, 57, 58, 59, 60, 61, 62, 63, 64, 65, 66] (by rfl) (by decide +kernel)
set_option maxRecDepth 20000 in
theorem gX5_mark_X5_find : GoodIn wsX5_mark (wsV RX5 85 RX5 yX5_find wsX5_find) := goodIn_app (goodIn_of _ (by decide +kernel)) ggX5_mark_X5_find
set_option maxRecDepth 20000 in
theorem ggX5_mark_X5_othersThat : GoodIn wsX5_mark wsX5_othersThat := goodIn_r _ [27, 9, 17, 28, 29, 30, 7, 31, 2, 3, 32, 33, 34, 35, 36, 37, 38, 39, 40, 41, 42, 43, 44, 45, 46, 47, 48, 49, 50, 51, 52, 53, 54, 55, 56, 57, 58, 59, 60, 61, 62, 63, 64, 65, 66] (by rfl) (by decide +kernel)
set_option maxRecDepth 20000 in
theorem gX5_mark_X5_othersThat : GoodIn wsX5_mark (wsV RX5 213 RX5 yX5_othersThat wsX5_othersThat) := goodIn_app (goodIn_of _ (by decide +kernel)) ggX5_mark_X5_othersThat
set_option maxRecDepth 20000 in
theorem ggX5_mark_X5_counts : GoodIn wsX5_mark wsX5_counts := goodIn_r _ [31, 17, 2, 3, 32, 33, 7, 34, 35, 36, 37, 38, 39, 40, 41, 42, 43, 44, 45, 46, 47, 48, 49, 50, 51, 52, 53, 54, 55, 56, 57, 58, 59, 60, 61, 62, 63, 64, 65, 66] (by rfl) (by decide +kernel)
set_option maxRecDepth 20000 in
theorem gX5_mark_X5_counts : GoodIn wsX5_mark (wsV RX5 174 RX5 yX5_counts wsX5_counts) := goodIn_app (goodIn_of _ (by decide +kernel)) ggX5_mark_X5_counts
theorem dX5_mark_0 : decode cX5_mark 0 = .ok (.aload_n 0, 1) := by decide +kernel
theorem dX5_mark_1 : decode cX5_mark 1 = .ok (.iload_n 1, 1) := by decide +kernel
theorem dX5_mark_2 : decode cX5_mark 2 = .ok (.invokevirtual 160, 3) := by decide +kernel
theorem dX5_mark_5 : decode cX5_mark 5 = .ok (.ifCond .eq 15, 3) := by decide +kernel
theorem dX5_mark_8 : decode cX5_mark 8 = .ok (.iload_n 2, 1) := by decide +kernel
theorem dX5_mark_9 : decode cX5_mark 9 = .ok (.i2l, 1) := by decide +kernel
theorem dX5_mark_10 : decode cX5_mark 10 = .ok (.lconst 1, 1) := by decide +kernel
theorem dX5_mark_11 : decode cX5_mark 11 = .ok (.ldc2_w 73, 3) := by decide +kernel
theorem dX5_mark_14 : decode cX5_mark 14 = .ok (.invokestatic 75, 3) := by decide +kernel
theorem dX5_mark_17 : decode cX5_mark 17 = .ok (.ifCond .ne 5, 3) := by decide +kernel
theorem dX5_mark_20 : decode cX5_mark 20 = .ok (.iconst (-1), 1) := by decide +kernel
theorem dX5_mark_21 : decode cX5_mark 21 = .ok (.ireturn, 1) := by decide +kernel
theorem dX5_mark_22 : decode cX5_mark 22 = .ok (.aload_n 0, 1) := by decide +kernel
theorem dX5_mark_23 : decode cX5_mark 23 = .ok (.iload_n 1, 1) := by decide +kernel
theorem dX5_mark_24 : decode cX5_mark 24 = .ok (.iload_n 2, 1) := by decide +kernel
theorem dX5_mark_25 : decode cX5_mark 25 = .ok (.invokevirtual 210, 3) := by decide +kernel
theorem dX5_mark_28 : decode cX5_mark 28 = .ok (.ifCond .ne 9, 3) := by decide +kernel
theorem dX5_mark_31 : decode cX5_mark 31 = .ok (.aload_n 0, 1) := by decide +kernel
theorem dX5_mark_32 : decode cX5_mark 32 = .ok (.iconst 3, 1) := by decide +kernel
theorem dX5_mark_33 : decode cX5_mark 33 = .ok (.invokevirtual 85, 3) := by decide +kernel
theorem dX5_mark_36 : decode cX5_mark 36 = .ok (.ireturn, 1) := by decide +kernel
theorem dX5_mark_37 : decode cX5_mark 37 = .ok (.iload_n 2, 1) := by decide +kernel
theorem dX5_mark_38 : decode cX5_mark 38 = .ok (.tableswitch 67 1 4 #[30, 37, 50, 57], 30) := by decide +kernel
theorem dX5_mark_68 : decode cX5_mark 68 = .ok (.aload_n 0, 1) := by decide +kernel
theorem dX5_mark_69 : decode cX5_mark 69 = .ok (.iload_n 1, 1) := by decide +kernel
theorem dX5_mark_70 : decode cX5_mark 70 = .ok (.iconst 1, 1) := by decide +kernel
theorem dX5_mark_71 : decode cX5_mark 71 = .ok (.invokevirtual 213, 3) := by decide +kernel
theorem dX5_mark_74 : decode cX5_mark 74 = .ok (.ireturn, 1) := by decide +kernel
theorem dX5_mark_75 : decode cX5_mark 75 = .ok (.aload_n 0, 1) := by decide +kernel
theorem dX5_mark_76 : decode cX5_mark 76 = .ok (.getfield 19, 3) := by decide +kernel
theorem dX5_mark_79 : decode cX5_mark 79 = .ok (.iload_n 1, 1) := by decide +kernel
theorem dX5_mark_80 : decode cX5_mark 80 = .ok (.iaload, 1) := by decide +kernel
theorem dX5_mark_81 : decode cX5_mark 81 = .ok (.aload_n 0, 1) := by decide +kernel
theorem dX5_mark_82 : decode cX5_mark 82 = .ok (.iload_n 1, 1) := by decide +kernel
theorem dX5_mark_83 : decode cX5_mark 83 = .ok (.invokevirtual 174, 3) := by decide +kernel
theorem dX5_mark_86 : decode cX5_mark 86 = .ok (.isub, 1) := by decide +kernel
theorem dX5_mark_87 : decode cX5_mark 87 = .ok (.ireturn, 1) := by decide +kernel
theorem dX5_mark_88 : decode cX5_mark 88 = .ok (.aload_n 0, 1) := by decide +kernel
theorem dX5_mark_89 : decode cX5_mark 89 = .ok (.iload_n 1, 1) := by decide +kernel
theorem dX5_mark_90 : decode cX5_mark 90 = .ok (.iconst 0, 1) := by decide +kernel
theorem dX5_mark_91 : decode cX5_mark 91 = .ok (.invokevirtual 213, 3) := by decide +kernel
theorem dX5_mark_94 : decode cX5_mark 94 = .ok (.ireturn, 1) := by decide +kernel
theorem dX5_mark_95 : decode cX5_mark 95 = .ok (.bipush 9, 2) := by decide +kernel
theorem dX5_mark_97 : decode cX5_mark 97 = .ok (.aload_n 0, 1) := by decide +kernel
theorem dX5_mark_98 : decode cX5_mark 98 = .ok (.getfield 7, 3) := by decide +kernel
theorem dX5_mark_101 : decode cX5_mark 101 = .ok (.iconst 1, 1) := by decide +kernel
theorem dX5_mark_102 : decode cX5_mark 102 = .ok (.iaload, 1) := by decide +kernel
theorem dX5_mark_103 : decode cX5_mark 103 = .ok (.isub, 1) := by decide +kernel
theorem dX5_mark_104 : decode cX5_mark 104 = .ok (.ireturn, 1) := by decide +kernel
theorem dX5_mark_105 : decode cX5_mark 105 = .ok (.aload_n 0, 1) := by decide +kernel
theorem dX5_mark_106 : decode cX5_mark 106 = .ok (.getfield 19, 3) := by decide +kernel
theorem dX5_mark_109 : decode cX5_mark 109 = .ok (.iload_n 1, 1) := by decide +kernel
theorem dX5_mark_110 : decode cX5_mark 110 = .ok (.iaload, 1) := by decide +kernel
theorem dX5_mark_111 : decode cX5_mark 111 = .ok (.iconst 2, 1) := by decide +kernel
theorem dX5_mark_112 : decode cX5_mark 112 = .ok (.idiv, 1) := by decide +kernel
theorem dX5_mark_113 : decode cX5_mark 113 = .ok (.aload_n 0, 1) := by decide +kernel
theorem dX5_mark_114 : decode cX5_mark 114 = .ok (.iload_n 1, 1) := by decide +kernel
theorem dX5_mark_115 : decode cX5_mark 115 = .ok (.invokevirtual 174, 3) := by decide +kernel
theorem dX5_mark_118 : decode cX5_mark 118 = .ok (.isub, 1) := by decide +kernel
theorem dX5_mark_119 : decode cX5_mark 119 = .ok (.ireturn, 1) := by decide +kernel
theorem dX5_keepPast_0 : decode cX5_keepPast 0 = .ok (.iconst 0, 1) := by decide +kernel
theorem dX5_keepPast_1 : decode cX5_keepPast 1 = .ok (.istore_n 1, 1) := by decide +kernel
theorem dX5_keepPast_2 : decode cX5_keepPast 2 = .ok (.iload_n 1, 1) := by decide +kernel
theorem dX5_keepPast_3 : decode cX5_keepPast 3 = .ok (.iconst 4, 1) := by decide +kernel
theorem dX5_keepPast_4 : decode cX5_keepPast 4 = .ok (.if_icmp .ge 34, 3) := by decide +kernel
theorem dX5_keepPast_7 : decode cX5_keepPast 7 = .ok (.aload_n 0, 1) := by decide +kernel
theorem dX5_keepPast_8 : decode cX5_keepPast 8 = .ok (.getfield 7, 3) := by decide +kernel
theorem dX5_keepPast_11 : decode cX5_keepPast 11 = .ok (.iconst 5, 1) := by decide +kernel
theorem dX5_keepPast_12 : decode cX5_keepPast 12 = .ok (.iconst 4, 1) := by decide +kernel
theorem dX5_keepPast_13 : decode cX5_keepPast 13 = .ok (.aload_n 0, 1) := by decide +kernel
theorem dX5_keepPast_14 : decode cX5_keepPast 14 = .ok (.getfield 7, 3) := by decide +kernel
theorem dX5_keepPast_17 : decode cX5_keepPast 17 = .ok (.iconst 0, 1) := by decide +kernel
theorem dX5_keepPast_18 : decode cX5_keepPast 18 = .ok (.iaload, 1) := by decide +kernel
theorem dX5_keepPast_19 : decode cX5_keepPast 19 = .ok (.imul, 1) := by decide +kernel
theorem dX5_keepPast_20 : decode cX5_keepPast 20 = .ok (.iadd, 1) := by decide +kernel
theorem dX5_keepPast_21 : decode cX5_keepPast 21 = .ok (.iload_n 1, 1) := by decide +kernel
theorem dX5_keepPast_22 : decode cX5_keepPast 22 = .ok (.iadd, 1) := by decide +kernel
theorem dX5_keepPast_23 : decode cX5_keepPast 23 = .ok (.aload_n 0, 1) := by decide +kernel
theorem dX5_keepPast_24 : decode cX5_keepPast 24 = .ok (.getfield 7, 3) := by decide +kernel
theorem dX5_keepPast_27 : decode cX5_keepPast 27 = .ok (.iconst 1, 1) := by decide +kernel
theorem dX5_keepPast_28 : decode cX5_keepPast 28 = .ok (.iload_n 1, 1) := by decide +kernel
theorem dX5_keepPast_29 : decode cX5_keepPast 29 = .ok (.iadd, 1) := by decide +kernel
theorem dX5_keepPast_30 : decode cX5_keepPast 30 = .ok (.iaload, 1) := by decide +kernel
theorem dX5_keepPast_31 : decode cX5_keepPast 31 = .ok (.iastore, 1) := by decide +kernel
theorem dX5_keepPast_32 : decode cX5_keepPast 32 = .ok (.iinc 1 1, 3) := by decide +kernel
theorem dX5_keepPast_35 : decode cX5_keepPast 35 = .ok (.goto (-33), 3) := by decide +kernel
theorem dX5_keepPast_38 : decode cX5_keepPast 38 = .ok (.aload_n 0, 1) := by decide +kernel
theorem dX5_keepPast_39 : decode cX5_keepPast 39 = .ok (.getfield 7, 3) := by decide +kernel
theorem dX5_keepPast_42 : decode cX5_keepPast 42 = .ok (.iconst 0, 1) := by decide +kernel
theorem dX5_keepPast_43 : decode cX5_keepPast 43 = .ok (.dup2, 1) := by decide +kernel
theorem dX5_keepPast_44 : decode cX5_keepPast 44 = .ok (.iaload, 1) := by decide +kernel
theorem dX5_keepPast_45 : decode cX5_keepPast 45 = .ok (.iconst 1, 1) := by decide +kernel
theorem dX5_keepPast_46 : decode cX5_keepPast 46 = .ok (.iadd, 1) := by decide +kernel
theorem dX5_keepPast_47 : decode cX5_keepPast 47 = .ok (.iastore, 1) := by decide +kernel
theorem dX5_keepPast_48 : decode cX5_keepPast 48 = .ok (.return_, 1) := by decide +kernel
set_option maxRecDepth 20000 in
theorem ggX5_areSets_X5_in : GoodIn wsX5_areSets wsX5_in := goodIn_r _ [5] (by rfl) (by decide +kernel)
set_option maxRecDepth 20000 in
theorem gX5_areSets_X5_in : GoodIn wsX5_areSets (va_wsS RX5 75 yX5_in wsX5_in) := goodIn_app (goodIn_of _ (by decide +kernel)) ggX5_areSets_X5_in
theorem dX5_areSets_0 : decode cX5_areSets 0 = .ok (.iconst 1, 1) := by decide +kernel
theorem dX5_areSets_1 : decode cX5_areSets 1 = .ok (.aload_n 0, 1) := by decide +kernel
theorem dX5_areSets_2 : decode cX5_areSets 2 = .ok (.getfield 154, 3) := by decide +kernel
theorem dX5_areSets_5 : decode cX5_areSets 5 = .ok (.ishl, 1) := by decide +kernel
theorem dX5_areSets_6 : decode cX5_areSets 6 = .ok (.iconst 1, 1) := by decide +kernel
theorem dX5_areSets_7 : decode cX5_areSets 7 = .ok (.isub, 1) := by decide +kernel
theorem dX5_areSets_8 : decode cX5_areSets 8 = .ok (.istore_n 3, 1) := by decide +kernel
theorem dX5_areSets_9 : decode cX5_areSets 9 = .ok (.iload_n 1, 1) := by decide +kernel
theorem dX5_areSets_10 : decode cX5_areSets 10 = .ok (.i2l, 1) := by decide +kernel
theorem dX5_areSets_11 : decode cX5_areSets 11 = .ok (.lconst 0, 1) := by decide +kernel
theorem dX5_areSets_12 : decode cX5_areSets 12 = .ok (.iload_n 3, 1) := by decide +kernel
theorem dX5_areSets_13 : decode cX5_areSets 13 = .ok (.i2l, 1) := by decide +kernel
theorem dX5_areSets_14 : decode cX5_areSets 14 = .ok (.invokestatic 75, 3) := by decide +kernel
theorem dX5_areSets_17 : decode cX5_areSets 17 = .ok (.ifCond .eq 24, 3) := by decide +kernel
theorem dX5_areSets_20 : decode cX5_areSets 20 = .ok (.iload_n 2, 1) := by decide +kernel
theorem dX5_areSets_21 : decode cX5_areSets 21 = .ok (.i2l, 1) := by decide +kernel
theorem dX5_areSets_22 : decode cX5_areSets 22 = .ok (.lconst 0, 1) := by decide +kernel
theorem dX5_areSets_23 : decode cX5_areSets 23 = .ok (.iload_n 3, 1) := by decide +kernel
theorem dX5_areSets_24 : decode cX5_areSets 24 = .ok (.i2l, 1) := by decide +kernel
theorem dX5_areSets_25 : decode cX5_areSets 25 = .ok (.invokestatic 75, 3) := by decide +kernel
theorem dX5_areSets_28 : decode cX5_areSets 28 = .ok (.ifCond .eq 13, 3) := by decide +kernel
theorem dX5_areSets_31 : decode cX5_areSets 31 = .ok (.iload_n 1, 1) := by decide +kernel
theorem dX5_areSets_32 : decode cX5_areSets 32 = .ok (.iload_n 2, 1) := by decide +kernel
theorem dX5_areSets_33 : decode cX5_areSets 33 = .ok (.iand, 1) := by decide +kernel
theorem dX5_areSets_34 : decode cX5_areSets 34 = .ok (.ifCond .ne 7, 3) := by decide +kernel
theorem dX5_areSets_37 : decode cX5_areSets 37 = .ok (.iconst 1, 1) := by decide +kernel
theorem dX5_areSets_38 : decode cX5_areSets 38 = .ok (.goto 4, 3) := by decide +kernel
theorem dX5_areSets_41 : decode cX5_areSets 41 = .ok (.iconst 0, 1) := by decide +kernel
theorem dX5_areSets_42 : decode cX5_areSets 42 = .ok (.ireturn, 1) := by decide +kernel
set_option maxRecDepth 20000 in
theorem ggX5_goes_X5_sinkOf : GoodIn wsX5_goes wsX5_sinkOf := goodIn_r _ [6, 7, 8, 9, 10, 5, 11, 12, 1, 13, 14, 15, 16, 17, 18, 19, 20, 21, 22, 23, 24, 25, 26, 27, 28, 29, 30, 31, 32, 33, 34, 35, 36, 37, 38, 39, 40, 41, 42, 43, 44, 45, 46, 47, 48, 49, 50, 51, 52, 53, 54, 55, 56, 57, 58, 59, 60, 61, 62, 63] (by rfl) (by decide +kernel)
set_option maxRecDepth 20000 in
theorem gX5_goes_X5_sinkOf : GoodIn wsX5_goes (wsV RX5 187 RX5 yX5_sinkOf wsX5_sinkOf) := goodIn_app (goodIn_of _ (by decide +kernel)) ggX5_goes_X5_sinkOf
theorem dX5_goes_0 : decode cX5_goes 0 = .ok (.aload_n 0, 1) := by decide +kernel
theorem dX5_goes_1 : decode cX5_goes 1 = .ok (.getfield 7, 3) := by decide +kernel
theorem dX5_goes_4 : decode cX5_goes 4 = .ok (.iconst 4, 1) := by decide +kernel
theorem dX5_goes_5 : decode cX5_goes 5 = .ok (.dup2, 1) := by decide +kernel
theorem dX5_goes_6 : decode cX5_goes 6 = .ok (.iaload, 1) := by decide +kernel
theorem dX5_goes_7 : decode cX5_goes 7 = .ok (.aload_n 0, 1) := by decide +kernel
theorem dX5_goes_8 : decode cX5_goes 8 = .ok (.iload_n 1, 1) := by decide +kernel
theorem dX5_goes_9 : decode cX5_goes 9 = .ok (.iload_n 2, 1) := by decide +kernel
theorem dX5_goes_10 : decode cX5_goes 10 = .ok (.iload_n 3, 1) := by decide +kernel
theorem dX5_goes_11 : decode cX5_goes 11 = .ok (.iload 4, 2) := by decide +kernel
theorem dX5_goes_13 : decode cX5_goes 13 = .ok (.invokevirtual 187, 3) := by decide +kernel
theorem dX5_goes_16 : decode cX5_goes 16 = .ok (.iadd, 1) := by decide +kernel
theorem dX5_goes_17 : decode cX5_goes 17 = .ok (.iastore, 1) := by decide +kernel
theorem dX5_goes_18 : decode cX5_goes 18 = .ok (.aload_n 0, 1) := by decide +kernel
theorem dX5_goes_19 : decode cX5_goes 19 = .ok (.getfield 7, 3) := by decide +kernel
theorem dX5_goes_22 : decode cX5_goes 22 = .ok (.iconst 2, 1) := by decide +kernel
theorem dX5_goes_23 : decode cX5_goes 23 = .ok (.dup2, 1) := by decide +kernel
theorem dX5_goes_24 : decode cX5_goes 24 = .ok (.iaload, 1) := by decide +kernel
theorem dX5_goes_25 : decode cX5_goes 25 = .ok (.iconst 1, 1) := by decide +kernel
theorem dX5_goes_26 : decode cX5_goes 26 = .ok (.iload_n 1, 1) := by decide +kernel
theorem dX5_goes_27 : decode cX5_goes 27 = .ok (.ishl, 1) := by decide +kernel
theorem dX5_goes_28 : decode cX5_goes 28 = .ok (.iconst 1, 1) := by decide +kernel
theorem dX5_goes_29 : decode cX5_goes 29 = .ok (.iload_n 2, 1) := by decide +kernel
theorem dX5_goes_30 : decode cX5_goes 30 = .ok (.ishl, 1) := by decide +kernel
theorem dX5_goes_31 : decode cX5_goes 31 = .ok (.ior, 1) := by decide +kernel
theorem dX5_goes_32 : decode cX5_goes 32 = .ok (.ixor, 1) := by decide +kernel
theorem dX5_goes_33 : decode cX5_goes 33 = .ok (.iastore, 1) := by decide +kernel
theorem dX5_goes_34 : decode cX5_goes 34 = .ok (.aload_n 0, 1) := by decide +kernel
theorem dX5_goes_35 : decode cX5_goes 35 = .ok (.getfield 7, 3) := by decide +kernel
theorem dX5_goes_38 : decode cX5_goes 38 = .ok (.iconst 3, 1) := by decide +kernel
theorem dX5_goes_39 : decode cX5_goes 39 = .ok (.dup2, 1) := by decide +kernel
theorem dX5_goes_40 : decode cX5_goes 40 = .ok (.iaload, 1) := by decide +kernel
theorem dX5_goes_41 : decode cX5_goes 41 = .ok (.iload_n 3, 1) := by decide +kernel
theorem dX5_goes_42 : decode cX5_goes 42 = .ok (.iload 4, 2) := by decide +kernel
theorem dX5_goes_44 : decode cX5_goes 44 = .ok (.ior, 1) := by decide +kernel
theorem dX5_goes_45 : decode cX5_goes 45 = .ok (.ixor, 1) := by decide +kernel
theorem dX5_goes_46 : decode cX5_goes 46 = .ok (.iastore, 1) := by decide +kernel
theorem dX5_goes_47 : decode cX5_goes 47 = .ok (.return_, 1) := by decide +kernel
set_option maxRecDepth 20000 in
theorem ggX5_go_X5_areTwo : GoodIn wsX5_go wsX5_areTwo := goodIn_r _ [7, 8, 9, 10, 6, 11, 12, 13, 14, 15, 69, 70, 71, 72, 73, 74, 75, 76, 77, 78, 79, 80, 81, 82, 83, 84, 85, 86, 87, 88, 89, 90, 91, 92, 93, 94, 95, 96, 97, 98, 99, 100] (by rfl) (by decide +kernel)
set_option maxRecDepth 20000 in
theorem gX5_go_X5_areTwo : GoodIn wsX5_go (wsV RX5 217 RX5 yX5_areTwo wsX5_areTwo) := goodIn_app (goodIn_of _ (by decide +kernel)) ggX5_go_X5_areTwo
set_option maxRecDepth 20000 in
theorem ggX5_go_X5_areSets : GoodIn wsX5_go wsX5_areSets := goodIn_r _ [19, 20, 13, 14, 6, 15, 69, 70, 71, 72, 73, 74, 75, 76, 77, 78, 79, 80, 81, 82, 83, 84, 85, 86, 87, 88, 89, 90, 91, 92, 93, 94, 95, 96, 97, 98, 99, 100] (by rfl) (by decide +kernel)
set_option maxRecDepth 20000 in
theorem gX5_go_X5_areSets : GoodIn wsX5_go (wsV RX5 220 RX5 yX5_areSets wsX5_areSets) := goodIn_app (goodIn_of _ (by decide +kernel)) ggX5_go_X5_areSets
set_option maxRecDepth 20000 in
theorem ggX5_go_X5_areAtOneEnd : GoodIn wsX5_go wsX5_areAtOneEnd := goodIn_r _ [24, 25, 26, 27, 6, 28, 2, 29, 30, 31, 69, 70, 71, 72, 73, 74, 75, 76, 77, 78, 79, 80, 81, 82, 83, 84, 85, 86, 87, 88, 89, 90, 91, 92, 93, 94, 95, 96, 97, 98, 99, 100] (by rfl) (by decide +kernel)
set_option maxRecDepth 20000 in
theorem gX5_go_X5_areAtOneEnd : GoodIn wsX5_go (wsV RX5 193 RX5 yX5_areAtOneEnd wsX5_areAtOneEnd) := goodIn_app (goodIn_of _ (by decide +kernel)) ggX5_go_X5_areAtOneEnd
set_option maxRecDepth 20000 in
theorem ggX5_go_X5_stonesBy : GoodIn wsX5_go wsX5_stonesBy := goodIn_r _ [35, 20, 2, 25, 26, 27, 6, 28, 29, 30, 31, 69, 70, 71, 72, 73, 74, 75, 76, 77, 78, 79, 80, 81, 82, 83, 84, 85, 86, 87, 88, 89, 90, 91, 92, 93, 94, 95, 96, 97, 98, 99, 100] (by rfl) (by decide +kernel)
set_option maxRecDepth 20000 in
theorem gX5_go_X5_stonesBy : GoodIn wsX5_go (wsV RX5 196 RX5 yX5_stonesBy wsX5_stonesBy) := goodIn_app (goodIn_of _ (by decide +kernel)) ggX5_go_X5_stonesBy
set_option maxRecDepth 20000 in
theorem ggX5_go_X5_sinkOf : GoodIn wsX5_go wsX5_sinkOf := goodIn_r _ [39, 40, 41, 42, 43, 6, 44, 45, 2, 46, 47, 48, 49, 50, 51, 52, 20, 53, 29, 30, 31, 54, 55, 56, 57, 58, 59, 60, 69, 70, 71, 72, 73, 74, 75, 76, 77, 78, 79, 80, 81, 82, 83, 84, 85, 86, 87, 88, 89, 90, 91, 92, 93, 94, 95, 96, 97, 98, 99, 100] (by rfl) (by decide +kernel)
set_option maxRecDepth 20000 in
theorem gX5_go_X5_sinkOf : GoodIn wsX5_go (wsV RX5 187 RX5 yX5_sinkOf wsX5_sinkOf) := goodIn_app (goodIn_of _ (by decide +kernel)) ggX5_go_X5_sinkOf
set_option maxRecDepth 20000 in
theorem ggX5_go_X5_keepPast : GoodIn wsX5_go wsX5_keepPast := goodIn_r _ [64, 2, 69, 70, 71, 72, 73, 74, 75, 76, 77, 78, 79, 80, 81, 82, 83, 84, 85, 86, 87, 88, 89, 90, 91, 92, 93, 94, 95, 96, 97, 98, 99, 100] (by rfl) (by decide +kernel)
set_option maxRecDepth 20000 in
theorem gX5_go_X5_keepPast : GoodIn wsX5_go (wsV RX5 223 RX5 yX5_keepPast wsX5_keepPast) := goodIn_app (goodIn_of _ (by decide +kernel)) ggX5_go_X5_keepPast
set_option maxRecDepth 20000 in
theorem ggX5_go_X5_goes : GoodIn wsX5_go wsX5_goes := goodIn_r _ [68, 2, 36, 37, 38, 6, 39, 40, 41, 42, 43, 44, 45, 46, 47, 48, 49, 50, 51, 52, 20, 53, 29, 30, 31, 54, 55, 56, 57, 58, 59, 60, 69, 70, 71, 72, 73, 74, 75, 76, 77, 78, 79, 80, 81, 82, 83, 84, 85, 86, 87, 88, 89, 90, 91, 92, 93, 94, 95, 96, 97, 98, 99, 100] (by rfl) (by decide +kernel)
set_option maxRecDepth 20000 in
theorem gX5_go_X5_goes : GoodIn wsX5_go (wsV RX5 226 RX5 yX5_goes wsX5_goes) := goodIn_app (goodIn_of _ (by decide +kernel)) ggX5_go_X5_goes
theorem dX5_go_0 : decode cX5_go 0 = .ok (.aload_n 0, 1) := by decide +kernel
theorem dX5_go_1 : decode cX5_go 1 = .ok (.iload_n 1, 1) := by decide +kernel
theorem dX5_go_2 : decode cX5_go 2 = .ok (.iload_n 2, 1) := by decide +kernel
theorem dX5_go_3 : decode cX5_go 3 = .ok (.invokevirtual 217, 3) := by decide +kernel
theorem dX5_go_6 : decode cX5_go 6 = .ok (.ifCond .eq 13, 3) := by decide +kernel
theorem dX5_go_9 : decode cX5_go 9 = .ok (.aload_n 0, 1) := by decide +kernel
theorem dX5_go_10 : decode cX5_go 10 = .ok (.iload_n 3, 1) := by decide +kernel
theorem dX5_go_11 : decode cX5_go 11 = .ok (.iload 4, 2) := by decide +kernel
theorem dX5_go_13 : decode cX5_go 13 = .ok (.invokevirtual 220, 3) := by decide +kernel
theorem dX5_go_16 : decode cX5_go 16 = .ok (.ifCond .ne 5, 3) := by decide +kernel
theorem dX5_go_19 : decode cX5_go 19 = .ok (.iconst (-1), 1) := by decide +kernel
theorem dX5_go_20 : decode cX5_go 20 = .ok (.ireturn, 1) := by decide +kernel
theorem dX5_go_21 : decode cX5_go 21 = .ok (.aload_n 0, 1) := by decide +kernel
theorem dX5_go_22 : decode cX5_go 22 = .ok (.iload_n 1, 1) := by decide +kernel
theorem dX5_go_23 : decode cX5_go 23 = .ok (.iload_n 2, 1) := by decide +kernel
theorem dX5_go_24 : decode cX5_go 24 = .ok (.invokevirtual 193, 3) := by decide +kernel
theorem dX5_go_27 : decode cX5_go 27 = .ok (.ifCond .eq 18, 3) := by decide +kernel
theorem dX5_go_30 : decode cX5_go 30 = .ok (.iload_n 3, 1) := by decide +kernel
theorem dX5_go_31 : decode cX5_go 31 = .ok (.iload 4, 2) := by decide +kernel
theorem dX5_go_33 : decode cX5_go 33 = .ok (.ior, 1) := by decide +kernel
theorem dX5_go_34 : decode cX5_go 34 = .ok (.aload_n 0, 1) := by decide +kernel
theorem dX5_go_35 : decode cX5_go 35 = .ok (.iload_n 1, 1) := by decide +kernel
theorem dX5_go_36 : decode cX5_go 36 = .ok (.invokevirtual 196, 3) := by decide +kernel
theorem dX5_go_39 : decode cX5_go 39 = .ok (.iconst (-1), 1) := by decide +kernel
theorem dX5_go_40 : decode cX5_go 40 = .ok (.ixor, 1) := by decide +kernel
theorem dX5_go_41 : decode cX5_go 41 = .ok (.iand, 1) := by decide +kernel
theorem dX5_go_42 : decode cX5_go 42 = .ok (.ifCond .eq 6, 3) := by decide +kernel
theorem dX5_go_45 : decode cX5_go 45 = .ok (.bipush (-4), 2) := by decide +kernel
theorem dX5_go_47 : decode cX5_go 47 = .ok (.ireturn, 1) := by decide +kernel
theorem dX5_go_48 : decode cX5_go 48 = .ok (.aload_n 0, 1) := by decide +kernel
theorem dX5_go_49 : decode cX5_go 49 = .ok (.iload_n 1, 1) := by decide +kernel
theorem dX5_go_50 : decode cX5_go 50 = .ok (.iload_n 2, 1) := by decide +kernel
theorem dX5_go_51 : decode cX5_go 51 = .ok (.iload_n 3, 1) := by decide +kernel
theorem dX5_go_52 : decode cX5_go 52 = .ok (.iload 4, 2) := by decide +kernel
theorem dX5_go_54 : decode cX5_go 54 = .ok (.invokevirtual 187, 3) := by decide +kernel
theorem dX5_go_57 : decode cX5_go 57 = .ok (.istore 5, 2) := by decide +kernel
theorem dX5_go_59 : decode cX5_go 59 = .ok (.iload 5, 2) := by decide +kernel
theorem dX5_go_61 : decode cX5_go 61 = .ok (.aload_n 0, 1) := by decide +kernel
theorem dX5_go_62 : decode cX5_go 62 = .ok (.getfield 151, 3) := by decide +kernel
theorem dX5_go_65 : decode cX5_go 65 = .ok (.if_icmp .le 6, 3) := by decide +kernel
theorem dX5_go_68 : decode cX5_go 68 = .ok (.bipush (-6), 2) := by decide +kernel
theorem dX5_go_70 : decode cX5_go 70 = .ok (.ireturn, 1) := by decide +kernel
theorem dX5_go_71 : decode cX5_go 71 = .ok (.aload_n 0, 1) := by decide +kernel
theorem dX5_go_72 : decode cX5_go 72 = .ok (.getfield 7, 3) := by decide +kernel
theorem dX5_go_75 : decode cX5_go 75 = .ok (.iconst 0, 1) := by decide +kernel
theorem dX5_go_76 : decode cX5_go 76 = .ok (.iaload, 1) := by decide +kernel
theorem dX5_go_77 : decode cX5_go 77 = .ok (.bipush 40, 2) := by decide +kernel
theorem dX5_go_79 : decode cX5_go 79 = .ok (.if_icmp .ne 6, 3) := by decide +kernel
theorem dX5_go_82 : decode cX5_go 82 = .ok (.bipush (-2), 2) := by decide +kernel
theorem dX5_go_84 : decode cX5_go 84 = .ok (.ireturn, 1) := by decide +kernel
theorem dX5_go_85 : decode cX5_go 85 = .ok (.aload_n 0, 1) := by decide +kernel
theorem dX5_go_86 : decode cX5_go 86 = .ok (.invokevirtual 223, 3) := by decide +kernel
theorem dX5_go_89 : decode cX5_go 89 = .ok (.aload_n 0, 1) := by decide +kernel
theorem dX5_go_90 : decode cX5_go 90 = .ok (.iload_n 1, 1) := by decide +kernel
theorem dX5_go_91 : decode cX5_go 91 = .ok (.iload_n 2, 1) := by decide +kernel
theorem dX5_go_92 : decode cX5_go 92 = .ok (.iload_n 3, 1) := by decide +kernel
theorem dX5_go_93 : decode cX5_go 93 = .ok (.iload 4, 2) := by decide +kernel
theorem dX5_go_95 : decode cX5_go 95 = .ok (.invokevirtual 226, 3) := by decide +kernel
theorem dX5_go_98 : decode cX5_go 98 = .ok (.iload 5, 2) := by decide +kernel
theorem dX5_go_100 : decode cX5_go 100 = .ok (.ireturn, 1) := by decide +kernel
set_option maxRecDepth 20000 in
theorem ggX5_loaf_X5_keepPast : GoodIn wsX5_loaf wsX5_keepPast := goodIn_r _ [7, 2, 8, 9, 10, 11, 12, 13, 14, 15, 16, 17, 18, 19, 20, 21, 22, 23, 24, 25, 26, 27, 28, 29, 30, 31, 32, 33, 34, 35, 36, 37, 38, 39] (by rfl) (by decide +kernel)
set_option maxRecDepth 20000 in
theorem gX5_loaf_X5_keepPast : GoodIn wsX5_loaf (wsV RX5 223 RX5 yX5_keepPast wsX5_keepPast) := goodIn_app (goodIn_of _ (by decide +kernel)) ggX5_loaf_X5_keepPast
theorem dX5_loaf_0 : decode cX5_loaf 0 = .ok (.aload_n 0, 1) := by decide +kernel
theorem dX5_loaf_1 : decode cX5_loaf 1 = .ok (.getfield 157, 3) := by decide +kernel
theorem dX5_loaf_4 : decode cX5_loaf 4 = .ok (.ifCond .eq 14, 3) := by decide +kernel
theorem dX5_loaf_7 : decode cX5_loaf 7 = .ok (.aload_n 0, 1) := by decide +kernel
theorem dX5_loaf_8 : decode cX5_loaf 8 = .ok (.getfield 7, 3) := by decide +kernel
theorem dX5_loaf_11 : decode cX5_loaf 11 = .ok (.iconst 1, 1) := by decide +kernel
theorem dX5_loaf_12 : decode cX5_loaf 12 = .ok (.iaload, 1) := by decide +kernel
theorem dX5_loaf_13 : decode cX5_loaf 13 = .ok (.bipush 9, 2) := by decide +kernel
theorem dX5_loaf_15 : decode cX5_loaf 15 = .ok (.if_icmp .ne 6, 3) := by decide +kernel
theorem dX5_loaf_18 : decode cX5_loaf 18 = .ok (.bipush (-4), 2) := by decide +kernel
theorem dX5_loaf_20 : decode cX5_loaf 20 = .ok (.ireturn, 1) := by decide +kernel
theorem dX5_loaf_21 : decode cX5_loaf 21 = .ok (.aload_n 0, 1) := by decide +kernel
theorem dX5_loaf_22 : decode cX5_loaf 22 = .ok (.getfield 7, 3) := by decide +kernel
theorem dX5_loaf_25 : decode cX5_loaf 25 = .ok (.iconst 0, 1) := by decide +kernel
theorem dX5_loaf_26 : decode cX5_loaf 26 = .ok (.iaload, 1) := by decide +kernel
theorem dX5_loaf_27 : decode cX5_loaf 27 = .ok (.bipush 40, 2) := by decide +kernel
theorem dX5_loaf_29 : decode cX5_loaf 29 = .ok (.if_icmp .ne 6, 3) := by decide +kernel
theorem dX5_loaf_32 : decode cX5_loaf 32 = .ok (.bipush (-2), 2) := by decide +kernel
theorem dX5_loaf_34 : decode cX5_loaf 34 = .ok (.ireturn, 1) := by decide +kernel
theorem dX5_loaf_35 : decode cX5_loaf 35 = .ok (.aload_n 0, 1) := by decide +kernel
theorem dX5_loaf_36 : decode cX5_loaf 36 = .ok (.invokevirtual 223, 3) := by decide +kernel
theorem dX5_loaf_39 : decode cX5_loaf 39 = .ok (.aload_n 0, 1) := by decide +kernel
theorem dX5_loaf_40 : decode cX5_loaf 40 = .ok (.getfield 7, 3) := by decide +kernel
theorem dX5_loaf_43 : decode cX5_loaf 43 = .ok (.iconst 1, 1) := by decide +kernel
theorem dX5_loaf_44 : decode cX5_loaf 44 = .ok (.dup2, 1) := by decide +kernel
theorem dX5_loaf_45 : decode cX5_loaf 45 = .ok (.iaload, 1) := by decide +kernel
theorem dX5_loaf_46 : decode cX5_loaf 46 = .ok (.iconst 1, 1) := by decide +kernel
theorem dX5_loaf_47 : decode cX5_loaf 47 = .ok (.iadd, 1) := by decide +kernel
theorem dX5_loaf_48 : decode cX5_loaf 48 = .ok (.iastore, 1) := by decide +kernel
theorem dX5_loaf_49 : decode cX5_loaf 49 = .ok (.aload_n 0, 1) := by decide +kernel
theorem dX5_loaf_50 : decode cX5_loaf 50 = .ok (.getfield 7, 3) := by decide +kernel
theorem dX5_loaf_53 : decode cX5_loaf 53 = .ok (.iconst 1, 1) := by decide +kernel
theorem dX5_loaf_54 : decode cX5_loaf 54 = .ok (.iaload, 1) := by decide +kernel
theorem dX5_loaf_55 : decode cX5_loaf 55 = .ok (.ireturn, 1) := by decide +kernel
set_option maxRecDepth 20000 in
theorem ggX5_undo_X5_in : GoodIn wsX5_undo wsX5_in := goodIn_r _ [5] (by rfl) (by decide +kernel)
set_option maxRecDepth 20000 in
theorem gX5_undo_X5_in : GoodIn wsX5_undo (va_wsS RX5 75 yX5_in wsX5_in) := goodIn_app (goodIn_of _ (by decide +kernel)) ggX5_undo_X5_in
theorem dX5_undo_0 : decode cX5_undo 0 = .ok (.iload_n 1, 1) := by decide +kernel
theorem dX5_undo_1 : decode cX5_undo 1 = .ok (.i2l, 1) := by decide +kernel
theorem dX5_undo_2 : decode cX5_undo 2 = .ok (.lconst 0, 1) := by decide +kernel
theorem dX5_undo_3 : decode cX5_undo 3 = .ok (.aload_n 0, 1) := by decide +kernel
theorem dX5_undo_4 : decode cX5_undo 4 = .ok (.getfield 7, 3) := by decide +kernel
theorem dX5_undo_7 : decode cX5_undo 7 = .ok (.iconst 0, 1) := by decide +kernel
theorem dX5_undo_8 : decode cX5_undo 8 = .ok (.iaload, 1) := by decide +kernel
theorem dX5_undo_9 : decode cX5_undo 9 = .ok (.i2l, 1) := by decide +kernel
theorem dX5_undo_10 : decode cX5_undo 10 = .ok (.invokestatic 75, 3) := by decide +kernel
theorem dX5_undo_13 : decode cX5_undo 13 = .ok (.ifCond .ne 5, 3) := by decide +kernel
theorem dX5_undo_16 : decode cX5_undo 16 = .ok (.iconst (-1), 1) := by decide +kernel
theorem dX5_undo_17 : decode cX5_undo 17 = .ok (.ireturn, 1) := by decide +kernel
theorem dX5_undo_18 : decode cX5_undo 18 = .ok (.aload_n 0, 1) := by decide +kernel
theorem dX5_undo_19 : decode cX5_undo 19 = .ok (.getfield 7, 3) := by decide +kernel
theorem dX5_undo_22 : decode cX5_undo 22 = .ok (.iconst 0, 1) := by decide +kernel
theorem dX5_undo_23 : decode cX5_undo 23 = .ok (.iaload, 1) := by decide +kernel
theorem dX5_undo_24 : decode cX5_undo 24 = .ok (.iload_n 1, 1) := by decide +kernel
theorem dX5_undo_25 : decode cX5_undo 25 = .ok (.isub, 1) := by decide +kernel
theorem dX5_undo_26 : decode cX5_undo 26 = .ok (.istore_n 2, 1) := by decide +kernel
theorem dX5_undo_27 : decode cX5_undo 27 = .ok (.iconst 0, 1) := by decide +kernel
theorem dX5_undo_28 : decode cX5_undo 28 = .ok (.istore_n 3, 1) := by decide +kernel
theorem dX5_undo_29 : decode cX5_undo 29 = .ok (.iload_n 3, 1) := by decide +kernel
theorem dX5_undo_30 : decode cX5_undo 30 = .ok (.iconst 4, 1) := by decide +kernel
theorem dX5_undo_31 : decode cX5_undo 31 = .ok (.if_icmp .ge 33, 3) := by decide +kernel
theorem dX5_undo_34 : decode cX5_undo 34 = .ok (.iload_n 2, 1) := by decide +kernel
theorem dX5_undo_35 : decode cX5_undo 35 = .ok (.ifCond .le 29, 3) := by decide +kernel
theorem dX5_undo_38 : decode cX5_undo 38 = .ok (.aload_n 0, 1) := by decide +kernel
theorem dX5_undo_39 : decode cX5_undo 39 = .ok (.getfield 7, 3) := by decide +kernel
theorem dX5_undo_42 : decode cX5_undo 42 = .ok (.iconst 1, 1) := by decide +kernel
theorem dX5_undo_43 : decode cX5_undo 43 = .ok (.iload_n 3, 1) := by decide +kernel
theorem dX5_undo_44 : decode cX5_undo 44 = .ok (.iadd, 1) := by decide +kernel
theorem dX5_undo_45 : decode cX5_undo 45 = .ok (.aload_n 0, 1) := by decide +kernel
theorem dX5_undo_46 : decode cX5_undo 46 = .ok (.getfield 7, 3) := by decide +kernel
theorem dX5_undo_49 : decode cX5_undo 49 = .ok (.iconst 5, 1) := by decide +kernel
theorem dX5_undo_50 : decode cX5_undo 50 = .ok (.iconst 4, 1) := by decide +kernel
theorem dX5_undo_51 : decode cX5_undo 51 = .ok (.iload_n 1, 1) := by decide +kernel
theorem dX5_undo_52 : decode cX5_undo 52 = .ok (.imul, 1) := by decide +kernel
theorem dX5_undo_53 : decode cX5_undo 53 = .ok (.iadd, 1) := by decide +kernel
theorem dX5_undo_54 : decode cX5_undo 54 = .ok (.iload_n 3, 1) := by decide +kernel
theorem dX5_undo_55 : decode cX5_undo 55 = .ok (.iadd, 1) := by decide +kernel
theorem dX5_undo_56 : decode cX5_undo 56 = .ok (.iaload, 1) := by decide +kernel
theorem dX5_undo_57 : decode cX5_undo 57 = .ok (.iastore, 1) := by decide +kernel
theorem dX5_undo_58 : decode cX5_undo 58 = .ok (.iinc 3 1, 3) := by decide +kernel
theorem dX5_undo_61 : decode cX5_undo 61 = .ok (.goto (-32), 3) := by decide +kernel
theorem dX5_undo_64 : decode cX5_undo 64 = .ok (.aload_n 0, 1) := by decide +kernel
theorem dX5_undo_65 : decode cX5_undo 65 = .ok (.getfield 7, 3) := by decide +kernel
theorem dX5_undo_68 : decode cX5_undo 68 = .ok (.iconst 0, 1) := by decide +kernel
theorem dX5_undo_69 : decode cX5_undo 69 = .ok (.iload_n 1, 1) := by decide +kernel
theorem dX5_undo_70 : decode cX5_undo 70 = .ok (.iastore, 1) := by decide +kernel
theorem dX5_undo_71 : decode cX5_undo 71 = .ok (.iload_n 2, 1) := by decide +kernel
theorem dX5_undo_72 : decode cX5_undo 72 = .ok (.ireturn, 1) := by decide +kernel
theorem dX5_copyTower_0 : decode cX5_copyTower 0 = .ok (.iconst 0, 1) := by decide +kernel
theorem dX5_copyTower_1 : decode cX5_copyTower 1 = .ok (.istore_n 3, 1) := by decide +kernel
theorem dX5_copyTower_2 : decode cX5_copyTower 2 = .ok (.iload_n 3, 1) := by decide +kernel
theorem dX5_copyTower_3 : decode cX5_copyTower 3 = .ok (.sipush 165, 3) := by decide +kernel
theorem dX5_copyTower_6 : decode cX5_copyTower 6 = .ok (.if_icmp .ge 25, 3) := by decide +kernel
theorem dX5_copyTower_9 : decode cX5_copyTower 9 = .ok (.aload_n 0, 1) := by decide +kernel
theorem dX5_copyTower_10 : decode cX5_copyTower 10 = .ok (.getfield 7, 3) := by decide +kernel
theorem dX5_copyTower_13 : decode cX5_copyTower 13 = .ok (.iload_n 2, 1) := by decide +kernel
theorem dX5_copyTower_14 : decode cX5_copyTower 14 = .ok (.iload_n 3, 1) := by decide +kernel
theorem dX5_copyTower_15 : decode cX5_copyTower 15 = .ok (.iadd, 1) := by decide +kernel
theorem dX5_copyTower_16 : decode cX5_copyTower 16 = .ok (.aload_n 0, 1) := by decide +kernel
theorem dX5_copyTower_17 : decode cX5_copyTower 17 = .ok (.getfield 7, 3) := by decide +kernel
theorem dX5_copyTower_20 : decode cX5_copyTower 20 = .ok (.iload_n 1, 1) := by decide +kernel
theorem dX5_copyTower_21 : decode cX5_copyTower 21 = .ok (.iload_n 3, 1) := by decide +kernel
theorem dX5_copyTower_22 : decode cX5_copyTower 22 = .ok (.iadd, 1) := by decide +kernel
theorem dX5_copyTower_23 : decode cX5_copyTower 23 = .ok (.iaload, 1) := by decide +kernel
theorem dX5_copyTower_24 : decode cX5_copyTower 24 = .ok (.iastore, 1) := by decide +kernel
theorem dX5_copyTower_25 : decode cX5_copyTower 25 = .ok (.iinc 3 1, 3) := by decide +kernel
theorem dX5_copyTower_28 : decode cX5_copyTower 28 = .ok (.goto (-26), 3) := by decide +kernel
theorem dX5_copyTower_31 : decode cX5_copyTower 31 = .ok (.return_, 1) := by decide +kernel
set_option maxRecDepth 20000 in
theorem ggX5_keep_X5_in : GoodIn wsX5_keep wsX5_in := goodIn_r _ [7] (by rfl) (by decide +kernel)
set_option maxRecDepth 20000 in
theorem gX5_keep_X5_in : GoodIn wsX5_keep (va_wsS RX5 75 yX5_in wsX5_in) := goodIn_app (goodIn_of _ (by decide +kernel)) ggX5_keep_X5_in
set_option maxRecDepth 20000 in
theorem ggX5_keep_X5_copyTower : GoodIn wsX5_keep wsX5_copyTower := goodIn_r _ [11, 3, 12, 13, 14, 15, 16, 17, 18, 19, 20, 21, 22, 23, 24, 25, 26, 27, 28, 29, 30, 31, 32, 33, 34, 35, 36, 37, 38, 39, 40, 41, 42, 43] (by rfl) (by decide +kernel)
set_option maxRecDepth 20000 in
theorem gX5_keep_X5_copyTower : GoodIn wsX5_keep (wsV RX5 232 RX5 yX5_copyTower wsX5_copyTower) := goodIn_app (goodIn_of _ (by decide +kernel)) ggX5_keep_X5_copyTower
theorem dX5_keep_0 : decode cX5_keep 0 = .ok (.iload_n 1, 1) := by decide +kernel
theorem dX5_keep_1 : decode cX5_keep 1 = .ok (.i2l, 1) := by decide +kernel
theorem dX5_keep_2 : decode cX5_keep 2 = .ok (.lconst 0, 1) := by decide +kernel
theorem dX5_keep_3 : decode cX5_keep 3 = .ok (.ldc2_w 230, 3) := by decide +kernel
theorem dX5_keep_6 : decode cX5_keep 6 = .ok (.invokestatic 75, 3) := by decide +kernel
theorem dX5_keep_9 : decode cX5_keep 9 = .ok (.ifCond .ne 5, 3) := by decide +kernel
theorem dX5_keep_12 : decode cX5_keep 12 = .ok (.iconst (-1), 1) := by decide +kernel
theorem dX5_keep_13 : decode cX5_keep 13 = .ok (.ireturn, 1) := by decide +kernel
theorem dX5_keep_14 : decode cX5_keep 14 = .ok (.aload_n 0, 1) := by decide +kernel
theorem dX5_keep_15 : decode cX5_keep 15 = .ok (.getfield 157, 3) := by decide +kernel
theorem dX5_keep_18 : decode cX5_keep 18 = .ok (.ifCond .ne 6, 3) := by decide +kernel
theorem dX5_keep_21 : decode cX5_keep 21 = .ok (.bipush (-4), 2) := by decide +kernel
theorem dX5_keep_23 : decode cX5_keep 23 = .ok (.ireturn, 1) := by decide +kernel
theorem dX5_keep_24 : decode cX5_keep 24 = .ok (.aload_n 0, 1) := by decide +kernel
theorem dX5_keep_25 : decode cX5_keep 25 = .ok (.iconst 0, 1) := by decide +kernel
theorem dX5_keep_26 : decode cX5_keep 26 = .ok (.sipush 165, 3) := by decide +kernel
theorem dX5_keep_29 : decode cX5_keep 29 = .ok (.iconst 1, 1) := by decide +kernel
theorem dX5_keep_30 : decode cX5_keep 30 = .ok (.iload_n 1, 1) := by decide +kernel
theorem dX5_keep_31 : decode cX5_keep 31 = .ok (.iadd, 1) := by decide +kernel
theorem dX5_keep_32 : decode cX5_keep 32 = .ok (.imul, 1) := by decide +kernel
theorem dX5_keep_33 : decode cX5_keep 33 = .ok (.invokevirtual 232, 3) := by decide +kernel
theorem dX5_keep_36 : decode cX5_keep 36 = .ok (.aload_n 0, 1) := by decide +kernel
theorem dX5_keep_37 : decode cX5_keep 37 = .ok (.getfield 7, 3) := by decide +kernel
theorem dX5_keep_40 : decode cX5_keep 40 = .ok (.iconst 0, 1) := by decide +kernel
theorem dX5_keep_41 : decode cX5_keep 41 = .ok (.iaload, 1) := by decide +kernel
theorem dX5_keep_42 : decode cX5_keep 42 = .ok (.ireturn, 1) := by decide +kernel
set_option maxRecDepth 20000 in
theorem ggX5_on_X5_in : GoodIn wsX5_on wsX5_in := goodIn_r _ [6] (by rfl) (by decide +kernel)
set_option maxRecDepth 20000 in
theorem gX5_on_X5_in : GoodIn wsX5_on (va_wsS RX5 75 yX5_in wsX5_in) := goodIn_app (goodIn_of _ (by decide +kernel)) ggX5_on_X5_in
set_option maxRecDepth 20000 in
theorem ggX5_on_X5_find : GoodIn wsX5_on wsX5_find := goodIn_r _ [10, 11, 12, 17, 18, 19, 20, 21, 22, 23, 24, 25, 26, 27, 28, 29, 30, 31, 32, 33, 34, 35, 36, 37, 38, 39, 40, 41, 42, 43, 44, 45, 46, 47, 48] (by rfl) (by decide +kernel)
set_option maxRecDepth 20000 in
theorem gX5_on_X5_find : GoodIn wsX5_on (wsV RX5 85 RX5 yX5_find wsX5_find) := goodIn_app (goodIn_of _ (by decide +kernel)) ggX5_on_X5_find
set_option maxRecDepth 20000 in
theorem ggX5_on_X5_copyTower : GoodIn wsX5_on wsX5_copyTower := goodIn_r _ [16, 2, 17, 18, 19, 20, 21, 22, 23, 24, 25, 26, 27, 28, 29, 30, 31, 32, 33, 34, 35, 36, 37, 38, 39, 40, 41, 42, 43, 44, 45, 46, 47, 48] (by rfl) (by decide +kernel)
set_option maxRecDepth 20000 in
theorem gX5_on_X5_copyTower : GoodIn wsX5_on (wsV RX5 232 RX5 yX5_copyTower wsX5_copyTower) := goodIn_app (goodIn_of _ (by decide +kernel)) ggX5_on_X5_copyTower
theorem dX5_on_0 : decode cX5_on 0 = .ok (.iload_n 1, 1) := by decide +kernel
theorem dX5_on_1 : decode cX5_on 1 = .ok (.i2l, 1) := by decide +kernel
theorem dX5_on_2 : decode cX5_on 2 = .ok (.lconst 0, 1) := by decide +kernel
theorem dX5_on_3 : decode cX5_on 3 = .ok (.ldc2_w 230, 3) := by decide +kernel
theorem dX5_on_6 : decode cX5_on 6 = .ok (.invokestatic 75, 3) := by decide +kernel
theorem dX5_on_9 : decode cX5_on 9 = .ok (.ifCond .ne 5, 3) := by decide +kernel
theorem dX5_on_12 : decode cX5_on 12 = .ok (.iconst (-1), 1) := by decide +kernel
theorem dX5_on_13 : decode cX5_on 13 = .ok (.ireturn, 1) := by decide +kernel
theorem dX5_on_14 : decode cX5_on 14 = .ok (.aload_n 0, 1) := by decide +kernel
theorem dX5_on_15 : decode cX5_on 15 = .ok (.getfield 7, 3) := by decide +kernel
theorem dX5_on_18 : decode cX5_on 18 = .ok (.sipush 165, 3) := by decide +kernel
theorem dX5_on_21 : decode cX5_on 21 = .ok (.iconst 1, 1) := by decide +kernel
theorem dX5_on_22 : decode cX5_on 22 = .ok (.iload_n 1, 1) := by decide +kernel
theorem dX5_on_23 : decode cX5_on 23 = .ok (.iadd, 1) := by decide +kernel
theorem dX5_on_24 : decode cX5_on 24 = .ok (.imul, 1) := by decide +kernel
theorem dX5_on_25 : decode cX5_on 25 = .ok (.iconst 0, 1) := by decide +kernel
theorem dX5_on_26 : decode cX5_on 26 = .ok (.iadd, 1) := by decide +kernel
theorem dX5_on_27 : decode cX5_on 27 = .ok (.iaload, 1) := by decide +kernel
theorem dX5_on_28 : decode cX5_on 28 = .ok (.ifCond .ge 9, 3) := by decide +kernel
theorem dX5_on_31 : decode cX5_on 31 = .ok (.aload_n 0, 1) := by decide +kernel
theorem dX5_on_32 : decode cX5_on 32 = .ok (.iconst 1, 1) := by decide +kernel
theorem dX5_on_33 : decode cX5_on 33 = .ok (.invokevirtual 85, 3) := by decide +kernel
theorem dX5_on_36 : decode cX5_on 36 = .ok (.ireturn, 1) := by decide +kernel
theorem dX5_on_37 : decode cX5_on 37 = .ok (.aload_n 0, 1) := by decide +kernel
theorem dX5_on_38 : decode cX5_on 38 = .ok (.sipush 165, 3) := by decide +kernel
theorem dX5_on_41 : decode cX5_on 41 = .ok (.iconst 1, 1) := by decide +kernel
theorem dX5_on_42 : decode cX5_on 42 = .ok (.iload_n 1, 1) := by decide +kernel
theorem dX5_on_43 : decode cX5_on 43 = .ok (.iadd, 1) := by decide +kernel
theorem dX5_on_44 : decode cX5_on 44 = .ok (.imul, 1) := by decide +kernel
theorem dX5_on_45 : decode cX5_on 45 = .ok (.iconst 0, 1) := by decide +kernel
theorem dX5_on_46 : decode cX5_on 46 = .ok (.invokevirtual 232, 3) := by decide +kernel
theorem dX5_on_49 : decode cX5_on 49 = .ok (.aload_n 0, 1) := by decide +kernel
theorem dX5_on_50 : decode cX5_on 50 = .ok (.getfield 7, 3) := by decide +kernel
theorem dX5_on_53 : decode cX5_on 53 = .ok (.iconst 0, 1) := by decide +kernel
theorem dX5_on_54 : decode cX5_on 54 = .ok (.iaload, 1) := by decide +kernel
theorem dX5_on_55 : decode cX5_on 55 = .ok (.ireturn, 1) := by decide +kernel
set_option maxRecDepth 20000 in
theorem ggX5_sink_X5_areTwo : GoodIn wsX5_sink wsX5_areTwo := goodIn_r _ [5, 6, 7, 8, 4, 9, 10, 11, 12, 13, 48, 49, 50, 51, 52, 53, 54, 55, 56, 57, 58, 59, 60, 61, 62, 63, 64, 65, 66, 67, 68, 69, 70, 71, 72, 73, 74, 75, 76, 77, 78, 79] (by rfl) (by decide +kernel)
set_option maxRecDepth 20000 in
theorem gX5_sink_X5_areTwo : GoodIn wsX5_sink (wsV RX5 217 RX5 yX5_areTwo wsX5_areTwo) := goodIn_app (goodIn_of _ (by decide +kernel)) ggX5_sink_X5_areTwo
set_option maxRecDepth 20000 in
theorem ggX5_sink_X5_areSets : GoodIn wsX5_sink wsX5_areSets := goodIn_r _ [17, 18, 11, 12, 4, 13, 48, 49, 50, 51, 52, 53, 54, 55, 56, 57, 58, 59, 60, 61, 62, 63, 64, 65, 66, 67, 68, 69, 70, 71, 72, 73, 74, 75, 76, 77, 78, 79] (by rfl) (by decide +kernel)
set_option maxRecDepth 20000 in
theorem gX5_sink_X5_areSets : GoodIn wsX5_sink (wsV RX5 220 RX5 yX5_areSets wsX5_areSets) := goodIn_app (goodIn_of _ (by decide +kernel)) ggX5_sink_X5_areSets
set_option maxRecDepth 20000 in
theorem ggX5_sink_X5_sinkOf : GoodIn wsX5_sink wsX5_sinkOf := goodIn_r _ [22, 23, 24, 25, 26, 4, 27, 28, 29, 30, 31, 32, 33, 34, 35, 36, 18, 37, 38, 39, 40, 41, 42, 43, 44, 45, 46, 47, 48, 49, 50, 51, 52, 53, 54, 55, 56, 57, 58, 59, 60, 61, 62, 63, 64, 65, 66, 67, 68, 69, 70, 71, 72, 73, 74, 75, 76, 77, 78, 79] (by rfl) (by decide +kernel)
set_option maxRecDepth 20000 in
theorem gX5_sink_X5_sinkOf : GoodIn wsX5_sink (wsV RX5 187 RX5 yX5_sinkOf wsX5_sinkOf) := goodIn_app (goodIn_of _ (by decide +kernel)) ggX5_sink_X5_sinkOf
theorem dX5_sink_0 : decode cX5_sink 0 = .ok (.aload_n 0, 1) := by decide +kernel
theorem dX5_sink_1 : decode cX5_sink 1 = .ok (.iload_n 1, 1) := by decide +kernel
theorem dX5_sink_2 : decode cX5_sink 2 = .ok (.iload_n 2, 1) := by decide +kernel
theorem dX5_sink_3 : decode cX5_sink 3 = .ok (.invokevirtual 217, 3) := by decide +kernel
theorem dX5_sink_6 : decode cX5_sink 6 = .ok (.ifCond .eq 25, 3) := by decide +kernel
theorem dX5_sink_9 : decode cX5_sink 9 = .ok (.aload_n 0, 1) := by decide +kernel
theorem dX5_sink_10 : decode cX5_sink 10 = .ok (.iload_n 3, 1) := by decide +kernel
theorem dX5_sink_11 : decode cX5_sink 11 = .ok (.iload 4, 2) := by decide +kernel
theorem dX5_sink_13 : decode cX5_sink 13 = .ok (.invokevirtual 220, 3) := by decide +kernel
theorem dX5_sink_16 : decode cX5_sink 16 = .ok (.ifCond .eq 15, 3) := by decide +kernel
theorem dX5_sink_19 : decode cX5_sink 19 = .ok (.aload_n 0, 1) := by decide +kernel
theorem dX5_sink_20 : decode cX5_sink 20 = .ok (.iload_n 1, 1) := by decide +kernel
theorem dX5_sink_21 : decode cX5_sink 21 = .ok (.iload_n 2, 1) := by decide +kernel
theorem dX5_sink_22 : decode cX5_sink 22 = .ok (.iload_n 3, 1) := by decide +kernel
theorem dX5_sink_23 : decode cX5_sink 23 = .ok (.iload 4, 2) := by decide +kernel
theorem dX5_sink_25 : decode cX5_sink 25 = .ok (.invokevirtual 187, 3) := by decide +kernel
theorem dX5_sink_28 : decode cX5_sink 28 = .ok (.goto 4, 3) := by decide +kernel
theorem dX5_sink_31 : decode cX5_sink 31 = .ok (.iconst (-1), 1) := by decide +kernel
theorem dX5_sink_32 : decode cX5_sink 32 = .ok (.ireturn, 1) := by decide +kernel
set_option maxRecDepth 20000 in
theorem ggX5_best_X5_areTwo : GoodIn wsX5_best wsX5_areTwo := goodIn_r _ [7, 8, 9, 10, 6, 11, 12, 13, 14, 15, 62, 63, 64, 65, 66, 67, 68, 69, 70, 71, 72, 73, 74, 75, 76, 77, 78, 79, 80, 81, 82, 83, 84, 85, 86, 87, 88, 89, 90, 91, 92, 93] (by rfl) (by decide +kernel)
set_option maxRecDepth 20000 in
theorem gX5_best_X5_areTwo : GoodIn wsX5_best (wsV RX5 217 RX5 yX5_areTwo wsX5_areTwo) := goodIn_app (goodIn_of _ (by decide +kernel)) ggX5_best_X5_areTwo
set_option maxRecDepth 20000 in
theorem ggX5_best_X5_areAtOneEnd : GoodIn wsX5_best wsX5_areAtOneEnd := goodIn_r _ [19, 20, 21, 22, 6, 23, 24, 25, 26, 27, 62, 63, 64, 65, 66, 67, 68, 69, 70, 71, 72, 73, 74, 75, 76, 77, 78, 79, 80, 81, 82, 83, 84, 85, 86, 87, 88, 89, 90, 91, 92, 93] (by rfl) (by decide +kernel)
set_option maxRecDepth 20000 in
theorem gX5_best_X5_areAtOneEnd : GoodIn wsX5_best (wsV RX5 193 RX5 yX5_areAtOneEnd wsX5_areAtOneEnd) := goodIn_app (goodIn_of _ (by decide +kernel)) ggX5_best_X5_areAtOneEnd
set_option maxRecDepth 20000 in
theorem ggX5_best_X5_stonesBy : GoodIn wsX5_best wsX5_stonesBy := goodIn_r _ [31, 32, 24, 20, 21, 22, 6, 23, 25, 26, 27, 62, 63, 64, 65, 66, 67, 68, 69, 70, 71, 72, 73, 74, 75, 76, 77, 78, 79, 80, 81, 82, 83, 84, 85, 86, 87, 88, 89, 90, 91, 92, 93] (by rfl) (by decide +kernel)
set_option maxRecDepth 20000 in
theorem gX5_best_X5_stonesBy : GoodIn wsX5_best (wsV RX5 196 RX5 yX5_stonesBy wsX5_stonesBy) := goodIn_app (goodIn_of _ (by decide +kernel)) ggX5_best_X5_stonesBy
set_option maxRecDepth 20000 in
theorem ggX5_best_X5_leastSink : GoodIn wsX5_best wsX5_leastSink := goodIn_r _ [36, 1, 37, 38, 39, 6, 40, 41, 42, 43, 44, 45, 46, 24, 47, 48, 49, 50, 51, 52, 53, 32, 54, 25, 26, 27, 55, 56, 57, 58, 59, 60, 61, 62, 63, 64, 65, 66, 67, 68, 69, 70, 71, 72, 73, 74, 75, 76, 77, 78, 79, 80, 81, 82, 83, 84, 85, 86, 87, 88, 89, 90, 91, 92, 93] (by rfl) (by decide +kernel)
set_option maxRecDepth 20000 in
theorem gX5_best_X5_leastSink : GoodIn wsX5_best (wsV RX5 199 RX5 yX5_leastSink wsX5_leastSink) := goodIn_app (goodIn_of _ (by decide +kernel)) ggX5_best_X5_leastSink
theorem dX5_best_0 : decode cX5_best 0 = .ok (.aload_n 0, 1) := by decide +kernel
theorem dX5_best_1 : decode cX5_best 1 = .ok (.iload_n 1, 1) := by decide +kernel
theorem dX5_best_2 : decode cX5_best 2 = .ok (.iload_n 2, 1) := by decide +kernel
theorem dX5_best_3 : decode cX5_best 3 = .ok (.invokevirtual 217, 3) := by decide +kernel
theorem dX5_best_6 : decode cX5_best 6 = .ok (.ifCond .ne 5, 3) := by decide +kernel
theorem dX5_best_9 : decode cX5_best 9 = .ok (.iconst (-1), 1) := by decide +kernel
theorem dX5_best_10 : decode cX5_best 10 = .ok (.ireturn, 1) := by decide +kernel
theorem dX5_best_11 : decode cX5_best 11 = .ok (.aload_n 0, 1) := by decide +kernel
theorem dX5_best_12 : decode cX5_best 12 = .ok (.iload_n 1, 1) := by decide +kernel
theorem dX5_best_13 : decode cX5_best 13 = .ok (.iload_n 2, 1) := by decide +kernel
theorem dX5_best_14 : decode cX5_best 14 = .ok (.invokevirtual 193, 3) := by decide +kernel
theorem dX5_best_17 : decode cX5_best 17 = .ok (.ifCond .ne 6, 3) := by decide +kernel
theorem dX5_best_20 : decode cX5_best 20 = .ok (.bipush (-4), 2) := by decide +kernel
theorem dX5_best_22 : decode cX5_best 22 = .ok (.ireturn, 1) := by decide +kernel
theorem dX5_best_23 : decode cX5_best 23 = .ok (.aload_n 0, 1) := by decide +kernel
theorem dX5_best_24 : decode cX5_best 24 = .ok (.iload_n 1, 1) := by decide +kernel
theorem dX5_best_25 : decode cX5_best 25 = .ok (.iload_n 2, 1) := by decide +kernel
theorem dX5_best_26 : decode cX5_best 26 = .ok (.aload_n 0, 1) := by decide +kernel
theorem dX5_best_27 : decode cX5_best 27 = .ok (.iload_n 1, 1) := by decide +kernel
theorem dX5_best_28 : decode cX5_best 28 = .ok (.invokevirtual 196, 3) := by decide +kernel
theorem dX5_best_31 : decode cX5_best 31 = .ok (.invokevirtual 199, 3) := by decide +kernel
theorem dX5_best_34 : decode cX5_best 34 = .ok (.istore_n 3, 1) := by decide +kernel
theorem dX5_best_35 : decode cX5_best 35 = .ok (.aload_n 0, 1) := by decide +kernel
theorem dX5_best_36 : decode cX5_best 36 = .ok (.aload_n 0, 1) := by decide +kernel
theorem dX5_best_37 : decode cX5_best 37 = .ok (.getfield 190, 3) := by decide +kernel
theorem dX5_best_40 : decode cX5_best 40 = .ok (.putfield 70, 3) := by decide +kernel
theorem dX5_best_43 : decode cX5_best 43 = .ok (.iload_n 3, 1) := by decide +kernel
theorem dX5_best_44 : decode cX5_best 44 = .ok (.ireturn, 1) := by decide +kernel
set_option maxRecDepth 20000 in
theorem ggX5_pairsBut_X5_can : GoodIn wsX5_pairsBut wsX5_can := goodIn_r _ [6, 7, 8, 9, 10, 5, 11, 12, 13, 14, 15, 16, 17, 18, 19, 20, 21, 22, 23, 24, 25, 26, 27, 28, 29, 30, 31, 32, 33, 34, 35, 36, 37, 38, 39, 40, 41, 42, 43, 44, 45, 46, 47, 48, 49, 50, 51, 52, 53, 54, 55, 56, 57, 58, 59, 60, 61, 62, 63, 64, 65, 66, 67, 68, 69, 70, 71, 72, 73, 74, 75, 76, 77, 78, 79, 80, 81, 82, 83, 84, 85, 86] (by rfl) (by decide +kernel)
set_option maxRecDepth 20000 in
theorem gX5_pairsBut_X5_can : GoodIn wsX5_pairsBut (wsV RX5 202 RX5 yX5_can wsX5_can) := goodIn_app (goodIn_of _ (by decide +kernel)) ggX5_pairsBut_X5_can
theorem dX5_pairsBut_0 : decode cX5_pairsBut 0 = .ok (.iconst 0, 1) := by decide +kernel
theorem dX5_pairsBut_1 : decode cX5_pairsBut 1 = .ok (.istore_n 2, 1) := by decide +kernel
theorem dX5_pairsBut_2 : decode cX5_pairsBut 2 = .ok (.iconst 0, 1) := by decide +kernel
theorem dX5_pairsBut_3 : decode cX5_pairsBut 3 = .ok (.istore_n 3, 1) := by decide +kernel
theorem dX5_pairsBut_4 : decode cX5_pairsBut 4 = .ok (.iload_n 3, 1) := by decide +kernel
theorem dX5_pairsBut_5 : decode cX5_pairsBut 5 = .ok (.aload_n 0, 1) := by decide +kernel
theorem dX5_pairsBut_6 : decode cX5_pairsBut 6 = .ok (.getfield 157, 3) := by decide +kernel
theorem dX5_pairsBut_9 : decode cX5_pairsBut 9 = .ok (.if_icmp .ge 48, 3) := by decide +kernel
theorem dX5_pairsBut_12 : decode cX5_pairsBut 12 = .ok (.iload_n 3, 1) := by decide +kernel
theorem dX5_pairsBut_13 : decode cX5_pairsBut 13 = .ok (.iconst 1, 1) := by decide +kernel
theorem dX5_pairsBut_14 : decode cX5_pairsBut 14 = .ok (.iadd, 1) := by decide +kernel
theorem dX5_pairsBut_15 : decode cX5_pairsBut 15 = .ok (.istore 4, 2) := by decide +kernel
theorem dX5_pairsBut_17 : decode cX5_pairsBut 17 = .ok (.iload 4, 2) := by decide +kernel
theorem dX5_pairsBut_19 : decode cX5_pairsBut 19 = .ok (.aload_n 0, 1) := by decide +kernel
theorem dX5_pairsBut_20 : decode cX5_pairsBut 20 = .ok (.getfield 157, 3) := by decide +kernel
theorem dX5_pairsBut_23 : decode cX5_pairsBut 23 = .ok (.if_icmp .ge 28, 3) := by decide +kernel
theorem dX5_pairsBut_26 : decode cX5_pairsBut 26 = .ok (.iload_n 2, 1) := by decide +kernel
theorem dX5_pairsBut_27 : decode cX5_pairsBut 27 = .ok (.aload_n 0, 1) := by decide +kernel
theorem dX5_pairsBut_28 : decode cX5_pairsBut 28 = .ok (.iload_n 3, 1) := by decide +kernel
theorem dX5_pairsBut_29 : decode cX5_pairsBut 29 = .ok (.iload 4, 2) := by decide +kernel
theorem dX5_pairsBut_31 : decode cX5_pairsBut 31 = .ok (.iload_n 1, 1) := by decide +kernel
theorem dX5_pairsBut_32 : decode cX5_pairsBut 32 = .ok (.invokevirtual 202, 3) := by decide +kernel
theorem dX5_pairsBut_35 : decode cX5_pairsBut 35 = .ok (.ifCond .eq 7, 3) := by decide +kernel
theorem dX5_pairsBut_38 : decode cX5_pairsBut 38 = .ok (.iconst 1, 1) := by decide +kernel
theorem dX5_pairsBut_39 : decode cX5_pairsBut 39 = .ok (.goto 4, 3) := by decide +kernel
theorem dX5_pairsBut_42 : decode cX5_pairsBut 42 = .ok (.iconst 0, 1) := by decide +kernel
theorem dX5_pairsBut_43 : decode cX5_pairsBut 43 = .ok (.iadd, 1) := by decide +kernel
theorem dX5_pairsBut_44 : decode cX5_pairsBut 44 = .ok (.istore_n 2, 1) := by decide +kernel
theorem dX5_pairsBut_45 : decode cX5_pairsBut 45 = .ok (.iinc 4 1, 3) := by decide +kernel
theorem dX5_pairsBut_48 : decode cX5_pairsBut 48 = .ok (.goto (-31), 3) := by decide +kernel
theorem dX5_pairsBut_51 : decode cX5_pairsBut 51 = .ok (.iinc 3 1, 3) := by decide +kernel
theorem dX5_pairsBut_54 : decode cX5_pairsBut 54 = .ok (.goto (-50), 3) := by decide +kernel
theorem dX5_pairsBut_57 : decode cX5_pairsBut 57 = .ok (.iload_n 2, 1) := by decide +kernel
theorem dX5_pairsBut_58 : decode cX5_pairsBut 58 = .ok (.ireturn, 1) := by decide +kernel
set_option maxRecDepth 20000 in
theorem ggX5_pairs_X5_can : GoodIn wsX5_pairs wsX5_can := goodIn_r _ [7, 8, 9, 10, 11, 6, 12, 13, 14, 15, 16, 17, 18, 19, 20, 21, 22, 23, 24, 25, 26, 27, 28, 29, 30, 31, 32, 33, 34, 35, 36, 37, 38, 39, 40, 41, 42, 43, 44, 45, 46, 47, 48, 49, 50, 51, 52, 53, 54, 55, 60, 61, 62, 63, 64, 65, 66, 67, 68, 69, 70, 71, 72, 73, 74, 75, 76, 77, 78, 79, 80, 81, 82, 83, 84, 85, 86, 87, 88, 89, 90, 91] (by rfl) (by decide +kernel)
set_option maxRecDepth 20000 in
theorem gX5_pairs_X5_can : GoodIn wsX5_pairs (wsV RX5 202 RX5 yX5_can wsX5_can) := goodIn_app (goodIn_of _ (by decide +kernel)) ggX5_pairs_X5_can
set_option maxRecDepth 20000 in
theorem ggX5_pairs_X5_pairsBut : GoodIn wsX5_pairs wsX5_pairsBut := goodIn_r _ [59, 2, 3, 4, 5, 6, 7, 8, 9, 10, 11, 12, 13, 14, 15, 16, 17, 18, 19, 20, 21, 22, 23, 24, 25, 26, 27, 28, 29, 30, 31, 32, 33, 34, 35, 36, 37, 38, 39, 40, 41, 42, 43, 44, 45, 46, 47, 48, 49, 50, 51, 52, 53, 54, 55, 60, 61, 62, 63, 64, 65, 66, 67, 68, 69, 70, 71, 72, 73, 74, 75, 76, 77, 78, 79, 80, 81, 82, 83, 84, 85, 86, 87, 88, 89, 90, 91] (by rfl) (by decide +kernel)
set_option maxRecDepth 20000 in
theorem gX5_pairs_X5_pairsBut : GoodIn wsX5_pairs (wsV RX5 235 RX5 yX5_pairsBut wsX5_pairsBut) := goodIn_app (goodIn_of _ (by decide +kernel)) ggX5_pairs_X5_pairsBut
theorem dX5_pairs_0 : decode cX5_pairs 0 = .ok (.aload_n 0, 1) := by decide +kernel
theorem dX5_pairs_1 : decode cX5_pairs 1 = .ok (.bipush (-9), 2) := by decide +kernel
theorem dX5_pairs_3 : decode cX5_pairs 3 = .ok (.putfield 70, 3) := by decide +kernel
theorem dX5_pairs_6 : decode cX5_pairs 6 = .ok (.aload_n 0, 1) := by decide +kernel
theorem dX5_pairs_7 : decode cX5_pairs 7 = .ok (.getfield 157, 3) := by decide +kernel
theorem dX5_pairs_10 : decode cX5_pairs 10 = .ok (.aload_n 0, 1) := by decide +kernel
theorem dX5_pairs_11 : decode cX5_pairs 11 = .ok (.getfield 157, 3) := by decide +kernel
theorem dX5_pairs_14 : decode cX5_pairs 14 = .ok (.imul, 1) := by decide +kernel
theorem dX5_pairs_15 : decode cX5_pairs 15 = .ok (.iconst 1, 1) := by decide +kernel
theorem dX5_pairs_16 : decode cX5_pairs 16 = .ok (.isub, 1) := by decide +kernel
theorem dX5_pairs_17 : decode cX5_pairs 17 = .ok (.istore_n 1, 1) := by decide +kernel
theorem dX5_pairs_18 : decode cX5_pairs 18 = .ok (.iload_n 1, 1) := by decide +kernel
theorem dX5_pairs_19 : decode cX5_pairs 19 = .ok (.ifCond .lt 55, 3) := by decide +kernel
theorem dX5_pairs_22 : decode cX5_pairs 22 = .ok (.iload_n 1, 1) := by decide +kernel
theorem dX5_pairs_23 : decode cX5_pairs 23 = .ok (.aload_n 0, 1) := by decide +kernel
theorem dX5_pairs_24 : decode cX5_pairs 24 = .ok (.getfield 157, 3) := by decide +kernel
theorem dX5_pairs_27 : decode cX5_pairs 27 = .ok (.idiv, 1) := by decide +kernel
theorem dX5_pairs_28 : decode cX5_pairs 28 = .ok (.istore_n 2, 1) := by decide +kernel
theorem dX5_pairs_29 : decode cX5_pairs 29 = .ok (.iload_n 1, 1) := by decide +kernel
theorem dX5_pairs_30 : decode cX5_pairs 30 = .ok (.aload_n 0, 1) := by decide +kernel
theorem dX5_pairs_31 : decode cX5_pairs 31 = .ok (.getfield 157, 3) := by decide +kernel
theorem dX5_pairs_34 : decode cX5_pairs 34 = .ok (.irem, 1) := by decide +kernel
theorem dX5_pairs_35 : decode cX5_pairs 35 = .ok (.istore_n 3, 1) := by decide +kernel
theorem dX5_pairs_36 : decode cX5_pairs 36 = .ok (.aload_n 0, 1) := by decide +kernel
theorem dX5_pairs_37 : decode cX5_pairs 37 = .ok (.iload_n 2, 1) := by decide +kernel
theorem dX5_pairs_38 : decode cX5_pairs 38 = .ok (.iload_n 3, 1) := by decide +kernel
theorem dX5_pairs_39 : decode cX5_pairs 39 = .ok (.if_icmp .ge 22, 3) := by decide +kernel
theorem dX5_pairs_42 : decode cX5_pairs 42 = .ok (.aload_n 0, 1) := by decide +kernel
theorem dX5_pairs_43 : decode cX5_pairs 43 = .ok (.iload_n 2, 1) := by decide +kernel
theorem dX5_pairs_44 : decode cX5_pairs 44 = .ok (.iload_n 3, 1) := by decide +kernel
theorem dX5_pairs_45 : decode cX5_pairs 45 = .ok (.iconst 0, 1) := by decide +kernel
theorem dX5_pairs_46 : decode cX5_pairs 46 = .ok (.invokevirtual 202, 3) := by decide +kernel
theorem dX5_pairs_49 : decode cX5_pairs 49 = .ok (.ifCond .eq 12, 3) := by decide +kernel
theorem dX5_pairs_52 : decode cX5_pairs 52 = .ok (.bipush 6, 2) := by decide +kernel
theorem dX5_pairs_54 : decode cX5_pairs 54 = .ok (.iload_n 2, 1) := by decide +kernel
theorem dX5_pairs_55 : decode cX5_pairs 55 = .ok (.imul, 1) := by decide +kernel
theorem dX5_pairs_56 : decode cX5_pairs 56 = .ok (.iload_n 3, 1) := by decide +kernel
theorem dX5_pairs_57 : decode cX5_pairs 57 = .ok (.iadd, 1) := by decide +kernel
theorem dX5_pairs_58 : decode cX5_pairs 58 = .ok (.goto 7, 3) := by decide +kernel
theorem dX5_pairs_61 : decode cX5_pairs 61 = .ok (.aload_n 0, 1) := by decide +kernel
theorem dX5_pairs_62 : decode cX5_pairs 62 = .ok (.getfield 70, 3) := by decide +kernel
theorem dX5_pairs_65 : decode cX5_pairs 65 = .ok (.putfield 70, 3) := by decide +kernel
theorem dX5_pairs_68 : decode cX5_pairs 68 = .ok (.iinc 1 (-1), 3) := by decide +kernel
theorem dX5_pairs_71 : decode cX5_pairs 71 = .ok (.goto (-53), 3) := by decide +kernel
theorem dX5_pairs_74 : decode cX5_pairs 74 = .ok (.aload_n 0, 1) := by decide +kernel
theorem dX5_pairs_75 : decode cX5_pairs 75 = .ok (.iconst 0, 1) := by decide +kernel
theorem dX5_pairs_76 : decode cX5_pairs 76 = .ok (.invokevirtual 235, 3) := by decide +kernel
theorem dX5_pairs_79 : decode cX5_pairs 79 = .ok (.ireturn, 1) := by decide +kernel
set_option maxRecDepth 20000 in
theorem ggX5_goWith_X5_stonesBy : GoodIn wsX5_goWith wsX5_stonesBy := goodIn_r _ [7, 8, 9, 10, 11, 12, 6, 13, 14, 15, 16, 42, 43, 44, 45, 46, 47, 48, 49, 50, 51, 52, 53, 54, 55, 56, 57, 58, 59, 60, 61, 62, 63, 64, 65, 66, 67, 68, 69, 70, 71, 72, 73] (by rfl) (by decide +kernel)
set_option maxRecDepth 20000 in
theorem gX5_goWith_X5_stonesBy : GoodIn wsX5_goWith (wsV RX5 196 RX5 yX5_stonesBy wsX5_stonesBy) := goodIn_app (goodIn_of _ (by decide +kernel)) ggX5_goWith_X5_stonesBy
set_option maxRecDepth 20000 in
theorem ggX5_goWith_X5_sinkOf : GoodIn wsX5_goWith wsX5_sinkOf := goodIn_r _ [20, 21, 22, 23, 24, 6, 25, 26, 9, 27, 28, 29, 30, 31, 32, 33, 8, 34, 14, 15, 16, 35, 36, 37, 38, 39, 40, 41, 42, 43, 44, 45, 46, 47, 48, 49, 50, 51, 52, 53, 54, 55, 56, 57, 58, 59, 60, 61, 62, 63, 64, 65, 66, 67, 68, 69, 70, 71, 72, 73] (by rfl) (by decide +kernel)
set_option maxRecDepth 20000 in
theorem gX5_goWith_X5_sinkOf : GoodIn wsX5_goWith (wsV RX5 187 RX5 yX5_sinkOf wsX5_sinkOf) := goodIn_app (goodIn_of _ (by decide +kernel)) ggX5_goWith_X5_sinkOf
theorem dX5_goWith_0 : decode cX5_goWith 0 = .ok (.iload_n 1, 1) := by decide +kernel
theorem dX5_goWith_1 : decode cX5_goWith 1 = .ok (.iconst 1, 1) := by decide +kernel
theorem dX5_goWith_2 : decode cX5_goWith 2 = .ok (.iload_n 2, 1) := by decide +kernel
theorem dX5_goWith_3 : decode cX5_goWith 3 = .ok (.ishl, 1) := by decide +kernel
theorem dX5_goWith_4 : decode cX5_goWith 4 = .ok (.iconst 1, 1) := by decide +kernel
theorem dX5_goWith_5 : decode cX5_goWith 5 = .ok (.iload_n 3, 1) := by decide +kernel
theorem dX5_goWith_6 : decode cX5_goWith 6 = .ok (.ishl, 1) := by decide +kernel
theorem dX5_goWith_7 : decode cX5_goWith 7 = .ok (.ior, 1) := by decide +kernel
theorem dX5_goWith_8 : decode cX5_goWith 8 = .ok (.iconst (-1), 1) := by decide +kernel
theorem dX5_goWith_9 : decode cX5_goWith 9 = .ok (.ixor, 1) := by decide +kernel
theorem dX5_goWith_10 : decode cX5_goWith 10 = .ok (.iand, 1) := by decide +kernel
theorem dX5_goWith_11 : decode cX5_goWith 11 = .ok (.istore 5, 2) := by decide +kernel
theorem dX5_goWith_13 : decode cX5_goWith 13 = .ok (.iconst 0, 1) := by decide +kernel
theorem dX5_goWith_14 : decode cX5_goWith 14 = .ok (.istore 6, 2) := by decide +kernel
theorem dX5_goWith_16 : decode cX5_goWith 16 = .ok (.iload 6, 2) := by decide +kernel
theorem dX5_goWith_18 : decode cX5_goWith 18 = .ok (.sipush 256, 3) := by decide +kernel
theorem dX5_goWith_21 : decode cX5_goWith 21 = .ok (.if_icmp .ge 105, 3) := by decide +kernel
theorem dX5_goWith_24 : decode cX5_goWith 24 = .ok (.iload 6, 2) := by decide +kernel
theorem dX5_goWith_26 : decode cX5_goWith 26 = .ok (.bipush 16, 2) := by decide +kernel
theorem dX5_goWith_28 : decode cX5_goWith 28 = .ok (.idiv, 1) := by decide +kernel
theorem dX5_goWith_29 : decode cX5_goWith 29 = .ok (.istore 7, 2) := by decide +kernel
theorem dX5_goWith_31 : decode cX5_goWith 31 = .ok (.iload 6, 2) := by decide +kernel
theorem dX5_goWith_33 : decode cX5_goWith 33 = .ok (.bipush 16, 2) := by decide +kernel
theorem dX5_goWith_35 : decode cX5_goWith 35 = .ok (.irem, 1) := by decide +kernel
theorem dX5_goWith_36 : decode cX5_goWith 36 = .ok (.istore 8, 2) := by decide +kernel
theorem dX5_goWith_38 : decode cX5_goWith 38 = .ok (.iload 7, 2) := by decide +kernel
theorem dX5_goWith_40 : decode cX5_goWith 40 = .ok (.iload 8, 2) := by decide +kernel
theorem dX5_goWith_42 : decode cX5_goWith 42 = .ok (.iand, 1) := by decide +kernel
theorem dX5_goWith_43 : decode cX5_goWith 43 = .ok (.ifCond .ne 50, 3) := by decide +kernel
theorem dX5_goWith_46 : decode cX5_goWith 46 = .ok (.iload 7, 2) := by decide +kernel
theorem dX5_goWith_48 : decode cX5_goWith 48 = .ok (.iload 8, 2) := by decide +kernel
theorem dX5_goWith_50 : decode cX5_goWith 50 = .ok (.ior, 1) := by decide +kernel
theorem dX5_goWith_51 : decode cX5_goWith 51 = .ok (.iload 4, 2) := by decide +kernel
theorem dX5_goWith_53 : decode cX5_goWith 53 = .ok (.aload_n 0, 1) := by decide +kernel
theorem dX5_goWith_54 : decode cX5_goWith 54 = .ok (.iload_n 2, 1) := by decide +kernel
theorem dX5_goWith_55 : decode cX5_goWith 55 = .ok (.invokevirtual 196, 3) := by decide +kernel
theorem dX5_goWith_58 : decode cX5_goWith 58 = .ok (.iand, 1) := by decide +kernel
theorem dX5_goWith_59 : decode cX5_goWith 59 = .ok (.iconst (-1), 1) := by decide +kernel
theorem dX5_goWith_60 : decode cX5_goWith 60 = .ok (.ixor, 1) := by decide +kernel
theorem dX5_goWith_61 : decode cX5_goWith 61 = .ok (.iand, 1) := by decide +kernel
theorem dX5_goWith_62 : decode cX5_goWith 62 = .ok (.ifCond .ne 31, 3) := by decide +kernel
theorem dX5_goWith_65 : decode cX5_goWith 65 = .ok (.aload_n 0, 1) := by decide +kernel
theorem dX5_goWith_66 : decode cX5_goWith 66 = .ok (.getfield 47, 3) := by decide +kernel
theorem dX5_goWith_69 : decode cX5_goWith 69 = .ok (.bipush 16, 2) := by decide +kernel
theorem dX5_goWith_71 : decode cX5_goWith 71 = .ok (.iload 5, 2) := by decide +kernel
theorem dX5_goWith_73 : decode cX5_goWith 73 = .ok (.imul, 1) := by decide +kernel
theorem dX5_goWith_74 : decode cX5_goWith 74 = .ok (.iload 4, 2) := by decide +kernel
theorem dX5_goWith_76 : decode cX5_goWith 76 = .ok (.iload 7, 2) := by decide +kernel
theorem dX5_goWith_78 : decode cX5_goWith 78 = .ok (.iload 8, 2) := by decide +kernel
theorem dX5_goWith_80 : decode cX5_goWith 80 = .ok (.ior, 1) := by decide +kernel
theorem dX5_goWith_81 : decode cX5_goWith 81 = .ok (.iconst (-1), 1) := by decide +kernel
theorem dX5_goWith_82 : decode cX5_goWith 82 = .ok (.ixor, 1) := by decide +kernel
theorem dX5_goWith_83 : decode cX5_goWith 83 = .ok (.iand, 1) := by decide +kernel
theorem dX5_goWith_84 : decode cX5_goWith 84 = .ok (.iadd, 1) := by decide +kernel
theorem dX5_goWith_85 : decode cX5_goWith 85 = .ok (.baload, 1) := by decide +kernel
theorem dX5_goWith_86 : decode cX5_goWith 86 = .ok (.ifCond .eq 7, 3) := by decide +kernel
theorem dX5_goWith_89 : decode cX5_goWith 89 = .ok (.iconst 1, 1) := by decide +kernel
theorem dX5_goWith_90 : decode cX5_goWith 90 = .ok (.goto 4, 3) := by decide +kernel
theorem dX5_goWith_93 : decode cX5_goWith 93 = .ok (.iconst 0, 1) := by decide +kernel
theorem dX5_goWith_94 : decode cX5_goWith 94 = .ok (.istore 9, 2) := by decide +kernel
theorem dX5_goWith_96 : decode cX5_goWith 96 = .ok (.iload 9, 2) := by decide +kernel
theorem dX5_goWith_98 : decode cX5_goWith 98 = .ok (.ifCond .eq 22, 3) := by decide +kernel
theorem dX5_goWith_101 : decode cX5_goWith 101 = .ok (.aload_n 0, 1) := by decide +kernel
theorem dX5_goWith_102 : decode cX5_goWith 102 = .ok (.iload_n 2, 1) := by decide +kernel
theorem dX5_goWith_103 : decode cX5_goWith 103 = .ok (.iload_n 3, 1) := by decide +kernel
theorem dX5_goWith_104 : decode cX5_goWith 104 = .ok (.iload 7, 2) := by decide +kernel
theorem dX5_goWith_106 : decode cX5_goWith 106 = .ok (.iload 8, 2) := by decide +kernel
theorem dX5_goWith_108 : decode cX5_goWith 108 = .ok (.invokevirtual 187, 3) := by decide +kernel
theorem dX5_goWith_111 : decode cX5_goWith 111 = .ok (.aload_n 0, 1) := by decide +kernel
theorem dX5_goWith_112 : decode cX5_goWith 112 = .ok (.getfield 151, 3) := by decide +kernel
theorem dX5_goWith_115 : decode cX5_goWith 115 = .ok (.if_icmp .gt 5, 3) := by decide +kernel
theorem dX5_goWith_118 : decode cX5_goWith 118 = .ok (.iconst 1, 1) := by decide +kernel
theorem dX5_goWith_119 : decode cX5_goWith 119 = .ok (.ireturn, 1) := by decide +kernel
theorem dX5_goWith_120 : decode cX5_goWith 120 = .ok (.iinc 6 1, 3) := by decide +kernel
theorem dX5_goWith_123 : decode cX5_goWith 123 = .ok (.goto (-107), 3) := by decide +kernel
theorem dX5_goWith_126 : decode cX5_goWith 126 = .ok (.iconst 0, 1) := by decide +kernel
theorem dX5_goWith_127 : decode cX5_goWith 127 = .ok (.ireturn, 1) := by decide +kernel
set_option maxRecDepth 20000 in
theorem ggX5_isAtOnce_X5_has : GoodIn wsX5_isAtOnce wsX5_has := goodIn_r _ [5] (by rfl) (by decide +kernel)
set_option maxRecDepth 20000 in
theorem gX5_isAtOnce_X5_has : GoodIn wsX5_isAtOnce (va_wsS RX5 167 yX5_has wsX5_has) := goodIn_app (goodIn_of _ (by decide +kernel)) ggX5_isAtOnce_X5_has
set_option maxRecDepth 20000 in
theorem ggX5_isAtOnce_X5_areAtOneEnd : GoodIn wsX5_isAtOnce wsX5_areAtOneEnd := goodIn_r _ [9, 10, 11, 12, 4, 13, 14, 2, 3, 5, 51, 52, 53, 54, 55, 56, 57, 58, 59, 60, 61, 62, 63, 64, 65, 66, 67, 68, 69, 70, 71, 72, 73, 74, 75, 76, 77, 78, 79, 80, 81, 82] (by rfl) (by decide +kernel)
set_option maxRecDepth 20000 in
theorem gX5_isAtOnce_X5_areAtOneEnd : GoodIn wsX5_isAtOnce (wsV RX5 193 RX5 yX5_areAtOneEnd wsX5_areAtOneEnd) := goodIn_app (goodIn_of _ (by decide +kernel)) ggX5_isAtOnce_X5_areAtOneEnd
set_option maxRecDepth 20000 in
theorem ggX5_isAtOnce_X5_goWith : GoodIn wsX5_isAtOnce wsX5_goWith := goodIn_r _ [18, 19, 20, 21, 22, 23, 4, 24, 25, 14, 10, 11, 12, 13, 2, 3, 5, 26, 27, 28, 29, 30, 31, 32, 33, 34, 35, 36, 37, 38, 39, 40, 41, 42, 43, 44, 45, 46, 47, 48, 49, 50, 51, 52, 53, 54, 55, 56, 57, 58, 59, 60, 61, 62, 63, 64, 65, 66, 67, 68, 69, 70, 71, 72, 73, 74, 75, 76, 77, 78, 79, 80, 81, 82] (by rfl) (by decide +kernel)
set_option maxRecDepth 20000 in
theorem gX5_isAtOnce_X5_goWith : GoodIn wsX5_isAtOnce (wsV RX5 238 RX5 yX5_goWith wsX5_goWith) := goodIn_app (goodIn_of _ (by decide +kernel)) ggX5_isAtOnce_X5_goWith
theorem dX5_isAtOnce_0 : decode cX5_isAtOnce 0 = .ok (.iconst 0, 1) := by decide +kernel
theorem dX5_isAtOnce_1 : decode cX5_isAtOnce 1 = .ok (.istore_n 3, 1) := by decide +kernel
theorem dX5_isAtOnce_2 : decode cX5_isAtOnce 2 = .ok (.iload_n 1, 1) := by decide +kernel
theorem dX5_isAtOnce_3 : decode cX5_isAtOnce 3 = .ok (.iload_n 3, 1) := by decide +kernel
theorem dX5_isAtOnce_4 : decode cX5_isAtOnce 4 = .ok (.invokestatic 167, 3) := by decide +kernel
theorem dX5_isAtOnce_7 : decode cX5_isAtOnce 7 = .ok (.ifCond .ne 9, 3) := by decide +kernel
theorem dX5_isAtOnce_10 : decode cX5_isAtOnce 10 = .ok (.iinc 3 1, 3) := by decide +kernel
theorem dX5_isAtOnce_13 : decode cX5_isAtOnce 13 = .ok (.goto (-11), 3) := by decide +kernel
theorem dX5_isAtOnce_16 : decode cX5_isAtOnce 16 = .ok (.iload_n 3, 1) := by decide +kernel
theorem dX5_isAtOnce_17 : decode cX5_isAtOnce 17 = .ok (.iconst 1, 1) := by decide +kernel
theorem dX5_isAtOnce_18 : decode cX5_isAtOnce 18 = .ok (.iadd, 1) := by decide +kernel
theorem dX5_isAtOnce_19 : decode cX5_isAtOnce 19 = .ok (.istore 4, 2) := by decide +kernel
theorem dX5_isAtOnce_21 : decode cX5_isAtOnce 21 = .ok (.iload 4, 2) := by decide +kernel
theorem dX5_isAtOnce_23 : decode cX5_isAtOnce 23 = .ok (.aload_n 0, 1) := by decide +kernel
theorem dX5_isAtOnce_24 : decode cX5_isAtOnce 24 = .ok (.getfield 157, 3) := by decide +kernel
theorem dX5_isAtOnce_27 : decode cX5_isAtOnce 27 = .ok (.if_icmp .ge 42, 3) := by decide +kernel
theorem dX5_isAtOnce_30 : decode cX5_isAtOnce 30 = .ok (.iload_n 1, 1) := by decide +kernel
theorem dX5_isAtOnce_31 : decode cX5_isAtOnce 31 = .ok (.iload 4, 2) := by decide +kernel
theorem dX5_isAtOnce_33 : decode cX5_isAtOnce 33 = .ok (.invokestatic 167, 3) := by decide +kernel
theorem dX5_isAtOnce_36 : decode cX5_isAtOnce 36 = .ok (.ifCond .eq 27, 3) := by decide +kernel
theorem dX5_isAtOnce_39 : decode cX5_isAtOnce 39 = .ok (.aload_n 0, 1) := by decide +kernel
theorem dX5_isAtOnce_40 : decode cX5_isAtOnce 40 = .ok (.iload_n 3, 1) := by decide +kernel
theorem dX5_isAtOnce_41 : decode cX5_isAtOnce 41 = .ok (.iload 4, 2) := by decide +kernel
theorem dX5_isAtOnce_43 : decode cX5_isAtOnce 43 = .ok (.invokevirtual 193, 3) := by decide +kernel
theorem dX5_isAtOnce_46 : decode cX5_isAtOnce 46 = .ok (.ifCond .eq 17, 3) := by decide +kernel
theorem dX5_isAtOnce_49 : decode cX5_isAtOnce 49 = .ok (.aload_n 0, 1) := by decide +kernel
theorem dX5_isAtOnce_50 : decode cX5_isAtOnce 50 = .ok (.iload_n 1, 1) := by decide +kernel
theorem dX5_isAtOnce_51 : decode cX5_isAtOnce 51 = .ok (.iload_n 3, 1) := by decide +kernel
theorem dX5_isAtOnce_52 : decode cX5_isAtOnce 52 = .ok (.iload 4, 2) := by decide +kernel
theorem dX5_isAtOnce_54 : decode cX5_isAtOnce 54 = .ok (.iload_n 2, 1) := by decide +kernel
theorem dX5_isAtOnce_55 : decode cX5_isAtOnce 55 = .ok (.invokevirtual 238, 3) := by decide +kernel
theorem dX5_isAtOnce_58 : decode cX5_isAtOnce 58 = .ok (.ifCond .eq 5, 3) := by decide +kernel
theorem dX5_isAtOnce_61 : decode cX5_isAtOnce 61 = .ok (.iconst 1, 1) := by decide +kernel
theorem dX5_isAtOnce_62 : decode cX5_isAtOnce 62 = .ok (.ireturn, 1) := by decide +kernel
theorem dX5_isAtOnce_63 : decode cX5_isAtOnce 63 = .ok (.iinc 4 1, 3) := by decide +kernel
theorem dX5_isAtOnce_66 : decode cX5_isAtOnce 66 = .ok (.goto (-45), 3) := by decide +kernel
theorem dX5_isAtOnce_69 : decode cX5_isAtOnce 69 = .ok (.iconst 0, 1) := by decide +kernel
theorem dX5_isAtOnce_70 : decode cX5_isAtOnce 70 = .ok (.ireturn, 1) := by decide +kernel
set_option maxRecDepth 20000 in
theorem ggX5_match_X5_bits : GoodIn wsX5_match wsX5_bits := goodIn_r _ [8] (by rfl) (by decide +kernel)
set_option maxRecDepth 20000 in
theorem gX5_match_X5_bits : GoodIn wsX5_match (va_wsS RX5 242 yX5_bits wsX5_bits) := goodIn_app (goodIn_of _ (by decide +kernel)) ggX5_match_X5_bits
set_option maxRecDepth 20000 in
theorem ggX5_match_X5_isAtOnce : GoodIn wsX5_match wsX5_isAtOnce := goodIn_r _ [12, 1, 13, 14, 7, 15, 16, 17, 18, 19, 20, 21, 22, 23, 24, 25, 26, 27, 28, 3, 29, 30, 31, 32, 33, 2, 34, 35, 36, 37, 38, 39, 40, 41, 42, 43, 44, 45, 46, 47, 48, 49, 50, 51, 52, 53, 54, 55, 56, 57, 58, 59, 60, 61, 62, 63, 64, 65, 66, 67, 68, 69, 70, 71, 72, 73, 74, 75, 76, 77, 78, 79, 80, 81, 82, 83, 84, 85, 86, 87, 88, 89, 90] (by rfl) (by decide +kernel)
set_option maxRecDepth 20000 in
theorem gX5_match_X5_isAtOnce : GoodIn wsX5_match (wsV RX5 245 RX5 yX5_isAtOnce wsX5_isAtOnce) := goodIn_app (goodIn_of _ (by decide +kernel)) ggX5_match_X5_isAtOnce
theorem dX5_match_0 : decode cX5_match 0 = .ok (.aload_n 0, 1) := by decide +kernel
theorem dX5_match_1 : decode cX5_match 1 = .ok (.getfield 157, 3) := by decide +kernel
theorem dX5_match_4 : decode cX5_match 4 = .ok (.ifCond .ne 6, 3) := by decide +kernel
theorem dX5_match_7 : decode cX5_match 7 = .ok (.bipush (-4), 2) := by decide +kernel
theorem dX5_match_9 : decode cX5_match 9 = .ok (.ireturn, 1) := by decide +kernel
theorem dX5_match_10 : decode cX5_match 10 = .ok (.iconst 0, 1) := by decide +kernel
theorem dX5_match_11 : decode cX5_match 11 = .ok (.istore_n 1, 1) := by decide +kernel
theorem dX5_match_12 : decode cX5_match 12 = .ok (.iconst 1, 1) := by decide +kernel
theorem dX5_match_13 : decode cX5_match 13 = .ok (.aload_n 0, 1) := by decide +kernel
theorem dX5_match_14 : decode cX5_match 14 = .ok (.getfield 154, 3) := by decide +kernel
theorem dX5_match_17 : decode cX5_match 17 = .ok (.ishl, 1) := by decide +kernel
theorem dX5_match_18 : decode cX5_match 18 = .ok (.iconst 1, 1) := by decide +kernel
theorem dX5_match_19 : decode cX5_match 19 = .ok (.isub, 1) := by decide +kernel
theorem dX5_match_20 : decode cX5_match 20 = .ok (.istore_n 2, 1) := by decide +kernel
theorem dX5_match_21 : decode cX5_match 21 = .ok (.iconst 0, 1) := by decide +kernel
theorem dX5_match_22 : decode cX5_match 22 = .ok (.istore_n 3, 1) := by decide +kernel
theorem dX5_match_23 : decode cX5_match 23 = .ok (.iload_n 3, 1) := by decide +kernel
theorem dX5_match_24 : decode cX5_match 24 = .ok (.iconst 1, 1) := by decide +kernel
theorem dX5_match_25 : decode cX5_match 25 = .ok (.aload_n 0, 1) := by decide +kernel
theorem dX5_match_26 : decode cX5_match 26 = .ok (.getfield 157, 3) := by decide +kernel
theorem dX5_match_29 : decode cX5_match 29 = .ok (.ishl, 1) := by decide +kernel
theorem dX5_match_30 : decode cX5_match 30 = .ok (.if_icmp .ge 95, 3) := by decide +kernel
theorem dX5_match_33 : decode cX5_match 33 = .ok (.iconst 0, 1) := by decide +kernel
theorem dX5_match_34 : decode cX5_match 34 = .ok (.istore 4, 2) := by decide +kernel
theorem dX5_match_36 : decode cX5_match 36 = .ok (.iload 4, 2) := by decide +kernel
theorem dX5_match_38 : decode cX5_match 38 = .ok (.iload_n 2, 1) := by decide +kernel
theorem dX5_match_39 : decode cX5_match 39 = .ok (.if_icmp .gt 49, 3) := by decide +kernel
theorem dX5_match_42 : decode cX5_match 42 = .ok (.aload_n 0, 1) := by decide +kernel
theorem dX5_match_43 : decode cX5_match 43 = .ok (.getfield 47, 3) := by decide +kernel
theorem dX5_match_46 : decode cX5_match 46 = .ok (.bipush 16, 2) := by decide +kernel
theorem dX5_match_48 : decode cX5_match 48 = .ok (.iload_n 3, 1) := by decide +kernel
theorem dX5_match_49 : decode cX5_match 49 = .ok (.imul, 1) := by decide +kernel
theorem dX5_match_50 : decode cX5_match 50 = .ok (.iload 4, 2) := by decide +kernel
theorem dX5_match_52 : decode cX5_match 52 = .ok (.iadd, 1) := by decide +kernel
theorem dX5_match_53 : decode cX5_match 53 = .ok (.iload_n 3, 1) := by decide +kernel
theorem dX5_match_54 : decode cX5_match 54 = .ok (.ifCond .eq 22, 3) := by decide +kernel
theorem dX5_match_57 : decode cX5_match 57 = .ok (.iload_n 3, 1) := by decide +kernel
theorem dX5_match_58 : decode cX5_match 58 = .ok (.invokestatic 242, 3) := by decide +kernel
theorem dX5_match_61 : decode cX5_match 61 = .ok (.iconst 2, 1) := by decide +kernel
theorem dX5_match_62 : decode cX5_match 62 = .ok (.irem, 1) := by decide +kernel
theorem dX5_match_63 : decode cX5_match 63 = .ok (.ifCond .ne 17, 3) := by decide +kernel
theorem dX5_match_66 : decode cX5_match 66 = .ok (.aload_n 0, 1) := by decide +kernel
theorem dX5_match_67 : decode cX5_match 67 = .ok (.iload_n 3, 1) := by decide +kernel
theorem dX5_match_68 : decode cX5_match 68 = .ok (.iload 4, 2) := by decide +kernel
theorem dX5_match_70 : decode cX5_match 70 = .ok (.invokevirtual 245, 3) := by decide +kernel
theorem dX5_match_73 : decode cX5_match 73 = .ok (.ifCond .eq 7, 3) := by decide +kernel
theorem dX5_match_76 : decode cX5_match 76 = .ok (.iconst 1, 1) := by decide +kernel
theorem dX5_match_77 : decode cX5_match 77 = .ok (.goto 4, 3) := by decide +kernel
theorem dX5_match_80 : decode cX5_match 80 = .ok (.iconst 0, 1) := by decide +kernel
theorem dX5_match_81 : decode cX5_match 81 = .ok (.bastore, 1) := by decide +kernel
theorem dX5_match_82 : decode cX5_match 82 = .ok (.iinc 4 1, 3) := by decide +kernel
theorem dX5_match_85 : decode cX5_match 85 = .ok (.goto (-49), 3) := by decide +kernel
theorem dX5_match_88 : decode cX5_match 88 = .ok (.aload_n 0, 1) := by decide +kernel
theorem dX5_match_89 : decode cX5_match 89 = .ok (.getfield 47, 3) := by decide +kernel
theorem dX5_match_92 : decode cX5_match 92 = .ok (.bipush 16, 2) := by decide +kernel
theorem dX5_match_94 : decode cX5_match 94 = .ok (.iload_n 3, 1) := by decide +kernel
theorem dX5_match_95 : decode cX5_match 95 = .ok (.imul, 1) := by decide +kernel
theorem dX5_match_96 : decode cX5_match 96 = .ok (.iload_n 2, 1) := by decide +kernel
theorem dX5_match_97 : decode cX5_match 97 = .ok (.iadd, 1) := by decide +kernel
theorem dX5_match_98 : decode cX5_match 98 = .ok (.baload, 1) := by decide +kernel
theorem dX5_match_99 : decode cX5_match 99 = .ok (.ifCond .eq 18, 3) := by decide +kernel
theorem dX5_match_102 : decode cX5_match 102 = .ok (.iload_n 3, 1) := by decide +kernel
theorem dX5_match_103 : decode cX5_match 103 = .ok (.invokestatic 242, 3) := by decide +kernel
theorem dX5_match_106 : decode cX5_match 106 = .ok (.iload_n 1, 1) := by decide +kernel
theorem dX5_match_107 : decode cX5_match 107 = .ok (.invokestatic 242, 3) := by decide +kernel
theorem dX5_match_110 : decode cX5_match 110 = .ok (.if_icmp .le 7, 3) := by decide +kernel
theorem dX5_match_113 : decode cX5_match 113 = .ok (.iload_n 3, 1) := by decide +kernel
theorem dX5_match_114 : decode cX5_match 114 = .ok (.goto 4, 3) := by decide +kernel
theorem dX5_match_117 : decode cX5_match 117 = .ok (.iload_n 1, 1) := by decide +kernel
theorem dX5_match_118 : decode cX5_match 118 = .ok (.istore_n 1, 1) := by decide +kernel
theorem dX5_match_119 : decode cX5_match 119 = .ok (.iinc 3 1, 3) := by decide +kernel
theorem dX5_match_122 : decode cX5_match 122 = .ok (.goto (-99), 3) := by decide +kernel
theorem dX5_match_125 : decode cX5_match 125 = .ok (.aload_n 0, 1) := by decide +kernel
theorem dX5_match_126 : decode cX5_match 126 = .ok (.iload_n 1, 1) := by decide +kernel
theorem dX5_match_127 : decode cX5_match 127 = .ok (.putfield 70, 3) := by decide +kernel
theorem dX5_match_130 : decode cX5_match 130 = .ok (.iload_n 1, 1) := by decide +kernel
theorem dX5_match_131 : decode cX5_match 131 = .ok (.invokestatic 242, 3) := by decide +kernel
theorem dX5_match_134 : decode cX5_match 134 = .ok (.iconst 2, 1) := by decide +kernel
theorem dX5_match_135 : decode cX5_match 135 = .ok (.idiv, 1) := by decide +kernel
theorem dX5_match_136 : decode cX5_match 136 = .ok (.ireturn, 1) := by decide +kernel
set_option maxRecDepth 20000 in
theorem ggX5_waits_X5_isOne : GoodIn wsX5_waits wsX5_isOne := goodIn_r _ [6, 7, 8, 9, 5, 10, 41, 42, 43, 44, 45, 46, 47, 48, 49, 50, 51, 52, 53, 54, 55, 56, 57, 58, 59, 60, 61, 62, 63, 64, 65, 66, 67, 68, 69, 70, 71, 72] (by rfl) (by decide +kernel)
set_option maxRecDepth 20000 in
theorem gX5_waits_X5_isOne : GoodIn wsX5_waits (wsV RX5 160 RX5 yX5_isOne wsX5_isOne) := goodIn_app (goodIn_of _ (by decide +kernel)) ggX5_waits_X5_isOne
set_option maxRecDepth 20000 in
theorem ggX5_waits_X5_stonesBy : GoodIn wsX5_waits wsX5_stonesBy := goodIn_r _ [14, 15, 16, 17, 18, 19, 5, 20, 21, 22, 23, 41, 42, 43, 44, 45, 46, 47, 48, 49, 50, 51, 52, 53, 54, 55, 56, 57, 58, 59, 60, 61, 62, 63, 64, 65, 66, 67, 68, 69, 70, 71, 72] (by rfl) (by decide +kernel)
set_option maxRecDepth 20000 in
theorem gX5_waits_X5_stonesBy : GoodIn wsX5_waits (wsV RX5 196 RX5 yX5_stonesBy wsX5_stonesBy) := goodIn_app (goodIn_of _ (by decide +kernel)) ggX5_waits_X5_stonesBy
set_option maxRecDepth 20000 in
theorem ggX5_waits_X5_counts : GoodIn wsX5_waits wsX5_counts := goodIn_r _ [27, 28, 29, 16, 30, 31, 5, 32, 41, 42, 43, 44, 45, 46, 47, 48, 49, 50, 51, 52, 53, 54, 55, 56, 57, 58, 59, 60, 61, 62, 63, 64, 65, 66, 67, 68, 69, 70, 71, 72] (by rfl) (by decide +kernel)
set_option maxRecDepth 20000 in
theorem gX5_waits_X5_counts : GoodIn wsX5_waits (wsV RX5 174 RX5 yX5_counts wsX5_counts) := goodIn_app (goodIn_of _ (by decide +kernel)) ggX5_waits_X5_counts
set_option maxRecDepth 20000 in
theorem ggX5_waits_X5_poundsOf : GoodIn wsX5_waits wsX5_poundsOf := goodIn_r _ [36, 15, 37, 21, 22, 5, 23, 41, 42, 43, 44, 45, 46, 47, 48, 49, 50, 51, 52, 53, 54, 55, 56, 57, 58, 59, 60, 61, 62, 63, 64, 65, 66, 67, 68, 69, 70, 71, 72] (by rfl) (by decide +kernel)
set_option maxRecDepth 20000 in
theorem gX5_waits_X5_poundsOf : GoodIn wsX5_waits (wsV RX5 177 RX5 yX5_poundsOf wsX5_poundsOf) := goodIn_app (goodIn_of _ (by decide +kernel)) ggX5_waits_X5_poundsOf
set_option maxRecDepth 20000 in
theorem ggX5_waits_X5_apart : GoodIn wsX5_waits wsX5_apart := goodIn_r _ [40] (by rfl) (by decide +kernel)
set_option maxRecDepth 20000 in
theorem gX5_waits_X5_apart : GoodIn wsX5_waits (va_wsS RX5 171 yX5_apart wsX5_apart) := goodIn_app (goodIn_of _ (by decide +kernel)) ggX5_waits_X5_apart
theorem dX5_waits_0 : decode cX5_waits 0 = .ok (.aload_n 0, 1) := by decide +kernel
theorem dX5_waits_1 : decode cX5_waits 1 = .ok (.iload_n 1, 1) := by decide +kernel
theorem dX5_waits_2 : decode cX5_waits 2 = .ok (.invokevirtual 160, 3) := by decide +kernel
theorem dX5_waits_5 : decode cX5_waits 5 = .ok (.ifCond .ne 5, 3) := by decide +kernel
theorem dX5_waits_8 : decode cX5_waits 8 = .ok (.iconst (-1), 1) := by decide +kernel
theorem dX5_waits_9 : decode cX5_waits 9 = .ok (.ireturn, 1) := by decide +kernel
theorem dX5_waits_10 : decode cX5_waits 10 = .ok (.aload_n 0, 1) := by decide +kernel
theorem dX5_waits_11 : decode cX5_waits 11 = .ok (.iload_n 1, 1) := by decide +kernel
theorem dX5_waits_12 : decode cX5_waits 12 = .ok (.invokevirtual 196, 3) := by decide +kernel
theorem dX5_waits_15 : decode cX5_waits 15 = .ok (.istore_n 2, 1) := by decide +kernel
theorem dX5_waits_16 : decode cX5_waits 16 = .ok (.iconst 1, 1) := by decide +kernel
theorem dX5_waits_17 : decode cX5_waits 17 = .ok (.istore_n 3, 1) := by decide +kernel
theorem dX5_waits_18 : decode cX5_waits 18 = .ok (.iload_n 3, 1) := by decide +kernel
theorem dX5_waits_19 : decode cX5_waits 19 = .ok (.bipush 100, 2) := by decide +kernel
theorem dX5_waits_21 : decode cX5_waits 21 = .ok (.if_icmp .ge 104, 3) := by decide +kernel
theorem dX5_waits_24 : decode cX5_waits 24 = .ok (.iconst 0, 1) := by decide +kernel
theorem dX5_waits_25 : decode cX5_waits 25 = .ok (.istore 4, 2) := by decide +kernel
theorem dX5_waits_27 : decode cX5_waits 27 = .ok (.iload 4, 2) := by decide +kernel
theorem dX5_waits_29 : decode cX5_waits 29 = .ok (.sipush 256, 3) := by decide +kernel
theorem dX5_waits_32 : decode cX5_waits 32 = .ok (.if_icmp .ge 87, 3) := by decide +kernel
theorem dX5_waits_35 : decode cX5_waits 35 = .ok (.iload 4, 2) := by decide +kernel
theorem dX5_waits_37 : decode cX5_waits 37 = .ok (.bipush 16, 2) := by decide +kernel
theorem dX5_waits_39 : decode cX5_waits 39 = .ok (.idiv, 1) := by decide +kernel
theorem dX5_waits_40 : decode cX5_waits 40 = .ok (.istore 5, 2) := by decide +kernel
theorem dX5_waits_42 : decode cX5_waits 42 = .ok (.iload 4, 2) := by decide +kernel
theorem dX5_waits_44 : decode cX5_waits 44 = .ok (.bipush 16, 2) := by decide +kernel
theorem dX5_waits_46 : decode cX5_waits 46 = .ok (.irem, 1) := by decide +kernel
theorem dX5_waits_47 : decode cX5_waits 47 = .ok (.istore 6, 2) := by decide +kernel
theorem dX5_waits_49 : decode cX5_waits 49 = .ok (.iload 5, 2) := by decide +kernel
theorem dX5_waits_51 : decode cX5_waits 51 = .ok (.iload 6, 2) := by decide +kernel
theorem dX5_waits_53 : decode cX5_waits 53 = .ok (.iand, 1) := by decide +kernel
theorem dX5_waits_54 : decode cX5_waits 54 = .ok (.ifCond .ne 19, 3) := by decide +kernel
theorem dX5_waits_57 : decode cX5_waits 57 = .ok (.iload 5, 2) := by decide +kernel
theorem dX5_waits_59 : decode cX5_waits 59 = .ok (.iload 6, 2) := by decide +kernel
theorem dX5_waits_61 : decode cX5_waits 61 = .ok (.ior, 1) := by decide +kernel
theorem dX5_waits_62 : decode cX5_waits 62 = .ok (.iload_n 2, 1) := by decide +kernel
theorem dX5_waits_63 : decode cX5_waits 63 = .ok (.iconst (-1), 1) := by decide +kernel
theorem dX5_waits_64 : decode cX5_waits 64 = .ok (.ixor, 1) := by decide +kernel
theorem dX5_waits_65 : decode cX5_waits 65 = .ok (.iand, 1) := by decide +kernel
theorem dX5_waits_66 : decode cX5_waits 66 = .ok (.ifCond .ne 7, 3) := by decide +kernel
theorem dX5_waits_69 : decode cX5_waits 69 = .ok (.iconst 1, 1) := by decide +kernel
theorem dX5_waits_70 : decode cX5_waits 70 = .ok (.goto 4, 3) := by decide +kernel
theorem dX5_waits_73 : decode cX5_waits 73 = .ok (.iconst 0, 1) := by decide +kernel
theorem dX5_waits_74 : decode cX5_waits 74 = .ok (.istore 7, 2) := by decide +kernel
theorem dX5_waits_76 : decode cX5_waits 76 = .ok (.iload 7, 2) := by decide +kernel
theorem dX5_waits_78 : decode cX5_waits 78 = .ok (.ifCond .eq 35, 3) := by decide +kernel
theorem dX5_waits_81 : decode cX5_waits 81 = .ok (.aload_n 0, 1) := by decide +kernel
theorem dX5_waits_82 : decode cX5_waits 82 = .ok (.iload_n 1, 1) := by decide +kernel
theorem dX5_waits_83 : decode cX5_waits 83 = .ok (.invokevirtual 174, 3) := by decide +kernel
theorem dX5_waits_86 : decode cX5_waits 86 = .ok (.aload_n 0, 1) := by decide +kernel
theorem dX5_waits_87 : decode cX5_waits 87 = .ok (.iload 5, 2) := by decide +kernel
theorem dX5_waits_89 : decode cX5_waits 89 = .ok (.invokevirtual 177, 3) := by decide +kernel
theorem dX5_waits_92 : decode cX5_waits 92 = .ok (.iadd, 1) := by decide +kernel
theorem dX5_waits_93 : decode cX5_waits 93 = .ok (.iload_n 3, 1) := by decide +kernel
theorem dX5_waits_94 : decode cX5_waits 94 = .ok (.aload_n 0, 1) := by decide +kernel
theorem dX5_waits_95 : decode cX5_waits 95 = .ok (.iload 6, 2) := by decide +kernel
theorem dX5_waits_97 : decode cX5_waits 97 = .ok (.invokevirtual 177, 3) := by decide +kernel
theorem dX5_waits_100 : decode cX5_waits 100 = .ok (.iadd, 1) := by decide +kernel
theorem dX5_waits_101 : decode cX5_waits 101 = .ok (.invokestatic 171, 3) := by decide +kernel
theorem dX5_waits_104 : decode cX5_waits 104 = .ok (.aload_n 0, 1) := by decide +kernel
theorem dX5_waits_105 : decode cX5_waits 105 = .ok (.getfield 151, 3) := by decide +kernel
theorem dX5_waits_108 : decode cX5_waits 108 = .ok (.if_icmp .gt 5, 3) := by decide +kernel
theorem dX5_waits_111 : decode cX5_waits 111 = .ok (.iload_n 3, 1) := by decide +kernel
theorem dX5_waits_112 : decode cX5_waits 112 = .ok (.ireturn, 1) := by decide +kernel
theorem dX5_waits_113 : decode cX5_waits 113 = .ok (.iinc 4 1, 3) := by decide +kernel
theorem dX5_waits_116 : decode cX5_waits 116 = .ok (.goto (-89), 3) := by decide +kernel
theorem dX5_waits_119 : decode cX5_waits 119 = .ok (.iinc 3 1, 3) := by decide +kernel
theorem dX5_waits_122 : decode cX5_waits 122 = .ok (.goto (-104), 3) := by decide +kernel
theorem dX5_waits_125 : decode cX5_waits 125 = .ok (.bipush (-9), 2) := by decide +kernel
theorem dX5_waits_127 : decode cX5_waits 127 = .ok (.ireturn, 1) := by decide +kernel
set_option maxRecDepth 20000 in
theorem ggX5_worth_X5_pairsBut : GoodIn wsX5_worth wsX5_pairsBut := goodIn_r _ [8, 1, 9, 10, 11, 7, 12, 13, 14, 15, 16, 17, 18, 19, 20, 21, 22, 23, 24, 25, 26, 27, 28, 29, 2, 30, 31, 32, 33, 34, 35, 36, 37, 38, 39, 40, 41, 42, 43, 44, 45, 46, 47, 48, 49, 50, 51, 52, 53, 54, 55, 56, 57, 58, 59, 60, 61, 62, 63, 64, 65, 66, 67, 68, 69, 70, 71, 72, 73, 74, 75, 76, 77, 78, 79, 80, 81, 82, 83, 84, 85, 86, 87, 88, 89, 90, 91] (by rfl) (by decide +kernel)
set_option maxRecDepth 20000 in
theorem gX5_worth_X5_pairsBut : GoodIn wsX5_worth (wsV RX5 235 RX5 yX5_pairsBut wsX5_pairsBut) := goodIn_app (goodIn_of _ (by decide +kernel)) ggX5_worth_X5_pairsBut
theorem dX5_worth_0 : decode cX5_worth 0 = .ok (.aload_n 0, 1) := by decide +kernel
theorem dX5_worth_1 : decode cX5_worth 1 = .ok (.getfield 157, 3) := by decide +kernel
theorem dX5_worth_4 : decode cX5_worth 4 = .ok (.ifCond .ne 6, 3) := by decide +kernel
theorem dX5_worth_7 : decode cX5_worth 7 = .ok (.bipush (-4), 2) := by decide +kernel
theorem dX5_worth_9 : decode cX5_worth 9 = .ok (.ireturn, 1) := by decide +kernel
theorem dX5_worth_10 : decode cX5_worth 10 = .ok (.bipush (-9), 2) := by decide +kernel
theorem dX5_worth_12 : decode cX5_worth 12 = .ok (.istore_n 1, 1) := by decide +kernel
theorem dX5_worth_13 : decode cX5_worth 13 = .ok (.sipush 9999, 3) := by decide +kernel
theorem dX5_worth_16 : decode cX5_worth 16 = .ok (.istore_n 2, 1) := by decide +kernel
theorem dX5_worth_17 : decode cX5_worth 17 = .ok (.iconst 0, 1) := by decide +kernel
theorem dX5_worth_18 : decode cX5_worth 18 = .ok (.istore_n 3, 1) := by decide +kernel
theorem dX5_worth_19 : decode cX5_worth 19 = .ok (.iload_n 3, 1) := by decide +kernel
theorem dX5_worth_20 : decode cX5_worth 20 = .ok (.aload_n 0, 1) := by decide +kernel
theorem dX5_worth_21 : decode cX5_worth 21 = .ok (.getfield 154, 3) := by decide +kernel
theorem dX5_worth_24 : decode cX5_worth 24 = .ok (.if_icmp .ge 43, 3) := by decide +kernel
theorem dX5_worth_27 : decode cX5_worth 27 = .ok (.aload_n 0, 1) := by decide +kernel
theorem dX5_worth_28 : decode cX5_worth 28 = .ok (.iconst 1, 1) := by decide +kernel
theorem dX5_worth_29 : decode cX5_worth 29 = .ok (.iload_n 3, 1) := by decide +kernel
theorem dX5_worth_30 : decode cX5_worth 30 = .ok (.ishl, 1) := by decide +kernel
theorem dX5_worth_31 : decode cX5_worth 31 = .ok (.invokevirtual 235, 3) := by decide +kernel
theorem dX5_worth_34 : decode cX5_worth 34 = .ok (.istore 4, 2) := by decide +kernel
theorem dX5_worth_36 : decode cX5_worth 36 = .ok (.iload 4, 2) := by decide +kernel
theorem dX5_worth_38 : decode cX5_worth 38 = .ok (.iload_n 2, 1) := by decide +kernel
theorem dX5_worth_39 : decode cX5_worth 39 = .ok (.if_icmp .ge 7, 3) := by decide +kernel
theorem dX5_worth_42 : decode cX5_worth 42 = .ok (.iload_n 3, 1) := by decide +kernel
theorem dX5_worth_43 : decode cX5_worth 43 = .ok (.goto 4, 3) := by decide +kernel
theorem dX5_worth_46 : decode cX5_worth 46 = .ok (.iload_n 1, 1) := by decide +kernel
theorem dX5_worth_47 : decode cX5_worth 47 = .ok (.istore_n 1, 1) := by decide +kernel
theorem dX5_worth_48 : decode cX5_worth 48 = .ok (.iload 4, 2) := by decide +kernel
theorem dX5_worth_50 : decode cX5_worth 50 = .ok (.iload_n 2, 1) := by decide +kernel
theorem dX5_worth_51 : decode cX5_worth 51 = .ok (.if_icmp .ge 8, 3) := by decide +kernel
theorem dX5_worth_54 : decode cX5_worth 54 = .ok (.iload 4, 2) := by decide +kernel
theorem dX5_worth_56 : decode cX5_worth 56 = .ok (.goto 4, 3) := by decide +kernel
theorem dX5_worth_59 : decode cX5_worth 59 = .ok (.iload_n 2, 1) := by decide +kernel
theorem dX5_worth_60 : decode cX5_worth 60 = .ok (.istore_n 2, 1) := by decide +kernel
theorem dX5_worth_61 : decode cX5_worth 61 = .ok (.iinc 3 1, 3) := by decide +kernel
theorem dX5_worth_64 : decode cX5_worth 64 = .ok (.goto (-45), 3) := by decide +kernel
theorem dX5_worth_67 : decode cX5_worth 67 = .ok (.aload_n 0, 1) := by decide +kernel
theorem dX5_worth_68 : decode cX5_worth 68 = .ok (.iload_n 1, 1) := by decide +kernel
theorem dX5_worth_69 : decode cX5_worth 69 = .ok (.bipush (-9), 2) := by decide +kernel
theorem dX5_worth_71 : decode cX5_worth 71 = .ok (.if_icmp .ne 10, 3) := by decide +kernel
theorem dX5_worth_74 : decode cX5_worth 74 = .ok (.aload_n 0, 1) := by decide +kernel
theorem dX5_worth_75 : decode cX5_worth 75 = .ok (.getfield 70, 3) := by decide +kernel
theorem dX5_worth_78 : decode cX5_worth 78 = .ok (.goto 10, 3) := by decide +kernel
theorem dX5_worth_81 : decode cX5_worth 81 = .ok (.aload_n 0, 1) := by decide +kernel
theorem dX5_worth_82 : decode cX5_worth 82 = .ok (.iconst 0, 1) := by decide +kernel
theorem dX5_worth_83 : decode cX5_worth 83 = .ok (.invokevirtual 235, 3) := by decide +kernel
theorem dX5_worth_86 : decode cX5_worth 86 = .ok (.iload_n 2, 1) := by decide +kernel
theorem dX5_worth_87 : decode cX5_worth 87 = .ok (.isub, 1) := by decide +kernel
theorem dX5_worth_88 : decode cX5_worth 88 = .ok (.putfield 70, 3) := by decide +kernel
theorem dX5_worth_91 : decode cX5_worth 91 = .ok (.iload_n 1, 1) := by decide +kernel
theorem dX5_worth_92 : decode cX5_worth 92 = .ok (.ireturn, 1) := by decide +kernel
set_option maxRecDepth 20000 in
theorem ggX5_loaves_X5_areTwo : GoodIn wsX5_loaves wsX5_areTwo := goodIn_r _ [9, 10, 11, 12, 8, 13, 14, 15, 16, 17, 39, 40, 41, 42, 43, 44, 45, 46, 47, 48, 49, 50, 51, 52, 53, 54, 55, 56, 57, 58, 59, 60, 61, 62, 63, 64, 65, 66, 67, 68, 69, 70] (by rfl) (by decide +kernel)
set_option maxRecDepth 20000 in
theorem gX5_loaves_X5_areTwo : GoodIn wsX5_loaves (wsV RX5 217 RX5 yX5_areTwo wsX5_areTwo) := goodIn_app (goodIn_of _ (by decide +kernel)) ggX5_loaves_X5_areTwo
set_option maxRecDepth 20000 in
theorem ggX5_loaves_X5_areAtOneEnd : GoodIn wsX5_loaves wsX5_areAtOneEnd := goodIn_r _ [21, 22, 23, 24, 8, 25, 1, 26, 27, 28, 39, 40, 41, 42, 43, 44, 45, 46, 47, 48, 49, 50, 51, 52, 53, 54, 55, 56, 57, 58, 59, 60, 61, 62, 63, 64, 65, 66, 67, 68, 69, 70] (by rfl) (by decide +kernel)
set_option maxRecDepth 20000 in
theorem gX5_loaves_X5_areAtOneEnd : GoodIn wsX5_loaves (wsV RX5 193 RX5 yX5_areAtOneEnd wsX5_areAtOneEnd) := goodIn_app (goodIn_of _ (by decide +kernel)) ggX5_loaves_X5_areAtOneEnd
set_option maxRecDepth 20000 in
theorem ggX5_loaves_X5_countsBy : GoodIn wsX5_loaves wsX5_countsBy := goodIn_r _ [31] (by rfl) (by decide +kernel)
set_option maxRecDepth 20000 in
theorem gX5_loaves_X5_countsBy : GoodIn wsX5_loaves (va_wsS RX5 163 yX5_countsBy wsX5_countsBy) := goodIn_app (goodIn_of _ (by decide +kernel)) ggX5_loaves_X5_countsBy
set_option maxRecDepth 20000 in
theorem ggX5_loaves_X5_sinkUnder : GoodIn wsX5_loaves wsX5_sinkUnder := goodIn_r _ [35, 2, 36, 37, 8, 38, 39, 40, 41, 42, 43, 44, 45, 46, 47, 48, 49, 50, 51, 52, 53, 54, 55, 56, 57, 58, 59, 60, 61, 62, 63, 64, 65, 66, 67, 68, 69, 70] (by rfl) (by decide +kernel)
set_option maxRecDepth 20000 in
theorem gX5_loaves_X5_sinkUnder : GoodIn wsX5_loaves (wsV RX5 180 RX5 yX5_sinkUnder wsX5_sinkUnder) := goodIn_app (goodIn_of _ (by decide +kernel)) ggX5_loaves_X5_sinkUnder
theorem dX5_loaves_0 : decode cX5_loaves 0 = .ok (.aload_n 0, 1) := by decide +kernel
theorem dX5_loaves_1 : decode cX5_loaves 1 = .ok (.iload_n 1, 1) := by decide +kernel
theorem dX5_loaves_2 : decode cX5_loaves 2 = .ok (.iload_n 2, 1) := by decide +kernel
theorem dX5_loaves_3 : decode cX5_loaves 3 = .ok (.invokevirtual 217, 3) := by decide +kernel
theorem dX5_loaves_6 : decode cX5_loaves 6 = .ok (.ifCond .ne 5, 3) := by decide +kernel
theorem dX5_loaves_9 : decode cX5_loaves 9 = .ok (.iconst (-1), 1) := by decide +kernel
theorem dX5_loaves_10 : decode cX5_loaves 10 = .ok (.ireturn, 1) := by decide +kernel
theorem dX5_loaves_11 : decode cX5_loaves 11 = .ok (.aload_n 0, 1) := by decide +kernel
theorem dX5_loaves_12 : decode cX5_loaves 12 = .ok (.iload_n 1, 1) := by decide +kernel
theorem dX5_loaves_13 : decode cX5_loaves 13 = .ok (.iload_n 2, 1) := by decide +kernel
theorem dX5_loaves_14 : decode cX5_loaves 14 = .ok (.invokevirtual 193, 3) := by decide +kernel
theorem dX5_loaves_17 : decode cX5_loaves 17 = .ok (.ifCond .ne 6, 3) := by decide +kernel
theorem dX5_loaves_20 : decode cX5_loaves 20 = .ok (.bipush (-4), 2) := by decide +kernel
theorem dX5_loaves_22 : decode cX5_loaves 22 = .ok (.ireturn, 1) := by decide +kernel
theorem dX5_loaves_23 : decode cX5_loaves 23 = .ok (.iconst 0, 1) := by decide +kernel
theorem dX5_loaves_24 : decode cX5_loaves 24 = .ok (.istore_n 3, 1) := by decide +kernel
theorem dX5_loaves_25 : decode cX5_loaves 25 = .ok (.aload_n 0, 1) := by decide +kernel
theorem dX5_loaves_26 : decode cX5_loaves 26 = .ok (.getfield 7, 3) := by decide +kernel
theorem dX5_loaves_29 : decode cX5_loaves 29 = .ok (.iconst 1, 1) := by decide +kernel
theorem dX5_loaves_30 : decode cX5_loaves 30 = .ok (.iaload, 1) := by decide +kernel
theorem dX5_loaves_31 : decode cX5_loaves 31 = .ok (.iload_n 3, 1) := by decide +kernel
theorem dX5_loaves_32 : decode cX5_loaves 32 = .ok (.iadd, 1) := by decide +kernel
theorem dX5_loaves_33 : decode cX5_loaves 33 = .ok (.bipush 10, 2) := by decide +kernel
theorem dX5_loaves_35 : decode cX5_loaves 35 = .ok (.if_icmp .ge 83, 3) := by decide +kernel
theorem dX5_loaves_38 : decode cX5_loaves 38 = .ok (.aload_n 0, 1) := by decide +kernel
theorem dX5_loaves_39 : decode cX5_loaves 39 = .ok (.getfield 16, 3) := by decide +kernel
theorem dX5_loaves_42 : decode cX5_loaves 42 = .ok (.iload_n 1, 1) := by decide +kernel
theorem dX5_loaves_43 : decode cX5_loaves 43 = .ok (.iaload, 1) := by decide +kernel
theorem dX5_loaves_44 : decode cX5_loaves 44 = .ok (.aload_n 0, 1) := by decide +kernel
theorem dX5_loaves_45 : decode cX5_loaves 45 = .ok (.getfield 19, 3) := by decide +kernel
theorem dX5_loaves_48 : decode cX5_loaves 48 = .ok (.iload_n 1, 1) := by decide +kernel
theorem dX5_loaves_49 : decode cX5_loaves 49 = .ok (.iaload, 1) := by decide +kernel
theorem dX5_loaves_50 : decode cX5_loaves 50 = .ok (.aload_n 0, 1) := by decide +kernel
theorem dX5_loaves_51 : decode cX5_loaves 51 = .ok (.getfield 7, 3) := by decide +kernel
theorem dX5_loaves_54 : decode cX5_loaves 54 = .ok (.iconst 1, 1) := by decide +kernel
theorem dX5_loaves_55 : decode cX5_loaves 55 = .ok (.iaload, 1) := by decide +kernel
theorem dX5_loaves_56 : decode cX5_loaves 56 = .ok (.iload_n 3, 1) := by decide +kernel
theorem dX5_loaves_57 : decode cX5_loaves 57 = .ok (.iadd, 1) := by decide +kernel
theorem dX5_loaves_58 : decode cX5_loaves 58 = .ok (.invokestatic 163, 3) := by decide +kernel
theorem dX5_loaves_61 : decode cX5_loaves 61 = .ok (.istore 4, 2) := by decide +kernel
theorem dX5_loaves_63 : decode cX5_loaves 63 = .ok (.aload_n 0, 1) := by decide +kernel
theorem dX5_loaves_64 : decode cX5_loaves 64 = .ok (.getfield 16, 3) := by decide +kernel
theorem dX5_loaves_67 : decode cX5_loaves 67 = .ok (.iload_n 2, 1) := by decide +kernel
theorem dX5_loaves_68 : decode cX5_loaves 68 = .ok (.iaload, 1) := by decide +kernel
theorem dX5_loaves_69 : decode cX5_loaves 69 = .ok (.aload_n 0, 1) := by decide +kernel
theorem dX5_loaves_70 : decode cX5_loaves 70 = .ok (.getfield 19, 3) := by decide +kernel
theorem dX5_loaves_73 : decode cX5_loaves 73 = .ok (.iload_n 2, 1) := by decide +kernel
theorem dX5_loaves_74 : decode cX5_loaves 74 = .ok (.iaload, 1) := by decide +kernel
theorem dX5_loaves_75 : decode cX5_loaves 75 = .ok (.aload_n 0, 1) := by decide +kernel
theorem dX5_loaves_76 : decode cX5_loaves 76 = .ok (.getfield 7, 3) := by decide +kernel
theorem dX5_loaves_79 : decode cX5_loaves 79 = .ok (.iconst 1, 1) := by decide +kernel
theorem dX5_loaves_80 : decode cX5_loaves 80 = .ok (.iaload, 1) := by decide +kernel
theorem dX5_loaves_81 : decode cX5_loaves 81 = .ok (.iload_n 3, 1) := by decide +kernel
theorem dX5_loaves_82 : decode cX5_loaves 82 = .ok (.iadd, 1) := by decide +kernel
theorem dX5_loaves_83 : decode cX5_loaves 83 = .ok (.invokestatic 163, 3) := by decide +kernel
theorem dX5_loaves_86 : decode cX5_loaves 86 = .ok (.istore 5, 2) := by decide +kernel
theorem dX5_loaves_88 : decode cX5_loaves 88 = .ok (.aload_n 0, 1) := by decide +kernel
theorem dX5_loaves_89 : decode cX5_loaves 89 = .ok (.aload_n 0, 1) := by decide +kernel
theorem dX5_loaves_90 : decode cX5_loaves 90 = .ok (.getfield 16, 3) := by decide +kernel
theorem dX5_loaves_93 : decode cX5_loaves 93 = .ok (.iload_n 1, 1) := by decide +kernel
theorem dX5_loaves_94 : decode cX5_loaves 94 = .ok (.iaload, 1) := by decide +kernel
theorem dX5_loaves_95 : decode cX5_loaves 95 = .ok (.iload 4, 2) := by decide +kernel
theorem dX5_loaves_97 : decode cX5_loaves 97 = .ok (.iload_n 2, 1) := by decide +kernel
theorem dX5_loaves_98 : decode cX5_loaves 98 = .ok (.iload 5, 2) := by decide +kernel
theorem dX5_loaves_100 : decode cX5_loaves 100 = .ok (.invokevirtual 180, 3) := by decide +kernel
theorem dX5_loaves_103 : decode cX5_loaves 103 = .ok (.aload_n 0, 1) := by decide +kernel
theorem dX5_loaves_104 : decode cX5_loaves 104 = .ok (.getfield 151, 3) := by decide +kernel
theorem dX5_loaves_107 : decode cX5_loaves 107 = .ok (.if_icmp .gt 5, 3) := by decide +kernel
theorem dX5_loaves_110 : decode cX5_loaves 110 = .ok (.iload_n 3, 1) := by decide +kernel
theorem dX5_loaves_111 : decode cX5_loaves 111 = .ok (.ireturn, 1) := by decide +kernel
theorem dX5_loaves_112 : decode cX5_loaves 112 = .ok (.iinc 3 1, 3) := by decide +kernel
theorem dX5_loaves_115 : decode cX5_loaves 115 = .ok (.goto (-90), 3) := by decide +kernel
theorem dX5_loaves_118 : decode cX5_loaves 118 = .ok (.bipush (-9), 2) := by decide +kernel
theorem dX5_loaves_120 : decode cX5_loaves 120 = .ok (.ireturn, 1) := by decide +kernel
set_option maxRecDepth 20000 in
theorem ggX5_layLoads_X5_sinkOf : GoodIn wsX5_layLoads wsX5_sinkOf := goodIn_r _ [9, 10, 11, 12, 13, 8, 14, 15, 16, 17, 18, 19, 20, 21, 22, 23, 3, 24, 25, 26, 27, 28, 29, 30, 31, 32, 33, 34, 35, 36, 37, 38, 39, 40, 41, 42, 43, 44, 45, 46, 47, 48, 49, 50, 51, 52, 53, 54, 55, 56, 57, 58, 59, 60, 61, 62, 63, 64, 65, 66] (by rfl) (by decide +kernel)
set_option maxRecDepth 20000 in
theorem gX5_layLoads_X5_sinkOf : GoodIn wsX5_layLoads (wsV RX5 187 RX5 yX5_sinkOf wsX5_sinkOf) := goodIn_app (goodIn_of _ (by decide +kernel)) ggX5_layLoads_X5_sinkOf
theorem dX5_layLoads_0 : decode cX5_layLoads 0 = .ok (.iconst 0, 1) := by decide +kernel
theorem dX5_layLoads_1 : decode cX5_layLoads 1 = .ok (.istore_n 1, 1) := by decide +kernel
theorem dX5_layLoads_2 : decode cX5_layLoads 2 = .ok (.iload_n 1, 1) := by decide +kernel
theorem dX5_layLoads_3 : decode cX5_layLoads 3 = .ok (.bipush 36, 2) := by decide +kernel
theorem dX5_layLoads_5 : decode cX5_layLoads 5 = .ok (.if_icmp .ge 141, 3) := by decide +kernel
theorem dX5_layLoads_8 : decode cX5_layLoads 8 = .ok (.aload_n 0, 1) := by decide +kernel
theorem dX5_layLoads_9 : decode cX5_layLoads 9 = .ok (.getfield 57, 3) := by decide +kernel
theorem dX5_layLoads_12 : decode cX5_layLoads 12 = .ok (.iload_n 1, 1) := by decide +kernel
theorem dX5_layLoads_13 : decode cX5_layLoads 13 = .ok (.iconst 0, 1) := by decide +kernel
theorem dX5_layLoads_14 : decode cX5_layLoads 14 = .ok (.iastore, 1) := by decide +kernel
theorem dX5_layLoads_15 : decode cX5_layLoads 15 = .ok (.iload_n 1, 1) := by decide +kernel
theorem dX5_layLoads_16 : decode cX5_layLoads 16 = .ok (.bipush 6, 2) := by decide +kernel
theorem dX5_layLoads_18 : decode cX5_layLoads 18 = .ok (.idiv, 1) := by decide +kernel
theorem dX5_layLoads_19 : decode cX5_layLoads 19 = .ok (.istore_n 2, 1) := by decide +kernel
theorem dX5_layLoads_20 : decode cX5_layLoads 20 = .ok (.iload_n 1, 1) := by decide +kernel
theorem dX5_layLoads_21 : decode cX5_layLoads 21 = .ok (.bipush 6, 2) := by decide +kernel
theorem dX5_layLoads_23 : decode cX5_layLoads 23 = .ok (.irem, 1) := by decide +kernel
theorem dX5_layLoads_24 : decode cX5_layLoads 24 = .ok (.istore_n 3, 1) := by decide +kernel
theorem dX5_layLoads_25 : decode cX5_layLoads 25 = .ok (.iconst 0, 1) := by decide +kernel
theorem dX5_layLoads_26 : decode cX5_layLoads 26 = .ok (.istore 4, 2) := by decide +kernel
theorem dX5_layLoads_28 : decode cX5_layLoads 28 = .ok (.iload 4, 2) := by decide +kernel
theorem dX5_layLoads_30 : decode cX5_layLoads 30 = .ok (.sipush 256, 3) := by decide +kernel
theorem dX5_layLoads_33 : decode cX5_layLoads 33 = .ok (.if_icmp .ge 107, 3) := by decide +kernel
theorem dX5_layLoads_36 : decode cX5_layLoads 36 = .ok (.iload_n 2, 1) := by decide +kernel
theorem dX5_layLoads_37 : decode cX5_layLoads 37 = .ok (.iload_n 3, 1) := by decide +kernel
theorem dX5_layLoads_38 : decode cX5_layLoads 38 = .ok (.if_icmp .ge 102, 3) := by decide +kernel
theorem dX5_layLoads_41 : decode cX5_layLoads 41 = .ok (.iload_n 3, 1) := by decide +kernel
theorem dX5_layLoads_42 : decode cX5_layLoads 42 = .ok (.aload_n 0, 1) := by decide +kernel
theorem dX5_layLoads_43 : decode cX5_layLoads 43 = .ok (.getfield 157, 3) := by decide +kernel
theorem dX5_layLoads_46 : decode cX5_layLoads 46 = .ok (.if_icmp .ge 94, 3) := by decide +kernel
theorem dX5_layLoads_49 : decode cX5_layLoads 49 = .ok (.iload 4, 2) := by decide +kernel
theorem dX5_layLoads_51 : decode cX5_layLoads 51 = .ok (.bipush 16, 2) := by decide +kernel
theorem dX5_layLoads_53 : decode cX5_layLoads 53 = .ok (.idiv, 1) := by decide +kernel
theorem dX5_layLoads_54 : decode cX5_layLoads 54 = .ok (.istore 5, 2) := by decide +kernel
theorem dX5_layLoads_56 : decode cX5_layLoads 56 = .ok (.iload 4, 2) := by decide +kernel
theorem dX5_layLoads_58 : decode cX5_layLoads 58 = .ok (.bipush 16, 2) := by decide +kernel
theorem dX5_layLoads_60 : decode cX5_layLoads 60 = .ok (.irem, 1) := by decide +kernel
theorem dX5_layLoads_61 : decode cX5_layLoads 61 = .ok (.istore 6, 2) := by decide +kernel
theorem dX5_layLoads_63 : decode cX5_layLoads 63 = .ok (.iload 5, 2) := by decide +kernel
theorem dX5_layLoads_65 : decode cX5_layLoads 65 = .ok (.iload 6, 2) := by decide +kernel
theorem dX5_layLoads_67 : decode cX5_layLoads 67 = .ok (.iand, 1) := by decide +kernel
theorem dX5_layLoads_68 : decode cX5_layLoads 68 = .ok (.ifCond .ne 38, 3) := by decide +kernel
theorem dX5_layLoads_71 : decode cX5_layLoads 71 = .ok (.iload 5, 2) := by decide +kernel
theorem dX5_layLoads_73 : decode cX5_layLoads 73 = .ok (.iload 6, 2) := by decide +kernel
theorem dX5_layLoads_75 : decode cX5_layLoads 75 = .ok (.ior, 1) := by decide +kernel
theorem dX5_layLoads_76 : decode cX5_layLoads 76 = .ok (.iconst 1, 1) := by decide +kernel
theorem dX5_layLoads_77 : decode cX5_layLoads 77 = .ok (.aload_n 0, 1) := by decide +kernel
theorem dX5_layLoads_78 : decode cX5_layLoads 78 = .ok (.getfield 154, 3) := by decide +kernel
theorem dX5_layLoads_81 : decode cX5_layLoads 81 = .ok (.ishl, 1) := by decide +kernel
theorem dX5_layLoads_82 : decode cX5_layLoads 82 = .ok (.if_icmp .ge 24, 3) := by decide +kernel
theorem dX5_layLoads_85 : decode cX5_layLoads 85 = .ok (.aload_n 0, 1) := by decide +kernel
theorem dX5_layLoads_86 : decode cX5_layLoads 86 = .ok (.iload_n 2, 1) := by decide +kernel
theorem dX5_layLoads_87 : decode cX5_layLoads 87 = .ok (.iload_n 3, 1) := by decide +kernel
theorem dX5_layLoads_88 : decode cX5_layLoads 88 = .ok (.iload 5, 2) := by decide +kernel
theorem dX5_layLoads_90 : decode cX5_layLoads 90 = .ok (.iload 6, 2) := by decide +kernel
theorem dX5_layLoads_92 : decode cX5_layLoads 92 = .ok (.invokevirtual 187, 3) := by decide +kernel
theorem dX5_layLoads_95 : decode cX5_layLoads 95 = .ok (.aload_n 0, 1) := by decide +kernel
theorem dX5_layLoads_96 : decode cX5_layLoads 96 = .ok (.getfield 151, 3) := by decide +kernel
theorem dX5_layLoads_99 : decode cX5_layLoads 99 = .ok (.if_icmp .gt 7, 3) := by decide +kernel
theorem dX5_layLoads_102 : decode cX5_layLoads 102 = .ok (.iconst 1, 1) := by decide +kernel
theorem dX5_layLoads_103 : decode cX5_layLoads 103 = .ok (.goto 4, 3) := by decide +kernel
theorem dX5_layLoads_106 : decode cX5_layLoads 106 = .ok (.iconst 0, 1) := by decide +kernel
theorem dX5_layLoads_107 : decode cX5_layLoads 107 = .ok (.istore 7, 2) := by decide +kernel
theorem dX5_layLoads_109 : decode cX5_layLoads 109 = .ok (.aload_n 0, 1) := by decide +kernel
theorem dX5_layLoads_110 : decode cX5_layLoads 110 = .ok (.getfield 57, 3) := by decide +kernel
theorem dX5_layLoads_113 : decode cX5_layLoads 113 = .ok (.iload_n 1, 1) := by decide +kernel
theorem dX5_layLoads_114 : decode cX5_layLoads 114 = .ok (.dup2, 1) := by decide +kernel
theorem dX5_layLoads_115 : decode cX5_layLoads 115 = .ok (.iaload, 1) := by decide +kernel
theorem dX5_layLoads_116 : decode cX5_layLoads 116 = .ok (.iload 7, 2) := by decide +kernel
theorem dX5_layLoads_118 : decode cX5_layLoads 118 = .ok (.ifCond .eq 13, 3) := by decide +kernel
theorem dX5_layLoads_121 : decode cX5_layLoads 121 = .ok (.iconst 1, 1) := by decide +kernel
theorem dX5_layLoads_122 : decode cX5_layLoads 122 = .ok (.iload 5, 2) := by decide +kernel
theorem dX5_layLoads_124 : decode cX5_layLoads 124 = .ok (.iload 6, 2) := by decide +kernel
theorem dX5_layLoads_126 : decode cX5_layLoads 126 = .ok (.ior, 1) := by decide +kernel
theorem dX5_layLoads_127 : decode cX5_layLoads 127 = .ok (.ishl, 1) := by decide +kernel
theorem dX5_layLoads_128 : decode cX5_layLoads 128 = .ok (.goto 4, 3) := by decide +kernel
theorem dX5_layLoads_131 : decode cX5_layLoads 131 = .ok (.iconst 0, 1) := by decide +kernel
theorem dX5_layLoads_132 : decode cX5_layLoads 132 = .ok (.ior, 1) := by decide +kernel
theorem dX5_layLoads_133 : decode cX5_layLoads 133 = .ok (.iastore, 1) := by decide +kernel
theorem dX5_layLoads_134 : decode cX5_layLoads 134 = .ok (.iinc 4 1, 3) := by decide +kernel
theorem dX5_layLoads_137 : decode cX5_layLoads 137 = .ok (.goto (-109), 3) := by decide +kernel
theorem dX5_layLoads_140 : decode cX5_layLoads 140 = .ok (.iinc 1 1, 3) := by decide +kernel
theorem dX5_layLoads_143 : decode cX5_layLoads 143 = .ok (.goto (-141), 3) := by decide +kernel
theorem dX5_layLoads_146 : decode cX5_layLoads 146 = .ok (.return_, 1) := by decide +kernel
set_option maxRecDepth 20000 in
theorem ggX5_mayGo_X5_has : GoodIn wsX5_mayGo wsX5_has := goodIn_r _ [5] (by rfl) (by decide +kernel)
set_option maxRecDepth 20000 in
theorem gX5_mayGo_X5_has : GoodIn wsX5_mayGo (va_wsS RX5 167 yX5_has wsX5_has) := goodIn_app (goodIn_of _ (by decide +kernel)) ggX5_mayGo_X5_has
theorem dX5_mayGo_0 : decode cX5_mayGo 0 = .ok (.iload_n 2, 1) := by decide +kernel
theorem dX5_mayGo_1 : decode cX5_mayGo 1 = .ok (.bipush 6, 2) := by decide +kernel
theorem dX5_mayGo_3 : decode cX5_mayGo 3 = .ok (.idiv, 1) := by decide +kernel
theorem dX5_mayGo_4 : decode cX5_mayGo 4 = .ok (.istore 4, 2) := by decide +kernel
theorem dX5_mayGo_6 : decode cX5_mayGo 6 = .ok (.iload_n 2, 1) := by decide +kernel
theorem dX5_mayGo_7 : decode cX5_mayGo 7 = .ok (.bipush 6, 2) := by decide +kernel
theorem dX5_mayGo_9 : decode cX5_mayGo 9 = .ok (.irem, 1) := by decide +kernel
theorem dX5_mayGo_10 : decode cX5_mayGo 10 = .ok (.istore 5, 2) := by decide +kernel
theorem dX5_mayGo_12 : decode cX5_mayGo 12 = .ok (.iload_n 1, 1) := by decide +kernel
theorem dX5_mayGo_13 : decode cX5_mayGo 13 = .ok (.iconst 4, 1) := by decide +kernel
theorem dX5_mayGo_14 : decode cX5_mayGo 14 = .ok (.iload 4, 2) := by decide +kernel
theorem dX5_mayGo_16 : decode cX5_mayGo 16 = .ok (.iadd, 1) := by decide +kernel
theorem dX5_mayGo_17 : decode cX5_mayGo 17 = .ok (.invokestatic 167, 3) := by decide +kernel
theorem dX5_mayGo_20 : decode cX5_mayGo 20 = .ok (.istore 6, 2) := by decide +kernel
theorem dX5_mayGo_22 : decode cX5_mayGo 22 = .ok (.iload 6, 2) := by decide +kernel
theorem dX5_mayGo_24 : decode cX5_mayGo 24 = .ok (.ifCond .eq 10, 3) := by decide +kernel
theorem dX5_mayGo_27 : decode cX5_mayGo 27 = .ok (.iload_n 1, 1) := by decide +kernel
theorem dX5_mayGo_28 : decode cX5_mayGo 28 = .ok (.bipush 15, 2) := by decide +kernel
theorem dX5_mayGo_30 : decode cX5_mayGo 30 = .ok (.iand, 1) := by decide +kernel
theorem dX5_mayGo_31 : decode cX5_mayGo 31 = .ok (.goto 9, 3) := by decide +kernel
theorem dX5_mayGo_34 : decode cX5_mayGo 34 = .ok (.iload_n 1, 1) := by decide +kernel
theorem dX5_mayGo_35 : decode cX5_mayGo 35 = .ok (.iconst (-1), 1) := by decide +kernel
theorem dX5_mayGo_36 : decode cX5_mayGo 36 = .ok (.ixor, 1) := by decide +kernel
theorem dX5_mayGo_37 : decode cX5_mayGo 37 = .ok (.bipush 15, 2) := by decide +kernel
theorem dX5_mayGo_39 : decode cX5_mayGo 39 = .ok (.iand, 1) := by decide +kernel
theorem dX5_mayGo_40 : decode cX5_mayGo 40 = .ok (.istore 7, 2) := by decide +kernel
theorem dX5_mayGo_42 : decode cX5_mayGo 42 = .ok (.aload_n 0, 1) := by decide +kernel
theorem dX5_mayGo_43 : decode cX5_mayGo 43 = .ok (.getfield 57, 3) := by decide +kernel
theorem dX5_mayGo_46 : decode cX5_mayGo 46 = .ok (.iload_n 2, 1) := by decide +kernel
theorem dX5_mayGo_47 : decode cX5_mayGo 47 = .ok (.iaload, 1) := by decide +kernel
theorem dX5_mayGo_48 : decode cX5_mayGo 48 = .ok (.iload_n 3, 1) := by decide +kernel
theorem dX5_mayGo_49 : decode cX5_mayGo 49 = .ok (.invokestatic 167, 3) := by decide +kernel
theorem dX5_mayGo_52 : decode cX5_mayGo 52 = .ok (.ifCond .eq 29, 3) := by decide +kernel
theorem dX5_mayGo_55 : decode cX5_mayGo 55 = .ok (.iload 6, 2) := by decide +kernel
theorem dX5_mayGo_57 : decode cX5_mayGo 57 = .ok (.iload_n 1, 1) := by decide +kernel
theorem dX5_mayGo_58 : decode cX5_mayGo 58 = .ok (.iconst 4, 1) := by decide +kernel
theorem dX5_mayGo_59 : decode cX5_mayGo 59 = .ok (.iload 5, 2) := by decide +kernel
theorem dX5_mayGo_61 : decode cX5_mayGo 61 = .ok (.iadd, 1) := by decide +kernel
theorem dX5_mayGo_62 : decode cX5_mayGo 62 = .ok (.invokestatic 167, 3) := by decide +kernel
theorem dX5_mayGo_65 : decode cX5_mayGo 65 = .ok (.if_icmp .ne 16, 3) := by decide +kernel
theorem dX5_mayGo_68 : decode cX5_mayGo 68 = .ok (.iload_n 3, 1) := by decide +kernel
theorem dX5_mayGo_69 : decode cX5_mayGo 69 = .ok (.iload 7, 2) := by decide +kernel
theorem dX5_mayGo_71 : decode cX5_mayGo 71 = .ok (.iconst (-1), 1) := by decide +kernel
theorem dX5_mayGo_72 : decode cX5_mayGo 72 = .ok (.ixor, 1) := by decide +kernel
theorem dX5_mayGo_73 : decode cX5_mayGo 73 = .ok (.iand, 1) := by decide +kernel
theorem dX5_mayGo_74 : decode cX5_mayGo 74 = .ok (.ifCond .ne 7, 3) := by decide +kernel
theorem dX5_mayGo_77 : decode cX5_mayGo 77 = .ok (.iconst 1, 1) := by decide +kernel
theorem dX5_mayGo_78 : decode cX5_mayGo 78 = .ok (.goto 4, 3) := by decide +kernel
theorem dX5_mayGo_81 : decode cX5_mayGo 81 = .ok (.iconst 0, 1) := by decide +kernel
theorem dX5_mayGo_82 : decode cX5_mayGo 82 = .ok (.ireturn, 1) := by decide +kernel
theorem dX5_behind_0 : decode cX5_behind 0 = .ok (.iload_n 0, 1) := by decide +kernel
theorem dX5_behind_1 : decode cX5_behind 1 = .ok (.bipush 16, 2) := by decide +kernel
theorem dX5_behind_3 : decode cX5_behind 3 = .ok (.iload_n 1, 1) := by decide +kernel
theorem dX5_behind_4 : decode cX5_behind 4 = .ok (.bipush 6, 2) := by decide +kernel
theorem dX5_behind_6 : decode cX5_behind 6 = .ok (.idiv, 1) := by decide +kernel
theorem dX5_behind_7 : decode cX5_behind 7 = .ok (.ishl, 1) := by decide +kernel
theorem dX5_behind_8 : decode cX5_behind 8 = .ok (.bipush 16, 2) := by decide +kernel
theorem dX5_behind_10 : decode cX5_behind 10 = .ok (.iload_n 1, 1) := by decide +kernel
theorem dX5_behind_11 : decode cX5_behind 11 = .ok (.bipush 6, 2) := by decide +kernel
theorem dX5_behind_13 : decode cX5_behind 13 = .ok (.irem, 1) := by decide +kernel
theorem dX5_behind_14 : decode cX5_behind 14 = .ok (.ishl, 1) := by decide +kernel
theorem dX5_behind_15 : decode cX5_behind 15 = .ok (.ior, 1) := by decide +kernel
theorem dX5_behind_16 : decode cX5_behind 16 = .ok (.iload_n 2, 1) := by decide +kernel
theorem dX5_behind_17 : decode cX5_behind 17 = .ok (.ior, 1) := by decide +kernel
theorem dX5_behind_18 : decode cX5_behind 18 = .ok (.ixor, 1) := by decide +kernel
theorem dX5_behind_19 : decode cX5_behind 19 = .ok (.ireturn, 1) := by decide +kernel
set_option maxRecDepth 20000 in
theorem ggX5_goOnFrom_X5_behind : GoodIn wsX5_goOnFrom wsX5_behind := goodIn_r _ [8] (by rfl) (by decide +kernel)
set_option maxRecDepth 20000 in
theorem gX5_goOnFrom_X5_behind : GoodIn wsX5_goOnFrom (va_wsS RX5 248 yX5_behind wsX5_behind) := goodIn_app (goodIn_of _ (by decide +kernel)) ggX5_goOnFrom_X5_behind
set_option maxRecDepth 20000 in
theorem ggX5_goOnFrom_X5_mayGo : GoodIn wsX5_goOnFrom wsX5_mayGo := goodIn_r _ [12, 1, 13, 14, 7, 15, 16, 17, 18, 19, 20, 21, 22, 23, 24, 25, 26, 27, 28, 29, 30, 31, 32, 33, 34, 35, 36, 37, 38, 39, 40, 41, 42, 43, 44, 45, 46, 47] (by rfl) (by decide +kernel)
set_option maxRecDepth 20000 in
theorem gX5_goOnFrom_X5_mayGo : GoodIn wsX5_goOnFrom (wsV RX5 251 RX5 yX5_mayGo wsX5_mayGo) := goodIn_app (goodIn_of _ (by decide +kernel)) ggX5_goOnFrom_X5_mayGo
theorem dX5_goOnFrom_0 : decode cX5_goOnFrom 0 = .ok (.iconst 0, 1) := by decide +kernel
theorem dX5_goOnFrom_1 : decode cX5_goOnFrom 1 = .ok (.istore_n 2, 1) := by decide +kernel
theorem dX5_goOnFrom_2 : decode cX5_goOnFrom 2 = .ok (.iload_n 2, 1) := by decide +kernel
theorem dX5_goOnFrom_3 : decode cX5_goOnFrom 3 = .ok (.bipush 36, 2) := by decide +kernel
theorem dX5_goOnFrom_5 : decode cX5_goOnFrom 5 = .ok (.if_icmp .ge 99, 3) := by decide +kernel
theorem dX5_goOnFrom_8 : decode cX5_goOnFrom 8 = .ok (.iconst 0, 1) := by decide +kernel
theorem dX5_goOnFrom_9 : decode cX5_goOnFrom 9 = .ok (.istore_n 3, 1) := by decide +kernel
theorem dX5_goOnFrom_10 : decode cX5_goOnFrom 10 = .ok (.iload_n 3, 1) := by decide +kernel
theorem dX5_goOnFrom_11 : decode cX5_goOnFrom 11 = .ok (.bipush 16, 2) := by decide +kernel
theorem dX5_goOnFrom_13 : decode cX5_goOnFrom 13 = .ok (.if_icmp .ge 85, 3) := by decide +kernel
theorem dX5_goOnFrom_16 : decode cX5_goOnFrom 16 = .ok (.aload_n 0, 1) := by decide +kernel
theorem dX5_goOnFrom_17 : decode cX5_goOnFrom 17 = .ok (.getfield 57, 3) := by decide +kernel
theorem dX5_goOnFrom_20 : decode cX5_goOnFrom 20 = .ok (.iload_n 2, 1) := by decide +kernel
theorem dX5_goOnFrom_21 : decode cX5_goOnFrom 21 = .ok (.iaload, 1) := by decide +kernel
theorem dX5_goOnFrom_22 : decode cX5_goOnFrom 22 = .ok (.ifCond .eq 76, 3) := by decide +kernel
theorem dX5_goOnFrom_25 : decode cX5_goOnFrom 25 = .ok (.iload_n 1, 1) := by decide +kernel
theorem dX5_goOnFrom_26 : decode cX5_goOnFrom 26 = .ok (.iload_n 2, 1) := by decide +kernel
theorem dX5_goOnFrom_27 : decode cX5_goOnFrom 27 = .ok (.iload_n 3, 1) := by decide +kernel
theorem dX5_goOnFrom_28 : decode cX5_goOnFrom 28 = .ok (.invokestatic 248, 3) := by decide +kernel
theorem dX5_goOnFrom_31 : decode cX5_goOnFrom 31 = .ok (.istore 4, 2) := by decide +kernel
theorem dX5_goOnFrom_33 : decode cX5_goOnFrom 33 = .ok (.aload_n 0, 1) := by decide +kernel
theorem dX5_goOnFrom_34 : decode cX5_goOnFrom 34 = .ok (.iload_n 1, 1) := by decide +kernel
theorem dX5_goOnFrom_35 : decode cX5_goOnFrom 35 = .ok (.iload_n 2, 1) := by decide +kernel
theorem dX5_goOnFrom_36 : decode cX5_goOnFrom 36 = .ok (.iload_n 3, 1) := by decide +kernel
theorem dX5_goOnFrom_37 : decode cX5_goOnFrom 37 = .ok (.invokevirtual 251, 3) := by decide +kernel
theorem dX5_goOnFrom_40 : decode cX5_goOnFrom 40 = .ok (.ifCond .eq 52, 3) := by decide +kernel
theorem dX5_goOnFrom_43 : decode cX5_goOnFrom 43 = .ok (.aload_n 0, 1) := by decide +kernel
theorem dX5_goOnFrom_44 : decode cX5_goOnFrom 44 = .ok (.getfield 51, 3) := by decide +kernel
theorem dX5_goOnFrom_47 : decode cX5_goOnFrom 47 = .ok (.iload 4, 2) := by decide +kernel
theorem dX5_goOnFrom_49 : decode cX5_goOnFrom 49 = .ok (.iaload, 1) := by decide +kernel
theorem dX5_goOnFrom_50 : decode cX5_goOnFrom 50 = .ok (.sipush 9999, 3) := by decide +kernel
theorem dX5_goOnFrom_53 : decode cX5_goOnFrom 53 = .ok (.if_icmp .ne 39, 3) := by decide +kernel
theorem dX5_goOnFrom_56 : decode cX5_goOnFrom 56 = .ok (.aload_n 0, 1) := by decide +kernel
theorem dX5_goOnFrom_57 : decode cX5_goOnFrom 57 = .ok (.getfield 51, 3) := by decide +kernel
theorem dX5_goOnFrom_60 : decode cX5_goOnFrom 60 = .ok (.iload 4, 2) := by decide +kernel
theorem dX5_goOnFrom_62 : decode cX5_goOnFrom 62 = .ok (.aload_n 0, 1) := by decide +kernel
theorem dX5_goOnFrom_63 : decode cX5_goOnFrom 63 = .ok (.getfield 51, 3) := by decide +kernel
theorem dX5_goOnFrom_66 : decode cX5_goOnFrom 66 = .ok (.iload_n 1, 1) := by decide +kernel
theorem dX5_goOnFrom_67 : decode cX5_goOnFrom 67 = .ok (.iaload, 1) := by decide +kernel
theorem dX5_goOnFrom_68 : decode cX5_goOnFrom 68 = .ok (.iconst 1, 1) := by decide +kernel
theorem dX5_goOnFrom_69 : decode cX5_goOnFrom 69 = .ok (.iadd, 1) := by decide +kernel
theorem dX5_goOnFrom_70 : decode cX5_goOnFrom 70 = .ok (.iastore, 1) := by decide +kernel
theorem dX5_goOnFrom_71 : decode cX5_goOnFrom 71 = .ok (.aload_n 0, 1) := by decide +kernel
theorem dX5_goOnFrom_72 : decode cX5_goOnFrom 72 = .ok (.getfield 54, 3) := by decide +kernel
theorem dX5_goOnFrom_75 : decode cX5_goOnFrom 75 = .ok (.aload_n 0, 1) := by decide +kernel
theorem dX5_goOnFrom_76 : decode cX5_goOnFrom 76 = .ok (.getfield 254, 3) := by decide +kernel
theorem dX5_goOnFrom_79 : decode cX5_goOnFrom 79 = .ok (.iload 4, 2) := by decide +kernel
theorem dX5_goOnFrom_81 : decode cX5_goOnFrom 81 = .ok (.iastore, 1) := by decide +kernel
theorem dX5_goOnFrom_82 : decode cX5_goOnFrom 82 = .ok (.aload_n 0, 1) := by decide +kernel
theorem dX5_goOnFrom_83 : decode cX5_goOnFrom 83 = .ok (.dup, 1) := by decide +kernel
theorem dX5_goOnFrom_84 : decode cX5_goOnFrom 84 = .ok (.getfield 254, 3) := by decide +kernel
theorem dX5_goOnFrom_87 : decode cX5_goOnFrom 87 = .ok (.iconst 1, 1) := by decide +kernel
theorem dX5_goOnFrom_88 : decode cX5_goOnFrom 88 = .ok (.iadd, 1) := by decide +kernel
theorem dX5_goOnFrom_89 : decode cX5_goOnFrom 89 = .ok (.putfield 254, 3) := by decide +kernel
theorem dX5_goOnFrom_92 : decode cX5_goOnFrom 92 = .ok (.iinc 3 1, 3) := by decide +kernel
theorem dX5_goOnFrom_95 : decode cX5_goOnFrom 95 = .ok (.goto (-85), 3) := by decide +kernel
theorem dX5_goOnFrom_98 : decode cX5_goOnFrom 98 = .ok (.iinc 2 1, 3) := by decide +kernel
theorem dX5_goOnFrom_101 : decode cX5_goOnFrom 101 = .ok (.goto (-99), 3) := by decide +kernel
theorem dX5_goOnFrom_104 : decode cX5_goOnFrom 104 = .ok (.return_, 1) := by decide +kernel
set_option maxRecDepth 20000 in
theorem ggX5_layFar_X5_layLoads : GoodIn wsX5_layFar wsX5_layLoads := goodIn_r _ [10, 11, 3, 4, 12, 13, 14, 15, 9, 16, 17, 18, 19, 20, 21, 22, 23, 24, 25, 26, 27, 28, 29, 30, 31, 32, 33, 34, 35, 36, 37, 38, 39, 40, 41, 53, 54, 55, 56, 57, 58, 59, 60, 61, 62, 63, 64, 65, 66, 67, 68, 69, 70, 71, 72, 73, 74, 75, 76, 77, 78, 79, 80, 81, 82, 83, 84] (by rfl) (by decide +kernel)
set_option maxRecDepth 20000 in
theorem gX5_layFar_X5_layLoads : GoodIn wsX5_layFar (wsV RX5 257 RX5 yX5_layLoads wsX5_layLoads) := goodIn_app (goodIn_of _ (by decide +kernel)) ggX5_layFar_X5_layLoads
set_option maxRecDepth 20000 in
theorem ggX5_layFar_X5_goOnFrom : GoodIn wsX5_layFar wsX5_goOnFrom := goodIn_r _ [45, 11, 2, 5, 1, 46, 47, 9, 48, 49, 50, 51, 52, 32, 33, 34, 53, 54, 55, 56, 57, 58, 59, 60, 61, 62, 63, 64, 65, 66, 67, 68, 69, 70, 71, 72, 73, 74, 75, 76, 77, 78, 79, 80, 81, 82, 83, 84] (by rfl) (by decide +kernel)
set_option maxRecDepth 20000 in
theorem gX5_layFar_X5_goOnFrom : GoodIn wsX5_layFar (wsV RX5 260 RX5 yX5_goOnFrom wsX5_goOnFrom) := goodIn_app (goodIn_of _ (by decide +kernel)) ggX5_layFar_X5_goOnFrom
theorem dX5_layFar_0 : decode cX5_layFar 0 = .ok (.aload_n 0, 1) := by decide +kernel
theorem dX5_layFar_1 : decode cX5_layFar 1 = .ok (.invokevirtual 257, 3) := by decide +kernel
theorem dX5_layFar_4 : decode cX5_layFar 4 = .ok (.aload_n 0, 1) := by decide +kernel
theorem dX5_layFar_5 : decode cX5_layFar 5 = .ok (.iconst 0, 1) := by decide +kernel
theorem dX5_layFar_6 : decode cX5_layFar 6 = .ok (.putfield 254, 3) := by decide +kernel
theorem dX5_layFar_9 : decode cX5_layFar 9 = .ok (.iconst 0, 1) := by decide +kernel
theorem dX5_layFar_10 : decode cX5_layFar 10 = .ok (.istore_n 3, 1) := by decide +kernel
theorem dX5_layFar_11 : decode cX5_layFar 11 = .ok (.iload_n 3, 1) := by decide +kernel
theorem dX5_layFar_12 : decode cX5_layFar 12 = .ok (.sipush 1024, 3) := by decide +kernel
theorem dX5_layFar_15 : decode cX5_layFar 15 = .ok (.if_icmp .ge 79, 3) := by decide +kernel
theorem dX5_layFar_18 : decode cX5_layFar 18 = .ok (.aload_n 0, 1) := by decide +kernel
theorem dX5_layFar_19 : decode cX5_layFar 19 = .ok (.getfield 51, 3) := by decide +kernel
theorem dX5_layFar_22 : decode cX5_layFar 22 = .ok (.iload_n 3, 1) := by decide +kernel
theorem dX5_layFar_23 : decode cX5_layFar 23 = .ok (.sipush 9999, 3) := by decide +kernel
theorem dX5_layFar_26 : decode cX5_layFar 26 = .ok (.iastore, 1) := by decide +kernel
theorem dX5_layFar_27 : decode cX5_layFar 27 = .ok (.iload_n 3, 1) := by decide +kernel
theorem dX5_layFar_28 : decode cX5_layFar 28 = .ok (.iconst 4, 1) := by decide +kernel
theorem dX5_layFar_29 : decode cX5_layFar 29 = .ok (.ishr, 1) := by decide +kernel
theorem dX5_layFar_30 : decode cX5_layFar 30 = .ok (.iconst 1, 1) := by decide +kernel
theorem dX5_layFar_31 : decode cX5_layFar 31 = .ok (.aload_n 0, 1) := by decide +kernel
theorem dX5_layFar_32 : decode cX5_layFar 32 = .ok (.getfield 157, 3) := by decide +kernel
theorem dX5_layFar_35 : decode cX5_layFar 35 = .ok (.ishl, 1) := by decide +kernel
theorem dX5_layFar_36 : decode cX5_layFar 36 = .ok (.if_icmp .ge 52, 3) := by decide +kernel
theorem dX5_layFar_39 : decode cX5_layFar 39 = .ok (.iload_n 3, 1) := by decide +kernel
theorem dX5_layFar_40 : decode cX5_layFar 40 = .ok (.bipush 15, 2) := by decide +kernel
theorem dX5_layFar_42 : decode cX5_layFar 42 = .ok (.iand, 1) := by decide +kernel
theorem dX5_layFar_43 : decode cX5_layFar 43 = .ok (.iconst 1, 1) := by decide +kernel
theorem dX5_layFar_44 : decode cX5_layFar 44 = .ok (.aload_n 0, 1) := by decide +kernel
theorem dX5_layFar_45 : decode cX5_layFar 45 = .ok (.getfield 154, 3) := by decide +kernel
theorem dX5_layFar_48 : decode cX5_layFar 48 = .ok (.ishl, 1) := by decide +kernel
theorem dX5_layFar_49 : decode cX5_layFar 49 = .ok (.if_icmp .ge 39, 3) := by decide +kernel
theorem dX5_layFar_52 : decode cX5_layFar 52 = .ok (.iload_n 3, 1) := by decide +kernel
theorem dX5_layFar_53 : decode cX5_layFar 53 = .ok (.iconst 4, 1) := by decide +kernel
theorem dX5_layFar_54 : decode cX5_layFar 54 = .ok (.ishr, 1) := by decide +kernel
theorem dX5_layFar_55 : decode cX5_layFar 55 = .ok (.iload_n 1, 1) := by decide +kernel
theorem dX5_layFar_56 : decode cX5_layFar 56 = .ok (.iand, 1) := by decide +kernel
theorem dX5_layFar_57 : decode cX5_layFar 57 = .ok (.iload_n 2, 1) := by decide +kernel
theorem dX5_layFar_58 : decode cX5_layFar 58 = .ok (.if_icmp .ne 30, 3) := by decide +kernel
theorem dX5_layFar_61 : decode cX5_layFar 61 = .ok (.aload_n 0, 1) := by decide +kernel
theorem dX5_layFar_62 : decode cX5_layFar 62 = .ok (.getfield 51, 3) := by decide +kernel
theorem dX5_layFar_65 : decode cX5_layFar 65 = .ok (.iload_n 3, 1) := by decide +kernel
theorem dX5_layFar_66 : decode cX5_layFar 66 = .ok (.iconst 0, 1) := by decide +kernel
theorem dX5_layFar_67 : decode cX5_layFar 67 = .ok (.iastore, 1) := by decide +kernel
theorem dX5_layFar_68 : decode cX5_layFar 68 = .ok (.aload_n 0, 1) := by decide +kernel
theorem dX5_layFar_69 : decode cX5_layFar 69 = .ok (.getfield 54, 3) := by decide +kernel
theorem dX5_layFar_72 : decode cX5_layFar 72 = .ok (.aload_n 0, 1) := by decide +kernel
theorem dX5_layFar_73 : decode cX5_layFar 73 = .ok (.getfield 254, 3) := by decide +kernel
theorem dX5_layFar_76 : decode cX5_layFar 76 = .ok (.iload_n 3, 1) := by decide +kernel
theorem dX5_layFar_77 : decode cX5_layFar 77 = .ok (.iastore, 1) := by decide +kernel
theorem dX5_layFar_78 : decode cX5_layFar 78 = .ok (.aload_n 0, 1) := by decide +kernel
theorem dX5_layFar_79 : decode cX5_layFar 79 = .ok (.dup, 1) := by decide +kernel
theorem dX5_layFar_80 : decode cX5_layFar 80 = .ok (.getfield 254, 3) := by decide +kernel
theorem dX5_layFar_83 : decode cX5_layFar 83 = .ok (.iconst 1, 1) := by decide +kernel
theorem dX5_layFar_84 : decode cX5_layFar 84 = .ok (.iadd, 1) := by decide +kernel
theorem dX5_layFar_85 : decode cX5_layFar 85 = .ok (.putfield 254, 3) := by decide +kernel
theorem dX5_layFar_88 : decode cX5_layFar 88 = .ok (.iinc 3 1, 3) := by decide +kernel
theorem dX5_layFar_91 : decode cX5_layFar 91 = .ok (.goto (-80), 3) := by decide +kernel
theorem dX5_layFar_94 : decode cX5_layFar 94 = .ok (.iconst 0, 1) := by decide +kernel
theorem dX5_layFar_95 : decode cX5_layFar 95 = .ok (.istore_n 3, 1) := by decide +kernel
theorem dX5_layFar_96 : decode cX5_layFar 96 = .ok (.iload_n 3, 1) := by decide +kernel
theorem dX5_layFar_97 : decode cX5_layFar 97 = .ok (.aload_n 0, 1) := by decide +kernel
theorem dX5_layFar_98 : decode cX5_layFar 98 = .ok (.getfield 254, 3) := by decide +kernel
theorem dX5_layFar_101 : decode cX5_layFar 101 = .ok (.if_icmp .ge 19, 3) := by decide +kernel
theorem dX5_layFar_104 : decode cX5_layFar 104 = .ok (.aload_n 0, 1) := by decide +kernel
theorem dX5_layFar_105 : decode cX5_layFar 105 = .ok (.aload_n 0, 1) := by decide +kernel
theorem dX5_layFar_106 : decode cX5_layFar 106 = .ok (.getfield 54, 3) := by decide +kernel
theorem dX5_layFar_109 : decode cX5_layFar 109 = .ok (.iload_n 3, 1) := by decide +kernel
theorem dX5_layFar_110 : decode cX5_layFar 110 = .ok (.iaload, 1) := by decide +kernel
theorem dX5_layFar_111 : decode cX5_layFar 111 = .ok (.invokevirtual 260, 3) := by decide +kernel
theorem dX5_layFar_114 : decode cX5_layFar 114 = .ok (.iinc 3 1, 3) := by decide +kernel
theorem dX5_layFar_117 : decode cX5_layFar 117 = .ok (.goto (-21), 3) := by decide +kernel
theorem dX5_layFar_120 : decode cX5_layFar 120 = .ok (.return_, 1) := by decide +kernel
set_option maxRecDepth 20000 in
theorem ggX5_fewestGoes_X5_layFar : GoodIn wsX5_fewestGoes wsX5_layFar := goodIn_r _ [8, 9, 2, 10, 11, 12, 13, 14, 15, 7, 16, 17, 18, 19, 20, 21, 22, 23, 24, 25, 26, 27, 28, 1, 29, 30, 31, 32, 33, 34, 35, 36, 37, 38, 39, 40, 41, 42, 43, 44, 45, 46, 47, 48, 49, 50, 51, 52, 53, 54, 55, 56, 57, 58, 59, 60, 61, 62, 63, 64, 65, 66, 67, 68, 69, 70, 71, 72, 73, 74, 75, 76, 77, 78, 79, 80, 81, 82, 83, 84, 85, 86, 87, 88, 89] (by rfl) (by decide +kernel)
set_option maxRecDepth 20000 in
theorem gX5_fewestGoes_X5_layFar : GoodIn wsX5_fewestGoes (wsV RX5 264 RX5 yX5_layFar wsX5_layFar) := goodIn_app (goodIn_of _ (by decide +kernel)) ggX5_fewestGoes_X5_layFar
set_option maxRecDepth 20000 in
theorem ggX5_fewestGoes_X5_mayGo : GoodIn wsX5_fewestGoes wsX5_mayGo := goodIn_r _ [57, 17, 37, 38, 7, 39, 58, 59, 60, 61, 62, 63, 64, 65, 66, 67, 68, 69, 70, 71, 72, 73, 74, 75, 76, 77, 78, 79, 80, 81, 82, 83, 84, 85, 86, 87, 88, 89] (by rfl) (by decide +kernel)
set_option maxRecDepth 20000 in
theorem gX5_fewestGoes_X5_mayGo : GoodIn wsX5_fewestGoes (wsV RX5 251 RX5 yX5_mayGo wsX5_mayGo) := goodIn_app (goodIn_of _ (by decide +kernel)) ggX5_fewestGoes_X5_mayGo
set_option maxRecDepth 20000 in
theorem ggX5_fewestGoes_X5_behind : GoodIn wsX5_fewestGoes wsX5_behind := goodIn_r _ [53] (by rfl) (by decide +kernel)
set_option maxRecDepth 20000 in
theorem gX5_fewestGoes_X5_behind : GoodIn wsX5_fewestGoes (va_wsS RX5 248 yX5_behind wsX5_behind) := goodIn_app (goodIn_of _ (by decide +kernel)) ggX5_fewestGoes_X5_behind
