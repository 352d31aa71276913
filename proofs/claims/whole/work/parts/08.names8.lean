theorem dX5_fewestGoes_0 : decode cX5_fewestGoes 0 = .ok (.bipush 16, 2) := by decide +kernel
theorem dX5_fewestGoes_2 : decode cX5_fewestGoes 2 = .ok (.aload_n 0, 1) := by decide +kernel
theorem dX5_fewestGoes_3 : decode cX5_fewestGoes 3 = .ok (.getfield 7, 3) := by decide +kernel
theorem dX5_fewestGoes_6 : decode cX5_fewestGoes 6 = .ok (.iconst 2, 1) := by decide +kernel
theorem dX5_fewestGoes_7 : decode cX5_fewestGoes 7 = .ok (.iaload, 1) := by decide +kernel
theorem dX5_fewestGoes_8 : decode cX5_fewestGoes 8 = .ok (.imul, 1) := by decide +kernel
theorem dX5_fewestGoes_9 : decode cX5_fewestGoes 9 = .ok (.aload_n 0, 1) := by decide +kernel
theorem dX5_fewestGoes_10 : decode cX5_fewestGoes 10 = .ok (.getfield 7, 3) := by decide +kernel
theorem dX5_fewestGoes_13 : decode cX5_fewestGoes 13 = .ok (.iconst 3, 1) := by decide +kernel
theorem dX5_fewestGoes_14 : decode cX5_fewestGoes 14 = .ok (.iaload, 1) := by decide +kernel
theorem dX5_fewestGoes_15 : decode cX5_fewestGoes 15 = .ok (.iadd, 1) := by decide +kernel
theorem dX5_fewestGoes_16 : decode cX5_fewestGoes 16 = .ok (.istore_n 3, 1) := by decide +kernel
theorem dX5_fewestGoes_17 : decode cX5_fewestGoes 17 = .ok (.aload_n 0, 1) := by decide +kernel
theorem dX5_fewestGoes_18 : decode cX5_fewestGoes 18 = .ok (.iload_n 1, 1) := by decide +kernel
theorem dX5_fewestGoes_19 : decode cX5_fewestGoes 19 = .ok (.iload_n 2, 1) := by decide +kernel
theorem dX5_fewestGoes_20 : decode cX5_fewestGoes 20 = .ok (.invokevirtual 264, 3) := by decide +kernel
theorem dX5_fewestGoes_23 : decode cX5_fewestGoes 23 = .ok (.aload_n 0, 1) := by decide +kernel
theorem dX5_fewestGoes_24 : decode cX5_fewestGoes 24 = .ok (.getfield 51, 3) := by decide +kernel
theorem dX5_fewestGoes_27 : decode cX5_fewestGoes 27 = .ok (.iload_n 3, 1) := by decide +kernel
theorem dX5_fewestGoes_28 : decode cX5_fewestGoes 28 = .ok (.iaload, 1) := by decide +kernel
theorem dX5_fewestGoes_29 : decode cX5_fewestGoes 29 = .ok (.sipush 9999, 3) := by decide +kernel
theorem dX5_fewestGoes_32 : decode cX5_fewestGoes 32 = .ok (.if_icmp .ne 6, 3) := by decide +kernel
theorem dX5_fewestGoes_35 : decode cX5_fewestGoes 35 = .ok (.bipush (-9), 2) := by decide +kernel
theorem dX5_fewestGoes_37 : decode cX5_fewestGoes 37 = .ok (.ireturn, 1) := by decide +kernel
theorem dX5_fewestGoes_38 : decode cX5_fewestGoes 38 = .ok (.aload_n 0, 1) := by decide +kernel
theorem dX5_fewestGoes_39 : decode cX5_fewestGoes 39 = .ok (.bipush (-9), 2) := by decide +kernel
theorem dX5_fewestGoes_41 : decode cX5_fewestGoes 41 = .ok (.putfield 70, 3) := by decide +kernel
theorem dX5_fewestGoes_44 : decode cX5_fewestGoes 44 = .ok (.bipush 35, 2) := by decide +kernel
theorem dX5_fewestGoes_46 : decode cX5_fewestGoes 46 = .ok (.istore 4, 2) := by decide +kernel
theorem dX5_fewestGoes_48 : decode cX5_fewestGoes 48 = .ok (.iload 4, 2) := by decide +kernel
theorem dX5_fewestGoes_50 : decode cX5_fewestGoes 50 = .ok (.ifCond .lt 74, 3) := by decide +kernel
theorem dX5_fewestGoes_53 : decode cX5_fewestGoes 53 = .ok (.iconst 0, 1) := by decide +kernel
theorem dX5_fewestGoes_54 : decode cX5_fewestGoes 54 = .ok (.istore 5, 2) := by decide +kernel
theorem dX5_fewestGoes_56 : decode cX5_fewestGoes 56 = .ok (.iload 5, 2) := by decide +kernel
theorem dX5_fewestGoes_58 : decode cX5_fewestGoes 58 = .ok (.bipush 16, 2) := by decide +kernel
theorem dX5_fewestGoes_60 : decode cX5_fewestGoes 60 = .ok (.if_icmp .ge 58, 3) := by decide +kernel
theorem dX5_fewestGoes_63 : decode cX5_fewestGoes 63 = .ok (.aload_n 0, 1) := by decide +kernel
theorem dX5_fewestGoes_64 : decode cX5_fewestGoes 64 = .ok (.aload_n 0, 1) := by decide +kernel
theorem dX5_fewestGoes_65 : decode cX5_fewestGoes 65 = .ok (.iload_n 3, 1) := by decide +kernel
theorem dX5_fewestGoes_66 : decode cX5_fewestGoes 66 = .ok (.iload 4, 2) := by decide +kernel
theorem dX5_fewestGoes_68 : decode cX5_fewestGoes 68 = .ok (.iload 5, 2) := by decide +kernel
theorem dX5_fewestGoes_70 : decode cX5_fewestGoes 70 = .ok (.invokevirtual 251, 3) := by decide +kernel
theorem dX5_fewestGoes_73 : decode cX5_fewestGoes 73 = .ok (.ifCond .eq 32, 3) := by decide +kernel
theorem dX5_fewestGoes_76 : decode cX5_fewestGoes 76 = .ok (.aload_n 0, 1) := by decide +kernel
theorem dX5_fewestGoes_77 : decode cX5_fewestGoes 77 = .ok (.getfield 51, 3) := by decide +kernel
theorem dX5_fewestGoes_80 : decode cX5_fewestGoes 80 = .ok (.iload_n 3, 1) := by decide +kernel
theorem dX5_fewestGoes_81 : decode cX5_fewestGoes 81 = .ok (.iload 4, 2) := by decide +kernel
theorem dX5_fewestGoes_83 : decode cX5_fewestGoes 83 = .ok (.iload 5, 2) := by decide +kernel
theorem dX5_fewestGoes_85 : decode cX5_fewestGoes 85 = .ok (.invokestatic 248, 3) := by decide +kernel
theorem dX5_fewestGoes_88 : decode cX5_fewestGoes 88 = .ok (.iaload, 1) := by decide +kernel
theorem dX5_fewestGoes_89 : decode cX5_fewestGoes 89 = .ok (.aload_n 0, 1) := by decide +kernel
theorem dX5_fewestGoes_90 : decode cX5_fewestGoes 90 = .ok (.getfield 51, 3) := by decide +kernel
theorem dX5_fewestGoes_93 : decode cX5_fewestGoes 93 = .ok (.iload_n 3, 1) := by decide +kernel
theorem dX5_fewestGoes_94 : decode cX5_fewestGoes 94 = .ok (.iaload, 1) := by decide +kernel
theorem dX5_fewestGoes_95 : decode cX5_fewestGoes 95 = .ok (.iconst 1, 1) := by decide +kernel
theorem dX5_fewestGoes_96 : decode cX5_fewestGoes 96 = .ok (.isub, 1) := by decide +kernel
theorem dX5_fewestGoes_97 : decode cX5_fewestGoes 97 = .ok (.if_icmp .ne 8, 3) := by decide +kernel
theorem dX5_fewestGoes_100 : decode cX5_fewestGoes 100 = .ok (.iload 4, 2) := by decide +kernel
theorem dX5_fewestGoes_102 : decode cX5_fewestGoes 102 = .ok (.goto 7, 3) := by decide +kernel
theorem dX5_fewestGoes_105 : decode cX5_fewestGoes 105 = .ok (.aload_n 0, 1) := by decide +kernel
theorem dX5_fewestGoes_106 : decode cX5_fewestGoes 106 = .ok (.getfield 70, 3) := by decide +kernel
theorem dX5_fewestGoes_109 : decode cX5_fewestGoes 109 = .ok (.putfield 70, 3) := by decide +kernel
theorem dX5_fewestGoes_112 : decode cX5_fewestGoes 112 = .ok (.iinc 5 1, 3) := by decide +kernel
theorem dX5_fewestGoes_115 : decode cX5_fewestGoes 115 = .ok (.goto (-59), 3) := by decide +kernel
theorem dX5_fewestGoes_118 : decode cX5_fewestGoes 118 = .ok (.iinc 4 (-1), 3) := by decide +kernel
theorem dX5_fewestGoes_121 : decode cX5_fewestGoes 121 = .ok (.goto (-73), 3) := by decide +kernel
theorem dX5_fewestGoes_124 : decode cX5_fewestGoes 124 = .ok (.aload_n 0, 1) := by decide +kernel
theorem dX5_fewestGoes_125 : decode cX5_fewestGoes 125 = .ok (.getfield 51, 3) := by decide +kernel
theorem dX5_fewestGoes_128 : decode cX5_fewestGoes 128 = .ok (.iload_n 3, 1) := by decide +kernel
theorem dX5_fewestGoes_129 : decode cX5_fewestGoes 129 = .ok (.iaload, 1) := by decide +kernel
theorem dX5_fewestGoes_130 : decode cX5_fewestGoes 130 = .ok (.ireturn, 1) := by decide +kernel
set_option maxRecDepth 20000 in
theorem ggX5_areOnes_X5_in : GoodIn wsX5_areOnes wsX5_in := goodIn_r _ [5] (by rfl) (by decide +kernel)
set_option maxRecDepth 20000 in
theorem gX5_areOnes_X5_in : GoodIn wsX5_areOnes (va_wsS RX5 75 yX5_in wsX5_in) := goodIn_app (goodIn_of _ (by decide +kernel)) ggX5_areOnes_X5_in
theorem dX5_areOnes_0 : decode cX5_areOnes 0 = .ok (.iload_n 1, 1) := by decide +kernel
theorem dX5_areOnes_1 : decode cX5_areOnes 1 = .ok (.i2l, 1) := by decide +kernel
theorem dX5_areOnes_2 : decode cX5_areOnes 2 = .ok (.lconst 0, 1) := by decide +kernel
theorem dX5_areOnes_3 : decode cX5_areOnes 3 = .ok (.iconst 1, 1) := by decide +kernel
theorem dX5_areOnes_4 : decode cX5_areOnes 4 = .ok (.aload_n 0, 1) := by decide +kernel
theorem dX5_areOnes_5 : decode cX5_areOnes 5 = .ok (.getfield 157, 3) := by decide +kernel
theorem dX5_areOnes_8 : decode cX5_areOnes 8 = .ok (.ishl, 1) := by decide +kernel
theorem dX5_areOnes_9 : decode cX5_areOnes 9 = .ok (.iconst 1, 1) := by decide +kernel
theorem dX5_areOnes_10 : decode cX5_areOnes 10 = .ok (.isub, 1) := by decide +kernel
theorem dX5_areOnes_11 : decode cX5_areOnes 11 = .ok (.i2l, 1) := by decide +kernel
theorem dX5_areOnes_12 : decode cX5_areOnes 12 = .ok (.invokestatic 75, 3) := by decide +kernel
theorem dX5_areOnes_15 : decode cX5_areOnes 15 = .ok (.ireturn, 1) := by decide +kernel
set_option maxRecDepth 20000 in
theorem ggX5_up_X5_areOnes : GoodIn wsX5_up wsX5_areOnes := goodIn_r _ [5, 6, 7, 8, 4, 9, 69, 70, 71, 72, 73, 74, 75, 76, 77, 78, 79, 80, 81, 82, 83, 84, 85, 86, 87, 88, 89, 90, 91, 92, 93, 94, 95, 96, 97, 98, 99, 100] (by rfl) (by decide +kernel)
set_option maxRecDepth 20000 in
theorem gX5_up_X5_areOnes : GoodIn wsX5_up (wsV RX5 267 RX5 yX5_areOnes wsX5_areOnes) := goodIn_app (goodIn_of _ (by decide +kernel)) ggX5_up_X5_areOnes
set_option maxRecDepth 20000 in
theorem ggX5_up_X5_fewestGoes : GoodIn wsX5_up wsX5_fewestGoes := goodIn_r _ [13, 14, 15, 16, 17, 18, 19, 4, 20, 21, 6, 22, 23, 24, 25, 26, 27, 28, 29, 30, 31, 32, 33, 34, 35, 36, 37, 38, 39, 40, 41, 42, 43, 44, 45, 46, 47, 48, 49, 50, 51, 52, 53, 54, 55, 56, 57, 58, 59, 60, 61, 62, 63, 64, 65, 66, 67, 68, 69, 70, 71, 72, 73, 74, 75, 76, 77, 78, 79, 80, 81, 82, 83, 84, 85, 86, 87, 88, 89, 90, 91, 92, 93, 94, 95, 96, 97, 98, 99, 100] (by rfl) (by decide +kernel)
set_option maxRecDepth 20000 in
theorem gX5_up_X5_fewestGoes : GoodIn wsX5_up (wsV RX5 270 RX5 yX5_fewestGoes wsX5_fewestGoes) := goodIn_app (goodIn_of _ (by decide +kernel)) ggX5_up_X5_fewestGoes
theorem dX5_up_0 : decode cX5_up 0 = .ok (.aload_n 0, 1) := by decide +kernel
theorem dX5_up_1 : decode cX5_up 1 = .ok (.iload_n 1, 1) := by decide +kernel
theorem dX5_up_2 : decode cX5_up 2 = .ok (.invokevirtual 267, 3) := by decide +kernel
theorem dX5_up_5 : decode cX5_up 5 = .ok (.ifCond .eq 12, 3) := by decide +kernel
theorem dX5_up_8 : decode cX5_up 8 = .ok (.aload_n 0, 1) := by decide +kernel
theorem dX5_up_9 : decode cX5_up 9 = .ok (.iload_n 1, 1) := by decide +kernel
theorem dX5_up_10 : decode cX5_up 10 = .ok (.iload_n 1, 1) := by decide +kernel
theorem dX5_up_11 : decode cX5_up 11 = .ok (.invokevirtual 270, 3) := by decide +kernel
theorem dX5_up_14 : decode cX5_up 14 = .ok (.goto 4, 3) := by decide +kernel
theorem dX5_up_17 : decode cX5_up 17 = .ok (.iconst (-1), 1) := by decide +kernel
theorem dX5_up_18 : decode cX5_up 18 = .ok (.ireturn, 1) := by decide +kernel
set_option maxRecDepth 20000 in
theorem ggX5_down_X5_areOnes : GoodIn wsX5_down wsX5_areOnes := goodIn_r _ [5, 6, 7, 8, 4, 9, 69, 70, 71, 72, 73, 74, 75, 76, 77, 78, 79, 80, 81, 82, 83, 84, 85, 86, 87, 88, 89, 90, 91, 92, 93, 94, 95, 96, 97, 98, 99, 100] (by rfl) (by decide +kernel)
set_option maxRecDepth 20000 in
theorem gX5_down_X5_areOnes : GoodIn wsX5_down (wsV RX5 267 RX5 yX5_areOnes wsX5_areOnes) := goodIn_app (goodIn_of _ (by decide +kernel)) ggX5_down_X5_areOnes
set_option maxRecDepth 20000 in
theorem ggX5_down_X5_fewestGoes : GoodIn wsX5_down wsX5_fewestGoes := goodIn_r _ [13, 14, 15, 16, 17, 18, 19, 4, 20, 21, 6, 22, 23, 24, 25, 26, 27, 28, 29, 30, 31, 32, 33, 34, 35, 36, 37, 38, 39, 40, 41, 42, 43, 44, 45, 46, 47, 48, 49, 50, 51, 52, 53, 54, 55, 56, 57, 58, 59, 60, 61, 62, 63, 64, 65, 66, 67, 68, 69, 70, 71, 72, 73, 74, 75, 76, 77, 78, 79, 80, 81, 82, 83, 84, 85, 86, 87, 88, 89, 90, 91, 92, 93, 94, 95, 96, 97, 98, 99, 100] (by rfl) (by decide +kernel)
set_option maxRecDepth 20000 in
theorem gX5_down_X5_fewestGoes : GoodIn wsX5_down (wsV RX5 270 RX5 yX5_fewestGoes wsX5_fewestGoes) := goodIn_app (goodIn_of _ (by decide +kernel)) ggX5_down_X5_fewestGoes
theorem dX5_down_0 : decode cX5_down 0 = .ok (.aload_n 0, 1) := by decide +kernel
theorem dX5_down_1 : decode cX5_down 1 = .ok (.iload_n 1, 1) := by decide +kernel
theorem dX5_down_2 : decode cX5_down 2 = .ok (.invokevirtual 267, 3) := by decide +kernel
theorem dX5_down_5 : decode cX5_down 5 = .ok (.ifCond .eq 12, 3) := by decide +kernel
theorem dX5_down_8 : decode cX5_down 8 = .ok (.aload_n 0, 1) := by decide +kernel
theorem dX5_down_9 : decode cX5_down 9 = .ok (.iload_n 1, 1) := by decide +kernel
theorem dX5_down_10 : decode cX5_down 10 = .ok (.iconst 0, 1) := by decide +kernel
theorem dX5_down_11 : decode cX5_down 11 = .ok (.invokevirtual 270, 3) := by decide +kernel
theorem dX5_down_14 : decode cX5_down 14 = .ok (.goto 4, 3) := by decide +kernel
theorem dX5_down_17 : decode cX5_down 17 = .ok (.iconst (-1), 1) := by decide +kernel
theorem dX5_down_18 : decode cX5_down 18 = .ok (.ireturn, 1) := by decide +kernel
set_option maxRecDepth 20000 in
theorem ggX5_ever_X5_layLoads : GoodIn wsX5_ever wsX5_layLoads := goodIn_r _ [10, 11, 1, 12, 13, 14, 15, 16, 9, 17, 18, 19, 20, 21, 22, 23, 2, 24, 25, 26, 27, 28, 29, 30, 31, 32, 33, 34, 35, 36, 37, 38, 39, 40, 41, 53, 54, 55, 56, 57, 58, 59, 60, 61, 62, 63, 64, 65, 66, 67, 68, 69, 70, 71, 72, 73, 74, 75, 76, 77, 78, 79, 80, 81, 82, 83, 84] (by rfl) (by decide +kernel)
set_option maxRecDepth 20000 in
theorem gX5_ever_X5_layLoads : GoodIn wsX5_ever (wsV RX5 257 RX5 yX5_layLoads wsX5_layLoads) := goodIn_app (goodIn_of _ (by decide +kernel)) ggX5_ever_X5_layLoads
set_option maxRecDepth 20000 in
theorem ggX5_ever_X5_goOnFrom : GoodIn wsX5_ever wsX5_goOnFrom := goodIn_r _ [45, 11, 3, 4, 5, 46, 47, 9, 48, 49, 50, 51, 52, 32, 33, 34, 53, 54, 55, 56, 57, 58, 59, 60, 61, 62, 63, 64, 65, 66, 67, 68, 69, 70, 71, 72, 73, 74, 75, 76, 77, 78, 79, 80, 81, 82, 83, 84] (by rfl) (by decide +kernel)
set_option maxRecDepth 20000 in
theorem gX5_ever_X5_goOnFrom : GoodIn wsX5_ever (wsV RX5 260 RX5 yX5_goOnFrom wsX5_goOnFrom) := goodIn_app (goodIn_of _ (by decide +kernel)) ggX5_ever_X5_goOnFrom
theorem dX5_ever_0 : decode cX5_ever 0 = .ok (.aload_n 0, 1) := by decide +kernel
theorem dX5_ever_1 : decode cX5_ever 1 = .ok (.getfield 157, 3) := by decide +kernel
theorem dX5_ever_4 : decode cX5_ever 4 = .ok (.ifCond .ne 6, 3) := by decide +kernel
theorem dX5_ever_7 : decode cX5_ever 7 = .ok (.bipush (-4), 2) := by decide +kernel
theorem dX5_ever_9 : decode cX5_ever 9 = .ok (.ireturn, 1) := by decide +kernel
theorem dX5_ever_10 : decode cX5_ever 10 = .ok (.bipush 16, 2) := by decide +kernel
theorem dX5_ever_12 : decode cX5_ever 12 = .ok (.aload_n 0, 1) := by decide +kernel
theorem dX5_ever_13 : decode cX5_ever 13 = .ok (.getfield 7, 3) := by decide +kernel
theorem dX5_ever_16 : decode cX5_ever 16 = .ok (.iconst 2, 1) := by decide +kernel
theorem dX5_ever_17 : decode cX5_ever 17 = .ok (.iaload, 1) := by decide +kernel
theorem dX5_ever_18 : decode cX5_ever 18 = .ok (.imul, 1) := by decide +kernel
theorem dX5_ever_19 : decode cX5_ever 19 = .ok (.aload_n 0, 1) := by decide +kernel
theorem dX5_ever_20 : decode cX5_ever 20 = .ok (.getfield 7, 3) := by decide +kernel
theorem dX5_ever_23 : decode cX5_ever 23 = .ok (.iconst 3, 1) := by decide +kernel
theorem dX5_ever_24 : decode cX5_ever 24 = .ok (.iaload, 1) := by decide +kernel
theorem dX5_ever_25 : decode cX5_ever 25 = .ok (.iadd, 1) := by decide +kernel
theorem dX5_ever_26 : decode cX5_ever 26 = .ok (.istore_n 1, 1) := by decide +kernel
theorem dX5_ever_27 : decode cX5_ever 27 = .ok (.iconst 0, 1) := by decide +kernel
theorem dX5_ever_28 : decode cX5_ever 28 = .ok (.istore_n 2, 1) := by decide +kernel
theorem dX5_ever_29 : decode cX5_ever 29 = .ok (.aload_n 0, 1) := by decide +kernel
theorem dX5_ever_30 : decode cX5_ever 30 = .ok (.invokevirtual 257, 3) := by decide +kernel
theorem dX5_ever_33 : decode cX5_ever 33 = .ok (.iconst 0, 1) := by decide +kernel
theorem dX5_ever_34 : decode cX5_ever 34 = .ok (.istore_n 3, 1) := by decide +kernel
theorem dX5_ever_35 : decode cX5_ever 35 = .ok (.iload_n 3, 1) := by decide +kernel
theorem dX5_ever_36 : decode cX5_ever 36 = .ok (.sipush 1024, 3) := by decide +kernel
theorem dX5_ever_39 : decode cX5_ever 39 = .ok (.if_icmp .ge 18, 3) := by decide +kernel
theorem dX5_ever_42 : decode cX5_ever 42 = .ok (.aload_n 0, 1) := by decide +kernel
theorem dX5_ever_43 : decode cX5_ever 43 = .ok (.getfield 51, 3) := by decide +kernel
theorem dX5_ever_46 : decode cX5_ever 46 = .ok (.iload_n 3, 1) := by decide +kernel
theorem dX5_ever_47 : decode cX5_ever 47 = .ok (.sipush 9999, 3) := by decide +kernel
theorem dX5_ever_50 : decode cX5_ever 50 = .ok (.iastore, 1) := by decide +kernel
theorem dX5_ever_51 : decode cX5_ever 51 = .ok (.iinc 3 1, 3) := by decide +kernel
theorem dX5_ever_54 : decode cX5_ever 54 = .ok (.goto (-19), 3) := by decide +kernel
theorem dX5_ever_57 : decode cX5_ever 57 = .ok (.aload_n 0, 1) := by decide +kernel
theorem dX5_ever_58 : decode cX5_ever 58 = .ok (.getfield 51, 3) := by decide +kernel
theorem dX5_ever_61 : decode cX5_ever 61 = .ok (.iload_n 1, 1) := by decide +kernel
theorem dX5_ever_62 : decode cX5_ever 62 = .ok (.iconst 0, 1) := by decide +kernel
theorem dX5_ever_63 : decode cX5_ever 63 = .ok (.iastore, 1) := by decide +kernel
theorem dX5_ever_64 : decode cX5_ever 64 = .ok (.aload_n 0, 1) := by decide +kernel
theorem dX5_ever_65 : decode cX5_ever 65 = .ok (.getfield 54, 3) := by decide +kernel
theorem dX5_ever_68 : decode cX5_ever 68 = .ok (.iconst 0, 1) := by decide +kernel
theorem dX5_ever_69 : decode cX5_ever 69 = .ok (.iload_n 1, 1) := by decide +kernel
theorem dX5_ever_70 : decode cX5_ever 70 = .ok (.iastore, 1) := by decide +kernel
theorem dX5_ever_71 : decode cX5_ever 71 = .ok (.aload_n 0, 1) := by decide +kernel
theorem dX5_ever_72 : decode cX5_ever 72 = .ok (.iconst 1, 1) := by decide +kernel
theorem dX5_ever_73 : decode cX5_ever 73 = .ok (.putfield 254, 3) := by decide +kernel
theorem dX5_ever_76 : decode cX5_ever 76 = .ok (.iconst 0, 1) := by decide +kernel
theorem dX5_ever_77 : decode cX5_ever 77 = .ok (.istore_n 3, 1) := by decide +kernel
theorem dX5_ever_78 : decode cX5_ever 78 = .ok (.iload_n 3, 1) := by decide +kernel
theorem dX5_ever_79 : decode cX5_ever 79 = .ok (.aload_n 0, 1) := by decide +kernel
theorem dX5_ever_80 : decode cX5_ever 80 = .ok (.getfield 254, 3) := by decide +kernel
theorem dX5_ever_83 : decode cX5_ever 83 = .ok (.if_icmp .ge 37, 3) := by decide +kernel
theorem dX5_ever_86 : decode cX5_ever 86 = .ok (.iload_n 2, 1) := by decide +kernel
theorem dX5_ever_87 : decode cX5_ever 87 = .ok (.aload_n 0, 1) := by decide +kernel
theorem dX5_ever_88 : decode cX5_ever 88 = .ok (.getfield 54, 3) := by decide +kernel
theorem dX5_ever_91 : decode cX5_ever 91 = .ok (.iload_n 3, 1) := by decide +kernel
theorem dX5_ever_92 : decode cX5_ever 92 = .ok (.iaload, 1) := by decide +kernel
theorem dX5_ever_93 : decode cX5_ever 93 = .ok (.iconst 4, 1) := by decide +kernel
theorem dX5_ever_94 : decode cX5_ever 94 = .ok (.ishr, 1) := by decide +kernel
theorem dX5_ever_95 : decode cX5_ever 95 = .ok (.aload_n 0, 1) := by decide +kernel
theorem dX5_ever_96 : decode cX5_ever 96 = .ok (.getfield 7, 3) := by decide +kernel
theorem dX5_ever_99 : decode cX5_ever 99 = .ok (.iconst 2, 1) := by decide +kernel
theorem dX5_ever_100 : decode cX5_ever 100 = .ok (.iaload, 1) := by decide +kernel
theorem dX5_ever_101 : decode cX5_ever 101 = .ok (.ixor, 1) := by decide +kernel
theorem dX5_ever_102 : decode cX5_ever 102 = .ok (.ior, 1) := by decide +kernel
theorem dX5_ever_103 : decode cX5_ever 103 = .ok (.istore_n 2, 1) := by decide +kernel
theorem dX5_ever_104 : decode cX5_ever 104 = .ok (.aload_n 0, 1) := by decide +kernel
theorem dX5_ever_105 : decode cX5_ever 105 = .ok (.aload_n 0, 1) := by decide +kernel
theorem dX5_ever_106 : decode cX5_ever 106 = .ok (.getfield 54, 3) := by decide +kernel
theorem dX5_ever_109 : decode cX5_ever 109 = .ok (.iload_n 3, 1) := by decide +kernel
theorem dX5_ever_110 : decode cX5_ever 110 = .ok (.iaload, 1) := by decide +kernel
theorem dX5_ever_111 : decode cX5_ever 111 = .ok (.invokevirtual 260, 3) := by decide +kernel
theorem dX5_ever_114 : decode cX5_ever 114 = .ok (.iinc 3 1, 3) := by decide +kernel
theorem dX5_ever_117 : decode cX5_ever 117 = .ok (.goto (-39), 3) := by decide +kernel
theorem dX5_ever_120 : decode cX5_ever 120 = .ok (.iload_n 2, 1) := by decide +kernel
theorem dX5_ever_121 : decode cX5_ever 121 = .ok (.ireturn, 1) := by decide +kernel
set_option maxRecDepth 20000 in
theorem ggX5_noPairs_X5_find : GoodIn wsX5_noPairs wsX5_find := goodIn_r _ [8, 9, 10, 23, 24, 25, 26, 27, 28, 29, 30, 31, 32, 33, 34, 35, 36, 37, 38, 39, 40, 41, 42, 43, 44, 45, 46, 47, 48, 49, 50, 51, 52, 53, 54] (by rfl) (by decide +kernel)
set_option maxRecDepth 20000 in
theorem gX5_noPairs_X5_find : GoodIn wsX5_noPairs (wsV RX5 85 RX5 yX5_find wsX5_find) := goodIn_app (goodIn_of _ (by decide +kernel)) ggX5_noPairs_X5_find
set_option maxRecDepth 20000 in
theorem ggX5_noPairs_X5_areTwo : GoodIn wsX5_noPairs wsX5_areTwo := goodIn_r _ [14, 15, 16, 17, 7, 18, 19, 20, 21, 22, 23, 24, 25, 26, 27, 28, 29, 30, 31, 32, 33, 34, 35, 36, 37, 38, 39, 40, 41, 42, 43, 44, 45, 46, 47, 48, 49, 50, 51, 52, 53, 54] (by rfl) (by decide +kernel)
set_option maxRecDepth 20000 in
theorem gX5_noPairs_X5_areTwo : GoodIn wsX5_noPairs (wsV RX5 217 RX5 yX5_areTwo wsX5_areTwo) := goodIn_app (goodIn_of _ (by decide +kernel)) ggX5_noPairs_X5_areTwo
set_option maxRecDepth 20000 in
theorem ggX5_noPairs_X5_in : GoodIn wsX5_noPairs wsX5_in := goodIn_r _ [22] (by rfl) (by decide +kernel)
set_option maxRecDepth 20000 in
theorem gX5_noPairs_X5_in : GoodIn wsX5_noPairs (va_wsS RX5 75 yX5_in wsX5_in) := goodIn_app (goodIn_of _ (by decide +kernel)) ggX5_noPairs_X5_in
theorem dX5_noPairs_0 : decode cX5_noPairs 0 = .ok (.aload_n 0, 1) := by decide +kernel
theorem dX5_noPairs_1 : decode cX5_noPairs 1 = .ok (.getfield 22, 3) := by decide +kernel
theorem dX5_noPairs_4 : decode cX5_noPairs 4 = .ok (.iload_n 2, 1) := by decide +kernel
theorem dX5_noPairs_5 : decode cX5_noPairs 5 = .ok (.iaload, 1) := by decide +kernel
theorem dX5_noPairs_6 : decode cX5_noPairs 6 = .ok (.ifCond .ge 9, 3) := by decide +kernel
theorem dX5_noPairs_9 : decode cX5_noPairs 9 = .ok (.aload_n 0, 1) := by decide +kernel
theorem dX5_noPairs_10 : decode cX5_noPairs 10 = .ok (.iconst 1, 1) := by decide +kernel
theorem dX5_noPairs_11 : decode cX5_noPairs 11 = .ok (.invokevirtual 85, 3) := by decide +kernel
theorem dX5_noPairs_14 : decode cX5_noPairs 14 = .ok (.ireturn, 1) := by decide +kernel
theorem dX5_noPairs_15 : decode cX5_noPairs 15 = .ok (.aload_n 0, 1) := by decide +kernel
theorem dX5_noPairs_16 : decode cX5_noPairs 16 = .ok (.getfield 22, 3) := by decide +kernel
theorem dX5_noPairs_19 : decode cX5_noPairs 19 = .ok (.iload_n 2, 1) := by decide +kernel
theorem dX5_noPairs_20 : decode cX5_noPairs 20 = .ok (.iaload, 1) := by decide +kernel
theorem dX5_noPairs_21 : decode cX5_noPairs 21 = .ok (.iconst 2, 1) := by decide +kernel
theorem dX5_noPairs_22 : decode cX5_noPairs 22 = .ok (.irem, 1) := by decide +kernel
theorem dX5_noPairs_23 : decode cX5_noPairs 23 = .ok (.ifCond .ne 14, 3) := by decide +kernel
theorem dX5_noPairs_26 : decode cX5_noPairs 26 = .ok (.aload_n 0, 1) := by decide +kernel
theorem dX5_noPairs_27 : decode cX5_noPairs 27 = .ok (.getfield 22, 3) := by decide +kernel
theorem dX5_noPairs_30 : decode cX5_noPairs 30 = .ok (.iload_n 2, 1) := by decide +kernel
theorem dX5_noPairs_31 : decode cX5_noPairs 31 = .ok (.iaload, 1) := by decide +kernel
theorem dX5_noPairs_32 : decode cX5_noPairs 32 = .ok (.bipush 16, 2) := by decide +kernel
theorem dX5_noPairs_34 : decode cX5_noPairs 34 = .ok (.if_icmp .le 9, 3) := by decide +kernel
theorem dX5_noPairs_37 : decode cX5_noPairs 37 = .ok (.aload_n 0, 1) := by decide +kernel
theorem dX5_noPairs_38 : decode cX5_noPairs 38 = .ok (.iconst 5, 1) := by decide +kernel
theorem dX5_noPairs_39 : decode cX5_noPairs 39 = .ok (.invokevirtual 85, 3) := by decide +kernel
theorem dX5_noPairs_42 : decode cX5_noPairs 42 = .ok (.ireturn, 1) := by decide +kernel
theorem dX5_noPairs_43 : decode cX5_noPairs 43 = .ok (.iconst 1, 1) := by decide +kernel
theorem dX5_noPairs_44 : decode cX5_noPairs 44 = .ok (.istore_n 3, 1) := by decide +kernel
theorem dX5_noPairs_45 : decode cX5_noPairs 45 = .ok (.bipush 40, 2) := by decide +kernel
theorem dX5_noPairs_47 : decode cX5_noPairs 47 = .ok (.iload_n 2, 1) := by decide +kernel
theorem dX5_noPairs_48 : decode cX5_noPairs 48 = .ok (.imul, 1) := by decide +kernel
theorem dX5_noPairs_49 : decode cX5_noPairs 49 = .ok (.istore 4, 2) := by decide +kernel
theorem dX5_noPairs_51 : decode cX5_noPairs 51 = .ok (.iload 4, 2) := by decide +kernel
theorem dX5_noPairs_53 : decode cX5_noPairs 53 = .ok (.bipush 40, 2) := by decide +kernel
theorem dX5_noPairs_55 : decode cX5_noPairs 55 = .ok (.iload_n 2, 1) := by decide +kernel
theorem dX5_noPairs_56 : decode cX5_noPairs 56 = .ok (.imul, 1) := by decide +kernel
theorem dX5_noPairs_57 : decode cX5_noPairs 57 = .ok (.aload_n 0, 1) := by decide +kernel
theorem dX5_noPairs_58 : decode cX5_noPairs 58 = .ok (.getfield 22, 3) := by decide +kernel
theorem dX5_noPairs_61 : decode cX5_noPairs 61 = .ok (.iload_n 2, 1) := by decide +kernel
theorem dX5_noPairs_62 : decode cX5_noPairs 62 = .ok (.iaload, 1) := by decide +kernel
theorem dX5_noPairs_63 : decode cX5_noPairs 63 = .ok (.iadd, 1) := by decide +kernel
theorem dX5_noPairs_64 : decode cX5_noPairs 64 = .ok (.if_icmp .ge 54, 3) := by decide +kernel
theorem dX5_noPairs_67 : decode cX5_noPairs 67 = .ok (.iload_n 3, 1) := by decide +kernel
theorem dX5_noPairs_68 : decode cX5_noPairs 68 = .ok (.ifCond .eq 42, 3) := by decide +kernel
theorem dX5_noPairs_71 : decode cX5_noPairs 71 = .ok (.aload_n 0, 1) := by decide +kernel
theorem dX5_noPairs_72 : decode cX5_noPairs 72 = .ok (.iload_n 1, 1) := by decide +kernel
theorem dX5_noPairs_73 : decode cX5_noPairs 73 = .ok (.aload_n 0, 1) := by decide +kernel
theorem dX5_noPairs_74 : decode cX5_noPairs 74 = .ok (.getfield 25, 3) := by decide +kernel
theorem dX5_noPairs_77 : decode cX5_noPairs 77 = .ok (.iload 4, 2) := by decide +kernel
theorem dX5_noPairs_79 : decode cX5_noPairs 79 = .ok (.iaload, 1) := by decide +kernel
theorem dX5_noPairs_80 : decode cX5_noPairs 80 = .ok (.invokevirtual 217, 3) := by decide +kernel
theorem dX5_noPairs_83 : decode cX5_noPairs 83 = .ok (.ifCond .eq 27, 3) := by decide +kernel
theorem dX5_noPairs_86 : decode cX5_noPairs 86 = .ok (.aload_n 0, 1) := by decide +kernel
theorem dX5_noPairs_87 : decode cX5_noPairs 87 = .ok (.getfield 25, 3) := by decide +kernel
theorem dX5_noPairs_90 : decode cX5_noPairs 90 = .ok (.iload 4, 2) := by decide +kernel
theorem dX5_noPairs_92 : decode cX5_noPairs 92 = .ok (.iconst 1, 1) := by decide +kernel
theorem dX5_noPairs_93 : decode cX5_noPairs 93 = .ok (.iadd, 1) := by decide +kernel
theorem dX5_noPairs_94 : decode cX5_noPairs 94 = .ok (.iaload, 1) := by decide +kernel
theorem dX5_noPairs_95 : decode cX5_noPairs 95 = .ok (.i2l, 1) := by decide +kernel
theorem dX5_noPairs_96 : decode cX5_noPairs 96 = .ok (.lconst 0, 1) := by decide +kernel
theorem dX5_noPairs_97 : decode cX5_noPairs 97 = .ok (.ldc2_w 273, 3) := by decide +kernel
theorem dX5_noPairs_100 : decode cX5_noPairs 100 = .ok (.invokestatic 75, 3) := by decide +kernel
theorem dX5_noPairs_103 : decode cX5_noPairs 103 = .ok (.ifCond .eq 7, 3) := by decide +kernel
theorem dX5_noPairs_106 : decode cX5_noPairs 106 = .ok (.iconst 1, 1) := by decide +kernel
theorem dX5_noPairs_107 : decode cX5_noPairs 107 = .ok (.goto 4, 3) := by decide +kernel
theorem dX5_noPairs_110 : decode cX5_noPairs 110 = .ok (.iconst 0, 1) := by decide +kernel
theorem dX5_noPairs_111 : decode cX5_noPairs 111 = .ok (.istore_n 3, 1) := by decide +kernel
theorem dX5_noPairs_112 : decode cX5_noPairs 112 = .ok (.iinc 4 2, 3) := by decide +kernel
theorem dX5_noPairs_115 : decode cX5_noPairs 115 = .ok (.goto (-64), 3) := by decide +kernel
theorem dX5_noPairs_118 : decode cX5_noPairs 118 = .ok (.iload_n 3, 1) := by decide +kernel
theorem dX5_noPairs_119 : decode cX5_noPairs 119 = .ok (.ifCond .eq 7, 3) := by decide +kernel
theorem dX5_noPairs_122 : decode cX5_noPairs 122 = .ok (.iconst 0, 1) := by decide +kernel
theorem dX5_noPairs_123 : decode cX5_noPairs 123 = .ok (.goto 8, 3) := by decide +kernel
theorem dX5_noPairs_126 : decode cX5_noPairs 126 = .ok (.aload_n 0, 1) := by decide +kernel
theorem dX5_noPairs_127 : decode cX5_noPairs 127 = .ok (.iconst 3, 1) := by decide +kernel
theorem dX5_noPairs_128 : decode cX5_noPairs 128 = .ok (.invokevirtual 85, 3) := by decide +kernel
theorem dX5_noPairs_131 : decode cX5_noPairs 131 = .ok (.ireturn, 1) := by decide +kernel
set_option maxRecDepth 20000 in
theorem ggX5_sankUnder_X5_countsBy : GoodIn wsX5_sankUnder wsX5_countsBy := goodIn_r _ [5] (by rfl) (by decide +kernel)
set_option maxRecDepth 20000 in
theorem gX5_sankUnder_X5_countsBy : GoodIn wsX5_sankUnder (va_wsS RX5 163 yX5_countsBy wsX5_countsBy) := goodIn_app (goodIn_of _ (by decide +kernel)) ggX5_sankUnder_X5_countsBy
set_option maxRecDepth 20000 in
theorem ggX5_sankUnder_X5_counts : GoodIn wsX5_sankUnder wsX5_counts := goodIn_r _ [9, 10, 11, 1, 2, 3, 4, 5, 19, 20, 21, 22, 23, 24, 25, 26, 27, 28, 29, 30, 31, 32, 33, 34, 35, 36, 37, 38, 39, 40, 41, 42, 43, 44, 45, 46, 47, 48, 49, 50] (by rfl) (by decide +kernel)
set_option maxRecDepth 20000 in
theorem gX5_sankUnder_X5_counts : GoodIn wsX5_sankUnder (wsV RX5 174 RX5 yX5_counts wsX5_counts) := goodIn_app (goodIn_of _ (by decide +kernel)) ggX5_sankUnder_X5_counts
set_option maxRecDepth 20000 in
theorem ggX5_sankUnder_X5_sinkUnder : GoodIn wsX5_sankUnder wsX5_sinkUnder := goodIn_r _ [15, 10, 16, 17, 4, 18, 19, 20, 21, 22, 23, 24, 25, 26, 27, 28, 29, 30, 31, 32, 33, 34, 35, 36, 37, 38, 39, 40, 41, 42, 43, 44, 45, 46, 47, 48, 49, 50] (by rfl) (by decide +kernel)
set_option maxRecDepth 20000 in
theorem gX5_sankUnder_X5_sinkUnder : GoodIn wsX5_sankUnder (wsV RX5 180 RX5 yX5_sinkUnder wsX5_sinkUnder) := goodIn_app (goodIn_of _ (by decide +kernel)) ggX5_sankUnder_X5_sinkUnder
theorem dX5_sankUnder_0 : decode cX5_sankUnder 0 = .ok (.aload_n 0, 1) := by decide +kernel
theorem dX5_sankUnder_1 : decode cX5_sankUnder 1 = .ok (.iload_n 1, 1) := by decide +kernel
theorem dX5_sankUnder_2 : decode cX5_sankUnder 2 = .ok (.iload_n 1, 1) := by decide +kernel
theorem dX5_sankUnder_3 : decode cX5_sankUnder 3 = .ok (.iload_n 2, 1) := by decide +kernel
theorem dX5_sankUnder_4 : decode cX5_sankUnder 4 = .ok (.aload_n 0, 1) := by decide +kernel
theorem dX5_sankUnder_5 : decode cX5_sankUnder 5 = .ok (.getfield 7, 3) := by decide +kernel
theorem dX5_sankUnder_8 : decode cX5_sankUnder 8 = .ok (.iconst 1, 1) := by decide +kernel
theorem dX5_sankUnder_9 : decode cX5_sankUnder 9 = .ok (.iaload, 1) := by decide +kernel
theorem dX5_sankUnder_10 : decode cX5_sankUnder 10 = .ok (.invokestatic 163, 3) := by decide +kernel
theorem dX5_sankUnder_13 : decode cX5_sankUnder 13 = .ok (.iload_n 3, 1) := by decide +kernel
theorem dX5_sankUnder_14 : decode cX5_sankUnder 14 = .ok (.aload_n 0, 1) := by decide +kernel
theorem dX5_sankUnder_15 : decode cX5_sankUnder 15 = .ok (.iload_n 3, 1) := by decide +kernel
theorem dX5_sankUnder_16 : decode cX5_sankUnder 16 = .ok (.invokevirtual 174, 3) := by decide +kernel
theorem dX5_sankUnder_19 : decode cX5_sankUnder 19 = .ok (.invokevirtual 180, 3) := by decide +kernel
theorem dX5_sankUnder_22 : decode cX5_sankUnder 22 = .ok (.ireturn, 1) := by decide +kernel
set_option maxRecDepth 20000 in
theorem ggX5_isSo_X5_sankUnder : GoodIn wsX5_isSo wsX5_sankUnder := goodIn_r _ [7, 8, 9, 10, 6, 11, 12, 13, 14, 15, 16, 17, 18, 19, 20, 21, 22, 23, 24, 25, 26, 27, 28, 29, 30, 31, 32, 33, 34, 35, 36, 37, 38, 39, 40, 41, 42, 43, 44, 45, 46, 47, 48, 49, 50, 51, 52, 53, 54, 55, 56] (by rfl) (by decide +kernel)
set_option maxRecDepth 20000 in
theorem gX5_isSo_X5_sankUnder : GoodIn wsX5_isSo (wsV RX5 275 RX5 yX5_sankUnder wsX5_sankUnder) := goodIn_app (goodIn_of _ (by decide +kernel)) ggX5_isSo_X5_sankUnder
theorem dX5_isSo_0 : decode cX5_isSo 0 = .ok (.iconst 1, 1) := by decide +kernel
theorem dX5_isSo_1 : decode cX5_isSo 1 = .ok (.istore 4, 2) := by decide +kernel
theorem dX5_isSo_3 : decode cX5_isSo 3 = .ok (.bipush 40, 2) := by decide +kernel
theorem dX5_isSo_5 : decode cX5_isSo 5 = .ok (.iload_n 1, 1) := by decide +kernel
theorem dX5_isSo_6 : decode cX5_isSo 6 = .ok (.imul, 1) := by decide +kernel
theorem dX5_isSo_7 : decode cX5_isSo 7 = .ok (.istore 5, 2) := by decide +kernel
theorem dX5_isSo_9 : decode cX5_isSo 9 = .ok (.iload 5, 2) := by decide +kernel
theorem dX5_isSo_11 : decode cX5_isSo 11 = .ok (.bipush 40, 2) := by decide +kernel
theorem dX5_isSo_13 : decode cX5_isSo 13 = .ok (.iload_n 1, 1) := by decide +kernel
theorem dX5_isSo_14 : decode cX5_isSo 14 = .ok (.imul, 1) := by decide +kernel
theorem dX5_isSo_15 : decode cX5_isSo 15 = .ok (.aload_n 0, 1) := by decide +kernel
theorem dX5_isSo_16 : decode cX5_isSo 16 = .ok (.getfield 22, 3) := by decide +kernel
theorem dX5_isSo_19 : decode cX5_isSo 19 = .ok (.iload_n 1, 1) := by decide +kernel
theorem dX5_isSo_20 : decode cX5_isSo 20 = .ok (.iaload, 1) := by decide +kernel
theorem dX5_isSo_21 : decode cX5_isSo 21 = .ok (.iadd, 1) := by decide +kernel
theorem dX5_isSo_22 : decode cX5_isSo 22 = .ok (.if_icmp .ge 46, 3) := by decide +kernel
theorem dX5_isSo_25 : decode cX5_isSo 25 = .ok (.iload 4, 2) := by decide +kernel
theorem dX5_isSo_27 : decode cX5_isSo 27 = .ok (.ifCond .eq 32, 3) := by decide +kernel
theorem dX5_isSo_30 : decode cX5_isSo 30 = .ok (.aload_n 0, 1) := by decide +kernel
theorem dX5_isSo_31 : decode cX5_isSo 31 = .ok (.iload_n 2, 1) := by decide +kernel
theorem dX5_isSo_32 : decode cX5_isSo 32 = .ok (.iload_n 3, 1) := by decide +kernel
theorem dX5_isSo_33 : decode cX5_isSo 33 = .ok (.aload_n 0, 1) := by decide +kernel
theorem dX5_isSo_34 : decode cX5_isSo 34 = .ok (.getfield 25, 3) := by decide +kernel
theorem dX5_isSo_37 : decode cX5_isSo 37 = .ok (.iload 5, 2) := by decide +kernel
theorem dX5_isSo_39 : decode cX5_isSo 39 = .ok (.iaload, 1) := by decide +kernel
theorem dX5_isSo_40 : decode cX5_isSo 40 = .ok (.invokevirtual 275, 3) := by decide +kernel
theorem dX5_isSo_43 : decode cX5_isSo 43 = .ok (.aload_n 0, 1) := by decide +kernel
theorem dX5_isSo_44 : decode cX5_isSo 44 = .ok (.getfield 25, 3) := by decide +kernel
theorem dX5_isSo_47 : decode cX5_isSo 47 = .ok (.iload 5, 2) := by decide +kernel
theorem dX5_isSo_49 : decode cX5_isSo 49 = .ok (.iconst 1, 1) := by decide +kernel
theorem dX5_isSo_50 : decode cX5_isSo 50 = .ok (.iadd, 1) := by decide +kernel
theorem dX5_isSo_51 : decode cX5_isSo 51 = .ok (.iaload, 1) := by decide +kernel
theorem dX5_isSo_52 : decode cX5_isSo 52 = .ok (.if_icmp .ne 7, 3) := by decide +kernel
theorem dX5_isSo_55 : decode cX5_isSo 55 = .ok (.iconst 1, 1) := by decide +kernel
theorem dX5_isSo_56 : decode cX5_isSo 56 = .ok (.goto 4, 3) := by decide +kernel
theorem dX5_isSo_59 : decode cX5_isSo 59 = .ok (.iconst 0, 1) := by decide +kernel
theorem dX5_isSo_60 : decode cX5_isSo 60 = .ok (.istore 4, 2) := by decide +kernel
theorem dX5_isSo_62 : decode cX5_isSo 62 = .ok (.iinc 5 2, 3) := by decide +kernel
theorem dX5_isSo_65 : decode cX5_isSo 65 = .ok (.goto (-56), 3) := by decide +kernel
theorem dX5_isSo_68 : decode cX5_isSo 68 = .ok (.iload 4, 2) := by decide +kernel
theorem dX5_isSo_70 : decode cX5_isSo 70 = .ok (.ireturn, 1) := by decide +kernel
set_option maxRecDepth 20000 in
theorem ggX5_pounds_X5_isOne : GoodIn wsX5_pounds wsX5_isOne := goodIn_r _ [7, 8, 9, 10, 6, 11, 57, 58, 59, 60, 61, 62, 63, 64, 65, 66, 67, 68, 69, 70, 71, 72, 73, 74, 75, 76, 77, 78, 79, 80, 81, 82, 83, 84, 85, 86, 87, 88] (by rfl) (by decide +kernel)
set_option maxRecDepth 20000 in
theorem gX5_pounds_X5_isOne : GoodIn wsX5_pounds (wsV RX5 160 RX5 yX5_isOne wsX5_isOne) := goodIn_app (goodIn_of _ (by decide +kernel)) ggX5_pounds_X5_isOne
set_option maxRecDepth 20000 in
theorem ggX5_pounds_X5_isRow : GoodIn wsX5_pounds wsX5_isRow := goodIn_r _ [14, 15, 9, 10, 6, 11] (by rfl) (by decide +kernel)
set_option maxRecDepth 20000 in
theorem gX5_pounds_X5_isRow : GoodIn wsX5_pounds (va_wsS RX5 81 yX5_isRow wsX5_isRow) := goodIn_app (goodIn_of _ (by decide +kernel)) ggX5_pounds_X5_isRow
set_option maxRecDepth 20000 in
theorem ggX5_pounds_X5_noPairs : GoodIn wsX5_pounds wsX5_noPairs := goodIn_r _ [19, 20, 21, 22, 23, 24, 25, 6, 26, 27, 28, 29, 30, 31, 32, 3, 4, 5, 7, 8, 9, 10, 11, 57, 58, 59, 60, 61, 62, 63, 64, 65, 66, 67, 68, 69, 70, 71, 72, 73, 74, 75, 76, 77, 78, 79, 80, 81, 82, 83, 84, 85, 86, 87, 88] (by rfl) (by decide +kernel)
set_option maxRecDepth 20000 in
theorem gX5_pounds_X5_noPairs : GoodIn wsX5_pounds (wsV RX5 278 RX5 yX5_noPairs wsX5_noPairs) := goodIn_app (goodIn_of _ (by decide +kernel)) ggX5_pounds_X5_noPairs
set_option maxRecDepth 20000 in
theorem ggX5_pounds_X5_isSo : GoodIn wsX5_pounds wsX5_isSo := goodIn_r _ [36, 20, 21, 37, 38, 39, 6, 40, 41, 42, 43, 44, 45, 46, 47, 48, 2, 49, 50, 51, 52, 53, 54, 55, 56, 57, 58, 59, 60, 61, 62, 63, 64, 65, 66, 67, 68, 69, 70, 71, 72, 73, 74, 75, 76, 77, 78, 79, 80, 81, 82, 83, 84, 85, 86, 87, 88] (by rfl) (by decide +kernel)
set_option maxRecDepth 20000 in
theorem gX5_pounds_X5_isSo : GoodIn wsX5_pounds (wsV RX5 281 RX5 yX5_isSo wsX5_isSo) := goodIn_app (goodIn_of _ (by decide +kernel)) ggX5_pounds_X5_isSo
theorem dX5_pounds_0 : decode cX5_pounds 0 = .ok (.aload_n 0, 1) := by decide +kernel
theorem dX5_pounds_1 : decode cX5_pounds 1 = .ok (.iload_n 1, 1) := by decide +kernel
theorem dX5_pounds_2 : decode cX5_pounds 2 = .ok (.invokevirtual 160, 3) := by decide +kernel
theorem dX5_pounds_5 : decode cX5_pounds 5 = .ok (.ifCond .eq 10, 3) := by decide +kernel
theorem dX5_pounds_8 : decode cX5_pounds 8 = .ok (.iload_n 2, 1) := by decide +kernel
theorem dX5_pounds_9 : decode cX5_pounds 9 = .ok (.invokestatic 81, 3) := by decide +kernel
theorem dX5_pounds_12 : decode cX5_pounds 12 = .ok (.ifCond .ne 5, 3) := by decide +kernel
theorem dX5_pounds_15 : decode cX5_pounds 15 = .ok (.iconst (-1), 1) := by decide +kernel
theorem dX5_pounds_16 : decode cX5_pounds 16 = .ok (.ireturn, 1) := by decide +kernel
theorem dX5_pounds_17 : decode cX5_pounds 17 = .ok (.aload_n 0, 1) := by decide +kernel
theorem dX5_pounds_18 : decode cX5_pounds 18 = .ok (.iload_n 1, 1) := by decide +kernel
theorem dX5_pounds_19 : decode cX5_pounds 19 = .ok (.iload_n 2, 1) := by decide +kernel
theorem dX5_pounds_20 : decode cX5_pounds 20 = .ok (.invokevirtual 278, 3) := by decide +kernel
theorem dX5_pounds_23 : decode cX5_pounds 23 = .ok (.istore_n 3, 1) := by decide +kernel
theorem dX5_pounds_24 : decode cX5_pounds 24 = .ok (.iload_n 3, 1) := by decide +kernel
theorem dX5_pounds_25 : decode cX5_pounds 25 = .ok (.ifCond .eq 5, 3) := by decide +kernel
theorem dX5_pounds_28 : decode cX5_pounds 28 = .ok (.iload_n 3, 1) := by decide +kernel
theorem dX5_pounds_29 : decode cX5_pounds 29 = .ok (.ireturn, 1) := by decide +kernel
theorem dX5_pounds_30 : decode cX5_pounds 30 = .ok (.iconst 0, 1) := by decide +kernel
theorem dX5_pounds_31 : decode cX5_pounds 31 = .ok (.istore 4, 2) := by decide +kernel
theorem dX5_pounds_33 : decode cX5_pounds 33 = .ok (.aload_n 0, 1) := by decide +kernel
theorem dX5_pounds_34 : decode cX5_pounds 34 = .ok (.bipush (-9), 2) := by decide +kernel
theorem dX5_pounds_36 : decode cX5_pounds 36 = .ok (.putfield 70, 3) := by decide +kernel
theorem dX5_pounds_39 : decode cX5_pounds 39 = .ok (.bipush 99, 2) := by decide +kernel
theorem dX5_pounds_41 : decode cX5_pounds 41 = .ok (.istore 5, 2) := by decide +kernel
theorem dX5_pounds_43 : decode cX5_pounds 43 = .ok (.iload 5, 2) := by decide +kernel
theorem dX5_pounds_45 : decode cX5_pounds 45 = .ok (.ifCond .le 57, 3) := by decide +kernel
theorem dX5_pounds_48 : decode cX5_pounds 48 = .ok (.aload_n 0, 1) := by decide +kernel
theorem dX5_pounds_49 : decode cX5_pounds 49 = .ok (.iload_n 2, 1) := by decide +kernel
theorem dX5_pounds_50 : decode cX5_pounds 50 = .ok (.aload_n 0, 1) := by decide +kernel
theorem dX5_pounds_51 : decode cX5_pounds 51 = .ok (.getfield 16, 3) := by decide +kernel
theorem dX5_pounds_54 : decode cX5_pounds 54 = .ok (.iload_n 1, 1) := by decide +kernel
theorem dX5_pounds_55 : decode cX5_pounds 55 = .ok (.iaload, 1) := by decide +kernel
theorem dX5_pounds_56 : decode cX5_pounds 56 = .ok (.iload 5, 2) := by decide +kernel
theorem dX5_pounds_58 : decode cX5_pounds 58 = .ok (.invokevirtual 281, 3) := by decide +kernel
theorem dX5_pounds_61 : decode cX5_pounds 61 = .ok (.istore 6, 2) := by decide +kernel
theorem dX5_pounds_63 : decode cX5_pounds 63 = .ok (.iload 4, 2) := by decide +kernel
theorem dX5_pounds_65 : decode cX5_pounds 65 = .ok (.iload 6, 2) := by decide +kernel
theorem dX5_pounds_67 : decode cX5_pounds 67 = .ok (.ifCond .eq 7, 3) := by decide +kernel
theorem dX5_pounds_70 : decode cX5_pounds 70 = .ok (.iconst 1, 1) := by decide +kernel
theorem dX5_pounds_71 : decode cX5_pounds 71 = .ok (.goto 4, 3) := by decide +kernel
theorem dX5_pounds_74 : decode cX5_pounds 74 = .ok (.iconst 0, 1) := by decide +kernel
theorem dX5_pounds_75 : decode cX5_pounds 75 = .ok (.iadd, 1) := by decide +kernel
theorem dX5_pounds_76 : decode cX5_pounds 76 = .ok (.istore 4, 2) := by decide +kernel
theorem dX5_pounds_78 : decode cX5_pounds 78 = .ok (.aload_n 0, 1) := by decide +kernel
theorem dX5_pounds_79 : decode cX5_pounds 79 = .ok (.iload 6, 2) := by decide +kernel
theorem dX5_pounds_81 : decode cX5_pounds 81 = .ok (.ifCond .eq 8, 3) := by decide +kernel
theorem dX5_pounds_84 : decode cX5_pounds 84 = .ok (.iload 5, 2) := by decide +kernel
theorem dX5_pounds_86 : decode cX5_pounds 86 = .ok (.goto 7, 3) := by decide +kernel
theorem dX5_pounds_89 : decode cX5_pounds 89 = .ok (.aload_n 0, 1) := by decide +kernel
theorem dX5_pounds_90 : decode cX5_pounds 90 = .ok (.getfield 70, 3) := by decide +kernel
theorem dX5_pounds_93 : decode cX5_pounds 93 = .ok (.putfield 70, 3) := by decide +kernel
theorem dX5_pounds_96 : decode cX5_pounds 96 = .ok (.iinc 5 (-1), 3) := by decide +kernel
theorem dX5_pounds_99 : decode cX5_pounds 99 = .ok (.goto (-56), 3) := by decide +kernel
theorem dX5_pounds_102 : decode cX5_pounds 102 = .ok (.iload 4, 2) := by decide +kernel
theorem dX5_pounds_104 : decode cX5_pounds 104 = .ok (.ireturn, 1) := by decide +kernel
set_option maxRecDepth 20000 in
theorem ggX5_kindsBy_X5_isSo : GoodIn wsX5_kindsBy wsX5_isSo := goodIn_r _ [6, 7, 8, 9, 10, 11, 5, 12, 13, 14, 15, 16, 17, 18, 19, 20, 21, 1, 22, 23, 24, 25, 26, 27, 28, 29, 30, 31, 32, 33, 34, 35, 36, 37, 38, 39, 40, 41, 42, 43, 44, 45, 46, 47, 48, 49, 50, 51, 52, 53, 54, 55, 56, 57, 58, 59, 60] (by rfl) (by decide +kernel)
set_option maxRecDepth 20000 in
theorem gX5_kindsBy_X5_isSo : GoodIn wsX5_kindsBy (wsV RX5 281 RX5 yX5_isSo wsX5_isSo) := goodIn_app (goodIn_of _ (by decide +kernel)) ggX5_kindsBy_X5_isSo
theorem dX5_kindsBy_0 : decode cX5_kindsBy 0 = .ok (.iconst 0, 1) := by decide +kernel
theorem dX5_kindsBy_1 : decode cX5_kindsBy 1 = .ok (.istore_n 3, 1) := by decide +kernel
theorem dX5_kindsBy_2 : decode cX5_kindsBy 2 = .ok (.iconst 0, 1) := by decide +kernel
theorem dX5_kindsBy_3 : decode cX5_kindsBy 3 = .ok (.istore 4, 2) := by decide +kernel
theorem dX5_kindsBy_5 : decode cX5_kindsBy 5 = .ok (.iload 4, 2) := by decide +kernel
theorem dX5_kindsBy_7 : decode cX5_kindsBy 7 = .ok (.bipush 6, 2) := by decide +kernel
theorem dX5_kindsBy_9 : decode cX5_kindsBy 9 = .ok (.if_icmp .ge 36, 3) := by decide +kernel
theorem dX5_kindsBy_12 : decode cX5_kindsBy 12 = .ok (.iload_n 3, 1) := by decide +kernel
theorem dX5_kindsBy_13 : decode cX5_kindsBy 13 = .ok (.aload_n 0, 1) := by decide +kernel
theorem dX5_kindsBy_14 : decode cX5_kindsBy 14 = .ok (.iload_n 2, 1) := by decide +kernel
theorem dX5_kindsBy_15 : decode cX5_kindsBy 15 = .ok (.iload 4, 2) := by decide +kernel
theorem dX5_kindsBy_17 : decode cX5_kindsBy 17 = .ok (.aload_n 0, 1) := by decide +kernel
theorem dX5_kindsBy_18 : decode cX5_kindsBy 18 = .ok (.getfield 19, 3) := by decide +kernel
theorem dX5_kindsBy_21 : decode cX5_kindsBy 21 = .ok (.iload_n 1, 1) := by decide +kernel
theorem dX5_kindsBy_22 : decode cX5_kindsBy 22 = .ok (.iaload, 1) := by decide +kernel
theorem dX5_kindsBy_23 : decode cX5_kindsBy 23 = .ok (.invokevirtual 281, 3) := by decide +kernel
theorem dX5_kindsBy_26 : decode cX5_kindsBy 26 = .ok (.ifCond .eq 10, 3) := by decide +kernel
theorem dX5_kindsBy_29 : decode cX5_kindsBy 29 = .ok (.iconst 1, 1) := by decide +kernel
theorem dX5_kindsBy_30 : decode cX5_kindsBy 30 = .ok (.iload 4, 2) := by decide +kernel
theorem dX5_kindsBy_32 : decode cX5_kindsBy 32 = .ok (.ishl, 1) := by decide +kernel
theorem dX5_kindsBy_33 : decode cX5_kindsBy 33 = .ok (.goto 4, 3) := by decide +kernel
theorem dX5_kindsBy_36 : decode cX5_kindsBy 36 = .ok (.iconst 0, 1) := by decide +kernel
theorem dX5_kindsBy_37 : decode cX5_kindsBy 37 = .ok (.ior, 1) := by decide +kernel
theorem dX5_kindsBy_38 : decode cX5_kindsBy 38 = .ok (.istore_n 3, 1) := by decide +kernel
theorem dX5_kindsBy_39 : decode cX5_kindsBy 39 = .ok (.iinc 4 1, 3) := by decide +kernel
theorem dX5_kindsBy_42 : decode cX5_kindsBy 42 = .ok (.goto (-37), 3) := by decide +kernel
theorem dX5_kindsBy_45 : decode cX5_kindsBy 45 = .ok (.iload_n 3, 1) := by decide +kernel
theorem dX5_kindsBy_46 : decode cX5_kindsBy 46 = .ok (.ireturn, 1) := by decide +kernel
set_option maxRecDepth 20000 in
theorem ggX5_kinds_X5_isOne : GoodIn wsX5_kinds wsX5_isOne := goodIn_r _ [5, 6, 7, 8, 4, 9, 60, 61, 62, 63, 64, 65, 66, 67, 68, 69, 70, 71, 72, 73, 74, 75, 76, 77, 78, 79, 80, 81, 82, 83, 84, 85, 86, 87, 88, 89, 90, 91] (by rfl) (by decide +kernel)
set_option maxRecDepth 20000 in
theorem gX5_kinds_X5_isOne : GoodIn wsX5_kinds (wsV RX5 160 RX5 yX5_isOne wsX5_isOne) := goodIn_app (goodIn_of _ (by decide +kernel)) ggX5_kinds_X5_isOne
set_option maxRecDepth 20000 in
theorem ggX5_kinds_X5_isRow : GoodIn wsX5_kinds wsX5_isRow := goodIn_r _ [12, 13, 7, 8, 4, 9] (by rfl) (by decide +kernel)
set_option maxRecDepth 20000 in
theorem gX5_kinds_X5_isRow : GoodIn wsX5_kinds (va_wsS RX5 81 yX5_isRow wsX5_isRow) := goodIn_app (goodIn_of _ (by decide +kernel)) ggX5_kinds_X5_isRow
set_option maxRecDepth 20000 in
theorem ggX5_kinds_X5_noPairs : GoodIn wsX5_kinds wsX5_noPairs := goodIn_r _ [17, 18, 19, 20, 21, 22, 23, 4, 24, 25, 26, 27, 28, 29, 30, 1, 2, 3, 5, 6, 7, 8, 9, 60, 61, 62, 63, 64, 65, 66, 67, 68, 69, 70, 71, 72, 73, 74, 75, 76, 77, 78, 79, 80, 81, 82, 83, 84, 85, 86, 87, 88, 89, 90, 91] (by rfl) (by decide +kernel)
set_option maxRecDepth 20000 in
theorem gX5_kinds_X5_noPairs : GoodIn wsX5_kinds (wsV RX5 278 RX5 yX5_noPairs wsX5_noPairs) := goodIn_app (goodIn_of _ (by decide +kernel)) ggX5_kinds_X5_noPairs
set_option maxRecDepth 20000 in
theorem ggX5_kinds_X5_kindsBy : GoodIn wsX5_kinds wsX5_kindsBy := goodIn_r _ [34, 35, 36, 37, 38, 4, 39, 18, 19, 40, 41, 42, 43, 44, 45, 46, 47, 48, 49, 50, 51, 52, 53, 54, 55, 56, 57, 58, 59, 60, 61, 62, 63, 64, 65, 66, 67, 68, 69, 70, 71, 72, 73, 74, 75, 76, 77, 78, 79, 80, 81, 82, 83, 84, 85, 86, 87, 88, 89, 90, 91] (by rfl) (by decide +kernel)
set_option maxRecDepth 20000 in
theorem gX5_kinds_X5_kindsBy : GoodIn wsX5_kinds (wsV RX5 284 RX5 yX5_kindsBy wsX5_kindsBy) := goodIn_app (goodIn_of _ (by decide +kernel)) ggX5_kinds_X5_kindsBy
theorem dX5_kinds_0 : decode cX5_kinds 0 = .ok (.aload_n 0, 1) := by decide +kernel
theorem dX5_kinds_1 : decode cX5_kinds 1 = .ok (.iload_n 1, 1) := by decide +kernel
theorem dX5_kinds_2 : decode cX5_kinds 2 = .ok (.invokevirtual 160, 3) := by decide +kernel
theorem dX5_kinds_5 : decode cX5_kinds 5 = .ok (.ifCond .eq 10, 3) := by decide +kernel
theorem dX5_kinds_8 : decode cX5_kinds 8 = .ok (.iload_n 2, 1) := by decide +kernel
theorem dX5_kinds_9 : decode cX5_kinds 9 = .ok (.invokestatic 81, 3) := by decide +kernel
theorem dX5_kinds_12 : decode cX5_kinds 12 = .ok (.ifCond .ne 5, 3) := by decide +kernel
theorem dX5_kinds_15 : decode cX5_kinds 15 = .ok (.iconst (-1), 1) := by decide +kernel
theorem dX5_kinds_16 : decode cX5_kinds 16 = .ok (.ireturn, 1) := by decide +kernel
theorem dX5_kinds_17 : decode cX5_kinds 17 = .ok (.aload_n 0, 1) := by decide +kernel
theorem dX5_kinds_18 : decode cX5_kinds 18 = .ok (.iload_n 1, 1) := by decide +kernel
theorem dX5_kinds_19 : decode cX5_kinds 19 = .ok (.iload_n 2, 1) := by decide +kernel
theorem dX5_kinds_20 : decode cX5_kinds 20 = .ok (.invokevirtual 278, 3) := by decide +kernel
theorem dX5_kinds_23 : decode cX5_kinds 23 = .ok (.istore_n 3, 1) := by decide +kernel
theorem dX5_kinds_24 : decode cX5_kinds 24 = .ok (.iload_n 3, 1) := by decide +kernel
theorem dX5_kinds_25 : decode cX5_kinds 25 = .ok (.ifCond .eq 7, 3) := by decide +kernel
theorem dX5_kinds_28 : decode cX5_kinds 28 = .ok (.iload_n 3, 1) := by decide +kernel
theorem dX5_kinds_29 : decode cX5_kinds 29 = .ok (.goto 9, 3) := by decide +kernel
theorem dX5_kinds_32 : decode cX5_kinds 32 = .ok (.aload_n 0, 1) := by decide +kernel
theorem dX5_kinds_33 : decode cX5_kinds 33 = .ok (.iload_n 1, 1) := by decide +kernel
theorem dX5_kinds_34 : decode cX5_kinds 34 = .ok (.iload_n 2, 1) := by decide +kernel
theorem dX5_kinds_35 : decode cX5_kinds 35 = .ok (.invokevirtual 284, 3) := by decide +kernel
theorem dX5_kinds_38 : decode cX5_kinds 38 = .ok (.ireturn, 1) := by decide +kernel
set_option maxRecDepth 20000 in
theorem ggX5_greatestPart_X5_has : GoodIn wsX5_greatestPart wsX5_has := goodIn_r _ [5] (by rfl) (by decide +kernel)
set_option maxRecDepth 20000 in
theorem gX5_greatestPart_X5_has : GoodIn wsX5_greatestPart (va_wsS RX5 167 yX5_has wsX5_has) := goodIn_app (goodIn_of _ (by decide +kernel)) ggX5_greatestPart_X5_has
set_option maxRecDepth 20000 in
theorem ggX5_greatestPart_X5_sankUnder : GoodIn wsX5_greatestPart wsX5_sankUnder := goodIn_r _ [9, 10, 11, 12, 4, 13, 14, 15, 16, 17, 18, 1, 19, 20, 21, 22, 23, 24, 25, 26, 27, 28, 29, 30, 31, 32, 33, 34, 35, 36, 37, 38, 39, 40, 41, 42, 43, 44, 45, 46, 47, 48, 49, 50, 51, 52, 53, 54, 55, 56, 57] (by rfl) (by decide +kernel)
set_option maxRecDepth 20000 in
theorem gX5_greatestPart_X5_sankUnder : GoodIn wsX5_greatestPart (wsV RX5 275 RX5 yX5_sankUnder wsX5_sankUnder) := goodIn_app (goodIn_of _ (by decide +kernel)) ggX5_greatestPart_X5_sankUnder
theorem dX5_greatestPart_0 : decode cX5_greatestPart 0 = .ok (.iconst 0, 1) := by decide +kernel
theorem dX5_greatestPart_1 : decode cX5_greatestPart 1 = .ok (.istore 4, 2) := by decide +kernel
theorem dX5_greatestPart_3 : decode cX5_greatestPart 3 = .ok (.iconst 0, 1) := by decide +kernel
theorem dX5_greatestPart_4 : decode cX5_greatestPart 4 = .ok (.istore 5, 2) := by decide +kernel
theorem dX5_greatestPart_6 : decode cX5_greatestPart 6 = .ok (.iload 5, 2) := by decide +kernel
theorem dX5_greatestPart_8 : decode cX5_greatestPart 8 = .ok (.bipush 6, 2) := by decide +kernel
theorem dX5_greatestPart_10 : decode cX5_greatestPart 10 = .ok (.if_icmp .ge 101, 3) := by decide +kernel
theorem dX5_greatestPart_13 : decode cX5_greatestPart 13 = .ok (.iconst 0, 1) := by decide +kernel
theorem dX5_greatestPart_14 : decode cX5_greatestPart 14 = .ok (.istore 6, 2) := by decide +kernel
theorem dX5_greatestPart_16 : decode cX5_greatestPart 16 = .ok (.iconst 0, 1) := by decide +kernel
theorem dX5_greatestPart_17 : decode cX5_greatestPart 17 = .ok (.istore 7, 2) := by decide +kernel
theorem dX5_greatestPart_19 : decode cX5_greatestPart 19 = .ok (.iload 7, 2) := by decide +kernel
theorem dX5_greatestPart_21 : decode cX5_greatestPart 21 = .ok (.bipush 6, 2) := by decide +kernel
theorem dX5_greatestPart_23 : decode cX5_greatestPart 23 = .ok (.if_icmp .ge 66, 3) := by decide +kernel
theorem dX5_greatestPart_26 : decode cX5_greatestPart 26 = .ok (.iload 6, 2) := by decide +kernel
theorem dX5_greatestPart_28 : decode cX5_greatestPart 28 = .ok (.iload_n 2, 1) := by decide +kernel
theorem dX5_greatestPart_29 : decode cX5_greatestPart 29 = .ok (.iload 5, 2) := by decide +kernel
theorem dX5_greatestPart_31 : decode cX5_greatestPart 31 = .ok (.invokestatic 167, 3) := by decide +kernel
theorem dX5_greatestPart_34 : decode cX5_greatestPart 34 = .ok (.ifCond .eq 45, 3) := by decide +kernel
theorem dX5_greatestPart_37 : decode cX5_greatestPart 37 = .ok (.iload_n 2, 1) := by decide +kernel
theorem dX5_greatestPart_38 : decode cX5_greatestPart 38 = .ok (.iload 7, 2) := by decide +kernel
theorem dX5_greatestPart_40 : decode cX5_greatestPart 40 = .ok (.invokestatic 167, 3) := by decide +kernel
theorem dX5_greatestPart_43 : decode cX5_greatestPart 43 = .ok (.ifCond .eq 36, 3) := by decide +kernel
theorem dX5_greatestPart_46 : decode cX5_greatestPart 46 = .ok (.aload_n 0, 1) := by decide +kernel
theorem dX5_greatestPart_47 : decode cX5_greatestPart 47 = .ok (.iload 5, 2) := by decide +kernel
theorem dX5_greatestPart_49 : decode cX5_greatestPart 49 = .ok (.aload_n 0, 1) := by decide +kernel
theorem dX5_greatestPart_50 : decode cX5_greatestPart 50 = .ok (.getfield 19, 3) := by decide +kernel
theorem dX5_greatestPart_53 : decode cX5_greatestPart 53 = .ok (.iload_n 1, 1) := by decide +kernel
theorem dX5_greatestPart_54 : decode cX5_greatestPart 54 = .ok (.iaload, 1) := by decide +kernel
theorem dX5_greatestPart_55 : decode cX5_greatestPart 55 = .ok (.iload_n 3, 1) := by decide +kernel
theorem dX5_greatestPart_56 : decode cX5_greatestPart 56 = .ok (.invokevirtual 275, 3) := by decide +kernel
theorem dX5_greatestPart_59 : decode cX5_greatestPart 59 = .ok (.aload_n 0, 1) := by decide +kernel
theorem dX5_greatestPart_60 : decode cX5_greatestPart 60 = .ok (.iload 7, 2) := by decide +kernel
theorem dX5_greatestPart_62 : decode cX5_greatestPart 62 = .ok (.aload_n 0, 1) := by decide +kernel
theorem dX5_greatestPart_63 : decode cX5_greatestPart 63 = .ok (.getfield 19, 3) := by decide +kernel
theorem dX5_greatestPart_66 : decode cX5_greatestPart 66 = .ok (.iload_n 1, 1) := by decide +kernel
theorem dX5_greatestPart_67 : decode cX5_greatestPart 67 = .ok (.iaload, 1) := by decide +kernel
theorem dX5_greatestPart_68 : decode cX5_greatestPart 68 = .ok (.iload_n 3, 1) := by decide +kernel
theorem dX5_greatestPart_69 : decode cX5_greatestPart 69 = .ok (.invokevirtual 275, 3) := by decide +kernel
theorem dX5_greatestPart_72 : decode cX5_greatestPart 72 = .ok (.if_icmp .ne 7, 3) := by decide +kernel
theorem dX5_greatestPart_75 : decode cX5_greatestPart 75 = .ok (.iconst 1, 1) := by decide +kernel
theorem dX5_greatestPart_76 : decode cX5_greatestPart 76 = .ok (.goto 4, 3) := by decide +kernel
theorem dX5_greatestPart_79 : decode cX5_greatestPart 79 = .ok (.iconst 0, 1) := by decide +kernel
theorem dX5_greatestPart_80 : decode cX5_greatestPart 80 = .ok (.iadd, 1) := by decide +kernel
theorem dX5_greatestPart_81 : decode cX5_greatestPart 81 = .ok (.istore 6, 2) := by decide +kernel
theorem dX5_greatestPart_83 : decode cX5_greatestPart 83 = .ok (.iinc 7 1, 3) := by decide +kernel
theorem dX5_greatestPart_86 : decode cX5_greatestPart 86 = .ok (.goto (-67), 3) := by decide +kernel
theorem dX5_greatestPart_89 : decode cX5_greatestPart 89 = .ok (.iload 6, 2) := by decide +kernel
theorem dX5_greatestPart_91 : decode cX5_greatestPart 91 = .ok (.iload 4, 2) := by decide +kernel
theorem dX5_greatestPart_93 : decode cX5_greatestPart 93 = .ok (.if_icmp .le 8, 3) := by decide +kernel
theorem dX5_greatestPart_96 : decode cX5_greatestPart 96 = .ok (.iload 6, 2) := by decide +kernel
theorem dX5_greatestPart_98 : decode cX5_greatestPart 98 = .ok (.goto 5, 3) := by decide +kernel
theorem dX5_greatestPart_101 : decode cX5_greatestPart 101 = .ok (.iload 4, 2) := by decide +kernel
theorem dX5_greatestPart_103 : decode cX5_greatestPart 103 = .ok (.istore 4, 2) := by decide +kernel
theorem dX5_greatestPart_105 : decode cX5_greatestPart 105 = .ok (.iinc 5 1, 3) := by decide +kernel
theorem dX5_greatestPart_108 : decode cX5_greatestPart 108 = .ok (.goto (-102), 3) := by decide +kernel
theorem dX5_greatestPart_111 : decode cX5_greatestPart 111 = .ok (.iload 4, 2) := by decide +kernel
theorem dX5_greatestPart_113 : decode cX5_greatestPart 113 = .ok (.ireturn, 1) := by decide +kernel
set_option maxRecDepth 20000 in
theorem ggX5_next_X5_isOne : GoodIn wsX5_next wsX5_isOne := goodIn_r _ [7, 1, 8, 9, 6, 10, 68, 69, 70, 71, 72, 73, 74, 75, 76, 77, 78, 79, 80, 81, 82, 83, 84, 85, 86, 87, 88, 89, 90, 91, 92, 93, 94, 95, 96, 97, 98, 99] (by rfl) (by decide +kernel)
set_option maxRecDepth 20000 in
theorem gX5_next_X5_isOne : GoodIn wsX5_next (wsV RX5 160 RX5 yX5_isOne wsX5_isOne) := goodIn_app (goodIn_of _ (by decide +kernel)) ggX5_next_X5_isOne
set_option maxRecDepth 20000 in
theorem ggX5_next_X5_isRow : GoodIn wsX5_next wsX5_isRow := goodIn_r _ [13, 14, 8, 9, 6, 10] (by rfl) (by decide +kernel)
set_option maxRecDepth 20000 in
theorem gX5_next_X5_isRow : GoodIn wsX5_next (va_wsS RX5 81 yX5_isRow wsX5_isRow) := goodIn_app (goodIn_of _ (by decide +kernel)) ggX5_next_X5_isRow
set_option maxRecDepth 20000 in
theorem ggX5_next_X5_noPairs : GoodIn wsX5_next wsX5_noPairs := goodIn_r _ [18, 19, 20, 21, 22, 23, 24, 6, 25, 26, 27, 28, 29, 30, 31, 3, 4, 5, 7, 1, 8, 9, 10, 68, 69, 70, 71, 72, 73, 74, 75, 76, 77, 78, 79, 80, 81, 82, 83, 84, 85, 86, 87, 88, 89, 90, 91, 92, 93, 94, 95, 96, 97, 98, 99] (by rfl) (by decide +kernel)
set_option maxRecDepth 20000 in
theorem gX5_next_X5_noPairs : GoodIn wsX5_next (wsV RX5 278 RX5 yX5_noPairs wsX5_noPairs) := goodIn_app (goodIn_of _ (by decide +kernel)) ggX5_next_X5_noPairs
set_option maxRecDepth 20000 in
theorem ggX5_next_X5_kindsBy : GoodIn wsX5_next wsX5_kindsBy := goodIn_r _ [35, 36, 37, 38, 39, 6, 40, 19, 20, 41, 42, 43, 44, 45, 46, 47, 48, 49, 50, 51, 52, 53, 54, 55, 56, 57, 58, 59, 60, 68, 69, 70, 71, 72, 73, 74, 75, 76, 77, 78, 79, 80, 81, 82, 83, 84, 85, 86, 87, 88, 89, 90, 91, 92, 93, 94, 95, 96, 97, 98, 99] (by rfl) (by decide +kernel)
set_option maxRecDepth 20000 in
theorem gX5_next_X5_kindsBy : GoodIn wsX5_next (wsV RX5 284 RX5 yX5_kindsBy wsX5_kindsBy) := goodIn_app (goodIn_of _ (by decide +kernel)) ggX5_next_X5_kindsBy
set_option maxRecDepth 20000 in
theorem ggX5_next_X5_greatestPart : GoodIn wsX5_next wsX5_greatestPart := goodIn_r _ [64, 36, 65, 66, 6, 67, 41, 42, 43, 44, 45, 46, 47, 48, 49, 50, 51, 52, 53, 54, 55, 56, 57, 58, 59, 60, 68, 69, 70, 71, 72, 73, 74, 75, 76, 77, 78, 79, 80, 81, 82, 83, 84, 85, 86, 87, 88, 89, 90, 91, 92, 93, 94, 95, 96, 97, 98, 99] (by rfl) (by decide +kernel)
set_option maxRecDepth 20000 in
theorem gX5_next_X5_greatestPart : GoodIn wsX5_next (wsV RX5 287 RX5 yX5_greatestPart wsX5_greatestPart) := goodIn_app (goodIn_of _ (by decide +kernel)) ggX5_next_X5_greatestPart
theorem dX5_next_0 : decode cX5_next 0 = .ok (.aload_n 0, 1) := by decide +kernel
theorem dX5_next_1 : decode cX5_next 1 = .ok (.iload_n 1, 1) := by decide +kernel
theorem dX5_next_2 : decode cX5_next 2 = .ok (.invokevirtual 160, 3) := by decide +kernel
theorem dX5_next_5 : decode cX5_next 5 = .ok (.ifCond .eq 10, 3) := by decide +kernel
theorem dX5_next_8 : decode cX5_next 8 = .ok (.iload_n 2, 1) := by decide +kernel
theorem dX5_next_9 : decode cX5_next 9 = .ok (.invokestatic 81, 3) := by decide +kernel
theorem dX5_next_12 : decode cX5_next 12 = .ok (.ifCond .ne 5, 3) := by decide +kernel
theorem dX5_next_15 : decode cX5_next 15 = .ok (.iconst (-1), 1) := by decide +kernel
theorem dX5_next_16 : decode cX5_next 16 = .ok (.ireturn, 1) := by decide +kernel
theorem dX5_next_17 : decode cX5_next 17 = .ok (.aload_n 0, 1) := by decide +kernel
theorem dX5_next_18 : decode cX5_next 18 = .ok (.iload_n 1, 1) := by decide +kernel
theorem dX5_next_19 : decode cX5_next 19 = .ok (.iload_n 2, 1) := by decide +kernel
theorem dX5_next_20 : decode cX5_next 20 = .ok (.invokevirtual 278, 3) := by decide +kernel
theorem dX5_next_23 : decode cX5_next 23 = .ok (.istore_n 3, 1) := by decide +kernel
theorem dX5_next_24 : decode cX5_next 24 = .ok (.iload_n 3, 1) := by decide +kernel
theorem dX5_next_25 : decode cX5_next 25 = .ok (.ifCond .eq 5, 3) := by decide +kernel
theorem dX5_next_28 : decode cX5_next 28 = .ok (.iload_n 3, 1) := by decide +kernel
theorem dX5_next_29 : decode cX5_next 29 = .ok (.ireturn, 1) := by decide +kernel
theorem dX5_next_30 : decode cX5_next 30 = .ok (.aload_n 0, 1) := by decide +kernel
theorem dX5_next_31 : decode cX5_next 31 = .ok (.iload_n 1, 1) := by decide +kernel
theorem dX5_next_32 : decode cX5_next 32 = .ok (.iload_n 2, 1) := by decide +kernel
theorem dX5_next_33 : decode cX5_next 33 = .ok (.invokevirtual 284, 3) := by decide +kernel
theorem dX5_next_36 : decode cX5_next 36 = .ok (.istore 4, 2) := by decide +kernel
theorem dX5_next_38 : decode cX5_next 38 = .ok (.iload 4, 2) := by decide +kernel
theorem dX5_next_40 : decode cX5_next 40 = .ok (.ifCond .ne 6, 3) := by decide +kernel
theorem dX5_next_43 : decode cX5_next 43 = .ok (.bipush (-9), 2) := by decide +kernel
theorem dX5_next_45 : decode cX5_next 45 = .ok (.ireturn, 1) := by decide +kernel
theorem dX5_next_46 : decode cX5_next 46 = .ok (.bipush (-9), 2) := by decide +kernel
theorem dX5_next_48 : decode cX5_next 48 = .ok (.istore 5, 2) := by decide +kernel
theorem dX5_next_50 : decode cX5_next 50 = .ok (.sipush 9999, 3) := by decide +kernel
theorem dX5_next_53 : decode cX5_next 53 = .ok (.istore 6, 2) := by decide +kernel
theorem dX5_next_55 : decode cX5_next 55 = .ok (.iconst 0, 1) := by decide +kernel
theorem dX5_next_56 : decode cX5_next 56 = .ok (.istore 7, 2) := by decide +kernel
theorem dX5_next_58 : decode cX5_next 58 = .ok (.iload 7, 2) := by decide +kernel
theorem dX5_next_60 : decode cX5_next 60 = .ok (.aload_n 0, 1) := by decide +kernel
theorem dX5_next_61 : decode cX5_next 61 = .ok (.getfield 157, 3) := by decide +kernel
theorem dX5_next_64 : decode cX5_next 64 = .ok (.if_icmp .ge 64, 3) := by decide +kernel
theorem dX5_next_67 : decode cX5_next 67 = .ok (.iload 7, 2) := by decide +kernel
theorem dX5_next_69 : decode cX5_next 69 = .ok (.iload_n 1, 1) := by decide +kernel
theorem dX5_next_70 : decode cX5_next 70 = .ok (.if_icmp .ne 9, 3) := by decide +kernel
theorem dX5_next_73 : decode cX5_next 73 = .ok (.sipush 9999, 3) := by decide +kernel
theorem dX5_next_76 : decode cX5_next 76 = .ok (.goto 12, 3) := by decide +kernel
theorem dX5_next_79 : decode cX5_next 79 = .ok (.aload_n 0, 1) := by decide +kernel
theorem dX5_next_80 : decode cX5_next 80 = .ok (.iload_n 1, 1) := by decide +kernel
theorem dX5_next_81 : decode cX5_next 81 = .ok (.iload 4, 2) := by decide +kernel
theorem dX5_next_83 : decode cX5_next 83 = .ok (.iload 7, 2) := by decide +kernel
theorem dX5_next_85 : decode cX5_next 85 = .ok (.invokevirtual 287, 3) := by decide +kernel
theorem dX5_next_88 : decode cX5_next 88 = .ok (.istore 8, 2) := by decide +kernel
theorem dX5_next_90 : decode cX5_next 90 = .ok (.iload 8, 2) := by decide +kernel
theorem dX5_next_92 : decode cX5_next 92 = .ok (.iload 6, 2) := by decide +kernel
theorem dX5_next_94 : decode cX5_next 94 = .ok (.if_icmp .ge 8, 3) := by decide +kernel
theorem dX5_next_97 : decode cX5_next 97 = .ok (.iload 7, 2) := by decide +kernel
theorem dX5_next_99 : decode cX5_next 99 = .ok (.goto 5, 3) := by decide +kernel
theorem dX5_next_102 : decode cX5_next 102 = .ok (.iload 5, 2) := by decide +kernel
theorem dX5_next_104 : decode cX5_next 104 = .ok (.istore 5, 2) := by decide +kernel
theorem dX5_next_106 : decode cX5_next 106 = .ok (.iload 8, 2) := by decide +kernel
theorem dX5_next_108 : decode cX5_next 108 = .ok (.iload 6, 2) := by decide +kernel
theorem dX5_next_110 : decode cX5_next 110 = .ok (.if_icmp .ge 8, 3) := by decide +kernel
theorem dX5_next_113 : decode cX5_next 113 = .ok (.iload 8, 2) := by decide +kernel
theorem dX5_next_115 : decode cX5_next 115 = .ok (.goto 5, 3) := by decide +kernel
theorem dX5_next_118 : decode cX5_next 118 = .ok (.iload 6, 2) := by decide +kernel
theorem dX5_next_120 : decode cX5_next 120 = .ok (.istore 6, 2) := by decide +kernel
theorem dX5_next_122 : decode cX5_next 122 = .ok (.iinc 7 1, 3) := by decide +kernel
theorem dX5_next_125 : decode cX5_next 125 = .ok (.goto (-67), 3) := by decide +kernel
theorem dX5_next_128 : decode cX5_next 128 = .ok (.aload_n 0, 1) := by decide +kernel
theorem dX5_next_129 : decode cX5_next 129 = .ok (.iload 6, 2) := by decide +kernel
theorem dX5_next_131 : decode cX5_next 131 = .ok (.putfield 70, 3) := by decide +kernel
theorem dX5_next_134 : decode cX5_next 134 = .ok (.iload 5, 2) := by decide +kernel
theorem dX5_next_136 : decode cX5_next 136 = .ok (.ireturn, 1) := by decide +kernel
set_option maxRecDepth 20000 in
theorem ggX5_maySend_X5_has : GoodIn wsX5_maySend wsX5_has := goodIn_r _ [5] (by rfl) (by decide +kernel)
set_option maxRecDepth 20000 in
theorem gX5_maySend_X5_has : GoodIn wsX5_maySend (va_wsS RX5 167 yX5_has wsX5_has) := goodIn_app (goodIn_of _ (by decide +kernel)) ggX5_maySend_X5_has
set_option maxRecDepth 20000 in
theorem ggX5_maySend_X5_sinkOf : GoodIn wsX5_maySend wsX5_sinkOf := goodIn_r _ [9, 10, 11, 12, 13, 4, 14, 15, 16, 17, 18, 19, 20, 21, 22, 23, 24, 25, 2, 3, 5, 26, 27, 28, 29, 30, 31, 32, 33, 34, 35, 36, 37, 38, 39, 40, 41, 42, 43, 44, 45, 46, 47, 48, 49, 50, 51, 52, 53, 54, 55, 56, 57, 58, 59, 60, 61, 62, 63, 64] (by rfl) (by decide +kernel)
set_option maxRecDepth 20000 in
theorem gX5_maySend_X5_sinkOf : GoodIn wsX5_maySend (wsV RX5 187 RX5 yX5_sinkOf wsX5_sinkOf) := goodIn_app (goodIn_of _ (by decide +kernel)) ggX5_maySend_X5_sinkOf
theorem dX5_maySend_0 : decode cX5_maySend 0 = .ok (.iload_n 1, 1) := by decide +kernel
theorem dX5_maySend_1 : decode cX5_maySend 1 = .ok (.iload_n 2, 1) := by decide +kernel
theorem dX5_maySend_2 : decode cX5_maySend 2 = .ok (.invokestatic 167, 3) := by decide +kernel
theorem dX5_maySend_5 : decode cX5_maySend 5 = .ok (.iload_n 1, 1) := by decide +kernel
theorem dX5_maySend_6 : decode cX5_maySend 6 = .ok (.iload_n 3, 1) := by decide +kernel
theorem dX5_maySend_7 : decode cX5_maySend 7 = .ok (.invokestatic 167, 3) := by decide +kernel
theorem dX5_maySend_10 : decode cX5_maySend 10 = .ok (.if_icmp .ne 22, 3) := by decide +kernel
theorem dX5_maySend_13 : decode cX5_maySend 13 = .ok (.aload_n 0, 1) := by decide +kernel
theorem dX5_maySend_14 : decode cX5_maySend 14 = .ok (.iload_n 2, 1) := by decide +kernel
theorem dX5_maySend_15 : decode cX5_maySend 15 = .ok (.iload_n 3, 1) := by decide +kernel
theorem dX5_maySend_16 : decode cX5_maySend 16 = .ok (.iconst 0, 1) := by decide +kernel
theorem dX5_maySend_17 : decode cX5_maySend 17 = .ok (.iconst 0, 1) := by decide +kernel
theorem dX5_maySend_18 : decode cX5_maySend 18 = .ok (.invokevirtual 187, 3) := by decide +kernel
theorem dX5_maySend_21 : decode cX5_maySend 21 = .ok (.aload_n 0, 1) := by decide +kernel
theorem dX5_maySend_22 : decode cX5_maySend 22 = .ok (.getfield 151, 3) := by decide +kernel
theorem dX5_maySend_25 : decode cX5_maySend 25 = .ok (.if_icmp .gt 7, 3) := by decide +kernel
theorem dX5_maySend_28 : decode cX5_maySend 28 = .ok (.iconst 1, 1) := by decide +kernel
theorem dX5_maySend_29 : decode cX5_maySend 29 = .ok (.goto 4, 3) := by decide +kernel
theorem dX5_maySend_32 : decode cX5_maySend 32 = .ok (.iconst 0, 1) := by decide +kernel
theorem dX5_maySend_33 : decode cX5_maySend 33 = .ok (.ireturn, 1) := by decide +kernel
set_option maxRecDepth 20000 in
theorem ggX5_bestSent_X5_maySend : GoodIn wsX5_bestSent wsX5_maySend := goodIn_r _ [7, 8, 9, 10, 6, 11, 12, 13, 14, 15, 16, 17, 18, 19, 20, 21, 22, 23, 24, 25, 26, 27, 28, 29, 30, 31, 32, 33, 34, 35, 36, 37, 38, 39, 40, 41, 42, 43, 44, 45, 46, 47, 48, 49, 50, 51, 52, 53, 54, 55, 56, 57, 58, 59, 60, 61, 62, 63, 64, 65, 66, 67, 68, 69, 70] (by rfl) (by decide +kernel)
set_option maxRecDepth 20000 in
theorem gX5_bestSent_X5_maySend : GoodIn wsX5_bestSent (wsV RX5 290 RX5 yX5_maySend wsX5_maySend) := goodIn_app (goodIn_of _ (by decide +kernel)) ggX5_bestSent_X5_maySend
theorem dX5_bestSent_0 : decode cX5_bestSent 0 = .ok (.aload_n 0, 1) := by decide +kernel
theorem dX5_bestSent_1 : decode cX5_bestSent 1 = .ok (.getfield 60, 3) := by decide +kernel
theorem dX5_bestSent_4 : decode cX5_bestSent 4 = .ok (.iload_n 1, 1) := by decide +kernel
theorem dX5_bestSent_5 : decode cX5_bestSent 5 = .ok (.iaload, 1) := by decide +kernel
theorem dX5_bestSent_6 : decode cX5_bestSent 6 = .ok (.istore_n 3, 1) := by decide +kernel
theorem dX5_bestSent_7 : decode cX5_bestSent 7 = .ok (.iconst 0, 1) := by decide +kernel
theorem dX5_bestSent_8 : decode cX5_bestSent 8 = .ok (.istore 4, 2) := by decide +kernel
theorem dX5_bestSent_10 : decode cX5_bestSent 10 = .ok (.iload 4, 2) := by decide +kernel
theorem dX5_bestSent_12 : decode cX5_bestSent 12 = .ok (.aload_n 0, 1) := by decide +kernel
theorem dX5_bestSent_13 : decode cX5_bestSent 13 = .ok (.getfield 157, 3) := by decide +kernel
theorem dX5_bestSent_16 : decode cX5_bestSent 16 = .ok (.if_icmp .ge 96, 3) := by decide +kernel
theorem dX5_bestSent_19 : decode cX5_bestSent 19 = .ok (.iload 4, 2) := by decide +kernel
theorem dX5_bestSent_21 : decode cX5_bestSent 21 = .ok (.iconst 1, 1) := by decide +kernel
theorem dX5_bestSent_22 : decode cX5_bestSent 22 = .ok (.iadd, 1) := by decide +kernel
theorem dX5_bestSent_23 : decode cX5_bestSent 23 = .ok (.istore 5, 2) := by decide +kernel
theorem dX5_bestSent_25 : decode cX5_bestSent 25 = .ok (.iload 5, 2) := by decide +kernel
theorem dX5_bestSent_27 : decode cX5_bestSent 27 = .ok (.aload_n 0, 1) := by decide +kernel
theorem dX5_bestSent_28 : decode cX5_bestSent 28 = .ok (.getfield 157, 3) := by decide +kernel
theorem dX5_bestSent_31 : decode cX5_bestSent 31 = .ok (.if_icmp .ge 75, 3) := by decide +kernel
theorem dX5_bestSent_34 : decode cX5_bestSent 34 = .ok (.aload_n 0, 1) := by decide +kernel
theorem dX5_bestSent_35 : decode cX5_bestSent 35 = .ok (.iload_n 1, 1) := by decide +kernel
theorem dX5_bestSent_36 : decode cX5_bestSent 36 = .ok (.iload 4, 2) := by decide +kernel
theorem dX5_bestSent_38 : decode cX5_bestSent 38 = .ok (.iload 5, 2) := by decide +kernel
theorem dX5_bestSent_40 : decode cX5_bestSent 40 = .ok (.invokevirtual 290, 3) := by decide +kernel
theorem dX5_bestSent_43 : decode cX5_bestSent 43 = .ok (.ifCond .eq 22, 3) := by decide +kernel
theorem dX5_bestSent_46 : decode cX5_bestSent 46 = .ok (.aload_n 0, 1) := by decide +kernel
theorem dX5_bestSent_47 : decode cX5_bestSent 47 = .ok (.getfield 60, 3) := by decide +kernel
theorem dX5_bestSent_50 : decode cX5_bestSent 50 = .ok (.iload_n 1, 1) := by decide +kernel
theorem dX5_bestSent_51 : decode cX5_bestSent 51 = .ok (.iconst 1, 1) := by decide +kernel
theorem dX5_bestSent_52 : decode cX5_bestSent 52 = .ok (.iload 4, 2) := by decide +kernel
theorem dX5_bestSent_54 : decode cX5_bestSent 54 = .ok (.ishl, 1) := by decide +kernel
theorem dX5_bestSent_55 : decode cX5_bestSent 55 = .ok (.iconst 1, 1) := by decide +kernel
theorem dX5_bestSent_56 : decode cX5_bestSent 56 = .ok (.iload 5, 2) := by decide +kernel
theorem dX5_bestSent_58 : decode cX5_bestSent 58 = .ok (.ishl, 1) := by decide +kernel
theorem dX5_bestSent_59 : decode cX5_bestSent 59 = .ok (.ior, 1) := by decide +kernel
theorem dX5_bestSent_60 : decode cX5_bestSent 60 = .ok (.ixor, 1) := by decide +kernel
theorem dX5_bestSent_61 : decode cX5_bestSent 61 = .ok (.iaload, 1) := by decide +kernel
theorem dX5_bestSent_62 : decode cX5_bestSent 62 = .ok (.goto 4, 3) := by decide +kernel
theorem dX5_bestSent_65 : decode cX5_bestSent 65 = .ok (.iload_n 3, 1) := by decide +kernel
theorem dX5_bestSent_66 : decode cX5_bestSent 66 = .ok (.istore 6, 2) := by decide +kernel
theorem dX5_bestSent_68 : decode cX5_bestSent 68 = .ok (.iload_n 2, 1) := by decide +kernel
theorem dX5_bestSent_69 : decode cX5_bestSent 69 = .ok (.ifCond .eq 18, 3) := by decide +kernel
theorem dX5_bestSent_72 : decode cX5_bestSent 72 = .ok (.iload 6, 2) := by decide +kernel
theorem dX5_bestSent_74 : decode cX5_bestSent 74 = .ok (.iload_n 3, 1) := by decide +kernel
theorem dX5_bestSent_75 : decode cX5_bestSent 75 = .ok (.if_icmp .le 8, 3) := by decide +kernel
theorem dX5_bestSent_78 : decode cX5_bestSent 78 = .ok (.iload 6, 2) := by decide +kernel
theorem dX5_bestSent_80 : decode cX5_bestSent 80 = .ok (.goto 19, 3) := by decide +kernel
theorem dX5_bestSent_83 : decode cX5_bestSent 83 = .ok (.iload_n 3, 1) := by decide +kernel
theorem dX5_bestSent_84 : decode cX5_bestSent 84 = .ok (.goto 15, 3) := by decide +kernel
theorem dX5_bestSent_87 : decode cX5_bestSent 87 = .ok (.iload 6, 2) := by decide +kernel
theorem dX5_bestSent_89 : decode cX5_bestSent 89 = .ok (.iload_n 3, 1) := by decide +kernel
theorem dX5_bestSent_90 : decode cX5_bestSent 90 = .ok (.if_icmp .ge 8, 3) := by decide +kernel
theorem dX5_bestSent_93 : decode cX5_bestSent 93 = .ok (.iload 6, 2) := by decide +kernel
theorem dX5_bestSent_95 : decode cX5_bestSent 95 = .ok (.goto 4, 3) := by decide +kernel
theorem dX5_bestSent_98 : decode cX5_bestSent 98 = .ok (.iload_n 3, 1) := by decide +kernel
theorem dX5_bestSent_99 : decode cX5_bestSent 99 = .ok (.istore_n 3, 1) := by decide +kernel
theorem dX5_bestSent_100 : decode cX5_bestSent 100 = .ok (.iinc 5 1, 3) := by decide +kernel
theorem dX5_bestSent_103 : decode cX5_bestSent 103 = .ok (.goto (-78), 3) := by decide +kernel
theorem dX5_bestSent_106 : decode cX5_bestSent 106 = .ok (.iinc 4 1, 3) := by decide +kernel
theorem dX5_bestSent_109 : decode cX5_bestSent 109 = .ok (.goto (-99), 3) := by decide +kernel
theorem dX5_bestSent_112 : decode cX5_bestSent 112 = .ok (.iload_n 3, 1) := by decide +kernel
theorem dX5_bestSent_113 : decode cX5_bestSent 113 = .ok (.ireturn, 1) := by decide +kernel
set_option maxRecDepth 20000 in
theorem ggX5_send_X5_in : GoodIn wsX5_send wsX5_in := goodIn_r _ [9] (by rfl) (by decide +kernel)
set_option maxRecDepth 20000 in
theorem gX5_send_X5_in : GoodIn wsX5_send (va_wsS RX5 75 yX5_in wsX5_in) := goodIn_app (goodIn_of _ (by decide +kernel)) ggX5_send_X5_in
set_option maxRecDepth 20000 in
theorem ggX5_send_X5_bits : GoodIn wsX5_send wsX5_bits := goodIn_r _ [12] (by rfl) (by decide +kernel)
set_option maxRecDepth 20000 in
theorem gX5_send_X5_bits : GoodIn wsX5_send (va_wsS RX5 242 yX5_bits wsX5_bits) := goodIn_app (goodIn_of _ (by decide +kernel)) ggX5_send_X5_bits
set_option maxRecDepth 20000 in
theorem ggX5_send_X5_bestSent : GoodIn wsX5_send wsX5_bestSent := goodIn_r _ [16, 3, 2, 17, 18, 19, 8, 20, 21, 22, 23, 24, 25, 26, 27, 28, 29, 30, 31, 32, 33, 34, 5, 35, 36, 37, 38, 39, 40, 41, 42, 43, 44, 45, 46, 47, 48, 49, 50, 51, 52, 53, 54, 55, 56, 57, 58, 59, 60, 61, 62, 63, 64, 65, 66, 67, 68, 69, 70, 71, 72, 73, 74, 75, 76, 77, 78, 79, 80, 81, 82] (by rfl) (by decide +kernel)
set_option maxRecDepth 20000 in
theorem gX5_send_X5_bestSent : GoodIn wsX5_send (wsV RX5 293 RX5 yX5_bestSent wsX5_bestSent) := goodIn_app (goodIn_of _ (by decide +kernel)) ggX5_send_X5_bestSent
theorem dX5_send_0 : decode cX5_send 0 = .ok (.iload_n 1, 1) := by decide +kernel
theorem dX5_send_1 : decode cX5_send 1 = .ok (.i2l, 1) := by decide +kernel
theorem dX5_send_2 : decode cX5_send 2 = .ok (.lconst 0, 1) := by decide +kernel
theorem dX5_send_3 : decode cX5_send 3 = .ok (.ldc2_w 230, 3) := by decide +kernel
theorem dX5_send_6 : decode cX5_send 6 = .ok (.invokestatic 75, 3) := by decide +kernel
theorem dX5_send_9 : decode cX5_send 9 = .ok (.ifCond .ne 5, 3) := by decide +kernel
theorem dX5_send_12 : decode cX5_send 12 = .ok (.iconst (-1), 1) := by decide +kernel
theorem dX5_send_13 : decode cX5_send 13 = .ok (.ireturn, 1) := by decide +kernel
theorem dX5_send_14 : decode cX5_send 14 = .ok (.aload_n 0, 1) := by decide +kernel
theorem dX5_send_15 : decode cX5_send 15 = .ok (.getfield 157, 3) := by decide +kernel
theorem dX5_send_18 : decode cX5_send 18 = .ok (.ifCond .ne 6, 3) := by decide +kernel
theorem dX5_send_21 : decode cX5_send 21 = .ok (.bipush (-4), 2) := by decide +kernel
theorem dX5_send_23 : decode cX5_send 23 = .ok (.ireturn, 1) := by decide +kernel
theorem dX5_send_24 : decode cX5_send 24 = .ok (.iconst 0, 1) := by decide +kernel
theorem dX5_send_25 : decode cX5_send 25 = .ok (.istore_n 2, 1) := by decide +kernel
theorem dX5_send_26 : decode cX5_send 26 = .ok (.iload_n 2, 1) := by decide +kernel
theorem dX5_send_27 : decode cX5_send 27 = .ok (.bipush 64, 2) := by decide +kernel
theorem dX5_send_29 : decode cX5_send 29 = .ok (.if_icmp .ge 19, 3) := by decide +kernel
theorem dX5_send_32 : decode cX5_send 32 = .ok (.aload_n 0, 1) := by decide +kernel
theorem dX5_send_33 : decode cX5_send 33 = .ok (.getfield 60, 3) := by decide +kernel
theorem dX5_send_36 : decode cX5_send 36 = .ok (.iload_n 2, 1) := by decide +kernel
theorem dX5_send_37 : decode cX5_send 37 = .ok (.iload_n 2, 1) := by decide +kernel
theorem dX5_send_38 : decode cX5_send 38 = .ok (.invokestatic 242, 3) := by decide +kernel
theorem dX5_send_41 : decode cX5_send 41 = .ok (.iastore, 1) := by decide +kernel
theorem dX5_send_42 : decode cX5_send 42 = .ok (.iinc 2 1, 3) := by decide +kernel
theorem dX5_send_45 : decode cX5_send 45 = .ok (.goto (-19), 3) := by decide +kernel
theorem dX5_send_48 : decode cX5_send 48 = .ok (.iconst 2, 1) := by decide +kernel
theorem dX5_send_49 : decode cX5_send 49 = .ok (.iload_n 1, 1) := by decide +kernel
theorem dX5_send_50 : decode cX5_send 50 = .ok (.imul, 1) := by decide +kernel
theorem dX5_send_51 : decode cX5_send 51 = .ok (.iconst 1, 1) := by decide +kernel
theorem dX5_send_52 : decode cX5_send 52 = .ok (.isub, 1) := by decide +kernel
theorem dX5_send_53 : decode cX5_send 53 = .ok (.istore_n 2, 1) := by decide +kernel
theorem dX5_send_54 : decode cX5_send 54 = .ok (.iload_n 2, 1) := by decide +kernel
theorem dX5_send_55 : decode cX5_send 55 = .ok (.ifCond .lt 79, 3) := by decide +kernel
theorem dX5_send_58 : decode cX5_send 58 = .ok (.iconst 0, 1) := by decide +kernel
theorem dX5_send_59 : decode cX5_send 59 = .ok (.istore_n 3, 1) := by decide +kernel
theorem dX5_send_60 : decode cX5_send 60 = .ok (.iload_n 3, 1) := by decide +kernel
theorem dX5_send_61 : decode cX5_send 61 = .ok (.iconst 1, 1) := by decide +kernel
theorem dX5_send_62 : decode cX5_send 62 = .ok (.aload_n 0, 1) := by decide +kernel
theorem dX5_send_63 : decode cX5_send 63 = .ok (.getfield 157, 3) := by decide +kernel
theorem dX5_send_66 : decode cX5_send 66 = .ok (.ishl, 1) := by decide +kernel
theorem dX5_send_67 : decode cX5_send 67 = .ok (.if_icmp .ge 31, 3) := by decide +kernel
theorem dX5_send_70 : decode cX5_send 70 = .ok (.aload_n 0, 1) := by decide +kernel
theorem dX5_send_71 : decode cX5_send 71 = .ok (.getfield 63, 3) := by decide +kernel
theorem dX5_send_74 : decode cX5_send 74 = .ok (.iload_n 3, 1) := by decide +kernel
theorem dX5_send_75 : decode cX5_send 75 = .ok (.aload_n 0, 1) := by decide +kernel
theorem dX5_send_76 : decode cX5_send 76 = .ok (.iload_n 3, 1) := by decide +kernel
theorem dX5_send_77 : decode cX5_send 77 = .ok (.iload_n 2, 1) := by decide +kernel
theorem dX5_send_78 : decode cX5_send 78 = .ok (.iconst 2, 1) := by decide +kernel
theorem dX5_send_79 : decode cX5_send 79 = .ok (.irem, 1) := by decide +kernel
theorem dX5_send_80 : decode cX5_send 80 = .ok (.ifCond .ne 7, 3) := by decide +kernel
theorem dX5_send_83 : decode cX5_send 83 = .ok (.iconst 1, 1) := by decide +kernel
theorem dX5_send_84 : decode cX5_send 84 = .ok (.goto 4, 3) := by decide +kernel
theorem dX5_send_87 : decode cX5_send 87 = .ok (.iconst 0, 1) := by decide +kernel
theorem dX5_send_88 : decode cX5_send 88 = .ok (.invokevirtual 293, 3) := by decide +kernel
theorem dX5_send_91 : decode cX5_send 91 = .ok (.iastore, 1) := by decide +kernel
theorem dX5_send_92 : decode cX5_send 92 = .ok (.iinc 3 1, 3) := by decide +kernel
theorem dX5_send_95 : decode cX5_send 95 = .ok (.goto (-35), 3) := by decide +kernel
theorem dX5_send_98 : decode cX5_send 98 = .ok (.iconst 0, 1) := by decide +kernel
theorem dX5_send_99 : decode cX5_send 99 = .ok (.istore_n 3, 1) := by decide +kernel
theorem dX5_send_100 : decode cX5_send 100 = .ok (.iload_n 3, 1) := by decide +kernel
theorem dX5_send_101 : decode cX5_send 101 = .ok (.iconst 1, 1) := by decide +kernel
theorem dX5_send_102 : decode cX5_send 102 = .ok (.aload_n 0, 1) := by decide +kernel
theorem dX5_send_103 : decode cX5_send 103 = .ok (.getfield 157, 3) := by decide +kernel
theorem dX5_send_106 : decode cX5_send 106 = .ok (.ishl, 1) := by decide +kernel
theorem dX5_send_107 : decode cX5_send 107 = .ok (.if_icmp .ge 21, 3) := by decide +kernel
theorem dX5_send_110 : decode cX5_send 110 = .ok (.aload_n 0, 1) := by decide +kernel
theorem dX5_send_111 : decode cX5_send 111 = .ok (.getfield 60, 3) := by decide +kernel
theorem dX5_send_114 : decode cX5_send 114 = .ok (.iload_n 3, 1) := by decide +kernel
theorem dX5_send_115 : decode cX5_send 115 = .ok (.aload_n 0, 1) := by decide +kernel
theorem dX5_send_116 : decode cX5_send 116 = .ok (.getfield 63, 3) := by decide +kernel
theorem dX5_send_119 : decode cX5_send 119 = .ok (.iload_n 3, 1) := by decide +kernel
theorem dX5_send_120 : decode cX5_send 120 = .ok (.iaload, 1) := by decide +kernel
theorem dX5_send_121 : decode cX5_send 121 = .ok (.iastore, 1) := by decide +kernel
theorem dX5_send_122 : decode cX5_send 122 = .ok (.iinc 3 1, 3) := by decide +kernel
theorem dX5_send_125 : decode cX5_send 125 = .ok (.goto (-25), 3) := by decide +kernel
theorem dX5_send_128 : decode cX5_send 128 = .ok (.iinc 2 (-1), 3) := by decide +kernel
theorem dX5_send_131 : decode cX5_send 131 = .ok (.goto (-77), 3) := by decide +kernel
theorem dX5_send_134 : decode cX5_send 134 = .ok (.aload_n 0, 1) := by decide +kernel
theorem dX5_send_135 : decode cX5_send 135 = .ok (.getfield 60, 3) := by decide +kernel
theorem dX5_send_138 : decode cX5_send 138 = .ok (.aload_n 0, 1) := by decide +kernel
theorem dX5_send_139 : decode cX5_send 139 = .ok (.getfield 7, 3) := by decide +kernel
theorem dX5_send_142 : decode cX5_send 142 = .ok (.iconst 2, 1) := by decide +kernel
theorem dX5_send_143 : decode cX5_send 143 = .ok (.iaload, 1) := by decide +kernel
theorem dX5_send_144 : decode cX5_send 144 = .ok (.iaload, 1) := by decide +kernel
theorem dX5_send_145 : decode cX5_send 145 = .ok (.ireturn, 1) := by decide +kernel
theorem dX5_tellParts_0 : decode cX5_tellParts 0 = .ok (.lload_n 1, 1) := by decide +kernel
theorem dX5_tellParts_1 : decode cX5_tellParts 1 = .ok (.lstore 5, 2) := by decide +kernel
theorem dX5_tellParts_3 : decode cX5_tellParts 3 = .ok (.lload_n 3, 1) := by decide +kernel
theorem dX5_tellParts_4 : decode cX5_tellParts 4 = .ok (.lstore 7, 2) := by decide +kernel
theorem dX5_tellParts_6 : decode cX5_tellParts 6 = .ok (.lload 7, 2) := by decide +kernel
theorem dX5_tellParts_8 : decode cX5_tellParts 8 = .ok (.lconst 0, 1) := by decide +kernel
theorem dX5_tellParts_9 : decode cX5_tellParts 9 = .ok (.lcmp, 1) := by decide +kernel
theorem dX5_tellParts_10 : decode cX5_tellParts 10 = .ok (.ifCond .eq 21, 3) := by decide +kernel
theorem dX5_tellParts_13 : decode cX5_tellParts 13 = .ok (.lload 5, 2) := by decide +kernel
theorem dX5_tellParts_15 : decode cX5_tellParts 15 = .ok (.lload 7, 2) := by decide +kernel
theorem dX5_tellParts_17 : decode cX5_tellParts 17 = .ok (.lrem, 1) := by decide +kernel
theorem dX5_tellParts_18 : decode cX5_tellParts 18 = .ok (.lstore 9, 2) := by decide +kernel
theorem dX5_tellParts_20 : decode cX5_tellParts 20 = .ok (.lload 7, 2) := by decide +kernel
theorem dX5_tellParts_22 : decode cX5_tellParts 22 = .ok (.lstore 5, 2) := by decide +kernel
theorem dX5_tellParts_24 : decode cX5_tellParts 24 = .ok (.lload 9, 2) := by decide +kernel
theorem dX5_tellParts_26 : decode cX5_tellParts 26 = .ok (.lstore 7, 2) := by decide +kernel
theorem dX5_tellParts_28 : decode cX5_tellParts 28 = .ok (.goto (-22), 3) := by decide +kernel
theorem dX5_tellParts_31 : decode cX5_tellParts 31 = .ok (.aload_n 0, 1) := by decide +kernel
theorem dX5_tellParts_32 : decode cX5_tellParts 32 = .ok (.lload_n 1, 1) := by decide +kernel
theorem dX5_tellParts_33 : decode cX5_tellParts 33 = .ok (.lload 5, 2) := by decide +kernel
theorem dX5_tellParts_35 : decode cX5_tellParts 35 = .ok (.ldiv, 1) := by decide +kernel
theorem dX5_tellParts_36 : decode cX5_tellParts 36 = .ok (.putfield 296, 3) := by decide +kernel
theorem dX5_tellParts_39 : decode cX5_tellParts 39 = .ok (.aload_n 0, 1) := by decide +kernel
theorem dX5_tellParts_40 : decode cX5_tellParts 40 = .ok (.lload_n 3, 1) := by decide +kernel
theorem dX5_tellParts_41 : decode cX5_tellParts 41 = .ok (.lload 5, 2) := by decide +kernel
theorem dX5_tellParts_43 : decode cX5_tellParts 43 = .ok (.ldiv, 1) := by decide +kernel
theorem dX5_tellParts_44 : decode cX5_tellParts 44 = .ok (.putfield 34, 3) := by decide +kernel
theorem dX5_tellParts_47 : decode cX5_tellParts 47 = .ok (.iconst 1, 1) := by decide +kernel
theorem dX5_tellParts_48 : decode cX5_tellParts 48 = .ok (.ireturn, 1) := by decide +kernel
set_option maxRecDepth 20000 in
theorem ggX5_tellLost_X5_areTwo : GoodIn wsX5_tellLost wsX5_areTwo := goodIn_r _ [7, 8, 9, 10, 6, 11, 12, 13, 14, 15, 69, 70, 71, 72, 73, 74, 75, 76, 77, 78, 79, 80, 81, 82, 83, 84, 85, 86, 87, 88, 89, 90, 91, 92, 93, 94, 95, 96, 97, 98, 99, 100] (by rfl) (by decide +kernel)
set_option maxRecDepth 20000 in
theorem gX5_tellLost_X5_areTwo : GoodIn wsX5_tellLost (wsV RX5 217 RX5 yX5_areTwo wsX5_areTwo) := goodIn_app (goodIn_of _ (by decide +kernel)) ggX5_tellLost_X5_areTwo
set_option maxRecDepth 20000 in
theorem ggX5_tellLost_X5_in : GoodIn wsX5_tellLost wsX5_in := goodIn_r _ [15] (by rfl) (by decide +kernel)
set_option maxRecDepth 20000 in
theorem gX5_tellLost_X5_in : GoodIn wsX5_tellLost (va_wsS RX5 75 yX5_in wsX5_in) := goodIn_app (goodIn_of _ (by decide +kernel)) ggX5_tellLost_X5_in
set_option maxRecDepth 20000 in
theorem ggX5_tellLost_X5_areAtOneEnd : GoodIn wsX5_tellLost wsX5_areAtOneEnd := goodIn_r _ [19, 20, 21, 22, 6, 23, 24, 25, 26, 27, 69, 70, 71, 72, 73, 74, 75, 76, 77, 78, 79, 80, 81, 82, 83, 84, 85, 86, 87, 88, 89, 90, 91, 92, 93, 94, 95, 96, 97, 98, 99, 100] (by rfl) (by decide +kernel)
set_option maxRecDepth 20000 in
theorem gX5_tellLost_X5_areAtOneEnd : GoodIn wsX5_tellLost (wsV RX5 193 RX5 yX5_areAtOneEnd wsX5_areAtOneEnd) := goodIn_app (goodIn_of _ (by decide +kernel)) ggX5_tellLost_X5_areAtOneEnd
set_option maxRecDepth 20000 in
theorem ggX5_tellLost_X5_stonesBy : GoodIn wsX5_tellLost wsX5_stonesBy := goodIn_r _ [31, 32, 24, 20, 21, 22, 6, 23, 25, 26, 27, 69, 70, 71, 72, 73, 74, 75, 76, 77, 78, 79, 80, 81, 82, 83, 84, 85, 86, 87, 88, 89, 90, 91, 92, 93, 94, 95, 96, 97, 98, 99, 100] (by rfl) (by decide +kernel)
set_option maxRecDepth 20000 in
theorem gX5_tellLost_X5_stonesBy : GoodIn wsX5_tellLost (wsV RX5 196 RX5 yX5_stonesBy wsX5_stonesBy) := goodIn_app (goodIn_of _ (by decide +kernel)) ggX5_tellLost_X5_stonesBy
set_option maxRecDepth 20000 in
theorem ggX5_tellLost_X5_has : GoodIn wsX5_tellLost wsX5_has := goodIn_r _ [27] (by rfl) (by decide +kernel)
set_option maxRecDepth 20000 in
theorem gX5_tellLost_X5_has : GoodIn wsX5_tellLost (va_wsS RX5 167 yX5_has wsX5_has) := goodIn_app (goodIn_of _ (by decide +kernel)) ggX5_tellLost_X5_has
set_option maxRecDepth 20000 in
theorem ggX5_tellLost_X5_leastSink : GoodIn wsX5_tellLost wsX5_leastSink := goodIn_r _ [36, 37, 38, 39, 40, 6, 41, 42, 43, 44, 45, 46, 47, 24, 48, 49, 50, 51, 52, 53, 54, 32, 55, 25, 26, 27, 56, 57, 58, 59, 60, 61, 62, 69, 70, 71, 72, 73, 74, 75, 76, 77, 78, 79, 80, 81, 82, 83, 84, 85, 86, 87, 88, 89, 90, 91, 92, 93, 94, 95, 96, 97, 98, 99, 100] (by rfl) (by decide +kernel)
set_option maxRecDepth 20000 in
theorem gX5_tellLost_X5_leastSink : GoodIn wsX5_tellLost (wsV RX5 199 RX5 yX5_leastSink wsX5_leastSink) := goodIn_app (goodIn_of _ (by decide +kernel)) ggX5_tellLost_X5_leastSink
set_option maxRecDepth 20000 in
theorem ggX5_tellLost_X5_tellParts : GoodIn wsX5_tellLost wsX5_tellParts := goodIn_r _ [66, 67, 68, 69, 70, 71, 72, 73, 74, 75, 76, 77, 78, 79, 80, 81, 82, 83, 84, 85, 86, 87, 88, 89, 90, 91, 92, 93, 94, 95, 96, 97, 98, 99, 100] (by rfl) (by decide +kernel)
set_option maxRecDepth 20000 in
theorem gX5_tellLost_X5_tellParts : GoodIn wsX5_tellLost (wsV RX5 301 RX5 yX5_tellParts wsX5_tellParts) := goodIn_app (goodIn_of _ (by decide +kernel)) ggX5_tellLost_X5_tellParts
theorem dX5_tellLost_0 : decode cX5_tellLost 0 = .ok (.aload_n 0, 1) := by decide +kernel
theorem dX5_tellLost_1 : decode cX5_tellLost 1 = .ok (.iload_n 1, 1) := by decide +kernel
theorem dX5_tellLost_2 : decode cX5_tellLost 2 = .ok (.iload_n 2, 1) := by decide +kernel
theorem dX5_tellLost_3 : decode cX5_tellLost 3 = .ok (.invokevirtual 217, 3) := by decide +kernel
theorem dX5_tellLost_6 : decode cX5_tellLost 6 = .ok (.ifCond .eq 15, 3) := by decide +kernel
theorem dX5_tellLost_9 : decode cX5_tellLost 9 = .ok (.iload_n 3, 1) := by decide +kernel
theorem dX5_tellLost_10 : decode cX5_tellLost 10 = .ok (.i2l, 1) := by decide +kernel
theorem dX5_tellLost_11 : decode cX5_tellLost 11 = .ok (.lconst 0, 1) := by decide +kernel
theorem dX5_tellLost_12 : decode cX5_tellLost 12 = .ok (.ldc2_w 299, 3) := by decide +kernel
theorem dX5_tellLost_15 : decode cX5_tellLost 15 = .ok (.invokestatic 75, 3) := by decide +kernel
theorem dX5_tellLost_18 : decode cX5_tellLost 18 = .ok (.ifCond .ne 5, 3) := by decide +kernel
theorem dX5_tellLost_21 : decode cX5_tellLost 21 = .ok (.iconst (-1), 1) := by decide +kernel
theorem dX5_tellLost_22 : decode cX5_tellLost 22 = .ok (.ireturn, 1) := by decide +kernel
theorem dX5_tellLost_23 : decode cX5_tellLost 23 = .ok (.aload_n 0, 1) := by decide +kernel
theorem dX5_tellLost_24 : decode cX5_tellLost 24 = .ok (.iload_n 1, 1) := by decide +kernel
theorem dX5_tellLost_25 : decode cX5_tellLost 25 = .ok (.iload_n 2, 1) := by decide +kernel
theorem dX5_tellLost_26 : decode cX5_tellLost 26 = .ok (.invokevirtual 193, 3) := by decide +kernel
theorem dX5_tellLost_29 : decode cX5_tellLost 29 = .ok (.ifCond .ne 6, 3) := by decide +kernel
theorem dX5_tellLost_32 : decode cX5_tellLost 32 = .ok (.bipush (-4), 2) := by decide +kernel
theorem dX5_tellLost_34 : decode cX5_tellLost 34 = .ok (.ireturn, 1) := by decide +kernel
theorem dX5_tellLost_35 : decode cX5_tellLost 35 = .ok (.aload_n 0, 1) := by decide +kernel
theorem dX5_tellLost_36 : decode cX5_tellLost 36 = .ok (.iload_n 1, 1) := by decide +kernel
theorem dX5_tellLost_37 : decode cX5_tellLost 37 = .ok (.invokevirtual 196, 3) := by decide +kernel
theorem dX5_tellLost_40 : decode cX5_tellLost 40 = .ok (.istore 5, 2) := by decide +kernel
theorem dX5_tellLost_42 : decode cX5_tellLost 42 = .ok (.lconst 0, 1) := by decide +kernel
theorem dX5_tellLost_43 : decode cX5_tellLost 43 = .ok (.lstore 6, 2) := by decide +kernel
theorem dX5_tellLost_45 : decode cX5_tellLost 45 = .ok (.lconst 0, 1) := by decide +kernel
theorem dX5_tellLost_46 : decode cX5_tellLost 46 = .ok (.lstore 8, 2) := by decide +kernel
theorem dX5_tellLost_48 : decode cX5_tellLost 48 = .ok (.iconst 0, 1) := by decide +kernel
theorem dX5_tellLost_49 : decode cX5_tellLost 49 = .ok (.istore 10, 2) := by decide +kernel
theorem dX5_tellLost_51 : decode cX5_tellLost 51 = .ok (.iload 10, 2) := by decide +kernel
theorem dX5_tellLost_53 : decode cX5_tellLost 53 = .ok (.bipush 16, 2) := by decide +kernel
theorem dX5_tellLost_55 : decode cX5_tellLost 55 = .ok (.if_icmp .ge 136, 3) := by decide +kernel
theorem dX5_tellLost_58 : decode cX5_tellLost 58 = .ok (.iload 10, 2) := by decide +kernel
theorem dX5_tellLost_60 : decode cX5_tellLost 60 = .ok (.iload 5, 2) := by decide +kernel
theorem dX5_tellLost_62 : decode cX5_tellLost 62 = .ok (.iconst (-1), 1) := by decide +kernel
theorem dX5_tellLost_63 : decode cX5_tellLost 63 = .ok (.ixor, 1) := by decide +kernel
theorem dX5_tellLost_64 : decode cX5_tellLost 64 = .ok (.iand, 1) := by decide +kernel
theorem dX5_tellLost_65 : decode cX5_tellLost 65 = .ok (.ifCond .ne 7, 3) := by decide +kernel
theorem dX5_tellLost_68 : decode cX5_tellLost 68 = .ok (.lconst 1, 1) := by decide +kernel
theorem dX5_tellLost_69 : decode cX5_tellLost 69 = .ok (.goto 4, 3) := by decide +kernel
theorem dX5_tellLost_72 : decode cX5_tellLost 72 = .ok (.lconst 0, 1) := by decide +kernel
theorem dX5_tellLost_73 : decode cX5_tellLost 73 = .ok (.lstore 11, 2) := by decide +kernel
theorem dX5_tellLost_75 : decode cX5_tellLost 75 = .ok (.iconst 0, 1) := by decide +kernel
theorem dX5_tellLost_76 : decode cX5_tellLost 76 = .ok (.istore 13, 2) := by decide +kernel
theorem dX5_tellLost_78 : decode cX5_tellLost 78 = .ok (.iload 13, 2) := by decide +kernel
theorem dX5_tellLost_80 : decode cX5_tellLost 80 = .ok (.iconst 4, 1) := by decide +kernel
theorem dX5_tellLost_81 : decode cX5_tellLost 81 = .ok (.if_icmp .ge 48, 3) := by decide +kernel
theorem dX5_tellLost_84 : decode cX5_tellLost 84 = .ok (.lload 11, 2) := by decide +kernel
theorem dX5_tellLost_86 : decode cX5_tellLost 86 = .ok (.iload 5, 2) := by decide +kernel
theorem dX5_tellLost_88 : decode cX5_tellLost 88 = .ok (.iload 13, 2) := by decide +kernel
theorem dX5_tellLost_90 : decode cX5_tellLost 90 = .ok (.invokestatic 167, 3) := by decide +kernel
theorem dX5_tellLost_93 : decode cX5_tellLost 93 = .ok (.ifCond .eq 26, 3) := by decide +kernel
theorem dX5_tellLost_96 : decode cX5_tellLost 96 = .ok (.iload 10, 2) := by decide +kernel
theorem dX5_tellLost_98 : decode cX5_tellLost 98 = .ok (.iload 13, 2) := by decide +kernel
theorem dX5_tellLost_100 : decode cX5_tellLost 100 = .ok (.invokestatic 167, 3) := by decide +kernel
theorem dX5_tellLost_103 : decode cX5_tellLost 103 = .ok (.ifCond .eq 8, 3) := by decide +kernel
theorem dX5_tellLost_106 : decode cX5_tellLost 106 = .ok (.iload_n 3, 1) := by decide +kernel
theorem dX5_tellLost_107 : decode cX5_tellLost 107 = .ok (.i2l, 1) := by decide +kernel
theorem dX5_tellLost_108 : decode cX5_tellLost 108 = .ok (.goto 12, 3) := by decide +kernel
theorem dX5_tellLost_111 : decode cX5_tellLost 111 = .ok (.bipush 12, 2) := by decide +kernel
theorem dX5_tellLost_113 : decode cX5_tellLost 113 = .ok (.iload_n 3, 1) := by decide +kernel
theorem dX5_tellLost_114 : decode cX5_tellLost 114 = .ok (.isub, 1) := by decide +kernel
theorem dX5_tellLost_115 : decode cX5_tellLost 115 = .ok (.i2l, 1) := by decide +kernel
theorem dX5_tellLost_116 : decode cX5_tellLost 116 = .ok (.goto 4, 3) := by decide +kernel
theorem dX5_tellLost_119 : decode cX5_tellLost 119 = .ok (.lconst 1, 1) := by decide +kernel
theorem dX5_tellLost_120 : decode cX5_tellLost 120 = .ok (.lmul, 1) := by decide +kernel
theorem dX5_tellLost_121 : decode cX5_tellLost 121 = .ok (.lstore 11, 2) := by decide +kernel
theorem dX5_tellLost_123 : decode cX5_tellLost 123 = .ok (.iinc 13 1, 3) := by decide +kernel
theorem dX5_tellLost_126 : decode cX5_tellLost 126 = .ok (.goto (-48), 3) := by decide +kernel
theorem dX5_tellLost_129 : decode cX5_tellLost 129 = .ok (.aload_n 0, 1) := by decide +kernel
theorem dX5_tellLost_130 : decode cX5_tellLost 130 = .ok (.iload_n 1, 1) := by decide +kernel
theorem dX5_tellLost_131 : decode cX5_tellLost 131 = .ok (.iload_n 2, 1) := by decide +kernel
theorem dX5_tellLost_132 : decode cX5_tellLost 132 = .ok (.iload 5, 2) := by decide +kernel
theorem dX5_tellLost_134 : decode cX5_tellLost 134 = .ok (.iload 10, 2) := by decide +kernel
theorem dX5_tellLost_136 : decode cX5_tellLost 136 = .ok (.iconst (-1), 1) := by decide +kernel
theorem dX5_tellLost_137 : decode cX5_tellLost 137 = .ok (.ixor, 1) := by decide +kernel
theorem dX5_tellLost_138 : decode cX5_tellLost 138 = .ok (.iand, 1) := by decide +kernel
theorem dX5_tellLost_139 : decode cX5_tellLost 139 = .ok (.invokevirtual 199, 3) := by decide +kernel
theorem dX5_tellLost_142 : decode cX5_tellLost 142 = .ok (.istore 13, 2) := by decide +kernel
theorem dX5_tellLost_144 : decode cX5_tellLost 144 = .ok (.lload 6, 2) := by decide +kernel
theorem dX5_tellLost_146 : decode cX5_tellLost 146 = .ok (.iload 4, 2) := by decide +kernel
theorem dX5_tellLost_148 : decode cX5_tellLost 148 = .ok (.ifCond .eq 12, 3) := by decide +kernel
theorem dX5_tellLost_151 : decode cX5_tellLost 151 = .ok (.lload 11, 2) := by decide +kernel
theorem dX5_tellLost_153 : decode cX5_tellLost 153 = .ok (.iload 13, 2) := by decide +kernel
theorem dX5_tellLost_155 : decode cX5_tellLost 155 = .ok (.i2l, 1) := by decide +kernel
theorem dX5_tellLost_156 : decode cX5_tellLost 156 = .ok (.lmul, 1) := by decide +kernel
theorem dX5_tellLost_157 : decode cX5_tellLost 157 = .ok (.goto 18, 3) := by decide +kernel
theorem dX5_tellLost_160 : decode cX5_tellLost 160 = .ok (.iload 13, 2) := by decide +kernel
theorem dX5_tellLost_162 : decode cX5_tellLost 162 = .ok (.aload_n 0, 1) := by decide +kernel
theorem dX5_tellLost_163 : decode cX5_tellLost 163 = .ok (.getfield 151, 3) := by decide +kernel
theorem dX5_tellLost_166 : decode cX5_tellLost 166 = .ok (.if_icmp .gt 8, 3) := by decide +kernel
theorem dX5_tellLost_169 : decode cX5_tellLost 169 = .ok (.lload 11, 2) := by decide +kernel
theorem dX5_tellLost_171 : decode cX5_tellLost 171 = .ok (.goto 4, 3) := by decide +kernel
theorem dX5_tellLost_174 : decode cX5_tellLost 174 = .ok (.lconst 0, 1) := by decide +kernel
theorem dX5_tellLost_175 : decode cX5_tellLost 175 = .ok (.ladd, 1) := by decide +kernel
theorem dX5_tellLost_176 : decode cX5_tellLost 176 = .ok (.lstore 6, 2) := by decide +kernel
theorem dX5_tellLost_178 : decode cX5_tellLost 178 = .ok (.lload 8, 2) := by decide +kernel
theorem dX5_tellLost_180 : decode cX5_tellLost 180 = .ok (.lload 11, 2) := by decide +kernel
theorem dX5_tellLost_182 : decode cX5_tellLost 182 = .ok (.ladd, 1) := by decide +kernel
theorem dX5_tellLost_183 : decode cX5_tellLost 183 = .ok (.lstore 8, 2) := by decide +kernel
theorem dX5_tellLost_185 : decode cX5_tellLost 185 = .ok (.iinc 10 1, 3) := by decide +kernel
theorem dX5_tellLost_188 : decode cX5_tellLost 188 = .ok (.goto (-137), 3) := by decide +kernel
theorem dX5_tellLost_191 : decode cX5_tellLost 191 = .ok (.aload_n 0, 1) := by decide +kernel
theorem dX5_tellLost_192 : decode cX5_tellLost 192 = .ok (.lload 6, 2) := by decide +kernel
theorem dX5_tellLost_194 : decode cX5_tellLost 194 = .ok (.lload 8, 2) := by decide +kernel
theorem dX5_tellLost_196 : decode cX5_tellLost 196 = .ok (.invokevirtual 301, 3) := by decide +kernel
theorem dX5_tellLost_199 : decode cX5_tellLost 199 = .ok (.ireturn, 1) := by decide +kernel
set_option maxRecDepth 20000 in
theorem ggX5_odds_X5_tellLost : GoodIn wsX5_odds wsX5_tellLost := goodIn_r _ [5, 6, 7, 8, 9, 10, 4, 11, 12, 13, 14, 15, 16, 17, 18, 19, 20, 21, 22, 23, 24, 25, 26, 27, 28, 29, 30, 31, 32, 33, 34, 35, 36, 37, 38, 39, 40, 41, 42, 43, 44, 45, 46, 47, 48, 49, 50, 51, 52, 53, 54, 55, 56, 57, 58, 59, 60, 61, 62, 63, 64, 65, 66, 67, 68, 69, 70, 71, 72, 73, 74, 75, 76, 77, 78, 79, 80, 81, 82, 83, 84, 85, 86, 87, 88, 89, 90, 91, 92, 93, 94, 95, 96, 97, 98, 99, 100, 101, 102, 103, 104] (by rfl) (by decide +kernel)
set_option maxRecDepth 20000 in
theorem gX5_odds_X5_tellLost : GoodIn wsX5_odds (wsV RX5 305 RX5 yX5_tellLost wsX5_tellLost) := goodIn_app (goodIn_of _ (by decide +kernel)) ggX5_odds_X5_tellLost
theorem dX5_odds_0 : decode cX5_odds 0 = .ok (.aload_n 0, 1) := by decide +kernel
theorem dX5_odds_1 : decode cX5_odds 1 = .ok (.iload_n 1, 1) := by decide +kernel
theorem dX5_odds_2 : decode cX5_odds 2 = .ok (.iload_n 2, 1) := by decide +kernel
theorem dX5_odds_3 : decode cX5_odds 3 = .ok (.iload_n 3, 1) := by decide +kernel
theorem dX5_odds_4 : decode cX5_odds 4 = .ok (.iconst 0, 1) := by decide +kernel
theorem dX5_odds_5 : decode cX5_odds 5 = .ok (.invokevirtual 305, 3) := by decide +kernel
theorem dX5_odds_8 : decode cX5_odds 8 = .ok (.ireturn, 1) := by decide +kernel
set_option maxRecDepth 20000 in
theorem ggX5_mid_X5_tellLost : GoodIn wsX5_mid wsX5_tellLost := goodIn_r _ [5, 6, 7, 8, 9, 10, 4, 11, 12, 13, 14, 15, 16, 17, 18, 19, 20, 21, 22, 23, 24, 25, 26, 27, 28, 29, 30, 31, 32, 33, 34, 35, 36, 37, 38, 39, 40, 41, 42, 43, 44, 45, 46, 47, 48, 49, 50, 51, 52, 53, 54, 55, 56, 57, 58, 59, 60, 61, 62, 63, 64, 65, 66, 67, 68, 69, 70, 71, 72, 73, 74, 75, 76, 77, 78, 79, 80, 81, 82, 83, 84, 85, 86, 87, 88, 89, 90, 91, 92, 93, 94, 95, 96, 97, 98, 99, 100, 101, 102, 103, 104] (by rfl) (by decide +kernel)
set_option maxRecDepth 20000 in
theorem gX5_mid_X5_tellLost : GoodIn wsX5_mid (wsV RX5 305 RX5 yX5_tellLost wsX5_tellLost) := goodIn_app (goodIn_of _ (by decide +kernel)) ggX5_mid_X5_tellLost
theorem dX5_mid_0 : decode cX5_mid 0 = .ok (.aload_n 0, 1) := by decide +kernel
theorem dX5_mid_1 : decode cX5_mid 1 = .ok (.iload_n 1, 1) := by decide +kernel
theorem dX5_mid_2 : decode cX5_mid 2 = .ok (.iload_n 2, 1) := by decide +kernel
theorem dX5_mid_3 : decode cX5_mid 3 = .ok (.iload_n 3, 1) := by decide +kernel
theorem dX5_mid_4 : decode cX5_mid 4 = .ok (.iconst 1, 1) := by decide +kernel
theorem dX5_mid_5 : decode cX5_mid 5 = .ok (.invokevirtual 305, 3) := by decide +kernel
theorem dX5_mid_8 : decode cX5_mid 8 = .ok (.ireturn, 1) := by decide +kernel
set_option maxRecDepth 20000 in
theorem ggX5_lots_X5_in : GoodIn wsX5_lots wsX5_in := goodIn_r _ [15] (by rfl) (by decide +kernel)
set_option maxRecDepth 20000 in
theorem gX5_lots_X5_in : GoodIn wsX5_lots (va_wsS RX5 75 yX5_in wsX5_in) := goodIn_app (goodIn_of _ (by decide +kernel)) ggX5_lots_X5_in
set_option maxRecDepth 20000 in
theorem ggX5_lots_X5_keepPast : GoodIn wsX5_lots wsX5_keepPast := goodIn_r _ [19, 4, 72, 73, 74, 75, 76, 77, 78, 79, 80, 81, 82, 83, 84, 85, 86, 87, 88, 89, 90, 91, 92, 93, 94, 95, 96, 97, 98, 99, 100, 101, 102, 103] (by rfl) (by decide +kernel)
set_option maxRecDepth 20000 in
theorem gX5_lots_X5_keepPast : GoodIn wsX5_lots (wsV RX5 223 RX5 yX5_keepPast wsX5_keepPast) := goodIn_app (goodIn_of _ (by decide +kernel)) ggX5_lots_X5_keepPast
set_option maxRecDepth 20000 in
theorem ggX5_lots_X5_areAtOneEnd : GoodIn wsX5_lots wsX5_areAtOneEnd := goodIn_r _ [23, 24, 25, 26, 14, 27, 4, 28, 29, 30, 72, 73, 74, 75, 76, 77, 78, 79, 80, 81, 82, 83, 84, 85, 86, 87, 88, 89, 90, 91, 92, 93, 94, 95, 96, 97, 98, 99, 100, 101, 102, 103] (by rfl) (by decide +kernel)
set_option maxRecDepth 20000 in
theorem gX5_lots_X5_areAtOneEnd : GoodIn wsX5_lots (wsV RX5 193 RX5 yX5_areAtOneEnd wsX5_areAtOneEnd) := goodIn_app (goodIn_of _ (by decide +kernel)) ggX5_lots_X5_areAtOneEnd
set_option maxRecDepth 20000 in
theorem ggX5_lots_X5_stonesBy : GoodIn wsX5_lots wsX5_stonesBy := goodIn_r _ [34, 35, 4, 24, 25, 26, 14, 27, 28, 29, 30, 72, 73, 74, 75, 76, 77, 78, 79, 80, 81, 82, 83, 84, 85, 86, 87, 88, 89, 90, 91, 92, 93, 94, 95, 96, 97, 98, 99, 100, 101, 102, 103] (by rfl) (by decide +kernel)
set_option maxRecDepth 20000 in
theorem gX5_lots_X5_stonesBy : GoodIn wsX5_lots (wsV RX5 196 RX5 yX5_stonesBy wsX5_stonesBy) := goodIn_app (goodIn_of _ (by decide +kernel)) ggX5_lots_X5_stonesBy
set_option maxRecDepth 20000 in
theorem ggX5_lots_X5_leastSink : GoodIn wsX5_lots wsX5_leastSink := goodIn_r _ [39, 11, 40, 41, 42, 14, 43, 44, 45, 46, 47, 48, 49, 4, 50, 51, 52, 53, 54, 55, 56, 35, 57, 28, 29, 30, 58, 59, 60, 61, 62, 63, 64, 72, 73, 74, 75, 76, 77, 78, 79, 80, 81, 82, 83, 84, 85, 86, 87, 88, 89, 90, 91, 92, 93, 94, 95, 96, 97, 98, 99, 100, 101, 102, 103] (by rfl) (by decide +kernel)
set_option maxRecDepth 20000 in
theorem gX5_lots_X5_leastSink : GoodIn wsX5_lots (wsV RX5 199 RX5 yX5_leastSink wsX5_leastSink) := goodIn_app (goodIn_of _ (by decide +kernel)) ggX5_lots_X5_leastSink
set_option maxRecDepth 20000 in
theorem ggX5_lots_X5_goes : GoodIn wsX5_lots wsX5_goes := goodIn_r _ [68, 4, 40, 41, 42, 14, 43, 44, 45, 46, 47, 48, 49, 50, 51, 52, 53, 54, 55, 56, 35, 57, 28, 29, 30, 58, 59, 60, 61, 62, 63, 64, 72, 73, 74, 75, 76, 77, 78, 79, 80, 81, 82, 83, 84, 85, 86, 87, 88, 89, 90, 91, 92, 93, 94, 95, 96, 97, 98, 99, 100, 101, 102, 103] (by rfl) (by decide +kernel)
set_option maxRecDepth 20000 in
theorem gX5_lots_X5_goes : GoodIn wsX5_lots (wsV RX5 226 RX5 yX5_goes wsX5_goes) := goodIn_app (goodIn_of _ (by decide +kernel)) ggX5_lots_X5_goes
set_option maxRecDepth 20000 in
theorem ggX5_lots_X5_bits : GoodIn wsX5_lots wsX5_bits := goodIn_r _ [71] (by rfl) (by decide +kernel)
set_option maxRecDepth 20000 in
theorem gX5_lots_X5_bits : GoodIn wsX5_lots (va_wsS RX5 242 yX5_bits wsX5_bits) := goodIn_app (goodIn_of _ (by decide +kernel)) ggX5_lots_X5_bits
theorem dX5_lots_0 : decode cX5_lots 0 = .ok (.iload_n 1, 1) := by decide +kernel
theorem dX5_lots_1 : decode cX5_lots 1 = .ok (.i2l, 1) := by decide +kernel
theorem dX5_lots_2 : decode cX5_lots 2 = .ok (.lconst 1, 1) := by decide +kernel
theorem dX5_lots_3 : decode cX5_lots 3 = .ok (.ldc2_w 309, 3) := by decide +kernel
theorem dX5_lots_6 : decode cX5_lots 6 = .ok (.invokestatic 75, 3) := by decide +kernel
theorem dX5_lots_9 : decode cX5_lots 9 = .ok (.ifCond .eq 15, 3) := by decide +kernel
theorem dX5_lots_12 : decode cX5_lots 12 = .ok (.iload_n 2, 1) := by decide +kernel
theorem dX5_lots_13 : decode cX5_lots 13 = .ok (.i2l, 1) := by decide +kernel
theorem dX5_lots_14 : decode cX5_lots 14 = .ok (.lconst 1, 1) := by decide +kernel
theorem dX5_lots_15 : decode cX5_lots 15 = .ok (.ldc2_w 311, 3) := by decide +kernel
theorem dX5_lots_18 : decode cX5_lots 18 = .ok (.invokestatic 75, 3) := by decide +kernel
theorem dX5_lots_21 : decode cX5_lots 21 = .ok (.ifCond .ne 5, 3) := by decide +kernel
theorem dX5_lots_24 : decode cX5_lots 24 = .ok (.iconst (-1), 1) := by decide +kernel
theorem dX5_lots_25 : decode cX5_lots 25 = .ok (.ireturn, 1) := by decide +kernel
theorem dX5_lots_26 : decode cX5_lots 26 = .ok (.aload_n 0, 1) := by decide +kernel
theorem dX5_lots_27 : decode cX5_lots 27 = .ok (.getfield 157, 3) := by decide +kernel
theorem dX5_lots_30 : decode cX5_lots 30 = .ok (.ifCond .ne 6, 3) := by decide +kernel
theorem dX5_lots_33 : decode cX5_lots 33 = .ok (.bipush (-4), 2) := by decide +kernel
theorem dX5_lots_35 : decode cX5_lots 35 = .ok (.ireturn, 1) := by decide +kernel
theorem dX5_lots_36 : decode cX5_lots 36 = .ok (.aload_n 0, 1) := by decide +kernel
theorem dX5_lots_37 : decode cX5_lots 37 = .ok (.getfield 7, 3) := by decide +kernel
theorem dX5_lots_40 : decode cX5_lots 40 = .ok (.iconst 0, 1) := by decide +kernel
theorem dX5_lots_41 : decode cX5_lots 41 = .ok (.iaload, 1) := by decide +kernel
theorem dX5_lots_42 : decode cX5_lots 42 = .ok (.iload_n 1, 1) := by decide +kernel
theorem dX5_lots_43 : decode cX5_lots 43 = .ok (.iadd, 1) := by decide +kernel
theorem dX5_lots_44 : decode cX5_lots 44 = .ok (.bipush 40, 2) := by decide +kernel
theorem dX5_lots_46 : decode cX5_lots 46 = .ok (.if_icmp .le 6, 3) := by decide +kernel
theorem dX5_lots_49 : decode cX5_lots 49 = .ok (.bipush (-2), 2) := by decide +kernel
theorem dX5_lots_51 : decode cX5_lots 51 = .ok (.ireturn, 1) := by decide +kernel
theorem dX5_lots_52 : decode cX5_lots 52 = .ok (.iload_n 2, 1) := by decide +kernel
theorem dX5_lots_53 : decode cX5_lots 53 = .ok (.i2l, 1) := by decide +kernel
theorem dX5_lots_54 : decode cX5_lots 54 = .ok (.lstore_n 3, 1) := by decide +kernel
theorem dX5_lots_55 : decode cX5_lots 55 = .ok (.iconst 0, 1) := by decide +kernel
theorem dX5_lots_56 : decode cX5_lots 56 = .ok (.istore 5, 2) := by decide +kernel
theorem dX5_lots_58 : decode cX5_lots 58 = .ok (.iload 5, 2) := by decide +kernel
theorem dX5_lots_60 : decode cX5_lots 60 = .ok (.iload_n 1, 1) := by decide +kernel
theorem dX5_lots_61 : decode cX5_lots 61 = .ok (.if_icmp .ge 150, 3) := by decide +kernel
theorem dX5_lots_64 : decode cX5_lots 64 = .ok (.lload_n 3, 1) := by decide +kernel
theorem dX5_lots_65 : decode cX5_lots 65 = .ok (.ldc2_w 313, 3) := by decide +kernel
theorem dX5_lots_68 : decode cX5_lots 68 = .ok (.lmul, 1) := by decide +kernel
theorem dX5_lots_69 : decode cX5_lots 69 = .ok (.ldc2_w 315, 3) := by decide +kernel
theorem dX5_lots_72 : decode cX5_lots 72 = .ok (.lrem, 1) := by decide +kernel
theorem dX5_lots_73 : decode cX5_lots 73 = .ok (.lstore_n 3, 1) := by decide +kernel
theorem dX5_lots_74 : decode cX5_lots 74 = .ok (.lload_n 3, 1) := by decide +kernel
theorem dX5_lots_75 : decode cX5_lots 75 = .ok (.aload_n 0, 1) := by decide +kernel
theorem dX5_lots_76 : decode cX5_lots 76 = .ok (.getfield 157, 3) := by decide +kernel
theorem dX5_lots_79 : decode cX5_lots 79 = .ok (.i2l, 1) := by decide +kernel
theorem dX5_lots_80 : decode cX5_lots 80 = .ok (.lrem, 1) := by decide +kernel
theorem dX5_lots_81 : decode cX5_lots 81 = .ok (.l2i, 1) := by decide +kernel
theorem dX5_lots_82 : decode cX5_lots 82 = .ok (.istore 6, 2) := by decide +kernel
theorem dX5_lots_84 : decode cX5_lots 84 = .ok (.lload_n 3, 1) := by decide +kernel
theorem dX5_lots_85 : decode cX5_lots 85 = .ok (.ldc2_w 317, 3) := by decide +kernel
theorem dX5_lots_88 : decode cX5_lots 88 = .ok (.ldiv, 1) := by decide +kernel
theorem dX5_lots_89 : decode cX5_lots 89 = .ok (.aload_n 0, 1) := by decide +kernel
theorem dX5_lots_90 : decode cX5_lots 90 = .ok (.getfield 157, 3) := by decide +kernel
theorem dX5_lots_93 : decode cX5_lots 93 = .ok (.i2l, 1) := by decide +kernel
theorem dX5_lots_94 : decode cX5_lots 94 = .ok (.lrem, 1) := by decide +kernel
theorem dX5_lots_95 : decode cX5_lots 95 = .ok (.l2i, 1) := by decide +kernel
theorem dX5_lots_96 : decode cX5_lots 96 = .ok (.istore 7, 2) := by decide +kernel
theorem dX5_lots_98 : decode cX5_lots 98 = .ok (.aload_n 0, 1) := by decide +kernel
theorem dX5_lots_99 : decode cX5_lots 99 = .ok (.invokevirtual 223, 3) := by decide +kernel
theorem dX5_lots_102 : decode cX5_lots 102 = .ok (.lload_n 3, 1) := by decide +kernel
theorem dX5_lots_103 : decode cX5_lots 103 = .ok (.ldc2_w 319, 3) := by decide +kernel
theorem dX5_lots_106 : decode cX5_lots 106 = .ok (.ldiv, 1) := by decide +kernel
theorem dX5_lots_107 : decode cX5_lots 107 = .ok (.ldc2_w 205, 3) := by decide +kernel
theorem dX5_lots_110 : decode cX5_lots 110 = .ok (.lrem, 1) := by decide +kernel
theorem dX5_lots_111 : decode cX5_lots 111 = .ok (.lconst 0, 1) := by decide +kernel
theorem dX5_lots_112 : decode cX5_lots 112 = .ok (.lcmp, 1) := by decide +kernel
theorem dX5_lots_113 : decode cX5_lots 113 = .ok (.ifCond .ne 31, 3) := by decide +kernel
theorem dX5_lots_116 : decode cX5_lots 116 = .ok (.aload_n 0, 1) := by decide +kernel
theorem dX5_lots_117 : decode cX5_lots 117 = .ok (.getfield 7, 3) := by decide +kernel
theorem dX5_lots_120 : decode cX5_lots 120 = .ok (.iconst 1, 1) := by decide +kernel
theorem dX5_lots_121 : decode cX5_lots 121 = .ok (.dup2, 1) := by decide +kernel
theorem dX5_lots_122 : decode cX5_lots 122 = .ok (.iaload, 1) := by decide +kernel
theorem dX5_lots_123 : decode cX5_lots 123 = .ok (.aload_n 0, 1) := by decide +kernel
theorem dX5_lots_124 : decode cX5_lots 124 = .ok (.getfield 7, 3) := by decide +kernel
theorem dX5_lots_127 : decode cX5_lots 127 = .ok (.iconst 1, 1) := by decide +kernel
theorem dX5_lots_128 : decode cX5_lots 128 = .ok (.iaload, 1) := by decide +kernel
theorem dX5_lots_129 : decode cX5_lots 129 = .ok (.bipush 9, 2) := by decide +kernel
theorem dX5_lots_131 : decode cX5_lots 131 = .ok (.if_icmp .ge 7, 3) := by decide +kernel
theorem dX5_lots_134 : decode cX5_lots 134 = .ok (.iconst 1, 1) := by decide +kernel
theorem dX5_lots_135 : decode cX5_lots 135 = .ok (.goto 4, 3) := by decide +kernel
theorem dX5_lots_138 : decode cX5_lots 138 = .ok (.iconst 0, 1) := by decide +kernel
theorem dX5_lots_139 : decode cX5_lots 139 = .ok (.iadd, 1) := by decide +kernel
theorem dX5_lots_140 : decode cX5_lots 140 = .ok (.iastore, 1) := by decide +kernel
theorem dX5_lots_141 : decode cX5_lots 141 = .ok (.goto 64, 3) := by decide +kernel
theorem dX5_lots_144 : decode cX5_lots 144 = .ok (.iload 6, 2) := by decide +kernel
theorem dX5_lots_146 : decode cX5_lots 146 = .ok (.iload 7, 2) := by decide +kernel
theorem dX5_lots_148 : decode cX5_lots 148 = .ok (.if_icmp .eq 57, 3) := by decide +kernel
theorem dX5_lots_151 : decode cX5_lots 151 = .ok (.aload_n 0, 1) := by decide +kernel
theorem dX5_lots_152 : decode cX5_lots 152 = .ok (.iload 6, 2) := by decide +kernel
theorem dX5_lots_154 : decode cX5_lots 154 = .ok (.iload 7, 2) := by decide +kernel
theorem dX5_lots_156 : decode cX5_lots 156 = .ok (.invokevirtual 193, 3) := by decide +kernel
theorem dX5_lots_159 : decode cX5_lots 159 = .ok (.ifCond .eq 46, 3) := by decide +kernel
theorem dX5_lots_162 : decode cX5_lots 162 = .ok (.aload_n 0, 1) := by decide +kernel
theorem dX5_lots_163 : decode cX5_lots 163 = .ok (.iload 6, 2) := by decide +kernel
theorem dX5_lots_165 : decode cX5_lots 165 = .ok (.iload 7, 2) := by decide +kernel
theorem dX5_lots_167 : decode cX5_lots 167 = .ok (.aload_n 0, 1) := by decide +kernel
theorem dX5_lots_168 : decode cX5_lots 168 = .ok (.iload 6, 2) := by decide +kernel
theorem dX5_lots_170 : decode cX5_lots 170 = .ok (.invokevirtual 196, 3) := by decide +kernel
theorem dX5_lots_173 : decode cX5_lots 173 = .ok (.invokevirtual 199, 3) := by decide +kernel
theorem dX5_lots_176 : decode cX5_lots 176 = .ok (.aload_n 0, 1) := by decide +kernel
theorem dX5_lots_177 : decode cX5_lots 177 = .ok (.getfield 151, 3) := by decide +kernel
theorem dX5_lots_180 : decode cX5_lots 180 = .ok (.if_icmp .gt 25, 3) := by decide +kernel
theorem dX5_lots_183 : decode cX5_lots 183 = .ok (.aload_n 0, 1) := by decide +kernel
theorem dX5_lots_184 : decode cX5_lots 184 = .ok (.iload 6, 2) := by decide +kernel
theorem dX5_lots_186 : decode cX5_lots 186 = .ok (.iload 7, 2) := by decide +kernel
theorem dX5_lots_188 : decode cX5_lots 188 = .ok (.aload_n 0, 1) := by decide +kernel
theorem dX5_lots_189 : decode cX5_lots 189 = .ok (.getfield 190, 3) := by decide +kernel
theorem dX5_lots_192 : decode cX5_lots 192 = .ok (.bipush 16, 2) := by decide +kernel
theorem dX5_lots_194 : decode cX5_lots 194 = .ok (.idiv, 1) := by decide +kernel
theorem dX5_lots_195 : decode cX5_lots 195 = .ok (.aload_n 0, 1) := by decide +kernel
theorem dX5_lots_196 : decode cX5_lots 196 = .ok (.getfield 190, 3) := by decide +kernel
theorem dX5_lots_199 : decode cX5_lots 199 = .ok (.bipush 16, 2) := by decide +kernel
theorem dX5_lots_201 : decode cX5_lots 201 = .ok (.irem, 1) := by decide +kernel
theorem dX5_lots_202 : decode cX5_lots 202 = .ok (.invokevirtual 226, 3) := by decide +kernel
theorem dX5_lots_205 : decode cX5_lots 205 = .ok (.iinc 5 1, 3) := by decide +kernel
theorem dX5_lots_208 : decode cX5_lots 208 = .ok (.goto (-150), 3) := by decide +kernel
theorem dX5_lots_211 : decode cX5_lots 211 = .ok (.aload_n 0, 1) := by decide +kernel
theorem dX5_lots_212 : decode cX5_lots 212 = .ok (.getfield 7, 3) := by decide +kernel
theorem dX5_lots_215 : decode cX5_lots 215 = .ok (.iconst 2, 1) := by decide +kernel
theorem dX5_lots_216 : decode cX5_lots 216 = .ok (.iaload, 1) := by decide +kernel
theorem dX5_lots_217 : decode cX5_lots 217 = .ok (.invokestatic 242, 3) := by decide +kernel
theorem dX5_lots_220 : decode cX5_lots 220 = .ok (.ireturn, 1) := by decide +kernel
theorem dX5_asked_0 : decode cX5_asked 0 = .ok (.aload_n 0, 1) := by decide +kernel
theorem dX5_asked_1 : decode cX5_asked 1 = .ok (.getfield 70, 3) := by decide +kernel
theorem dX5_asked_4 : decode cX5_asked 4 = .ok (.ireturn, 1) := by decide +kernel
theorem dX5_upper_0 : decode cX5_upper 0 = .ok (.aload_n 0, 1) := by decide +kernel
theorem dX5_upper_1 : decode cX5_upper 1 = .ok (.getfield 296, 3) := by decide +kernel
theorem dX5_upper_4 : decode cX5_upper 4 = .ok (.lreturn, 1) := by decide +kernel
theorem dX5_lower_0 : decode cX5_lower 0 = .ok (.aload_n 0, 1) := by decide +kernel
theorem dX5_lower_1 : decode cX5_lower 1 = .ok (.getfield 34, 3) := by decide +kernel
theorem dX5_lower_4 : decode cX5_lower 4 = .ok (.lreturn, 1) := by decide +kernel
set_option maxRecDepth 20000 in
theorem ggX5_those_X5_isOf : GoodIn wsX5_those wsX5_isOf := goodIn_r _ [6, 7, 8, 9, 10, 11, 12, 13, 14, 15, 16, 17, 18, 19, 20, 21, 22, 23, 24, 25, 26, 27, 28, 29, 30, 31, 32, 33, 34, 35, 36, 37, 38, 39] (by rfl) (by decide +kernel)
set_option maxRecDepth 20000 in
theorem gX5_those_X5_isOf : GoodIn wsX5_those (wsV RX5 210 RX5 yX5_isOf wsX5_isOf) := goodIn_app (goodIn_of _ (by decide +kernel)) ggX5_those_X5_isOf
theorem dX5_those_0 : decode cX5_those 0 = .ok (.iconst 0, 1) := by decide +kernel
theorem dX5_those_1 : decode cX5_those 1 = .ok (.istore_n 2, 1) := by decide +kernel
theorem dX5_those_2 : decode cX5_those 2 = .ok (.iconst 0, 1) := by decide +kernel
theorem dX5_those_3 : decode cX5_those 3 = .ok (.istore_n 3, 1) := by decide +kernel
theorem dX5_those_4 : decode cX5_those 4 = .ok (.iload_n 3, 1) := by decide +kernel
theorem dX5_those_5 : decode cX5_those 5 = .ok (.aload_n 0, 1) := by decide +kernel
theorem dX5_those_6 : decode cX5_those 6 = .ok (.getfield 157, 3) := by decide +kernel
theorem dX5_those_9 : decode cX5_those 9 = .ok (.if_icmp .ge 26, 3) := by decide +kernel
theorem dX5_those_12 : decode cX5_those 12 = .ok (.iload_n 2, 1) := by decide +kernel
theorem dX5_those_13 : decode cX5_those 13 = .ok (.aload_n 0, 1) := by decide +kernel
theorem dX5_those_14 : decode cX5_those 14 = .ok (.iload_n 3, 1) := by decide +kernel
theorem dX5_those_15 : decode cX5_those 15 = .ok (.iload_n 1, 1) := by decide +kernel
theorem dX5_those_16 : decode cX5_those 16 = .ok (.invokevirtual 210, 3) := by decide +kernel
theorem dX5_those_19 : decode cX5_those 19 = .ok (.ifCond .eq 7, 3) := by decide +kernel
theorem dX5_those_22 : decode cX5_those 22 = .ok (.iconst 1, 1) := by decide +kernel
theorem dX5_those_23 : decode cX5_those 23 = .ok (.goto 4, 3) := by decide +kernel
theorem dX5_those_26 : decode cX5_those 26 = .ok (.iconst 0, 1) := by decide +kernel
theorem dX5_those_27 : decode cX5_those 27 = .ok (.iadd, 1) := by decide +kernel
theorem dX5_those_28 : decode cX5_those 28 = .ok (.istore_n 2, 1) := by decide +kernel
theorem dX5_those_29 : decode cX5_those 29 = .ok (.iinc 3 1, 3) := by decide +kernel
theorem dX5_those_32 : decode cX5_those 32 = .ok (.goto (-28), 3) := by decide +kernel
theorem dX5_those_35 : decode cX5_those 35 = .ok (.iload_n 2, 1) := by decide +kernel
theorem dX5_those_36 : decode cX5_those 36 = .ok (.ireturn, 1) := by decide +kernel
theorem dX5_thereOf_0 : decode cX5_thereOf 0 = .ok (.iconst 0, 1) := by decide +kernel
theorem dX5_thereOf_1 : decode cX5_thereOf 1 = .ok (.istore_n 2, 1) := by decide +kernel
theorem dX5_thereOf_2 : decode cX5_thereOf 2 = .ok (.iconst 0, 1) := by decide +kernel
theorem dX5_thereOf_3 : decode cX5_thereOf 3 = .ok (.istore_n 3, 1) := by decide +kernel
theorem dX5_thereOf_4 : decode cX5_thereOf 4 = .ok (.iload_n 3, 1) := by decide +kernel
theorem dX5_thereOf_5 : decode cX5_thereOf 5 = .ok (.bipush 6, 2) := by decide +kernel
theorem dX5_thereOf_7 : decode cX5_thereOf 7 = .ok (.if_icmp .ge 90, 3) := by decide +kernel
theorem dX5_thereOf_10 : decode cX5_thereOf 10 = .ok (.iload_n 2, 1) := by decide +kernel
theorem dX5_thereOf_11 : decode cX5_thereOf 11 = .ok (.iload_n 1, 1) := by decide +kernel
theorem dX5_thereOf_12 : decode cX5_thereOf 12 = .ok (.bipush 10, 2) := by decide +kernel
theorem dX5_thereOf_14 : decode cX5_thereOf 14 = .ok (.if_icmp .ne 20, 3) := by decide +kernel
theorem dX5_thereOf_17 : decode cX5_thereOf 17 = .ok (.aload_n 0, 1) := by decide +kernel
theorem dX5_thereOf_18 : decode cX5_thereOf 18 = .ok (.getfield 22, 3) := by decide +kernel
theorem dX5_thereOf_21 : decode cX5_thereOf 21 = .ok (.iload_n 3, 1) := by decide +kernel
theorem dX5_thereOf_22 : decode cX5_thereOf 22 = .ok (.iaload, 1) := by decide +kernel
theorem dX5_thereOf_23 : decode cX5_thereOf 23 = .ok (.ifCond .ge 7, 3) := by decide +kernel
theorem dX5_thereOf_26 : decode cX5_thereOf 26 = .ok (.iconst 0, 1) := by decide +kernel
theorem dX5_thereOf_27 : decode cX5_thereOf 27 = .ok (.goto 62, 3) := by decide +kernel
theorem dX5_thereOf_30 : decode cX5_thereOf 30 = .ok (.iconst 1, 1) := by decide +kernel
theorem dX5_thereOf_31 : decode cX5_thereOf 31 = .ok (.goto 58, 3) := by decide +kernel
theorem dX5_thereOf_34 : decode cX5_thereOf 34 = .ok (.iload_n 1, 1) := by decide +kernel
theorem dX5_thereOf_35 : decode cX5_thereOf 35 = .ok (.bipush 11, 2) := by decide +kernel
theorem dX5_thereOf_37 : decode cX5_thereOf 37 = .ok (.if_icmp .ne 25, 3) := by decide +kernel
theorem dX5_thereOf_40 : decode cX5_thereOf 40 = .ok (.iload_n 3, 1) := by decide +kernel
theorem dX5_thereOf_41 : decode cX5_thereOf 41 = .ok (.iconst 4, 1) := by decide +kernel
theorem dX5_thereOf_42 : decode cX5_thereOf 42 = .ok (.if_icmp .ge 16, 3) := by decide +kernel
theorem dX5_thereOf_45 : decode cX5_thereOf 45 = .ok (.aload_n 0, 1) := by decide +kernel
theorem dX5_thereOf_46 : decode cX5_thereOf 46 = .ok (.getfield 28, 3) := by decide +kernel
theorem dX5_thereOf_49 : decode cX5_thereOf 49 = .ok (.iload_n 3, 1) := by decide +kernel
theorem dX5_thereOf_50 : decode cX5_thereOf 50 = .ok (.iaload, 1) := by decide +kernel
theorem dX5_thereOf_51 : decode cX5_thereOf 51 = .ok (.ifCond .lt 7, 3) := by decide +kernel
theorem dX5_thereOf_54 : decode cX5_thereOf 54 = .ok (.iconst 1, 1) := by decide +kernel
theorem dX5_thereOf_55 : decode cX5_thereOf 55 = .ok (.goto 34, 3) := by decide +kernel
theorem dX5_thereOf_58 : decode cX5_thereOf 58 = .ok (.iconst 0, 1) := by decide +kernel
theorem dX5_thereOf_59 : decode cX5_thereOf 59 = .ok (.goto 30, 3) := by decide +kernel
theorem dX5_thereOf_62 : decode cX5_thereOf 62 = .ok (.iload_n 3, 1) := by decide +kernel
theorem dX5_thereOf_63 : decode cX5_thereOf 63 = .ok (.iconst 3, 1) := by decide +kernel
theorem dX5_thereOf_64 : decode cX5_thereOf 64 = .ok (.if_icmp .ge 24, 3) := by decide +kernel
theorem dX5_thereOf_67 : decode cX5_thereOf 67 = .ok (.aload_n 0, 1) := by decide +kernel
theorem dX5_thereOf_68 : decode cX5_thereOf 68 = .ok (.getfield 7, 3) := by decide +kernel
theorem dX5_thereOf_71 : decode cX5_thereOf 71 = .ok (.sipush 165, 3) := by decide +kernel
theorem dX5_thereOf_74 : decode cX5_thereOf 74 = .ok (.iconst 1, 1) := by decide +kernel
theorem dX5_thereOf_75 : decode cX5_thereOf 75 = .ok (.iload_n 3, 1) := by decide +kernel
theorem dX5_thereOf_76 : decode cX5_thereOf 76 = .ok (.iadd, 1) := by decide +kernel
theorem dX5_thereOf_77 : decode cX5_thereOf 77 = .ok (.imul, 1) := by decide +kernel
theorem dX5_thereOf_78 : decode cX5_thereOf 78 = .ok (.iconst 0, 1) := by decide +kernel
theorem dX5_thereOf_79 : decode cX5_thereOf 79 = .ok (.iadd, 1) := by decide +kernel
theorem dX5_thereOf_80 : decode cX5_thereOf 80 = .ok (.iaload, 1) := by decide +kernel
theorem dX5_thereOf_81 : decode cX5_thereOf 81 = .ok (.ifCond .lt 7, 3) := by decide +kernel
theorem dX5_thereOf_84 : decode cX5_thereOf 84 = .ok (.iconst 1, 1) := by decide +kernel
theorem dX5_thereOf_85 : decode cX5_thereOf 85 = .ok (.goto 4, 3) := by decide +kernel
theorem dX5_thereOf_88 : decode cX5_thereOf 88 = .ok (.iconst 0, 1) := by decide +kernel
theorem dX5_thereOf_89 : decode cX5_thereOf 89 = .ok (.iadd, 1) := by decide +kernel
theorem dX5_thereOf_90 : decode cX5_thereOf 90 = .ok (.istore_n 2, 1) := by decide +kernel
theorem dX5_thereOf_91 : decode cX5_thereOf 91 = .ok (.iinc 3 1, 3) := by decide +kernel
theorem dX5_thereOf_94 : decode cX5_thereOf 94 = .ok (.goto (-90), 3) := by decide +kernel
theorem dX5_thereOf_97 : decode cX5_thereOf 97 = .ok (.iload_n 2, 1) := by decide +kernel
theorem dX5_thereOf_98 : decode cX5_thereOf 98 = .ok (.ireturn, 1) := by decide +kernel
set_option maxRecDepth 20000 in
theorem ggX5_countOf_X5_those : GoodIn wsX5_countOf wsX5_those := goodIn_r _ [9, 1, 10, 11, 12, 8, 13, 14, 21, 22, 23, 24, 25, 26, 27, 28, 29, 30, 31, 32, 33, 34, 35, 36, 37, 38, 39, 40, 41, 42, 43, 44, 45, 46, 47, 48, 49, 50, 51, 52] (by rfl) (by decide +kernel)
set_option maxRecDepth 20000 in
theorem gX5_countOf_X5_those : GoodIn wsX5_countOf (wsV RX5 321 RX5 yX5_those wsX5_those) := goodIn_app (goodIn_of _ (by decide +kernel)) ggX5_countOf_X5_those
set_option maxRecDepth 20000 in
theorem ggX5_countOf_X5_thereOf : GoodIn wsX5_countOf wsX5_thereOf := goodIn_r _ [18, 19, 20, 3, 21, 22, 23, 24, 25, 26, 27, 28, 29, 30, 31, 32, 33, 34, 35, 36, 37, 38, 39, 40, 41, 42, 43, 44, 45, 46, 47, 48, 49, 50, 51, 52] (by rfl) (by decide +kernel)
set_option maxRecDepth 20000 in
theorem gX5_countOf_X5_thereOf : GoodIn wsX5_countOf (wsV RX5 324 RX5 yX5_thereOf wsX5_thereOf) := goodIn_app (goodIn_of _ (by decide +kernel)) ggX5_countOf_X5_thereOf
theorem dX5_countOf_0 : decode cX5_countOf 0 = .ok (.iload_n 1, 1) := by decide +kernel
theorem dX5_countOf_1 : decode cX5_countOf 1 = .ok (.tableswitch 117 0 9 #[55, 60, 65, 72, 79, 86, 93, 98, 105, 111], 55) := by decide +kernel
theorem dX5_countOf_56 : decode cX5_countOf 56 = .ok (.aload_n 0, 1) := by decide +kernel
theorem dX5_countOf_57 : decode cX5_countOf 57 = .ok (.getfield 157, 3) := by decide +kernel
theorem dX5_countOf_60 : decode cX5_countOf 60 = .ok (.ireturn, 1) := by decide +kernel
theorem dX5_countOf_61 : decode cX5_countOf 61 = .ok (.aload_n 0, 1) := by decide +kernel
theorem dX5_countOf_62 : decode cX5_countOf 62 = .ok (.getfield 154, 3) := by decide +kernel
theorem dX5_countOf_65 : decode cX5_countOf 65 = .ok (.ireturn, 1) := by decide +kernel
theorem dX5_countOf_66 : decode cX5_countOf 66 = .ok (.aload_n 0, 1) := by decide +kernel
theorem dX5_countOf_67 : decode cX5_countOf 67 = .ok (.getfield 7, 3) := by decide +kernel
theorem dX5_countOf_70 : decode cX5_countOf 70 = .ok (.iconst 0, 1) := by decide +kernel
theorem dX5_countOf_71 : decode cX5_countOf 71 = .ok (.iaload, 1) := by decide +kernel
theorem dX5_countOf_72 : decode cX5_countOf 72 = .ok (.ireturn, 1) := by decide +kernel
theorem dX5_countOf_73 : decode cX5_countOf 73 = .ok (.aload_n 0, 1) := by decide +kernel
theorem dX5_countOf_74 : decode cX5_countOf 74 = .ok (.getfield 7, 3) := by decide +kernel
theorem dX5_countOf_77 : decode cX5_countOf 77 = .ok (.iconst 1, 1) := by decide +kernel
theorem dX5_countOf_78 : decode cX5_countOf 78 = .ok (.iaload, 1) := by decide +kernel
theorem dX5_countOf_79 : decode cX5_countOf 79 = .ok (.ireturn, 1) := by decide +kernel
theorem dX5_countOf_80 : decode cX5_countOf 80 = .ok (.aload_n 0, 1) := by decide +kernel
theorem dX5_countOf_81 : decode cX5_countOf 81 = .ok (.getfield 7, 3) := by decide +kernel
theorem dX5_countOf_84 : decode cX5_countOf 84 = .ok (.iconst 2, 1) := by decide +kernel
theorem dX5_countOf_85 : decode cX5_countOf 85 = .ok (.iaload, 1) := by decide +kernel
theorem dX5_countOf_86 : decode cX5_countOf 86 = .ok (.ireturn, 1) := by decide +kernel
theorem dX5_countOf_87 : decode cX5_countOf 87 = .ok (.aload_n 0, 1) := by decide +kernel
theorem dX5_countOf_88 : decode cX5_countOf 88 = .ok (.getfield 7, 3) := by decide +kernel
theorem dX5_countOf_91 : decode cX5_countOf 91 = .ok (.iconst 3, 1) := by decide +kernel
theorem dX5_countOf_92 : decode cX5_countOf 92 = .ok (.iaload, 1) := by decide +kernel
theorem dX5_countOf_93 : decode cX5_countOf 93 = .ok (.ireturn, 1) := by decide +kernel
theorem dX5_countOf_94 : decode cX5_countOf 94 = .ok (.aload_n 0, 1) := by decide +kernel
theorem dX5_countOf_95 : decode cX5_countOf 95 = .ok (.getfield 151, 3) := by decide +kernel
theorem dX5_countOf_98 : decode cX5_countOf 98 = .ok (.ireturn, 1) := by decide +kernel
theorem dX5_countOf_99 : decode cX5_countOf 99 = .ok (.aload_n 0, 1) := by decide +kernel
theorem dX5_countOf_100 : decode cX5_countOf 100 = .ok (.getfield 7, 3) := by decide +kernel
theorem dX5_countOf_103 : decode cX5_countOf 103 = .ok (.iconst 4, 1) := by decide +kernel
theorem dX5_countOf_104 : decode cX5_countOf 104 = .ok (.iaload, 1) := by decide +kernel
theorem dX5_countOf_105 : decode cX5_countOf 105 = .ok (.ireturn, 1) := by decide +kernel
theorem dX5_countOf_106 : decode cX5_countOf 106 = .ok (.aload_n 0, 1) := by decide +kernel
theorem dX5_countOf_107 : decode cX5_countOf 107 = .ok (.iconst 2, 1) := by decide +kernel
theorem dX5_countOf_108 : decode cX5_countOf 108 = .ok (.invokevirtual 321, 3) := by decide +kernel
theorem dX5_countOf_111 : decode cX5_countOf 111 = .ok (.ireturn, 1) := by decide +kernel
theorem dX5_countOf_112 : decode cX5_countOf 112 = .ok (.aload_n 0, 1) := by decide +kernel
theorem dX5_countOf_113 : decode cX5_countOf 113 = .ok (.iconst 3, 1) := by decide +kernel
theorem dX5_countOf_114 : decode cX5_countOf 114 = .ok (.invokevirtual 321, 3) := by decide +kernel
theorem dX5_countOf_117 : decode cX5_countOf 117 = .ok (.ireturn, 1) := by decide +kernel
theorem dX5_countOf_118 : decode cX5_countOf 118 = .ok (.aload_n 0, 1) := by decide +kernel
theorem dX5_countOf_119 : decode cX5_countOf 119 = .ok (.iload_n 1, 1) := by decide +kernel
theorem dX5_countOf_120 : decode cX5_countOf 120 = .ok (.invokevirtual 324, 3) := by decide +kernel
theorem dX5_countOf_123 : decode cX5_countOf 123 = .ok (.ireturn, 1) := by decide +kernel
set_option maxRecDepth 20000 in
theorem ggX5_count_X5_in : GoodIn wsX5_count wsX5_in := goodIn_r _ [5] (by rfl) (by decide +kernel)
set_option maxRecDepth 20000 in
theorem gX5_count_X5_in : GoodIn wsX5_count (va_wsS RX5 75 yX5_in wsX5_in) := goodIn_app (goodIn_of _ (by decide +kernel)) ggX5_count_X5_in
set_option maxRecDepth 20000 in
theorem ggX5_count_X5_countOf : GoodIn wsX5_count wsX5_countOf := goodIn_r _ [9, 10, 11, 12, 13, 14, 15, 16, 4, 17, 18, 19, 20, 21, 22, 23, 24, 25, 26, 27, 28, 29, 30, 31, 32, 33, 34, 35, 36, 37, 38, 39, 40, 41, 42, 43, 44, 45, 46, 47, 48, 49, 50, 51, 52, 53, 54, 55, 56, 57, 58, 59, 60] (by rfl) (by decide +kernel)
set_option maxRecDepth 20000 in
theorem gX5_count_X5_countOf : GoodIn wsX5_count (wsV RX5 327 RX5 yX5_countOf wsX5_countOf) := goodIn_app (goodIn_of _ (by decide +kernel)) ggX5_count_X5_countOf
theorem dX5_count_0 : decode cX5_count 0 = .ok (.iload_n 1, 1) := by decide +kernel
theorem dX5_count_1 : decode cX5_count 1 = .ok (.i2l, 1) := by decide +kernel
theorem dX5_count_2 : decode cX5_count 2 = .ok (.lconst 0, 1) := by decide +kernel
theorem dX5_count_3 : decode cX5_count 3 = .ok (.ldc2_w 299, 3) := by decide +kernel
theorem dX5_count_6 : decode cX5_count 6 = .ok (.invokestatic 75, 3) := by decide +kernel
theorem dX5_count_9 : decode cX5_count 9 = .ok (.ifCond .eq 11, 3) := by decide +kernel
theorem dX5_count_12 : decode cX5_count 12 = .ok (.aload_n 0, 1) := by decide +kernel
theorem dX5_count_13 : decode cX5_count 13 = .ok (.iload_n 1, 1) := by decide +kernel
theorem dX5_count_14 : decode cX5_count 14 = .ok (.invokevirtual 327, 3) := by decide +kernel
theorem dX5_count_17 : decode cX5_count 17 = .ok (.goto 4, 3) := by decide +kernel
theorem dX5_count_20 : decode cX5_count 20 = .ok (.iconst (-1), 1) := by decide +kernel
theorem dX5_count_21 : decode cX5_count 21 = .ok (.ireturn, 1) := by decide +kernel
theorem dX5_finding_0 : decode cX5_finding 0 = .ok (.aload_n 0, 1) := by decide +kernel
theorem dX5_finding_1 : decode cX5_finding 1 = .ok (.getfield 66, 3) := by decide +kernel
theorem dX5_finding_4 : decode cX5_finding 4 = .ok (.ireturn, 1) := by decide +kernel
set_option maxRecDepth 20000 in
theorem ggX5_findings_X5_in : GoodIn wsX5_findings wsX5_in := goodIn_r _ [6] (by rfl) (by decide +kernel)
set_option maxRecDepth 20000 in
theorem gX5_findings_X5_in : GoodIn wsX5_findings (va_wsS RX5 75 yX5_in wsX5_in) := goodIn_app (goodIn_of _ (by decide +kernel)) ggX5_findings_X5_in
theorem dX5_findings_0 : decode cX5_findings 0 = .ok (.iload_n 1, 1) := by decide +kernel
theorem dX5_findings_1 : decode cX5_findings 1 = .ok (.i2l, 1) := by decide +kernel
theorem dX5_findings_2 : decode cX5_findings 2 = .ok (.lconst 1, 1) := by decide +kernel
theorem dX5_findings_3 : decode cX5_findings 3 = .ok (.ldc2_w 73, 3) := by decide +kernel
theorem dX5_findings_6 : decode cX5_findings 6 = .ok (.invokestatic 75, 3) := by decide +kernel
theorem dX5_findings_9 : decode cX5_findings 9 = .ok (.ifCond .eq 12, 3) := by decide +kernel
theorem dX5_findings_12 : decode cX5_findings 12 = .ok (.aload_n 0, 1) := by decide +kernel
theorem dX5_findings_13 : decode cX5_findings 13 = .ok (.getfield 38, 3) := by decide +kernel
theorem dX5_findings_16 : decode cX5_findings 16 = .ok (.iload_n 1, 1) := by decide +kernel
theorem dX5_findings_17 : decode cX5_findings 17 = .ok (.iaload, 1) := by decide +kernel
theorem dX5_findings_18 : decode cX5_findings 18 = .ok (.goto 4, 3) := by decide +kernel
theorem dX5_findings_21 : decode cX5_findings 21 = .ok (.iconst (-1), 1) := by decide +kernel
theorem dX5_findings_22 : decode cX5_findings 22 = .ok (.ireturn, 1) := by decide +kernel
set_option maxRecDepth 20000 in
theorem ggX5_digest_X5_countOf : GoodIn wsX5_digest wsX5_countOf := goodIn_r _ [15, 5, 3, 6, 16, 17, 18, 19, 14, 20, 21, 22, 23, 24, 25, 26, 27, 28, 29, 7, 9, 81, 82, 83, 84, 85, 86, 87, 88, 89, 90, 91, 92, 93, 94, 95, 96, 97, 98, 99, 100, 101, 102, 103, 104, 105, 106, 107, 108, 109, 110, 111, 112] (by rfl) (by decide +kernel)
set_option maxRecDepth 20000 in
theorem gX5_digest_X5_countOf : GoodIn wsX5_digest (wsV RX5 327 RX5 yX5_countOf wsX5_countOf) := goodIn_app (goodIn_of _ (by decide +kernel)) ggX5_digest_X5_countOf
set_option maxRecDepth 20000 in
theorem ggX5_digest_X5_toldOf : GoodIn wsX5_digest wsX5_toldOf := goodIn_r _ [33, 25, 34, 5, 35, 36, 37, 14, 38, 6, 39, 40, 41, 42, 43, 44, 45, 46, 47, 48, 49, 50, 51, 52, 16, 53, 54, 55, 56, 57, 58, 59, 60, 3, 61, 62, 63, 64, 65, 66, 67, 68, 69, 70, 71, 72, 73, 4, 74, 75, 76, 77, 78, 79, 80, 81, 82, 83, 84, 85, 86, 87, 88, 89, 90, 91, 92, 93, 94, 95, 96, 97, 98, 99, 100, 101, 102, 103, 104, 105, 106, 107, 108, 109, 110, 111, 112] (by rfl) (by decide +kernel)
set_option maxRecDepth 20000 in
theorem gX5_digest_X5_toldOf : GoodIn wsX5_digest (wsV RX5 207 RX5 yX5_toldOf wsX5_toldOf) := goodIn_app (goodIn_of _ (by decide +kernel)) ggX5_digest_X5_toldOf
theorem dX5_digest_0 : decode cX5_digest 0 = .ok (.ldc2_w 330, 3) := by decide +kernel
theorem dX5_digest_3 : decode cX5_digest 3 = .ok (.lstore_n 1, 1) := by decide +kernel
theorem dX5_digest_4 : decode cX5_digest 4 = .ok (.iconst 0, 1) := by decide +kernel
theorem dX5_digest_5 : decode cX5_digest 5 = .ok (.istore_n 3, 1) := by decide +kernel
theorem dX5_digest_6 : decode cX5_digest 6 = .ok (.iload_n 3, 1) := by decide +kernel
theorem dX5_digest_7 : decode cX5_digest 7 = .ok (.bipush 13, 2) := by decide +kernel
theorem dX5_digest_9 : decode cX5_digest 9 = .ok (.if_icmp .ge 22, 3) := by decide +kernel
theorem dX5_digest_12 : decode cX5_digest 12 = .ok (.ldc2_w 332, 3) := by decide +kernel
theorem dX5_digest_15 : decode cX5_digest 15 = .ok (.lload_n 1, 1) := by decide +kernel
theorem dX5_digest_16 : decode cX5_digest 16 = .ok (.lmul, 1) := by decide +kernel
theorem dX5_digest_17 : decode cX5_digest 17 = .ok (.aload_n 0, 1) := by decide +kernel
theorem dX5_digest_18 : decode cX5_digest 18 = .ok (.iload_n 3, 1) := by decide +kernel
theorem dX5_digest_19 : decode cX5_digest 19 = .ok (.invokevirtual 327, 3) := by decide +kernel
theorem dX5_digest_22 : decode cX5_digest 22 = .ok (.i2l, 1) := by decide +kernel
theorem dX5_digest_23 : decode cX5_digest 23 = .ok (.ladd, 1) := by decide +kernel
theorem dX5_digest_24 : decode cX5_digest 24 = .ok (.lstore_n 1, 1) := by decide +kernel
theorem dX5_digest_25 : decode cX5_digest 25 = .ok (.iinc 3 1, 3) := by decide +kernel
theorem dX5_digest_28 : decode cX5_digest 28 = .ok (.goto (-22), 3) := by decide +kernel
theorem dX5_digest_31 : decode cX5_digest 31 = .ok (.iconst 0, 1) := by decide +kernel
theorem dX5_digest_32 : decode cX5_digest 32 = .ok (.istore_n 3, 1) := by decide +kernel
theorem dX5_digest_33 : decode cX5_digest 33 = .ok (.iload_n 3, 1) := by decide +kernel
theorem dX5_digest_34 : decode cX5_digest 34 = .ok (.aload_n 0, 1) := by decide +kernel
theorem dX5_digest_35 : decode cX5_digest 35 = .ok (.getfield 154, 3) := by decide +kernel
theorem dX5_digest_38 : decode cX5_digest 38 = .ok (.if_icmp .ge 23, 3) := by decide +kernel
theorem dX5_digest_41 : decode cX5_digest 41 = .ok (.ldc2_w 332, 3) := by decide +kernel
theorem dX5_digest_44 : decode cX5_digest 44 = .ok (.lload_n 1, 1) := by decide +kernel
theorem dX5_digest_45 : decode cX5_digest 45 = .ok (.lmul, 1) := by decide +kernel
theorem dX5_digest_46 : decode cX5_digest 46 = .ok (.aload_n 0, 1) := by decide +kernel
theorem dX5_digest_47 : decode cX5_digest 47 = .ok (.getfield 13, 3) := by decide +kernel
theorem dX5_digest_50 : decode cX5_digest 50 = .ok (.iload_n 3, 1) := by decide +kernel
theorem dX5_digest_51 : decode cX5_digest 51 = .ok (.iaload, 1) := by decide +kernel
theorem dX5_digest_52 : decode cX5_digest 52 = .ok (.i2l, 1) := by decide +kernel
theorem dX5_digest_53 : decode cX5_digest 53 = .ok (.ladd, 1) := by decide +kernel
theorem dX5_digest_54 : decode cX5_digest 54 = .ok (.lstore_n 1, 1) := by decide +kernel
theorem dX5_digest_55 : decode cX5_digest 55 = .ok (.iinc 3 1, 3) := by decide +kernel
theorem dX5_digest_58 : decode cX5_digest 58 = .ok (.goto (-25), 3) := by decide +kernel
theorem dX5_digest_61 : decode cX5_digest 61 = .ok (.iconst 0, 1) := by decide +kernel
theorem dX5_digest_62 : decode cX5_digest 62 = .ok (.istore_n 3, 1) := by decide +kernel
theorem dX5_digest_63 : decode cX5_digest 63 = .ok (.iload_n 3, 1) := by decide +kernel
theorem dX5_digest_64 : decode cX5_digest 64 = .ok (.iconst 5, 1) := by decide +kernel
theorem dX5_digest_65 : decode cX5_digest 65 = .ok (.aload_n 0, 1) := by decide +kernel
theorem dX5_digest_66 : decode cX5_digest 66 = .ok (.getfield 157, 3) := by decide +kernel
theorem dX5_digest_69 : decode cX5_digest 69 = .ok (.imul, 1) := by decide +kernel
theorem dX5_digest_70 : decode cX5_digest 70 = .ok (.if_icmp .ge 27, 3) := by decide +kernel
theorem dX5_digest_73 : decode cX5_digest 73 = .ok (.ldc2_w 332, 3) := by decide +kernel
theorem dX5_digest_76 : decode cX5_digest 76 = .ok (.lload_n 1, 1) := by decide +kernel
theorem dX5_digest_77 : decode cX5_digest 77 = .ok (.lmul, 1) := by decide +kernel
theorem dX5_digest_78 : decode cX5_digest 78 = .ok (.aload_n 0, 1) := by decide +kernel
theorem dX5_digest_79 : decode cX5_digest 79 = .ok (.iload_n 3, 1) := by decide +kernel
theorem dX5_digest_80 : decode cX5_digest 80 = .ok (.iconst 5, 1) := by decide +kernel
theorem dX5_digest_81 : decode cX5_digest 81 = .ok (.idiv, 1) := by decide +kernel
theorem dX5_digest_82 : decode cX5_digest 82 = .ok (.iload_n 3, 1) := by decide +kernel
theorem dX5_digest_83 : decode cX5_digest 83 = .ok (.iconst 5, 1) := by decide +kernel
theorem dX5_digest_84 : decode cX5_digest 84 = .ok (.irem, 1) := by decide +kernel
theorem dX5_digest_85 : decode cX5_digest 85 = .ok (.invokevirtual 207, 3) := by decide +kernel
theorem dX5_digest_88 : decode cX5_digest 88 = .ok (.i2l, 1) := by decide +kernel
theorem dX5_digest_89 : decode cX5_digest 89 = .ok (.ladd, 1) := by decide +kernel
theorem dX5_digest_90 : decode cX5_digest 90 = .ok (.lstore_n 1, 1) := by decide +kernel
theorem dX5_digest_91 : decode cX5_digest 91 = .ok (.iinc 3 1, 3) := by decide +kernel
theorem dX5_digest_94 : decode cX5_digest 94 = .ok (.goto (-31), 3) := by decide +kernel
theorem dX5_digest_97 : decode cX5_digest 97 = .ok (.iconst 1, 1) := by decide +kernel
theorem dX5_digest_98 : decode cX5_digest 98 = .ok (.istore_n 3, 1) := by decide +kernel
theorem dX5_digest_99 : decode cX5_digest 99 = .ok (.iload_n 3, 1) := by decide +kernel
theorem dX5_digest_100 : decode cX5_digest 100 = .ok (.iconst 4, 1) := by decide +kernel
theorem dX5_digest_101 : decode cX5_digest 101 = .ok (.if_icmp .ge 29, 3) := by decide +kernel
theorem dX5_digest_104 : decode cX5_digest 104 = .ok (.ldc2_w 332, 3) := by decide +kernel
theorem dX5_digest_107 : decode cX5_digest 107 = .ok (.lload_n 1, 1) := by decide +kernel
theorem dX5_digest_108 : decode cX5_digest 108 = .ok (.lmul, 1) := by decide +kernel
theorem dX5_digest_109 : decode cX5_digest 109 = .ok (.aload_n 0, 1) := by decide +kernel
theorem dX5_digest_110 : decode cX5_digest 110 = .ok (.getfield 7, 3) := by decide +kernel
theorem dX5_digest_113 : decode cX5_digest 113 = .ok (.sipush 165, 3) := by decide +kernel
theorem dX5_digest_116 : decode cX5_digest 116 = .ok (.iload_n 3, 1) := by decide +kernel
theorem dX5_digest_117 : decode cX5_digest 117 = .ok (.imul, 1) := by decide +kernel
theorem dX5_digest_118 : decode cX5_digest 118 = .ok (.iconst 0, 1) := by decide +kernel
theorem dX5_digest_119 : decode cX5_digest 119 = .ok (.iadd, 1) := by decide +kernel
theorem dX5_digest_120 : decode cX5_digest 120 = .ok (.iaload, 1) := by decide +kernel
theorem dX5_digest_121 : decode cX5_digest 121 = .ok (.i2l, 1) := by decide +kernel
theorem dX5_digest_122 : decode cX5_digest 122 = .ok (.ladd, 1) := by decide +kernel
theorem dX5_digest_123 : decode cX5_digest 123 = .ok (.lstore_n 1, 1) := by decide +kernel
theorem dX5_digest_124 : decode cX5_digest 124 = .ok (.iinc 3 1, 3) := by decide +kernel
theorem dX5_digest_127 : decode cX5_digest 127 = .ok (.goto (-28), 3) := by decide +kernel
theorem dX5_digest_130 : decode cX5_digest 130 = .ok (.iconst 0, 1) := by decide +kernel
theorem dX5_digest_131 : decode cX5_digest 131 = .ok (.istore_n 3, 1) := by decide +kernel
theorem dX5_digest_132 : decode cX5_digest 132 = .ok (.iload_n 3, 1) := by decide +kernel
theorem dX5_digest_133 : decode cX5_digest 133 = .ok (.bipush 6, 2) := by decide +kernel
theorem dX5_digest_135 : decode cX5_digest 135 = .ok (.if_icmp .ge 63, 3) := by decide +kernel
theorem dX5_digest_138 : decode cX5_digest 138 = .ok (.ldc2_w 332, 3) := by decide +kernel
theorem dX5_digest_141 : decode cX5_digest 141 = .ok (.lload_n 1, 1) := by decide +kernel
theorem dX5_digest_142 : decode cX5_digest 142 = .ok (.lmul, 1) := by decide +kernel
theorem dX5_digest_143 : decode cX5_digest 143 = .ok (.aload_n 0, 1) := by decide +kernel
theorem dX5_digest_144 : decode cX5_digest 144 = .ok (.getfield 22, 3) := by decide +kernel
theorem dX5_digest_147 : decode cX5_digest 147 = .ok (.iload_n 3, 1) := by decide +kernel
theorem dX5_digest_148 : decode cX5_digest 148 = .ok (.iaload, 1) := by decide +kernel
theorem dX5_digest_149 : decode cX5_digest 149 = .ok (.i2l, 1) := by decide +kernel
theorem dX5_digest_150 : decode cX5_digest 150 = .ok (.ladd, 1) := by decide +kernel
theorem dX5_digest_151 : decode cX5_digest 151 = .ok (.lstore_n 1, 1) := by decide +kernel
theorem dX5_digest_152 : decode cX5_digest 152 = .ok (.iconst 0, 1) := by decide +kernel
theorem dX5_digest_153 : decode cX5_digest 153 = .ok (.istore 4, 2) := by decide +kernel
theorem dX5_digest_155 : decode cX5_digest 155 = .ok (.iload 4, 2) := by decide +kernel
theorem dX5_digest_157 : decode cX5_digest 157 = .ok (.aload_n 0, 1) := by decide +kernel
theorem dX5_digest_158 : decode cX5_digest 158 = .ok (.getfield 22, 3) := by decide +kernel
theorem dX5_digest_161 : decode cX5_digest 161 = .ok (.iload_n 3, 1) := by decide +kernel
theorem dX5_digest_162 : decode cX5_digest 162 = .ok (.iaload, 1) := by decide +kernel
theorem dX5_digest_163 : decode cX5_digest 163 = .ok (.if_icmp .ge 29, 3) := by decide +kernel
theorem dX5_digest_166 : decode cX5_digest 166 = .ok (.ldc2_w 332, 3) := by decide +kernel
theorem dX5_digest_169 : decode cX5_digest 169 = .ok (.lload_n 1, 1) := by decide +kernel
theorem dX5_digest_170 : decode cX5_digest 170 = .ok (.lmul, 1) := by decide +kernel
theorem dX5_digest_171 : decode cX5_digest 171 = .ok (.aload_n 0, 1) := by decide +kernel
theorem dX5_digest_172 : decode cX5_digest 172 = .ok (.getfield 25, 3) := by decide +kernel
theorem dX5_digest_175 : decode cX5_digest 175 = .ok (.bipush 40, 2) := by decide +kernel
theorem dX5_digest_177 : decode cX5_digest 177 = .ok (.iload_n 3, 1) := by decide +kernel
theorem dX5_digest_178 : decode cX5_digest 178 = .ok (.imul, 1) := by decide +kernel
theorem dX5_digest_179 : decode cX5_digest 179 = .ok (.iload 4, 2) := by decide +kernel
theorem dX5_digest_181 : decode cX5_digest 181 = .ok (.iadd, 1) := by decide +kernel
theorem dX5_digest_182 : decode cX5_digest 182 = .ok (.iaload, 1) := by decide +kernel
theorem dX5_digest_183 : decode cX5_digest 183 = .ok (.i2l, 1) := by decide +kernel
theorem dX5_digest_184 : decode cX5_digest 184 = .ok (.ladd, 1) := by decide +kernel
theorem dX5_digest_185 : decode cX5_digest 185 = .ok (.lstore_n 1, 1) := by decide +kernel
theorem dX5_digest_186 : decode cX5_digest 186 = .ok (.iinc 4 1, 3) := by decide +kernel
theorem dX5_digest_189 : decode cX5_digest 189 = .ok (.goto (-34), 3) := by decide +kernel
theorem dX5_digest_192 : decode cX5_digest 192 = .ok (.iinc 3 1, 3) := by decide +kernel
theorem dX5_digest_195 : decode cX5_digest 195 = .ok (.goto (-63), 3) := by decide +kernel
theorem dX5_digest_198 : decode cX5_digest 198 = .ok (.iconst 0, 1) := by decide +kernel
theorem dX5_digest_199 : decode cX5_digest 199 = .ok (.istore_n 3, 1) := by decide +kernel
theorem dX5_digest_200 : decode cX5_digest 200 = .ok (.iload_n 3, 1) := by decide +kernel
theorem dX5_digest_201 : decode cX5_digest 201 = .ok (.iconst 4, 1) := by decide +kernel
theorem dX5_digest_202 : decode cX5_digest 202 = .ok (.if_icmp .ge 63, 3) := by decide +kernel
theorem dX5_digest_205 : decode cX5_digest 205 = .ok (.ldc2_w 332, 3) := by decide +kernel
theorem dX5_digest_208 : decode cX5_digest 208 = .ok (.lload_n 1, 1) := by decide +kernel
theorem dX5_digest_209 : decode cX5_digest 209 = .ok (.lmul, 1) := by decide +kernel
theorem dX5_digest_210 : decode cX5_digest 210 = .ok (.aload_n 0, 1) := by decide +kernel
theorem dX5_digest_211 : decode cX5_digest 211 = .ok (.getfield 28, 3) := by decide +kernel
theorem dX5_digest_214 : decode cX5_digest 214 = .ok (.iload_n 3, 1) := by decide +kernel
theorem dX5_digest_215 : decode cX5_digest 215 = .ok (.iaload, 1) := by decide +kernel
theorem dX5_digest_216 : decode cX5_digest 216 = .ok (.i2l, 1) := by decide +kernel
theorem dX5_digest_217 : decode cX5_digest 217 = .ok (.ladd, 1) := by decide +kernel
theorem dX5_digest_218 : decode cX5_digest 218 = .ok (.lstore_n 1, 1) := by decide +kernel
theorem dX5_digest_219 : decode cX5_digest 219 = .ok (.iconst 0, 1) := by decide +kernel
theorem dX5_digest_220 : decode cX5_digest 220 = .ok (.istore 4, 2) := by decide +kernel
theorem dX5_digest_222 : decode cX5_digest 222 = .ok (.iload 4, 2) := by decide +kernel
theorem dX5_digest_224 : decode cX5_digest 224 = .ok (.aload_n 0, 1) := by decide +kernel
theorem dX5_digest_225 : decode cX5_digest 225 = .ok (.getfield 28, 3) := by decide +kernel
theorem dX5_digest_228 : decode cX5_digest 228 = .ok (.iload_n 3, 1) := by decide +kernel
theorem dX5_digest_229 : decode cX5_digest 229 = .ok (.iaload, 1) := by decide +kernel
theorem dX5_digest_230 : decode cX5_digest 230 = .ok (.if_icmp .ge 29, 3) := by decide +kernel
theorem dX5_digest_233 : decode cX5_digest 233 = .ok (.ldc2_w 332, 3) := by decide +kernel
theorem dX5_digest_236 : decode cX5_digest 236 = .ok (.lload_n 1, 1) := by decide +kernel
theorem dX5_digest_237 : decode cX5_digest 237 = .ok (.lmul, 1) := by decide +kernel
theorem dX5_digest_238 : decode cX5_digest 238 = .ok (.aload_n 0, 1) := by decide +kernel
theorem dX5_digest_239 : decode cX5_digest 239 = .ok (.getfield 31, 3) := by decide +kernel
theorem dX5_digest_242 : decode cX5_digest 242 = .ok (.bipush 60, 2) := by decide +kernel
theorem dX5_digest_244 : decode cX5_digest 244 = .ok (.iload_n 3, 1) := by decide +kernel
theorem dX5_digest_245 : decode cX5_digest 245 = .ok (.imul, 1) := by decide +kernel
theorem dX5_digest_246 : decode cX5_digest 246 = .ok (.iload 4, 2) := by decide +kernel
theorem dX5_digest_248 : decode cX5_digest 248 = .ok (.iadd, 1) := by decide +kernel
theorem dX5_digest_249 : decode cX5_digest 249 = .ok (.iaload, 1) := by decide +kernel
theorem dX5_digest_250 : decode cX5_digest 250 = .ok (.i2l, 1) := by decide +kernel
theorem dX5_digest_251 : decode cX5_digest 251 = .ok (.ladd, 1) := by decide +kernel
theorem dX5_digest_252 : decode cX5_digest 252 = .ok (.lstore_n 1, 1) := by decide +kernel
theorem dX5_digest_253 : decode cX5_digest 253 = .ok (.iinc 4 1, 3) := by decide +kernel
theorem dX5_digest_256 : decode cX5_digest 256 = .ok (.goto (-34), 3) := by decide +kernel
theorem dX5_digest_259 : decode cX5_digest 259 = .ok (.iinc 3 1, 3) := by decide +kernel
theorem dX5_digest_262 : decode cX5_digest 262 = .ok (.goto (-62), 3) := by decide +kernel
theorem dX5_digest_265 : decode cX5_digest 265 = .ok (.lload_n 1, 1) := by decide +kernel
theorem dX5_digest_266 : decode cX5_digest 266 = .ok (.lreturn, 1) := by decide +kernel
