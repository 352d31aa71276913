theorem dX0_init_0 : decode cX0_init 0 = .ok (.aload_n 0, 1) := by decide +kernel
theorem dX0_init_1 : decode cX0_init 1 = .ok (.invokespecial 3, 3) := by decide +kernel
theorem dX0_init_4 : decode cX0_init 4 = .ok (.aload_n 0, 1) := by decide +kernel
theorem dX0_init_5 : decode cX0_init 5 = .ok (.bipush 41, 2) := by decide +kernel
theorem dX0_init_7 : decode cX0_init 7 = .ok (.newarray .int, 2) := by decide +kernel
theorem dX0_init_9 : decode cX0_init 9 = .ok (.putfield 9, 3) := by decide +kernel
theorem dX0_init_12 : decode cX0_init 12 = .ok (.aload_n 0, 1) := by decide +kernel
theorem dX0_init_13 : decode cX0_init 13 = .ok (.bipush 41, 2) := by decide +kernel
theorem dX0_init_15 : decode cX0_init 15 = .ok (.newarray .int, 2) := by decide +kernel
theorem dX0_init_17 : decode cX0_init 17 = .ok (.putfield 15, 3) := by decide +kernel
theorem dX0_init_20 : decode cX0_init 20 = .ok (.aload_n 0, 1) := by decide +kernel
theorem dX0_init_21 : decode cX0_init 21 = .ok (.bipush 41, 2) := by decide +kernel
theorem dX0_init_23 : decode cX0_init 23 = .ok (.newarray .int, 2) := by decide +kernel
theorem dX0_init_25 : decode cX0_init 25 = .ok (.putfield 18, 3) := by decide +kernel
theorem dX0_init_28 : decode cX0_init 28 = .ok (.aload_n 0, 1) := by decide +kernel
theorem dX0_init_29 : decode cX0_init 29 = .ok (.bipush 41, 2) := by decide +kernel
theorem dX0_init_31 : decode cX0_init 31 = .ok (.newarray .int, 2) := by decide +kernel
theorem dX0_init_33 : decode cX0_init 33 = .ok (.putfield 21, 3) := by decide +kernel
theorem dX0_init_36 : decode cX0_init 36 = .ok (.return_, 1) := by decide +kernel
theorem dX0_top_0 : decode cX0_top 0 = .ok (.aload_n 0, 1) := by decide +kernel
theorem dX0_top_1 : decode cX0_top 1 = .ok (.getfield 9, 3) := by decide +kernel
theorem dX0_top_4 : decode cX0_top 4 = .ok (.aload_n 0, 1) := by decide +kernel
theorem dX0_top_5 : decode cX0_top 5 = .ok (.getfield 24, 3) := by decide +kernel
theorem dX0_top_8 : decode cX0_top 8 = .ok (.iaload, 1) := by decide +kernel
theorem dX0_top_9 : decode cX0_top 9 = .ok (.ireturn, 1) := by decide +kernel
theorem dX0_stonesUp_0 : decode cX0_stonesUp 0 = .ok (.aload_n 0, 1) := by decide +kernel
theorem dX0_stonesUp_1 : decode cX0_stonesUp 1 = .ok (.getfield 15, 3) := by decide +kernel
theorem dX0_stonesUp_4 : decode cX0_stonesUp 4 = .ok (.aload_n 0, 1) := by decide +kernel
theorem dX0_stonesUp_5 : decode cX0_stonesUp 5 = .ok (.getfield 24, 3) := by decide +kernel
theorem dX0_stonesUp_8 : decode cX0_stonesUp 8 = .ok (.iaload, 1) := by decide +kernel
theorem dX0_stonesUp_9 : decode cX0_stonesUp 9 = .ok (.ireturn, 1) := by decide +kernel
theorem dX0_eaten_0 : decode cX0_eaten 0 = .ok (.aload_n 0, 1) := by decide +kernel
theorem dX0_eaten_1 : decode cX0_eaten 1 = .ok (.getfield 18, 3) := by decide +kernel
theorem dX0_eaten_4 : decode cX0_eaten 4 = .ok (.aload_n 0, 1) := by decide +kernel
theorem dX0_eaten_5 : decode cX0_eaten 5 = .ok (.getfield 24, 3) := by decide +kernel
theorem dX0_eaten_8 : decode cX0_eaten 8 = .ok (.iaload, 1) := by decide +kernel
theorem dX0_eaten_9 : decode cX0_eaten 9 = .ok (.ireturn, 1) := by decide +kernel
theorem dX0_stepsSunk_0 : decode cX0_stepsSunk 0 = .ok (.aload_n 0, 1) := by decide +kernel
theorem dX0_stepsSunk_1 : decode cX0_stepsSunk 1 = .ok (.getfield 21, 3) := by decide +kernel
theorem dX0_stepsSunk_4 : decode cX0_stepsSunk 4 = .ok (.aload_n 0, 1) := by decide +kernel
theorem dX0_stepsSunk_5 : decode cX0_stepsSunk 5 = .ok (.getfield 24, 3) := by decide +kernel
theorem dX0_stepsSunk_8 : decode cX0_stepsSunk 8 = .ok (.iaload, 1) := by decide +kernel
theorem dX0_stepsSunk_9 : decode cX0_stepsSunk 9 = .ok (.ireturn, 1) := by decide +kernel
theorem dX0_add_0 : decode cX0_add 0 = .ok (.aload_n 0, 1) := by decide +kernel
theorem dX0_add_1 : decode cX0_add 1 = .ok (.getfield 24, 3) := by decide +kernel
theorem dX0_add_4 : decode cX0_add 4 = .ok (.bipush 40, 2) := by decide +kernel
theorem dX0_add_6 : decode cX0_add 6 = .ok (.if_icmp .lt 4, 3) := by decide +kernel
theorem dX0_add_9 : decode cX0_add 9 = .ok (.return_, 1) := by decide +kernel
theorem dX0_add_10 : decode cX0_add 10 = .ok (.aload_n 0, 1) := by decide +kernel
theorem dX0_add_11 : decode cX0_add 11 = .ok (.getfield 9, 3) := by decide +kernel
theorem dX0_add_14 : decode cX0_add 14 = .ok (.aload_n 0, 1) := by decide +kernel
theorem dX0_add_15 : decode cX0_add 15 = .ok (.getfield 24, 3) := by decide +kernel
theorem dX0_add_18 : decode cX0_add 18 = .ok (.iconst 1, 1) := by decide +kernel
theorem dX0_add_19 : decode cX0_add 19 = .ok (.iadd, 1) := by decide +kernel
theorem dX0_add_20 : decode cX0_add 20 = .ok (.aload_n 0, 1) := by decide +kernel
theorem dX0_add_21 : decode cX0_add 21 = .ok (.getfield 9, 3) := by decide +kernel
theorem dX0_add_24 : decode cX0_add 24 = .ok (.aload_n 0, 1) := by decide +kernel
theorem dX0_add_25 : decode cX0_add 25 = .ok (.getfield 24, 3) := by decide +kernel
theorem dX0_add_28 : decode cX0_add 28 = .ok (.iaload, 1) := by decide +kernel
theorem dX0_add_29 : decode cX0_add 29 = .ok (.iload_n 1, 1) := by decide +kernel
theorem dX0_add_30 : decode cX0_add 30 = .ok (.ixor, 1) := by decide +kernel
theorem dX0_add_31 : decode cX0_add 31 = .ok (.iastore, 1) := by decide +kernel
theorem dX0_add_32 : decode cX0_add 32 = .ok (.aload_n 0, 1) := by decide +kernel
theorem dX0_add_33 : decode cX0_add 33 = .ok (.getfield 15, 3) := by decide +kernel
theorem dX0_add_36 : decode cX0_add 36 = .ok (.aload_n 0, 1) := by decide +kernel
theorem dX0_add_37 : decode cX0_add 37 = .ok (.getfield 24, 3) := by decide +kernel
theorem dX0_add_40 : decode cX0_add 40 = .ok (.iconst 1, 1) := by decide +kernel
theorem dX0_add_41 : decode cX0_add 41 = .ok (.iadd, 1) := by decide +kernel
theorem dX0_add_42 : decode cX0_add 42 = .ok (.aload_n 0, 1) := by decide +kernel
theorem dX0_add_43 : decode cX0_add 43 = .ok (.getfield 15, 3) := by decide +kernel
theorem dX0_add_46 : decode cX0_add 46 = .ok (.aload_n 0, 1) := by decide +kernel
theorem dX0_add_47 : decode cX0_add 47 = .ok (.getfield 24, 3) := by decide +kernel
theorem dX0_add_50 : decode cX0_add 50 = .ok (.iaload, 1) := by decide +kernel
theorem dX0_add_51 : decode cX0_add 51 = .ok (.iload_n 2, 1) := by decide +kernel
theorem dX0_add_52 : decode cX0_add 52 = .ok (.ixor, 1) := by decide +kernel
theorem dX0_add_53 : decode cX0_add 53 = .ok (.iastore, 1) := by decide +kernel
theorem dX0_add_54 : decode cX0_add 54 = .ok (.aload_n 0, 1) := by decide +kernel
theorem dX0_add_55 : decode cX0_add 55 = .ok (.getfield 18, 3) := by decide +kernel
theorem dX0_add_58 : decode cX0_add 58 = .ok (.aload_n 0, 1) := by decide +kernel
theorem dX0_add_59 : decode cX0_add 59 = .ok (.getfield 24, 3) := by decide +kernel
theorem dX0_add_62 : decode cX0_add 62 = .ok (.iconst 1, 1) := by decide +kernel
theorem dX0_add_63 : decode cX0_add 63 = .ok (.iadd, 1) := by decide +kernel
theorem dX0_add_64 : decode cX0_add 64 = .ok (.aload_n 0, 1) := by decide +kernel
theorem dX0_add_65 : decode cX0_add 65 = .ok (.getfield 18, 3) := by decide +kernel
theorem dX0_add_68 : decode cX0_add 68 = .ok (.aload_n 0, 1) := by decide +kernel
theorem dX0_add_69 : decode cX0_add 69 = .ok (.getfield 24, 3) := by decide +kernel
theorem dX0_add_72 : decode cX0_add 72 = .ok (.iaload, 1) := by decide +kernel
theorem dX0_add_73 : decode cX0_add 73 = .ok (.iload_n 3, 1) := by decide +kernel
theorem dX0_add_74 : decode cX0_add 74 = .ok (.iadd, 1) := by decide +kernel
theorem dX0_add_75 : decode cX0_add 75 = .ok (.iastore, 1) := by decide +kernel
theorem dX0_add_76 : decode cX0_add 76 = .ok (.aload_n 0, 1) := by decide +kernel
theorem dX0_add_77 : decode cX0_add 77 = .ok (.getfield 21, 3) := by decide +kernel
theorem dX0_add_80 : decode cX0_add 80 = .ok (.aload_n 0, 1) := by decide +kernel
theorem dX0_add_81 : decode cX0_add 81 = .ok (.getfield 24, 3) := by decide +kernel
theorem dX0_add_84 : decode cX0_add 84 = .ok (.iconst 1, 1) := by decide +kernel
theorem dX0_add_85 : decode cX0_add 85 = .ok (.iadd, 1) := by decide +kernel
theorem dX0_add_86 : decode cX0_add 86 = .ok (.aload_n 0, 1) := by decide +kernel
theorem dX0_add_87 : decode cX0_add 87 = .ok (.getfield 21, 3) := by decide +kernel
theorem dX0_add_90 : decode cX0_add 90 = .ok (.aload_n 0, 1) := by decide +kernel
theorem dX0_add_91 : decode cX0_add 91 = .ok (.getfield 24, 3) := by decide +kernel
theorem dX0_add_94 : decode cX0_add 94 = .ok (.iaload, 1) := by decide +kernel
theorem dX0_add_95 : decode cX0_add 95 = .ok (.iload 4, 2) := by decide +kernel
theorem dX0_add_97 : decode cX0_add 97 = .ok (.iadd, 1) := by decide +kernel
theorem dX0_add_98 : decode cX0_add 98 = .ok (.iastore, 1) := by decide +kernel
theorem dX0_add_99 : decode cX0_add 99 = .ok (.aload_n 0, 1) := by decide +kernel
theorem dX0_add_100 : decode cX0_add 100 = .ok (.dup, 1) := by decide +kernel
theorem dX0_add_101 : decode cX0_add 101 = .ok (.getfield 24, 3) := by decide +kernel
theorem dX0_add_104 : decode cX0_add 104 = .ok (.iconst 1, 1) := by decide +kernel
theorem dX0_add_105 : decode cX0_add 105 = .ok (.iadd, 1) := by decide +kernel
theorem dX0_add_106 : decode cX0_add 106 = .ok (.putfield 24, 3) := by decide +kernel
theorem dX0_add_109 : decode cX0_add 109 = .ok (.return_, 1) := by decide +kernel
theorem dX0_become_0 : decode cX0_become 0 = .ok (.aload_n 0, 1) := by decide +kernel
theorem dX0_become_1 : decode cX0_become 1 = .ok (.aload_n 1, 1) := by decide +kernel
theorem dX0_become_2 : decode cX0_become 2 = .ok (.getfield 24, 3) := by decide +kernel
theorem dX0_become_5 : decode cX0_become 5 = .ok (.putfield 24, 3) := by decide +kernel
theorem dX0_become_8 : decode cX0_become 8 = .ok (.aload_n 1, 1) := by decide +kernel
theorem dX0_become_9 : decode cX0_become 9 = .ok (.getfield 9, 3) := by decide +kernel
theorem dX0_become_12 : decode cX0_become 12 = .ok (.iconst 0, 1) := by decide +kernel
theorem dX0_become_13 : decode cX0_become 13 = .ok (.aload_n 0, 1) := by decide +kernel
theorem dX0_become_14 : decode cX0_become 14 = .ok (.getfield 9, 3) := by decide +kernel
theorem dX0_become_17 : decode cX0_become 17 = .ok (.iconst 0, 1) := by decide +kernel
theorem dX0_become_18 : decode cX0_become 18 = .ok (.aload_n 0, 1) := by decide +kernel
theorem dX0_become_19 : decode cX0_become 19 = .ok (.getfield 24, 3) := by decide +kernel
theorem dX0_become_22 : decode cX0_become 22 = .ok (.iconst 1, 1) := by decide +kernel
theorem dX0_become_23 : decode cX0_become 23 = .ok (.iadd, 1) := by decide +kernel
theorem dX0_become_24 : decode cX0_become 24 = .ok (.invokestatic 28, 3) := by decide +kernel
theorem dX0_become_27 : decode cX0_become 27 = .ok (.aload_n 1, 1) := by decide +kernel
theorem dX0_become_28 : decode cX0_become 28 = .ok (.getfield 15, 3) := by decide +kernel
theorem dX0_become_31 : decode cX0_become 31 = .ok (.iconst 0, 1) := by decide +kernel
theorem dX0_become_32 : decode cX0_become 32 = .ok (.aload_n 0, 1) := by decide +kernel
theorem dX0_become_33 : decode cX0_become 33 = .ok (.getfield 15, 3) := by decide +kernel
theorem dX0_become_36 : decode cX0_become 36 = .ok (.iconst 0, 1) := by decide +kernel
theorem dX0_become_37 : decode cX0_become 37 = .ok (.aload_n 0, 1) := by decide +kernel
theorem dX0_become_38 : decode cX0_become 38 = .ok (.getfield 24, 3) := by decide +kernel
theorem dX0_become_41 : decode cX0_become 41 = .ok (.iconst 1, 1) := by decide +kernel
theorem dX0_become_42 : decode cX0_become 42 = .ok (.iadd, 1) := by decide +kernel
theorem dX0_become_43 : decode cX0_become 43 = .ok (.invokestatic 28, 3) := by decide +kernel
theorem dX0_become_46 : decode cX0_become 46 = .ok (.aload_n 1, 1) := by decide +kernel
theorem dX0_become_47 : decode cX0_become 47 = .ok (.getfield 18, 3) := by decide +kernel
theorem dX0_become_50 : decode cX0_become 50 = .ok (.iconst 0, 1) := by decide +kernel
theorem dX0_become_51 : decode cX0_become 51 = .ok (.aload_n 0, 1) := by decide +kernel
theorem dX0_become_52 : decode cX0_become 52 = .ok (.getfield 18, 3) := by decide +kernel
theorem dX0_become_55 : decode cX0_become 55 = .ok (.iconst 0, 1) := by decide +kernel
theorem dX0_become_56 : decode cX0_become 56 = .ok (.aload_n 0, 1) := by decide +kernel
theorem dX0_become_57 : decode cX0_become 57 = .ok (.getfield 24, 3) := by decide +kernel
theorem dX0_become_60 : decode cX0_become 60 = .ok (.iconst 1, 1) := by decide +kernel
theorem dX0_become_61 : decode cX0_become 61 = .ok (.iadd, 1) := by decide +kernel
theorem dX0_become_62 : decode cX0_become 62 = .ok (.invokestatic 28, 3) := by decide +kernel
theorem dX0_become_65 : decode cX0_become 65 = .ok (.aload_n 1, 1) := by decide +kernel
theorem dX0_become_66 : decode cX0_become 66 = .ok (.getfield 21, 3) := by decide +kernel
theorem dX0_become_69 : decode cX0_become 69 = .ok (.iconst 0, 1) := by decide +kernel
theorem dX0_become_70 : decode cX0_become 70 = .ok (.aload_n 0, 1) := by decide +kernel
theorem dX0_become_71 : decode cX0_become 71 = .ok (.getfield 21, 3) := by decide +kernel
theorem dX0_become_74 : decode cX0_become 74 = .ok (.iconst 0, 1) := by decide +kernel
theorem dX0_become_75 : decode cX0_become 75 = .ok (.aload_n 0, 1) := by decide +kernel
theorem dX0_become_76 : decode cX0_become 76 = .ok (.getfield 24, 3) := by decide +kernel
theorem dX0_become_79 : decode cX0_become 79 = .ok (.iconst 1, 1) := by decide +kernel
theorem dX0_become_80 : decode cX0_become 80 = .ok (.iadd, 1) := by decide +kernel
theorem dX0_become_81 : decode cX0_become 81 = .ok (.invokestatic 28, 3) := by decide +kernel
theorem dX0_become_84 : decode cX0_become 84 = .ok (.return_, 1) := by decide +kernel
theorem dX1_init_0 : decode cX1_init 0 = .ok (.aload_n 0, 1) := by decide +kernel
theorem dX1_init_1 : decode cX1_init 1 = .ok (.invokespecial 3, 3) := by decide +kernel
theorem dX1_init_4 : decode cX1_init 4 = .ok (.aload_n 0, 1) := by decide +kernel
theorem dX1_init_5 : decode cX1_init 5 = .ok (.iconst 4, 1) := by decide +kernel
theorem dX1_init_6 : decode cX1_init 6 = .ok (.newarray .int, 2) := by decide +kernel
theorem dX1_init_8 : decode cX1_init 8 = .ok (.putfield 9, 3) := by decide +kernel
theorem dX1_init_11 : decode cX1_init 11 = .ok (.aload_n 0, 1) := by decide +kernel
theorem dX1_init_12 : decode cX1_init 12 = .ok (.bipush 16, 2) := by decide +kernel
theorem dX1_init_14 : decode cX1_init 14 = .ok (.newarray .int, 2) := by decide +kernel
theorem dX1_init_16 : decode cX1_init 16 = .ok (.putfield 15, 3) := by decide +kernel
theorem dX1_init_19 : decode cX1_init 19 = .ok (.aload_n 0, 1) := by decide +kernel
theorem dX1_init_20 : decode cX1_init 20 = .ok (.bipush 6, 2) := by decide +kernel
theorem dX1_init_22 : decode cX1_init 22 = .ok (.newarray .int, 2) := by decide +kernel
theorem dX1_init_24 : decode cX1_init 24 = .ok (.putfield 18, 3) := by decide +kernel
theorem dX1_init_27 : decode cX1_init 27 = .ok (.aload_n 0, 1) := by decide +kernel
theorem dX1_init_28 : decode cX1_init 28 = .ok (.bipush 6, 2) := by decide +kernel
theorem dX1_init_30 : decode cX1_init 30 = .ok (.newarray .int, 2) := by decide +kernel
theorem dX1_init_32 : decode cX1_init 32 = .ok (.putfield 21, 3) := by decide +kernel
theorem dX1_init_35 : decode cX1_init 35 = .ok (.return_, 1) := by decide +kernel
set_option maxRecDepth 20000 in
theorem ggX1_read_X1_takes : GoodIn wsX1_read wsX1_takes := goodIn_r _ [8, 3, 9, 10, 11, 12, 7, 13, 14, 15, 16, 17, 18, 19, 20, 21, 22, 2, 1, 23, 24, 25, 26, 27, 28, 29, 30, 31, 32, 33, 34, 35, 36, 37, 38, 39, 40, 50, 51, 52, 53, 54, 55, 56, 57, 58] (by rfl) (by decide +kernel)
set_option maxRecDepth 20000 in
theorem gX1_read_X1_takes : GoodIn wsX1_read (wsV RX1 34 RX1 yX1_takes wsX1_takes) := goodIn_app (goodIn_of _ (by decide +kernel)) ggX1_read_X1_takes
set_option maxRecDepth 20000 in
theorem ggX1_read_X1_weighSets : GoodIn wsX1_read wsX1_weighSets := goodIn_r _ [44, 45, 1, 31, 46, 47, 48, 7, 49, 50, 51, 52, 53, 54, 55, 56, 57, 58] (by rfl) (by decide +kernel)
set_option maxRecDepth 20000 in
theorem gX1_read_X1_weighSets : GoodIn wsX1_read (wsV RX1 38 RX1 yX1_weighSets wsX1_weighSets) := goodIn_app (goodIn_of _ (by decide +kernel)) ggX1_read_X1_weighSets
theorem dX1_read_0 : decode cX1_read 0 = .ok (.aload_n 0, 1) := by decide +kernel
theorem dX1_read_1 : decode cX1_read 1 = .ok (.iconst 0, 1) := by decide +kernel
theorem dX1_read_2 : decode cX1_read 2 = .ok (.putfield 24, 3) := by decide +kernel
theorem dX1_read_5 : decode cX1_read 5 = .ok (.aload_n 0, 1) := by decide +kernel
theorem dX1_read_6 : decode cX1_read 6 = .ok (.iconst 0, 1) := by decide +kernel
theorem dX1_read_7 : decode cX1_read 7 = .ok (.putfield 28, 3) := by decide +kernel
theorem dX1_read_10 : decode cX1_read 10 = .ok (.aload_n 0, 1) := by decide +kernel
theorem dX1_read_11 : decode cX1_read 11 = .ok (.iconst 0, 1) := by decide +kernel
theorem dX1_read_12 : decode cX1_read 12 = .ok (.putfield 31, 3) := by decide +kernel
theorem dX1_read_15 : decode cX1_read 15 = .ok (.iconst 0, 1) := by decide +kernel
theorem dX1_read_16 : decode cX1_read 16 = .ok (.istore_n 3, 1) := by decide +kernel
theorem dX1_read_17 : decode cX1_read 17 = .ok (.iload_n 3, 1) := by decide +kernel
theorem dX1_read_18 : decode cX1_read 18 = .ok (.iload_n 2, 1) := by decide +kernel
theorem dX1_read_19 : decode cX1_read 19 = .ok (.if_icmp .ge 21, 3) := by decide +kernel
theorem dX1_read_22 : decode cX1_read 22 = .ok (.aload_n 0, 1) := by decide +kernel
theorem dX1_read_23 : decode cX1_read 23 = .ok (.aload_n 1, 1) := by decide +kernel
theorem dX1_read_24 : decode cX1_read 24 = .ok (.iload_n 3, 1) := by decide +kernel
theorem dX1_read_25 : decode cX1_read 25 = .ok (.iaload, 1) := by decide +kernel
theorem dX1_read_26 : decode cX1_read 26 = .ok (.invokevirtual 34, 3) := by decide +kernel
theorem dX1_read_29 : decode cX1_read 29 = .ok (.ifCond .ne 5, 3) := by decide +kernel
theorem dX1_read_32 : decode cX1_read 32 = .ok (.iload_n 3, 1) := by decide +kernel
theorem dX1_read_33 : decode cX1_read 33 = .ok (.ireturn, 1) := by decide +kernel
theorem dX1_read_34 : decode cX1_read 34 = .ok (.iinc 3 1, 3) := by decide +kernel
theorem dX1_read_37 : decode cX1_read 37 = .ok (.goto (-20), 3) := by decide +kernel
theorem dX1_read_40 : decode cX1_read 40 = .ok (.aload_n 0, 1) := by decide +kernel
theorem dX1_read_41 : decode cX1_read 41 = .ok (.getfield 31, 3) := by decide +kernel
theorem dX1_read_44 : decode cX1_read 44 = .ok (.iconst 2, 1) := by decide +kernel
theorem dX1_read_45 : decode cX1_read 45 = .ok (.if_icmp .ne 11, 3) := by decide +kernel
theorem dX1_read_48 : decode cX1_read 48 = .ok (.aload_n 0, 1) := by decide +kernel
theorem dX1_read_49 : decode cX1_read 49 = .ok (.getfield 28, 3) := by decide +kernel
theorem dX1_read_52 : decode cX1_read 52 = .ok (.iconst 2, 1) := by decide +kernel
theorem dX1_read_53 : decode cX1_read 53 = .ok (.if_icmp .ge 5, 3) := by decide +kernel
theorem dX1_read_56 : decode cX1_read 56 = .ok (.iload_n 2, 1) := by decide +kernel
theorem dX1_read_57 : decode cX1_read 57 = .ok (.ireturn, 1) := by decide +kernel
theorem dX1_read_58 : decode cX1_read 58 = .ok (.aload_n 0, 1) := by decide +kernel
theorem dX1_read_59 : decode cX1_read 59 = .ok (.invokevirtual 38, 3) := by decide +kernel
theorem dX1_read_62 : decode cX1_read 62 = .ok (.bipush (-9), 2) := by decide +kernel
theorem dX1_read_64 : decode cX1_read 64 = .ok (.ireturn, 1) := by decide +kernel
set_option maxRecDepth 20000 in
theorem ggX1_takes_X1_takesAhead : GoodIn wsX1_takes wsX1_takesAhead := goodIn_r _ [7, 1, 37, 38, 39, 40, 41, 42, 43, 44, 45] (by rfl) (by decide +kernel)
set_option maxRecDepth 20000 in
theorem gX1_takes_X1_takesAhead : GoodIn wsX1_takes (wsV RX1 41 RX1 yX1_takesAhead wsX1_takesAhead) := goodIn_app (goodIn_of _ (by decide +kernel)) ggX1_takes_X1_takesAhead
set_option maxRecDepth 20000 in
theorem ggX1_takes_X1_takesLimit : GoodIn wsX1_takes wsX1_takesLimit := goodIn_r _ [11, 12, 1, 37, 38, 39, 40, 41, 42, 43, 44, 45] (by rfl) (by decide +kernel)
set_option maxRecDepth 20000 in
theorem gX1_takes_X1_takesLimit : GoodIn wsX1_takes (wsV RX1 44 RX1 yX1_takesLimit wsX1_takesLimit) := goodIn_app (goodIn_of _ (by decide +kernel)) ggX1_takes_X1_takesLimit
set_option maxRecDepth 20000 in
theorem ggX1_takes_X1_takesLetter : GoodIn wsX1_takes wsX1_takesLetter := goodIn_r _ [16, 1, 17, 18, 19, 20, 21, 6, 22, 37, 38, 39, 40, 41, 42, 43, 44, 45] (by rfl) (by decide +kernel)
set_option maxRecDepth 20000 in
theorem gX1_takes_X1_takesLetter : GoodIn wsX1_takes (wsV RX1 47 RX1 yX1_takesLetter wsX1_takesLetter) := goodIn_app (goodIn_of _ (by decide +kernel)) ggX1_takes_X1_takesLetter
set_option maxRecDepth 20000 in
theorem ggX1_takes_X1_takesStone : GoodIn wsX1_takes wsX1_takesStone := goodIn_r _ [26, 27, 18, 1, 37, 38, 39, 40, 41, 42, 43, 44, 45] (by rfl) (by decide +kernel)
set_option maxRecDepth 20000 in
theorem gX1_takes_X1_takesStone : GoodIn wsX1_takes (wsV RX1 50 RX1 yX1_takesStone wsX1_takesStone) := goodIn_app (goodIn_of _ (by decide +kernel)) ggX1_takes_X1_takesStone
set_option maxRecDepth 20000 in
theorem ggX1_takes_X1_takesTens : GoodIn wsX1_takes wsX1_takesTens := goodIn_r _ [31, 2, 1, 37, 38, 39, 40, 41, 42, 43, 44, 45] (by rfl) (by decide +kernel)
set_option maxRecDepth 20000 in
theorem gX1_takes_X1_takesTens : GoodIn wsX1_takes (wsV RX1 53 RX1 yX1_takesTens wsX1_takesTens) := goodIn_app (goodIn_of _ (by decide +kernel)) ggX1_takes_X1_takesTens
set_option maxRecDepth 20000 in
theorem ggX1_takes_X1_takesPounds : GoodIn wsX1_takes wsX1_takesPounds := goodIn_r _ [35, 36, 17, 1, 37, 38, 39, 40, 41, 42, 43, 44, 45] (by rfl) (by decide +kernel)
set_option maxRecDepth 20000 in
theorem gX1_takes_X1_takesPounds : GoodIn wsX1_takes (wsV RX1 59 RX1 yX1_takesPounds wsX1_takesPounds) := goodIn_app (goodIn_of _ (by decide +kernel)) ggX1_takes_X1_takesPounds
theorem dX1_takes_0 : decode cX1_takes 0 = .ok (.iload_n 1, 1) := by decide +kernel
theorem dX1_takes_1 : decode cX1_takes 1 = .ok (.bipush 48, 2) := by decide +kernel
theorem dX1_takes_3 : decode cX1_takes 3 = .ok (.isub, 1) := by decide +kernel
theorem dX1_takes_4 : decode cX1_takes 4 = .ok (.istore_n 2, 1) := by decide +kernel
theorem dX1_takes_5 : decode cX1_takes 5 = .ok (.iload_n 2, 1) := by decide +kernel
theorem dX1_takes_6 : decode cX1_takes 6 = .ok (.ifCond .lt 13, 3) := by decide +kernel
theorem dX1_takes_9 : decode cX1_takes 9 = .ok (.iload_n 2, 1) := by decide +kernel
theorem dX1_takes_10 : decode cX1_takes 10 = .ok (.bipush 9, 2) := by decide +kernel
theorem dX1_takes_12 : decode cX1_takes 12 = .ok (.if_icmp .gt 7, 3) := by decide +kernel
theorem dX1_takes_15 : decode cX1_takes 15 = .ok (.iconst 1, 1) := by decide +kernel
theorem dX1_takes_16 : decode cX1_takes 16 = .ok (.goto 4, 3) := by decide +kernel
theorem dX1_takes_19 : decode cX1_takes 19 = .ok (.iconst 0, 1) := by decide +kernel
theorem dX1_takes_20 : decode cX1_takes 20 = .ok (.istore_n 3, 1) := by decide +kernel
theorem dX1_takes_21 : decode cX1_takes 21 = .ok (.aload_n 0, 1) := by decide +kernel
theorem dX1_takes_22 : decode cX1_takes 22 = .ok (.getfield 31, 3) := by decide +kernel
theorem dX1_takes_25 : decode cX1_takes 25 = .ok (.tableswitch 115 0 4 #[35, 41, 59, 79, 97], 35) := by decide +kernel
theorem dX1_takes_60 : decode cX1_takes 60 = .ok (.aload_n 0, 1) := by decide +kernel
theorem dX1_takes_61 : decode cX1_takes 61 = .ok (.iload_n 1, 1) := by decide +kernel
theorem dX1_takes_62 : decode cX1_takes 62 = .ok (.invokevirtual 41, 3) := by decide +kernel
theorem dX1_takes_65 : decode cX1_takes 65 = .ok (.ireturn, 1) := by decide +kernel
theorem dX1_takes_66 : decode cX1_takes 66 = .ok (.iload_n 3, 1) := by decide +kernel
theorem dX1_takes_67 : decode cX1_takes 67 = .ok (.ifCond .eq 15, 3) := by decide +kernel
theorem dX1_takes_70 : decode cX1_takes 70 = .ok (.aload_n 0, 1) := by decide +kernel
theorem dX1_takes_71 : decode cX1_takes 71 = .ok (.iload_n 2, 1) := by decide +kernel
theorem dX1_takes_72 : decode cX1_takes 72 = .ok (.invokevirtual 44, 3) := by decide +kernel
theorem dX1_takes_75 : decode cX1_takes 75 = .ok (.ifCond .eq 7, 3) := by decide +kernel
theorem dX1_takes_78 : decode cX1_takes 78 = .ok (.iconst 1, 1) := by decide +kernel
theorem dX1_takes_79 : decode cX1_takes 79 = .ok (.goto 4, 3) := by decide +kernel
theorem dX1_takes_82 : decode cX1_takes 82 = .ok (.iconst 0, 1) := by decide +kernel
theorem dX1_takes_83 : decode cX1_takes 83 = .ok (.ireturn, 1) := by decide +kernel
theorem dX1_takes_84 : decode cX1_takes 84 = .ok (.iload_n 1, 1) := by decide +kernel
theorem dX1_takes_85 : decode cX1_takes 85 = .ok (.bipush 32, 2) := by decide +kernel
theorem dX1_takes_87 : decode cX1_takes 87 = .ok (.if_icmp .eq 11, 3) := by decide +kernel
theorem dX1_takes_90 : decode cX1_takes 90 = .ok (.aload_n 0, 1) := by decide +kernel
theorem dX1_takes_91 : decode cX1_takes 91 = .ok (.iload_n 1, 1) := by decide +kernel
theorem dX1_takes_92 : decode cX1_takes 92 = .ok (.invokevirtual 47, 3) := by decide +kernel
theorem dX1_takes_95 : decode cX1_takes 95 = .ok (.ifCond .eq 7, 3) := by decide +kernel
theorem dX1_takes_98 : decode cX1_takes 98 = .ok (.iconst 1, 1) := by decide +kernel
theorem dX1_takes_99 : decode cX1_takes 99 = .ok (.goto 4, 3) := by decide +kernel
theorem dX1_takes_102 : decode cX1_takes 102 = .ok (.iconst 0, 1) := by decide +kernel
theorem dX1_takes_103 : decode cX1_takes 103 = .ok (.ireturn, 1) := by decide +kernel
theorem dX1_takes_104 : decode cX1_takes 104 = .ok (.iload_n 3, 1) := by decide +kernel
theorem dX1_takes_105 : decode cX1_takes 105 = .ok (.ifCond .eq 15, 3) := by decide +kernel
theorem dX1_takes_108 : decode cX1_takes 108 = .ok (.aload_n 0, 1) := by decide +kernel
theorem dX1_takes_109 : decode cX1_takes 109 = .ok (.iload_n 2, 1) := by decide +kernel
theorem dX1_takes_110 : decode cX1_takes 110 = .ok (.invokevirtual 50, 3) := by decide +kernel
theorem dX1_takes_113 : decode cX1_takes 113 = .ok (.ifCond .eq 7, 3) := by decide +kernel
theorem dX1_takes_116 : decode cX1_takes 116 = .ok (.iconst 1, 1) := by decide +kernel
theorem dX1_takes_117 : decode cX1_takes 117 = .ok (.goto 4, 3) := by decide +kernel
theorem dX1_takes_120 : decode cX1_takes 120 = .ok (.iconst 0, 1) := by decide +kernel
theorem dX1_takes_121 : decode cX1_takes 121 = .ok (.ireturn, 1) := by decide +kernel
theorem dX1_takes_122 : decode cX1_takes 122 = .ok (.iload_n 3, 1) := by decide +kernel
theorem dX1_takes_123 : decode cX1_takes 123 = .ok (.ifCond .eq 15, 3) := by decide +kernel
theorem dX1_takes_126 : decode cX1_takes 126 = .ok (.aload_n 0, 1) := by decide +kernel
theorem dX1_takes_127 : decode cX1_takes 127 = .ok (.iload_n 2, 1) := by decide +kernel
theorem dX1_takes_128 : decode cX1_takes 128 = .ok (.invokevirtual 53, 3) := by decide +kernel
theorem dX1_takes_131 : decode cX1_takes 131 = .ok (.ifCond .eq 7, 3) := by decide +kernel
theorem dX1_takes_134 : decode cX1_takes 134 = .ok (.iconst 1, 1) := by decide +kernel
theorem dX1_takes_135 : decode cX1_takes 135 = .ok (.goto 4, 3) := by decide +kernel
theorem dX1_takes_138 : decode cX1_takes 138 = .ok (.iconst 0, 1) := by decide +kernel
theorem dX1_takes_139 : decode cX1_takes 139 = .ok (.ireturn, 1) := by decide +kernel
theorem dX1_takes_140 : decode cX1_takes 140 = .ok (.iload_n 3, 1) := by decide +kernel
theorem dX1_takes_141 : decode cX1_takes 141 = .ok (.ifCond .eq 23, 3) := by decide +kernel
theorem dX1_takes_144 : decode cX1_takes 144 = .ok (.aload_n 0, 1) := by decide +kernel
theorem dX1_takes_145 : decode cX1_takes 145 = .ok (.bipush 10, 2) := by decide +kernel
theorem dX1_takes_147 : decode cX1_takes 147 = .ok (.aload_n 0, 1) := by decide +kernel
theorem dX1_takes_148 : decode cX1_takes 148 = .ok (.getfield 56, 3) := by decide +kernel
theorem dX1_takes_151 : decode cX1_takes 151 = .ok (.imul, 1) := by decide +kernel
theorem dX1_takes_152 : decode cX1_takes 152 = .ok (.iload_n 2, 1) := by decide +kernel
theorem dX1_takes_153 : decode cX1_takes 153 = .ok (.iadd, 1) := by decide +kernel
theorem dX1_takes_154 : decode cX1_takes 154 = .ok (.invokevirtual 59, 3) := by decide +kernel
theorem dX1_takes_157 : decode cX1_takes 157 = .ok (.ifCond .eq 7, 3) := by decide +kernel
theorem dX1_takes_160 : decode cX1_takes 160 = .ok (.iconst 1, 1) := by decide +kernel
theorem dX1_takes_161 : decode cX1_takes 161 = .ok (.goto 4, 3) := by decide +kernel
theorem dX1_takes_164 : decode cX1_takes 164 = .ok (.iconst 0, 1) := by decide +kernel
theorem dX1_takes_165 : decode cX1_takes 165 = .ok (.ireturn, 1) := by decide +kernel
theorem dX1_takesAhead_0 : decode cX1_takesAhead 0 = .ok (.iload_n 1, 1) := by decide +kernel
theorem dX1_takesAhead_1 : decode cX1_takesAhead 1 = .ok (.bipush 120, 2) := by decide +kernel
theorem dX1_takesAhead_3 : decode cX1_takesAhead 3 = .ok (.if_icmp .ne 8, 3) := by decide +kernel
theorem dX1_takesAhead_6 : decode cX1_takesAhead 6 = .ok (.aload_n 0, 1) := by decide +kernel
theorem dX1_takesAhead_7 : decode cX1_takesAhead 7 = .ok (.iconst 1, 1) := by decide +kernel
theorem dX1_takesAhead_8 : decode cX1_takesAhead 8 = .ok (.putfield 31, 3) := by decide +kernel
theorem dX1_takesAhead_11 : decode cX1_takesAhead 11 = .ok (.iload_n 1, 1) := by decide +kernel
theorem dX1_takesAhead_12 : decode cX1_takesAhead 12 = .ok (.bipush 120, 2) := by decide +kernel
theorem dX1_takesAhead_14 : decode cX1_takesAhead 14 = .ok (.if_icmp .eq 9, 3) := by decide +kernel
theorem dX1_takesAhead_17 : decode cX1_takesAhead 17 = .ok (.iload_n 1, 1) := by decide +kernel
theorem dX1_takesAhead_18 : decode cX1_takesAhead 18 = .ok (.bipush 32, 2) := by decide +kernel
theorem dX1_takesAhead_20 : decode cX1_takesAhead 20 = .ok (.if_icmp .ne 7, 3) := by decide +kernel
theorem dX1_takesAhead_23 : decode cX1_takesAhead 23 = .ok (.iconst 1, 1) := by decide +kernel
theorem dX1_takesAhead_24 : decode cX1_takesAhead 24 = .ok (.goto 4, 3) := by decide +kernel
theorem dX1_takesAhead_27 : decode cX1_takesAhead 27 = .ok (.iconst 0, 1) := by decide +kernel
theorem dX1_takesAhead_28 : decode cX1_takesAhead 28 = .ok (.ireturn, 1) := by decide +kernel
theorem dX1_takesLimit_0 : decode cX1_takesLimit 0 = .ok (.aload_n 0, 1) := by decide +kernel
theorem dX1_takesLimit_1 : decode cX1_takesLimit 1 = .ok (.iload_n 1, 1) := by decide +kernel
theorem dX1_takesLimit_2 : decode cX1_takesLimit 2 = .ok (.putfield 62, 3) := by decide +kernel
theorem dX1_takesLimit_5 : decode cX1_takesLimit 5 = .ok (.aload_n 0, 1) := by decide +kernel
theorem dX1_takesLimit_6 : decode cX1_takesLimit 6 = .ok (.iconst 2, 1) := by decide +kernel
theorem dX1_takesLimit_7 : decode cX1_takesLimit 7 = .ok (.putfield 31, 3) := by decide +kernel
theorem dX1_takesLimit_10 : decode cX1_takesLimit 10 = .ok (.iconst 1, 1) := by decide +kernel
theorem dX1_takesLimit_11 : decode cX1_takesLimit 11 = .ok (.ireturn, 1) := by decide +kernel
set_option maxRecDepth 20000 in
theorem ggX1_takesLetter_X1_kindOf : GoodIn wsX1_takesLetter wsX1_kindOf := goodIn_r _ [8] (by rfl) (by decide +kernel)
set_option maxRecDepth 20000 in
theorem gX1_takesLetter_X1_kindOf : GoodIn wsX1_takesLetter (va_wsS RX1 65 yX1_kindOf wsX1_kindOf) := goodIn_app (goodIn_of _ (by decide +kernel)) ggX1_takesLetter_X1_kindOf
theorem dX1_takesLetter_0 : decode cX1_takesLetter 0 = .ok (.iload_n 1, 1) := by decide +kernel
theorem dX1_takesLetter_1 : decode cX1_takesLetter 1 = .ok (.bipush 111, 2) := by decide +kernel
theorem dX1_takesLetter_3 : decode cX1_takesLetter 3 = .ok (.if_icmp .ne 29, 3) := by decide +kernel
theorem dX1_takesLetter_6 : decode cX1_takesLetter 6 = .ok (.aload_n 0, 1) := by decide +kernel
theorem dX1_takesLetter_7 : decode cX1_takesLetter 7 = .ok (.iconst 3, 1) := by decide +kernel
theorem dX1_takesLetter_8 : decode cX1_takesLetter 8 = .ok (.putfield 31, 3) := by decide +kernel
theorem dX1_takesLetter_11 : decode cX1_takesLetter 11 = .ok (.aload_n 0, 1) := by decide +kernel
theorem dX1_takesLetter_12 : decode cX1_takesLetter 12 = .ok (.getfield 28, 3) := by decide +kernel
theorem dX1_takesLetter_15 : decode cX1_takesLetter 15 = .ok (.ifCond .ne 15, 3) := by decide +kernel
theorem dX1_takesLetter_18 : decode cX1_takesLetter 18 = .ok (.aload_n 0, 1) := by decide +kernel
theorem dX1_takesLetter_19 : decode cX1_takesLetter 19 = .ok (.getfield 24, 3) := by decide +kernel
theorem dX1_takesLetter_22 : decode cX1_takesLetter 22 = .ok (.iconst 4, 1) := by decide +kernel
theorem dX1_takesLetter_23 : decode cX1_takesLetter 23 = .ok (.if_icmp .ge 7, 3) := by decide +kernel
theorem dX1_takesLetter_26 : decode cX1_takesLetter 26 = .ok (.iconst 1, 1) := by decide +kernel
theorem dX1_takesLetter_27 : decode cX1_takesLetter 27 = .ok (.goto 4, 3) := by decide +kernel
theorem dX1_takesLetter_30 : decode cX1_takesLetter 30 = .ok (.iconst 0, 1) := by decide +kernel
theorem dX1_takesLetter_31 : decode cX1_takesLetter 31 = .ok (.ireturn, 1) := by decide +kernel
theorem dX1_takesLetter_32 : decode cX1_takesLetter 32 = .ok (.iload_n 1, 1) := by decide +kernel
theorem dX1_takesLetter_33 : decode cX1_takesLetter 33 = .ok (.invokestatic 65, 3) := by decide +kernel
theorem dX1_takesLetter_36 : decode cX1_takesLetter 36 = .ok (.istore_n 2, 1) := by decide +kernel
theorem dX1_takesLetter_37 : decode cX1_takesLetter 37 = .ok (.iload_n 2, 1) := by decide +kernel
theorem dX1_takesLetter_38 : decode cX1_takesLetter 38 = .ok (.bipush (-9), 2) := by decide +kernel
theorem dX1_takesLetter_40 : decode cX1_takesLetter 40 = .ok (.if_icmp .eq 12, 3) := by decide +kernel
theorem dX1_takesLetter_43 : decode cX1_takesLetter 43 = .ok (.aload_n 0, 1) := by decide +kernel
theorem dX1_takesLetter_44 : decode cX1_takesLetter 44 = .ok (.getfield 28, 3) := by decide +kernel
theorem dX1_takesLetter_47 : decode cX1_takesLetter 47 = .ok (.bipush 6, 2) := by decide +kernel
theorem dX1_takesLetter_49 : decode cX1_takesLetter 49 = .ok (.if_icmp .lt 5, 3) := by decide +kernel
theorem dX1_takesLetter_52 : decode cX1_takesLetter 52 = .ok (.iconst 0, 1) := by decide +kernel
theorem dX1_takesLetter_53 : decode cX1_takesLetter 53 = .ok (.ireturn, 1) := by decide +kernel
theorem dX1_takesLetter_54 : decode cX1_takesLetter 54 = .ok (.aload_n 0, 1) := by decide +kernel
theorem dX1_takesLetter_55 : decode cX1_takesLetter 55 = .ok (.getfield 18, 3) := by decide +kernel
theorem dX1_takesLetter_58 : decode cX1_takesLetter 58 = .ok (.aload_n 0, 1) := by decide +kernel
theorem dX1_takesLetter_59 : decode cX1_takesLetter 59 = .ok (.getfield 28, 3) := by decide +kernel
theorem dX1_takesLetter_62 : decode cX1_takesLetter 62 = .ok (.iload_n 2, 1) := by decide +kernel
theorem dX1_takesLetter_63 : decode cX1_takesLetter 63 = .ok (.iastore, 1) := by decide +kernel
theorem dX1_takesLetter_64 : decode cX1_takesLetter 64 = .ok (.aload_n 0, 1) := by decide +kernel
theorem dX1_takesLetter_65 : decode cX1_takesLetter 65 = .ok (.iconst 4, 1) := by decide +kernel
theorem dX1_takesLetter_66 : decode cX1_takesLetter 66 = .ok (.putfield 31, 3) := by decide +kernel
theorem dX1_takesLetter_69 : decode cX1_takesLetter 69 = .ok (.iconst 1, 1) := by decide +kernel
theorem dX1_takesLetter_70 : decode cX1_takesLetter 70 = .ok (.ireturn, 1) := by decide +kernel
theorem dX1_takesStone_0 : decode cX1_takesStone 0 = .ok (.iload_n 1, 1) := by decide +kernel
theorem dX1_takesStone_1 : decode cX1_takesStone 1 = .ok (.ifCond .ne 5, 3) := by decide +kernel
theorem dX1_takesStone_4 : decode cX1_takesStone 4 = .ok (.iconst 0, 1) := by decide +kernel
theorem dX1_takesStone_5 : decode cX1_takesStone 5 = .ok (.ireturn, 1) := by decide +kernel
theorem dX1_takesStone_6 : decode cX1_takesStone 6 = .ok (.aload_n 0, 1) := by decide +kernel
theorem dX1_takesStone_7 : decode cX1_takesStone 7 = .ok (.getfield 9, 3) := by decide +kernel
theorem dX1_takesStone_10 : decode cX1_takesStone 10 = .ok (.aload_n 0, 1) := by decide +kernel
theorem dX1_takesStone_11 : decode cX1_takesStone 11 = .ok (.getfield 24, 3) := by decide +kernel
theorem dX1_takesStone_14 : decode cX1_takesStone 14 = .ok (.iload_n 1, 1) := by decide +kernel
theorem dX1_takesStone_15 : decode cX1_takesStone 15 = .ok (.iastore, 1) := by decide +kernel
theorem dX1_takesStone_16 : decode cX1_takesStone 16 = .ok (.aload_n 0, 1) := by decide +kernel
theorem dX1_takesStone_17 : decode cX1_takesStone 17 = .ok (.dup, 1) := by decide +kernel
theorem dX1_takesStone_18 : decode cX1_takesStone 18 = .ok (.getfield 24, 3) := by decide +kernel
theorem dX1_takesStone_21 : decode cX1_takesStone 21 = .ok (.iconst 1, 1) := by decide +kernel
theorem dX1_takesStone_22 : decode cX1_takesStone 22 = .ok (.iadd, 1) := by decide +kernel
theorem dX1_takesStone_23 : decode cX1_takesStone 23 = .ok (.putfield 24, 3) := by decide +kernel
theorem dX1_takesStone_26 : decode cX1_takesStone 26 = .ok (.aload_n 0, 1) := by decide +kernel
theorem dX1_takesStone_27 : decode cX1_takesStone 27 = .ok (.iconst 2, 1) := by decide +kernel
theorem dX1_takesStone_28 : decode cX1_takesStone 28 = .ok (.putfield 31, 3) := by decide +kernel
theorem dX1_takesStone_31 : decode cX1_takesStone 31 = .ok (.iconst 1, 1) := by decide +kernel
theorem dX1_takesStone_32 : decode cX1_takesStone 32 = .ok (.ireturn, 1) := by decide +kernel
theorem dX1_takesTens_0 : decode cX1_takesTens 0 = .ok (.aload_n 0, 1) := by decide +kernel
theorem dX1_takesTens_1 : decode cX1_takesTens 1 = .ok (.iload_n 1, 1) := by decide +kernel
theorem dX1_takesTens_2 : decode cX1_takesTens 2 = .ok (.putfield 56, 3) := by decide +kernel
theorem dX1_takesTens_5 : decode cX1_takesTens 5 = .ok (.aload_n 0, 1) := by decide +kernel
theorem dX1_takesTens_6 : decode cX1_takesTens 6 = .ok (.iconst 5, 1) := by decide +kernel
theorem dX1_takesTens_7 : decode cX1_takesTens 7 = .ok (.putfield 31, 3) := by decide +kernel
theorem dX1_takesTens_10 : decode cX1_takesTens 10 = .ok (.iconst 1, 1) := by decide +kernel
theorem dX1_takesTens_11 : decode cX1_takesTens 11 = .ok (.ireturn, 1) := by decide +kernel
theorem dX1_takesPounds_0 : decode cX1_takesPounds 0 = .ok (.iload_n 1, 1) := by decide +kernel
theorem dX1_takesPounds_1 : decode cX1_takesPounds 1 = .ok (.ifCond .ne 5, 3) := by decide +kernel
theorem dX1_takesPounds_4 : decode cX1_takesPounds 4 = .ok (.iconst 0, 1) := by decide +kernel
theorem dX1_takesPounds_5 : decode cX1_takesPounds 5 = .ok (.ireturn, 1) := by decide +kernel
theorem dX1_takesPounds_6 : decode cX1_takesPounds 6 = .ok (.aload_n 0, 1) := by decide +kernel
theorem dX1_takesPounds_7 : decode cX1_takesPounds 7 = .ok (.getfield 21, 3) := by decide +kernel
theorem dX1_takesPounds_10 : decode cX1_takesPounds 10 = .ok (.aload_n 0, 1) := by decide +kernel
theorem dX1_takesPounds_11 : decode cX1_takesPounds 11 = .ok (.getfield 28, 3) := by decide +kernel
theorem dX1_takesPounds_14 : decode cX1_takesPounds 14 = .ok (.iload_n 1, 1) := by decide +kernel
theorem dX1_takesPounds_15 : decode cX1_takesPounds 15 = .ok (.iastore, 1) := by decide +kernel
theorem dX1_takesPounds_16 : decode cX1_takesPounds 16 = .ok (.aload_n 0, 1) := by decide +kernel
theorem dX1_takesPounds_17 : decode cX1_takesPounds 17 = .ok (.dup, 1) := by decide +kernel
theorem dX1_takesPounds_18 : decode cX1_takesPounds 18 = .ok (.getfield 28, 3) := by decide +kernel
theorem dX1_takesPounds_21 : decode cX1_takesPounds 21 = .ok (.iconst 1, 1) := by decide +kernel
theorem dX1_takesPounds_22 : decode cX1_takesPounds 22 = .ok (.iadd, 1) := by decide +kernel
theorem dX1_takesPounds_23 : decode cX1_takesPounds 23 = .ok (.putfield 28, 3) := by decide +kernel
theorem dX1_takesPounds_26 : decode cX1_takesPounds 26 = .ok (.aload_n 0, 1) := by decide +kernel
theorem dX1_takesPounds_27 : decode cX1_takesPounds 27 = .ok (.iconst 2, 1) := by decide +kernel
theorem dX1_takesPounds_28 : decode cX1_takesPounds 28 = .ok (.putfield 31, 3) := by decide +kernel
theorem dX1_takesPounds_31 : decode cX1_takesPounds 31 = .ok (.iconst 1, 1) := by decide +kernel
theorem dX1_takesPounds_32 : decode cX1_takesPounds 32 = .ok (.ireturn, 1) := by decide +kernel
theorem dX1_kindOf_0 : decode cX1_kindOf 0 = .ok (.iload_n 0, 1) := by decide +kernel
theorem dX1_kindOf_1 : decode cX1_kindOf 1 = .ok (.tableswitch 103 98 116 #[101, 95, 103, 103, 103, 91, 103, 103, 103, 103, 97, 103, 99, 103, 103, 103, 103, 103, 93], 91) := by decide +kernel
theorem dX1_kindOf_92 : decode cX1_kindOf 92 = .ok (.iconst 0, 1) := by decide +kernel
theorem dX1_kindOf_93 : decode cX1_kindOf 93 = .ok (.ireturn, 1) := by decide +kernel
theorem dX1_kindOf_94 : decode cX1_kindOf 94 = .ok (.iconst 1, 1) := by decide +kernel
theorem dX1_kindOf_95 : decode cX1_kindOf 95 = .ok (.ireturn, 1) := by decide +kernel
theorem dX1_kindOf_96 : decode cX1_kindOf 96 = .ok (.iconst 2, 1) := by decide +kernel
theorem dX1_kindOf_97 : decode cX1_kindOf 97 = .ok (.ireturn, 1) := by decide +kernel
theorem dX1_kindOf_98 : decode cX1_kindOf 98 = .ok (.iconst 3, 1) := by decide +kernel
theorem dX1_kindOf_99 : decode cX1_kindOf 99 = .ok (.ireturn, 1) := by decide +kernel
theorem dX1_kindOf_100 : decode cX1_kindOf 100 = .ok (.iconst 4, 1) := by decide +kernel
theorem dX1_kindOf_101 : decode cX1_kindOf 101 = .ok (.ireturn, 1) := by decide +kernel
theorem dX1_kindOf_102 : decode cX1_kindOf 102 = .ok (.iconst 5, 1) := by decide +kernel
theorem dX1_kindOf_103 : decode cX1_kindOf 103 = .ok (.ireturn, 1) := by decide +kernel
theorem dX1_kindOf_104 : decode cX1_kindOf 104 = .ok (.bipush (-9), 2) := by decide +kernel
theorem dX1_kindOf_106 : decode cX1_kindOf 106 = .ok (.ireturn, 1) := by decide +kernel
set_option maxRecDepth 20000 in
theorem ggX1_weighSets_X1_allStones : GoodIn wsX1_weighSets wsX1_allStones := goodIn_r _ [8, 2, 9, 10, 11, 12, 13, 14, 15, 16, 17] (by rfl) (by decide +kernel)
set_option maxRecDepth 20000 in
theorem gX1_weighSets_X1_allStones : GoodIn wsX1_weighSets (wsV RX1 69 RX1 yX1_allStones wsX1_allStones) := goodIn_app (goodIn_of _ (by decide +kernel)) ggX1_weighSets_X1_allStones
theorem dX1_weighSets_0 : decode cX1_weighSets 0 = .ok (.iconst 0, 1) := by decide +kernel
theorem dX1_weighSets_1 : decode cX1_weighSets 1 = .ok (.istore_n 1, 1) := by decide +kernel
theorem dX1_weighSets_2 : decode cX1_weighSets 2 = .ok (.iload_n 1, 1) := by decide +kernel
theorem dX1_weighSets_3 : decode cX1_weighSets 3 = .ok (.aload_n 0, 1) := by decide +kernel
theorem dX1_weighSets_4 : decode cX1_weighSets 4 = .ok (.invokevirtual 69, 3) := by decide +kernel
theorem dX1_weighSets_7 : decode cX1_weighSets 7 = .ok (.if_icmp .gt 53, 3) := by decide +kernel
theorem dX1_weighSets_10 : decode cX1_weighSets 10 = .ok (.aload_n 0, 1) := by decide +kernel
theorem dX1_weighSets_11 : decode cX1_weighSets 11 = .ok (.getfield 15, 3) := by decide +kernel
theorem dX1_weighSets_14 : decode cX1_weighSets 14 = .ok (.iload_n 1, 1) := by decide +kernel
theorem dX1_weighSets_15 : decode cX1_weighSets 15 = .ok (.iconst 0, 1) := by decide +kernel
theorem dX1_weighSets_16 : decode cX1_weighSets 16 = .ok (.iastore, 1) := by decide +kernel
theorem dX1_weighSets_17 : decode cX1_weighSets 17 = .ok (.iconst 0, 1) := by decide +kernel
theorem dX1_weighSets_18 : decode cX1_weighSets 18 = .ok (.istore_n 2, 1) := by decide +kernel
theorem dX1_weighSets_19 : decode cX1_weighSets 19 = .ok (.iload_n 2, 1) := by decide +kernel
theorem dX1_weighSets_20 : decode cX1_weighSets 20 = .ok (.aload_n 0, 1) := by decide +kernel
theorem dX1_weighSets_21 : decode cX1_weighSets 21 = .ok (.getfield 24, 3) := by decide +kernel
theorem dX1_weighSets_24 : decode cX1_weighSets 24 = .ok (.if_icmp .ge 30, 3) := by decide +kernel
theorem dX1_weighSets_27 : decode cX1_weighSets 27 = .ok (.aload_n 0, 1) := by decide +kernel
theorem dX1_weighSets_28 : decode cX1_weighSets 28 = .ok (.getfield 15, 3) := by decide +kernel
theorem dX1_weighSets_31 : decode cX1_weighSets 31 = .ok (.iload_n 1, 1) := by decide +kernel
theorem dX1_weighSets_32 : decode cX1_weighSets 32 = .ok (.dup2, 1) := by decide +kernel
theorem dX1_weighSets_33 : decode cX1_weighSets 33 = .ok (.iaload, 1) := by decide +kernel
theorem dX1_weighSets_34 : decode cX1_weighSets 34 = .ok (.iload_n 1, 1) := by decide +kernel
theorem dX1_weighSets_35 : decode cX1_weighSets 35 = .ok (.iload_n 2, 1) := by decide +kernel
theorem dX1_weighSets_36 : decode cX1_weighSets 36 = .ok (.ishr, 1) := by decide +kernel
theorem dX1_weighSets_37 : decode cX1_weighSets 37 = .ok (.iconst 1, 1) := by decide +kernel
theorem dX1_weighSets_38 : decode cX1_weighSets 38 = .ok (.iand, 1) := by decide +kernel
theorem dX1_weighSets_39 : decode cX1_weighSets 39 = .ok (.aload_n 0, 1) := by decide +kernel
theorem dX1_weighSets_40 : decode cX1_weighSets 40 = .ok (.getfield 9, 3) := by decide +kernel
theorem dX1_weighSets_43 : decode cX1_weighSets 43 = .ok (.iload_n 2, 1) := by decide +kernel
theorem dX1_weighSets_44 : decode cX1_weighSets 44 = .ok (.iaload, 1) := by decide +kernel
theorem dX1_weighSets_45 : decode cX1_weighSets 45 = .ok (.imul, 1) := by decide +kernel
theorem dX1_weighSets_46 : decode cX1_weighSets 46 = .ok (.iadd, 1) := by decide +kernel
theorem dX1_weighSets_47 : decode cX1_weighSets 47 = .ok (.iastore, 1) := by decide +kernel
theorem dX1_weighSets_48 : decode cX1_weighSets 48 = .ok (.iinc 2 1, 3) := by decide +kernel
theorem dX1_weighSets_51 : decode cX1_weighSets 51 = .ok (.goto (-32), 3) := by decide +kernel
theorem dX1_weighSets_54 : decode cX1_weighSets 54 = .ok (.iinc 1 1, 3) := by decide +kernel
theorem dX1_weighSets_57 : decode cX1_weighSets 57 = .ok (.goto (-55), 3) := by decide +kernel
theorem dX1_weighSets_60 : decode cX1_weighSets 60 = .ok (.return_, 1) := by decide +kernel
theorem dX1_allStones_0 : decode cX1_allStones 0 = .ok (.iconst 1, 1) := by decide +kernel
theorem dX1_allStones_1 : decode cX1_allStones 1 = .ok (.aload_n 0, 1) := by decide +kernel
theorem dX1_allStones_2 : decode cX1_allStones 2 = .ok (.getfield 24, 3) := by decide +kernel
theorem dX1_allStones_5 : decode cX1_allStones 5 = .ok (.ishl, 1) := by decide +kernel
theorem dX1_allStones_6 : decode cX1_allStones 6 = .ok (.iconst 1, 1) := by decide +kernel
theorem dX1_allStones_7 : decode cX1_allStones 7 = .ok (.isub, 1) := by decide +kernel
theorem dX1_allStones_8 : decode cX1_allStones 8 = .ok (.ireturn, 1) := by decide +kernel
theorem dX1_howMany_0 : decode cX1_howMany 0 = .ok (.iconst 0, 1) := by decide +kernel
theorem dX1_howMany_1 : decode cX1_howMany 1 = .ok (.istore_n 2, 1) := by decide +kernel
theorem dX1_howMany_2 : decode cX1_howMany 2 = .ok (.iconst 0, 1) := by decide +kernel
theorem dX1_howMany_3 : decode cX1_howMany 3 = .ok (.istore_n 3, 1) := by decide +kernel
theorem dX1_howMany_4 : decode cX1_howMany 4 = .ok (.iload_n 3, 1) := by decide +kernel
theorem dX1_howMany_5 : decode cX1_howMany 5 = .ok (.aload_n 0, 1) := by decide +kernel
theorem dX1_howMany_6 : decode cX1_howMany 6 = .ok (.getfield 28, 3) := by decide +kernel
theorem dX1_howMany_9 : decode cX1_howMany 9 = .ok (.if_icmp .ge 26, 3) := by decide +kernel
theorem dX1_howMany_12 : decode cX1_howMany 12 = .ok (.iload_n 2, 1) := by decide +kernel
theorem dX1_howMany_13 : decode cX1_howMany 13 = .ok (.getstatic 73, 3) := by decide +kernel
theorem dX1_howMany_16 : decode cX1_howMany 16 = .ok (.aload_n 0, 1) := by decide +kernel
theorem dX1_howMany_17 : decode cX1_howMany 17 = .ok (.getfield 18, 3) := by decide +kernel
theorem dX1_howMany_20 : decode cX1_howMany 20 = .ok (.iload_n 3, 1) := by decide +kernel
theorem dX1_howMany_21 : decode cX1_howMany 21 = .ok (.iaload, 1) := by decide +kernel
theorem dX1_howMany_22 : decode cX1_howMany 22 = .ok (.iaload, 1) := by decide +kernel
theorem dX1_howMany_23 : decode cX1_howMany 23 = .ok (.iload_n 1, 1) := by decide +kernel
theorem dX1_howMany_24 : decode cX1_howMany 24 = .ok (.ishr, 1) := by decide +kernel
theorem dX1_howMany_25 : decode cX1_howMany 25 = .ok (.iconst 1, 1) := by decide +kernel
theorem dX1_howMany_26 : decode cX1_howMany 26 = .ok (.iand, 1) := by decide +kernel
theorem dX1_howMany_27 : decode cX1_howMany 27 = .ok (.iadd, 1) := by decide +kernel
theorem dX1_howMany_28 : decode cX1_howMany 28 = .ok (.istore_n 2, 1) := by decide +kernel
theorem dX1_howMany_29 : decode cX1_howMany 29 = .ok (.iinc 3 1, 3) := by decide +kernel
theorem dX1_howMany_32 : decode cX1_howMany 32 = .ok (.goto (-28), 3) := by decide +kernel
theorem dX1_howMany_35 : decode cX1_howMany 35 = .ok (.iload_n 2, 1) := by decide +kernel
theorem dX1_howMany_36 : decode cX1_howMany 36 = .ok (.ireturn, 1) := by decide +kernel
theorem dX1_areTwins_0 : decode cX1_areTwins 0 = .ok (.aload_n 0, 1) := by decide +kernel
theorem dX1_areTwins_1 : decode cX1_areTwins 1 = .ok (.getfield 18, 3) := by decide +kernel
theorem dX1_areTwins_4 : decode cX1_areTwins 4 = .ok (.iload_n 1, 1) := by decide +kernel
theorem dX1_areTwins_5 : decode cX1_areTwins 5 = .ok (.iaload, 1) := by decide +kernel
theorem dX1_areTwins_6 : decode cX1_areTwins 6 = .ok (.iconst 1, 1) := by decide +kernel
theorem dX1_areTwins_7 : decode cX1_areTwins 7 = .ok (.if_icmp .ne 17, 3) := by decide +kernel
theorem dX1_areTwins_10 : decode cX1_areTwins 10 = .ok (.aload_n 0, 1) := by decide +kernel
theorem dX1_areTwins_11 : decode cX1_areTwins 11 = .ok (.getfield 18, 3) := by decide +kernel
theorem dX1_areTwins_14 : decode cX1_areTwins 14 = .ok (.iload_n 2, 1) := by decide +kernel
theorem dX1_areTwins_15 : decode cX1_areTwins 15 = .ok (.iaload, 1) := by decide +kernel
theorem dX1_areTwins_16 : decode cX1_areTwins 16 = .ok (.iconst 1, 1) := by decide +kernel
theorem dX1_areTwins_17 : decode cX1_areTwins 17 = .ok (.if_icmp .ne 7, 3) := by decide +kernel
theorem dX1_areTwins_20 : decode cX1_areTwins 20 = .ok (.iconst 1, 1) := by decide +kernel
theorem dX1_areTwins_21 : decode cX1_areTwins 21 = .ok (.goto 4, 3) := by decide +kernel
theorem dX1_areTwins_24 : decode cX1_areTwins 24 = .ok (.iconst 0, 1) := by decide +kernel
theorem dX1_areTwins_25 : decode cX1_areTwins 25 = .ok (.ireturn, 1) := by decide +kernel
set_option maxRecDepth 20000 in
theorem ggX1_steps_X4_counted : GoodIn wsX1_steps wsX4_counted := goodIn_r _ [6] (by rfl) (by decide +kernel)
set_option maxRecDepth 20000 in
theorem gX1_steps_X4_counted_n76 : GoodIn wsX1_steps (wsX4_counted) := ggX1_steps_X4_counted
set_option maxRecDepth 20000 in
theorem ggX1_steps_X1_areTwins : GoodIn wsX1_steps wsX1_areTwins := goodIn_r _ [11, 1, 18, 19, 20, 21, 22, 23, 24, 25, 26] (by rfl) (by decide +kernel)
set_option maxRecDepth 20000 in
theorem gX1_steps_X1_areTwins : GoodIn wsX1_steps (wsV RX1 80 RX1 yX1_areTwins wsX1_areTwins) := goodIn_app (goodIn_of _ (by decide +kernel)) ggX1_steps_X1_areTwins
set_option maxRecDepth 20000 in
theorem ggX1_steps_X4_sunk : GoodIn wsX1_steps wsX4_sunk := goodIn_r _ [13, 14, 15, 16, 17] (by rfl) (by decide +kernel)
set_option maxRecDepth 20000 in
theorem gX1_steps_X4_sunk_n84 : GoodIn wsX1_steps (wsX4_sunk) := ggX1_steps_X4_sunk
theorem dX1_steps_0 : decode cX1_steps 0 = .ok (.aload_n 0, 1) := by decide +kernel
theorem dX1_steps_1 : decode cX1_steps 1 = .ok (.getfield 18, 3) := by decide +kernel
theorem dX1_steps_4 : decode cX1_steps 4 = .ok (.iload_n 1, 1) := by decide +kernel
theorem dX1_steps_5 : decode cX1_steps 5 = .ok (.iaload, 1) := by decide +kernel
theorem dX1_steps_6 : decode cX1_steps 6 = .ok (.aload_n 0, 1) := by decide +kernel
theorem dX1_steps_7 : decode cX1_steps 7 = .ok (.getfield 21, 3) := by decide +kernel
theorem dX1_steps_10 : decode cX1_steps 10 = .ok (.iload_n 1, 1) := by decide +kernel
theorem dX1_steps_11 : decode cX1_steps 11 = .ok (.iaload, 1) := by decide +kernel
theorem dX1_steps_12 : decode cX1_steps 12 = .ok (.iload 5, 2) := by decide +kernel
theorem dX1_steps_14 : decode cX1_steps 14 = .ok (.invokestatic 76, 3) := by decide +kernel
theorem dX1_steps_17 : decode cX1_steps 17 = .ok (.aload_n 0, 1) := by decide +kernel
theorem dX1_steps_18 : decode cX1_steps 18 = .ok (.getfield 15, 3) := by decide +kernel
theorem dX1_steps_21 : decode cX1_steps 21 = .ok (.iload_n 3, 1) := by decide +kernel
theorem dX1_steps_22 : decode cX1_steps 22 = .ok (.iaload, 1) := by decide +kernel
theorem dX1_steps_23 : decode cX1_steps 23 = .ok (.iadd, 1) := by decide +kernel
theorem dX1_steps_24 : decode cX1_steps 24 = .ok (.istore 6, 2) := by decide +kernel
theorem dX1_steps_26 : decode cX1_steps 26 = .ok (.aload_n 0, 1) := by decide +kernel
theorem dX1_steps_27 : decode cX1_steps 27 = .ok (.getfield 18, 3) := by decide +kernel
theorem dX1_steps_30 : decode cX1_steps 30 = .ok (.iload_n 2, 1) := by decide +kernel
theorem dX1_steps_31 : decode cX1_steps 31 = .ok (.iaload, 1) := by decide +kernel
theorem dX1_steps_32 : decode cX1_steps 32 = .ok (.aload_n 0, 1) := by decide +kernel
theorem dX1_steps_33 : decode cX1_steps 33 = .ok (.getfield 21, 3) := by decide +kernel
theorem dX1_steps_36 : decode cX1_steps 36 = .ok (.iload_n 2, 1) := by decide +kernel
theorem dX1_steps_37 : decode cX1_steps 37 = .ok (.iaload, 1) := by decide +kernel
theorem dX1_steps_38 : decode cX1_steps 38 = .ok (.iload 5, 2) := by decide +kernel
theorem dX1_steps_40 : decode cX1_steps 40 = .ok (.invokestatic 76, 3) := by decide +kernel
theorem dX1_steps_43 : decode cX1_steps 43 = .ok (.aload_n 0, 1) := by decide +kernel
theorem dX1_steps_44 : decode cX1_steps 44 = .ok (.getfield 15, 3) := by decide +kernel
theorem dX1_steps_47 : decode cX1_steps 47 = .ok (.iload 4, 2) := by decide +kernel
theorem dX1_steps_49 : decode cX1_steps 49 = .ok (.iaload, 1) := by decide +kernel
theorem dX1_steps_50 : decode cX1_steps 50 = .ok (.iadd, 1) := by decide +kernel
theorem dX1_steps_51 : decode cX1_steps 51 = .ok (.istore 7, 2) := by decide +kernel
theorem dX1_steps_53 : decode cX1_steps 53 = .ok (.iload 6, 2) := by decide +kernel
theorem dX1_steps_55 : decode cX1_steps 55 = .ok (.iload 7, 2) := by decide +kernel
theorem dX1_steps_57 : decode cX1_steps 57 = .ok (.isub, 1) := by decide +kernel
theorem dX1_steps_58 : decode cX1_steps 58 = .ok (.aload_n 0, 1) := by decide +kernel
theorem dX1_steps_59 : decode cX1_steps 59 = .ok (.iload_n 1, 1) := by decide +kernel
theorem dX1_steps_60 : decode cX1_steps 60 = .ok (.iload_n 2, 1) := by decide +kernel
theorem dX1_steps_61 : decode cX1_steps 61 = .ok (.invokevirtual 80, 3) := by decide +kernel
theorem dX1_steps_64 : decode cX1_steps 64 = .ok (.invokestatic 84, 3) := by decide +kernel
theorem dX1_steps_67 : decode cX1_steps 67 = .ok (.ireturn, 1) := by decide +kernel
set_option maxRecDepth 20000 in
theorem ggX1_least_X1_allStones : GoodIn wsX1_least wsX1_allStones := goodIn_r _ [11, 12, 19, 20, 21, 22, 23, 24, 25, 26, 27] (by rfl) (by decide +kernel)
set_option maxRecDepth 20000 in
theorem gX1_least_X1_allStones : GoodIn wsX1_least (wsV RX1 69 RX1 yX1_allStones wsX1_allStones) := goodIn_app (goodIn_of _ (by decide +kernel)) ggX1_least_X1_allStones
set_option maxRecDepth 20000 in
theorem ggX1_least_X4_sunk : GoodIn wsX1_least wsX4_sunk := goodIn_r _ [15, 16, 17, 5, 18] (by rfl) (by decide +kernel)
set_option maxRecDepth 20000 in
theorem gX1_least_X4_sunk_n84 : GoodIn wsX1_least (wsX4_sunk) := ggX1_least_X4_sunk
theorem dX1_least_0 : decode cX1_least 0 = .ok (.ldc 88, 2) := by decide +kernel
theorem dX1_least_2 : decode cX1_least 2 = .ok (.istore 4, 2) := by decide +kernel
theorem dX1_least_4 : decode cX1_least 4 = .ok (.iconst 0, 1) := by decide +kernel
theorem dX1_least_5 : decode cX1_least 5 = .ok (.istore 5, 2) := by decide +kernel
theorem dX1_least_7 : decode cX1_least 7 = .ok (.iload 5, 2) := by decide +kernel
theorem dX1_least_9 : decode cX1_least 9 = .ok (.aload_n 0, 1) := by decide +kernel
theorem dX1_least_10 : decode cX1_least 10 = .ok (.invokevirtual 69, 3) := by decide +kernel
theorem dX1_least_13 : decode cX1_least 13 = .ok (.if_icmp .gt 93, 3) := by decide +kernel
theorem dX1_least_16 : decode cX1_least 16 = .ok (.iconst 0, 1) := by decide +kernel
theorem dX1_least_17 : decode cX1_least 17 = .ok (.istore 6, 2) := by decide +kernel
theorem dX1_least_19 : decode cX1_least 19 = .ok (.iload 6, 2) := by decide +kernel
theorem dX1_least_21 : decode cX1_least 21 = .ok (.aload_n 0, 1) := by decide +kernel
theorem dX1_least_22 : decode cX1_least 22 = .ok (.invokevirtual 69, 3) := by decide +kernel
theorem dX1_least_25 : decode cX1_least 25 = .ok (.if_icmp .gt 75, 3) := by decide +kernel
theorem dX1_least_28 : decode cX1_least 28 = .ok (.iload 5, 2) := by decide +kernel
theorem dX1_least_30 : decode cX1_least 30 = .ok (.iload_n 3, 1) := by decide +kernel
theorem dX1_least_31 : decode cX1_least 31 = .ok (.iconst (-1), 1) := by decide +kernel
theorem dX1_least_32 : decode cX1_least 32 = .ok (.ixor, 1) := by decide +kernel
theorem dX1_least_33 : decode cX1_least 33 = .ok (.iand, 1) := by decide +kernel
theorem dX1_least_34 : decode cX1_least 34 = .ok (.ifCond .ne 66, 3) := by decide +kernel
theorem dX1_least_37 : decode cX1_least 37 = .ok (.iload 6, 2) := by decide +kernel
theorem dX1_least_39 : decode cX1_least 39 = .ok (.iload 5, 2) := by decide +kernel
theorem dX1_least_41 : decode cX1_least 41 = .ok (.iload_n 3, 1) := by decide +kernel
theorem dX1_least_42 : decode cX1_least 42 = .ok (.iconst (-1), 1) := by decide +kernel
theorem dX1_least_43 : decode cX1_least 43 = .ok (.ixor, 1) := by decide +kernel
theorem dX1_least_44 : decode cX1_least 44 = .ok (.ior, 1) := by decide +kernel
theorem dX1_least_45 : decode cX1_least 45 = .ok (.iand, 1) := by decide +kernel
theorem dX1_least_46 : decode cX1_least 46 = .ok (.ifCond .ne 48, 3) := by decide +kernel
theorem dX1_least_49 : decode cX1_least 49 = .ok (.iload_n 1, 1) := by decide +kernel
theorem dX1_least_50 : decode cX1_least 50 = .ok (.aload_n 0, 1) := by decide +kernel
theorem dX1_least_51 : decode cX1_least 51 = .ok (.getfield 15, 3) := by decide +kernel
theorem dX1_least_54 : decode cX1_least 54 = .ok (.iload 5, 2) := by decide +kernel
theorem dX1_least_56 : decode cX1_least 56 = .ok (.iaload, 1) := by decide +kernel
theorem dX1_least_57 : decode cX1_least 57 = .ok (.iadd, 1) := by decide +kernel
theorem dX1_least_58 : decode cX1_least 58 = .ok (.aload_n 0, 1) := by decide +kernel
theorem dX1_least_59 : decode cX1_least 59 = .ok (.getfield 15, 3) := by decide +kernel
theorem dX1_least_62 : decode cX1_least 62 = .ok (.iload 6, 2) := by decide +kernel
theorem dX1_least_64 : decode cX1_least 64 = .ok (.iaload, 1) := by decide +kernel
theorem dX1_least_65 : decode cX1_least 65 = .ok (.isub, 1) := by decide +kernel
theorem dX1_least_66 : decode cX1_least 66 = .ok (.iload_n 2, 1) := by decide +kernel
theorem dX1_least_67 : decode cX1_least 67 = .ok (.invokestatic 84, 3) := by decide +kernel
theorem dX1_least_70 : decode cX1_least 70 = .ok (.istore 7, 2) := by decide +kernel
theorem dX1_least_72 : decode cX1_least 72 = .ok (.iload 4, 2) := by decide +kernel
theorem dX1_least_74 : decode cX1_least 74 = .ok (.sipush 256, 3) := by decide +kernel
theorem dX1_least_77 : decode cX1_least 77 = .ok (.iload 7, 2) := by decide +kernel
theorem dX1_least_79 : decode cX1_least 79 = .ok (.imul, 1) := by decide +kernel
theorem dX1_least_80 : decode cX1_least 80 = .ok (.bipush 16, 2) := by decide +kernel
theorem dX1_least_82 : decode cX1_least 82 = .ok (.iload 5, 2) := by decide +kernel
theorem dX1_least_84 : decode cX1_least 84 = .ok (.imul, 1) := by decide +kernel
theorem dX1_least_85 : decode cX1_least 85 = .ok (.iadd, 1) := by decide +kernel
theorem dX1_least_86 : decode cX1_least 86 = .ok (.iload 6, 2) := by decide +kernel
theorem dX1_least_88 : decode cX1_least 88 = .ok (.iadd, 1) := by decide +kernel
theorem dX1_least_89 : decode cX1_least 89 = .ok (.invokestatic 89, 3) := by decide +kernel
theorem dX1_least_92 : decode cX1_least 92 = .ok (.istore 4, 2) := by decide +kernel
theorem dX1_least_94 : decode cX1_least 94 = .ok (.iinc 6 1, 3) := by decide +kernel
theorem dX1_least_97 : decode cX1_least 97 = .ok (.goto (-78), 3) := by decide +kernel
theorem dX1_least_100 : decode cX1_least 100 = .ok (.iinc 5 1, 3) := by decide +kernel
theorem dX1_least_103 : decode cX1_least 103 = .ok (.goto (-96), 3) := by decide +kernel
theorem dX1_least_106 : decode cX1_least 106 = .ok (.iload 4, 2) := by decide +kernel
theorem dX1_least_108 : decode cX1_least 108 = .ok (.ireturn, 1) := by decide +kernel
set_option maxRecDepth 20000 in
theorem ggX1_openSets_X1_allStones : GoodIn wsX1_openSets wsX1_allStones := goodIn_r _ [7, 8, 16, 17, 18, 19, 20, 21, 22, 23, 24] (by rfl) (by decide +kernel)
set_option maxRecDepth 20000 in
theorem gX1_openSets_X1_allStones : GoodIn wsX1_openSets (wsV RX1 69 RX1 yX1_allStones wsX1_allStones) := goodIn_app (goodIn_of _ (by decide +kernel)) ggX1_openSets_X1_allStones
set_option maxRecDepth 20000 in
theorem ggX1_openSets_X4_sunk : GoodIn wsX1_openSets wsX4_sunk := goodIn_r _ [11, 12, 13, 14, 15] (by rfl) (by decide +kernel)
set_option maxRecDepth 20000 in
theorem gX1_openSets_X4_sunk_n84 : GoodIn wsX1_openSets (wsX4_sunk) := ggX1_openSets_X4_sunk
theorem dX1_openSets_0 : decode cX1_openSets 0 = .ok (.iconst 0, 1) := by decide +kernel
theorem dX1_openSets_1 : decode cX1_openSets 1 = .ok (.istore_n 3, 1) := by decide +kernel
theorem dX1_openSets_2 : decode cX1_openSets 2 = .ok (.iconst 0, 1) := by decide +kernel
theorem dX1_openSets_3 : decode cX1_openSets 3 = .ok (.istore 4, 2) := by decide +kernel
theorem dX1_openSets_5 : decode cX1_openSets 5 = .ok (.iload 4, 2) := by decide +kernel
theorem dX1_openSets_7 : decode cX1_openSets 7 = .ok (.aload_n 0, 1) := by decide +kernel
theorem dX1_openSets_8 : decode cX1_openSets 8 = .ok (.invokevirtual 69, 3) := by decide +kernel
theorem dX1_openSets_11 : decode cX1_openSets 11 = .ok (.if_icmp .gt 77, 3) := by decide +kernel
theorem dX1_openSets_14 : decode cX1_openSets 14 = .ok (.iconst 0, 1) := by decide +kernel
theorem dX1_openSets_15 : decode cX1_openSets 15 = .ok (.istore 5, 2) := by decide +kernel
theorem dX1_openSets_17 : decode cX1_openSets 17 = .ok (.iload 5, 2) := by decide +kernel
theorem dX1_openSets_19 : decode cX1_openSets 19 = .ok (.aload_n 0, 1) := by decide +kernel
theorem dX1_openSets_20 : decode cX1_openSets 20 = .ok (.invokevirtual 69, 3) := by decide +kernel
theorem dX1_openSets_23 : decode cX1_openSets 23 = .ok (.if_icmp .gt 59, 3) := by decide +kernel
theorem dX1_openSets_26 : decode cX1_openSets 26 = .ok (.iload_n 1, 1) := by decide +kernel
theorem dX1_openSets_27 : decode cX1_openSets 27 = .ok (.aload_n 0, 1) := by decide +kernel
theorem dX1_openSets_28 : decode cX1_openSets 28 = .ok (.getfield 15, 3) := by decide +kernel
theorem dX1_openSets_31 : decode cX1_openSets 31 = .ok (.iload 4, 2) := by decide +kernel
theorem dX1_openSets_33 : decode cX1_openSets 33 = .ok (.iaload, 1) := by decide +kernel
theorem dX1_openSets_34 : decode cX1_openSets 34 = .ok (.iadd, 1) := by decide +kernel
theorem dX1_openSets_35 : decode cX1_openSets 35 = .ok (.aload_n 0, 1) := by decide +kernel
theorem dX1_openSets_36 : decode cX1_openSets 36 = .ok (.getfield 15, 3) := by decide +kernel
theorem dX1_openSets_39 : decode cX1_openSets 39 = .ok (.iload 5, 2) := by decide +kernel
theorem dX1_openSets_41 : decode cX1_openSets 41 = .ok (.iaload, 1) := by decide +kernel
theorem dX1_openSets_42 : decode cX1_openSets 42 = .ok (.isub, 1) := by decide +kernel
theorem dX1_openSets_43 : decode cX1_openSets 43 = .ok (.istore 6, 2) := by decide +kernel
theorem dX1_openSets_45 : decode cX1_openSets 45 = .ok (.iload 4, 2) := by decide +kernel
theorem dX1_openSets_47 : decode cX1_openSets 47 = .ok (.iload 5, 2) := by decide +kernel
theorem dX1_openSets_49 : decode cX1_openSets 49 = .ok (.iand, 1) := by decide +kernel
theorem dX1_openSets_50 : decode cX1_openSets 50 = .ok (.ifCond .ne 26, 3) := by decide +kernel
theorem dX1_openSets_53 : decode cX1_openSets 53 = .ok (.iload 6, 2) := by decide +kernel
theorem dX1_openSets_55 : decode cX1_openSets 55 = .ok (.iload_n 2, 1) := by decide +kernel
theorem dX1_openSets_56 : decode cX1_openSets 56 = .ok (.invokestatic 84, 3) := by decide +kernel
theorem dX1_openSets_59 : decode cX1_openSets 59 = .ok (.aload_n 0, 1) := by decide +kernel
theorem dX1_openSets_60 : decode cX1_openSets 60 = .ok (.getfield 62, 3) := by decide +kernel
theorem dX1_openSets_63 : decode cX1_openSets 63 = .ok (.if_icmp .gt 13, 3) := by decide +kernel
theorem dX1_openSets_66 : decode cX1_openSets 66 = .ok (.iload_n 3, 1) := by decide +kernel
theorem dX1_openSets_67 : decode cX1_openSets 67 = .ok (.iconst 1, 1) := by decide +kernel
theorem dX1_openSets_68 : decode cX1_openSets 68 = .ok (.iload 4, 2) := by decide +kernel
theorem dX1_openSets_70 : decode cX1_openSets 70 = .ok (.iload 5, 2) := by decide +kernel
theorem dX1_openSets_72 : decode cX1_openSets 72 = .ok (.ior, 1) := by decide +kernel
theorem dX1_openSets_73 : decode cX1_openSets 73 = .ok (.ishl, 1) := by decide +kernel
theorem dX1_openSets_74 : decode cX1_openSets 74 = .ok (.ior, 1) := by decide +kernel
theorem dX1_openSets_75 : decode cX1_openSets 75 = .ok (.istore_n 3, 1) := by decide +kernel
theorem dX1_openSets_76 : decode cX1_openSets 76 = .ok (.iinc 5 1, 3) := by decide +kernel
theorem dX1_openSets_79 : decode cX1_openSets 79 = .ok (.goto (-62), 3) := by decide +kernel
theorem dX1_openSets_82 : decode cX1_openSets 82 = .ok (.iinc 4 1, 3) := by decide +kernel
theorem dX1_openSets_85 : decode cX1_openSets 85 = .ok (.goto (-80), 3) := by decide +kernel
theorem dX1_openSets_88 : decode cX1_openSets 88 = .ok (.iload_n 3, 1) := by decide +kernel
theorem dX1_openSets_89 : decode cX1_openSets 89 = .ok (.ireturn, 1) := by decide +kernel
set_option maxRecDepth 20000 in
theorem ggX2_init_J7_fill_53178 : GoodIn wsX2_init wsJ7_fill_53178 := goodIn_r _ [14] (by rfl) (by decide +kernel)
set_option maxRecDepth 20000 in
theorem gX2_init_J7_fill_53178 : GoodIn wsX2_init (va_wsS RX2 28 yJ7_fill_53178 wsJ7_fill_53178) := goodIn_app (goodIn_of _ (by decide +kernel)) ggX2_init_J7_fill_53178
theorem dX2_init_0 : decode cX2_init 0 = .ok (.aload_n 0, 1) := by decide +kernel
theorem dX2_init_1 : decode cX2_init 1 = .ok (.invokespecial 1, 3) := by decide +kernel
theorem dX2_init_4 : decode cX2_init 4 = .ok (.aload_n 0, 1) := by decide +kernel
theorem dX2_init_5 : decode cX2_init 5 = .ok (.iload_n 1, 1) := by decide +kernel
theorem dX2_init_6 : decode cX2_init 6 = .ok (.putfield 7, 3) := by decide +kernel
theorem dX2_init_9 : decode cX2_init 9 = .ok (.aload_n 0, 1) := by decide +kernel
theorem dX2_init_10 : decode cX2_init 10 = .ok (.iload_n 2, 1) := by decide +kernel
theorem dX2_init_11 : decode cX2_init 11 = .ok (.putfield 13, 3) := by decide +kernel
theorem dX2_init_14 : decode cX2_init 14 = .ok (.aload_n 0, 1) := by decide +kernel
theorem dX2_init_15 : decode cX2_init 15 = .ok (.iload_n 3, 1) := by decide +kernel
theorem dX2_init_16 : decode cX2_init 16 = .ok (.putfield 16, 3) := by decide +kernel
theorem dX2_init_19 : decode cX2_init 19 = .ok (.aload_n 0, 1) := by decide +kernel
theorem dX2_init_20 : decode cX2_init 20 = .ok (.iload_n 1, 1) := by decide +kernel
theorem dX2_init_21 : decode cX2_init 21 = .ok (.iload_n 2, 1) := by decide +kernel
theorem dX2_init_22 : decode cX2_init 22 = .ok (.multianewarray 19 2, 4) := by decide +kernel
theorem dX2_init_26 : decode cX2_init 26 = .ok (.putfield 21, 3) := by decide +kernel
theorem dX2_init_29 : decode cX2_init 29 = .ok (.aload_n 0, 1) := by decide +kernel
theorem dX2_init_30 : decode cX2_init 30 = .ok (.iload_n 1, 1) := by decide +kernel
theorem dX2_init_31 : decode cX2_init 31 = .ok (.newarray .int, 2) := by decide +kernel
theorem dX2_init_33 : decode cX2_init 33 = .ok (.putfield 24, 3) := by decide +kernel
theorem dX2_init_36 : decode cX2_init 36 = .ok (.aload_n 0, 1) := by decide +kernel
theorem dX2_init_37 : decode cX2_init 37 = .ok (.getfield 24, 3) := by decide +kernel
theorem dX2_init_40 : decode cX2_init 40 = .ok (.iconst (-1), 1) := by decide +kernel
theorem dX2_init_41 : decode cX2_init 41 = .ok (.invokestatic 28, 3) := by decide +kernel
theorem dX2_init_44 : decode cX2_init 44 = .ok (.return_, 1) := by decide +kernel
theorem dX2_hasNo_0 : decode cX2_hasNo 0 = .ok (.iload_n 1, 1) := by decide +kernel
theorem dX2_hasNo_1 : decode cX2_hasNo 1 = .ok (.ifCond .lt 11, 3) := by decide +kernel
theorem dX2_hasNo_4 : decode cX2_hasNo 4 = .ok (.iload_n 1, 1) := by decide +kernel
theorem dX2_hasNo_5 : decode cX2_hasNo 5 = .ok (.aload_n 0, 1) := by decide +kernel
theorem dX2_hasNo_6 : decode cX2_hasNo 6 = .ok (.getfield 7, 3) := by decide +kernel
theorem dX2_hasNo_9 : decode cX2_hasNo 9 = .ok (.if_icmp .lt 7, 3) := by decide +kernel
theorem dX2_hasNo_12 : decode cX2_hasNo 12 = .ok (.iconst 1, 1) := by decide +kernel
theorem dX2_hasNo_13 : decode cX2_hasNo 13 = .ok (.goto 4, 3) := by decide +kernel
theorem dX2_hasNo_16 : decode cX2_hasNo 16 = .ok (.iconst 0, 1) := by decide +kernel
theorem dX2_hasNo_17 : decode cX2_hasNo 17 = .ok (.ireturn, 1) := by decide +kernel
theorem dX2_isMissing_0 : decode cX2_isMissing 0 = .ok (.aload_n 0, 1) := by decide +kernel
theorem dX2_isMissing_1 : decode cX2_isMissing 1 = .ok (.getfield 24, 3) := by decide +kernel
theorem dX2_isMissing_4 : decode cX2_isMissing 4 = .ok (.iload_n 1, 1) := by decide +kernel
theorem dX2_isMissing_5 : decode cX2_isMissing 5 = .ok (.iaload, 1) := by decide +kernel
theorem dX2_isMissing_6 : decode cX2_isMissing 6 = .ok (.iconst (-1), 1) := by decide +kernel
theorem dX2_isMissing_7 : decode cX2_isMissing 7 = .ok (.if_icmp .ne 7, 3) := by decide +kernel
theorem dX2_isMissing_10 : decode cX2_isMissing 10 = .ok (.iconst 1, 1) := by decide +kernel
theorem dX2_isMissing_11 : decode cX2_isMissing 11 = .ok (.goto 4, 3) := by decide +kernel
theorem dX2_isMissing_14 : decode cX2_isMissing 14 = .ok (.iconst 0, 1) := by decide +kernel
theorem dX2_isMissing_15 : decode cX2_isMissing 15 = .ok (.ireturn, 1) := by decide +kernel
theorem dX2_lacks_0 : decode cX2_lacks 0 = .ok (.iload_n 2, 1) := by decide +kernel
theorem dX2_lacks_1 : decode cX2_lacks 1 = .ok (.ifCond .lt 25, 3) := by decide +kernel
theorem dX2_lacks_4 : decode cX2_lacks 4 = .ok (.iload_n 2, 1) := by decide +kernel
theorem dX2_lacks_5 : decode cX2_lacks 5 = .ok (.aload_n 0, 1) := by decide +kernel
theorem dX2_lacks_6 : decode cX2_lacks 6 = .ok (.getfield 24, 3) := by decide +kernel
theorem dX2_lacks_9 : decode cX2_lacks 9 = .ok (.iload_n 1, 1) := by decide +kernel
theorem dX2_lacks_10 : decode cX2_lacks 10 = .ok (.iaload, 1) := by decide +kernel
theorem dX2_lacks_11 : decode cX2_lacks 11 = .ok (.if_icmp .gt 15, 3) := by decide +kernel
theorem dX2_lacks_14 : decode cX2_lacks 14 = .ok (.iload_n 3, 1) := by decide +kernel
theorem dX2_lacks_15 : decode cX2_lacks 15 = .ok (.aload_n 0, 1) := by decide +kernel
theorem dX2_lacks_16 : decode cX2_lacks 16 = .ok (.getfield 24, 3) := by decide +kernel
theorem dX2_lacks_19 : decode cX2_lacks 19 = .ok (.iload_n 1, 1) := by decide +kernel
theorem dX2_lacks_20 : decode cX2_lacks 20 = .ok (.iaload, 1) := by decide +kernel
theorem dX2_lacks_21 : decode cX2_lacks 21 = .ok (.iload_n 2, 1) := by decide +kernel
theorem dX2_lacks_22 : decode cX2_lacks 22 = .ok (.isub, 1) := by decide +kernel
theorem dX2_lacks_23 : decode cX2_lacks 23 = .ok (.if_icmp .le 7, 3) := by decide +kernel
theorem dX2_lacks_26 : decode cX2_lacks 26 = .ok (.iconst 1, 1) := by decide +kernel
theorem dX2_lacks_27 : decode cX2_lacks 27 = .ok (.goto 4, 3) := by decide +kernel
theorem dX2_lacks_30 : decode cX2_lacks 30 = .ok (.iconst 0, 1) := by decide +kernel
theorem dX2_lacks_31 : decode cX2_lacks 31 = .ok (.ireturn, 1) := by decide +kernel
set_option maxRecDepth 20000 in
theorem ggX2_renew_J7_fill_53178 : GoodIn wsX2_renew wsJ7_fill_53178 := goodIn_r _ [7] (by rfl) (by decide +kernel)
set_option maxRecDepth 20000 in
theorem gX2_renew_J7_fill_53178 : GoodIn wsX2_renew (va_wsS RX2 28 yJ7_fill_53178 wsJ7_fill_53178) := goodIn_app (goodIn_of _ (by decide +kernel)) ggX2_renew_J7_fill_53178
theorem dX2_renew_0 : decode cX2_renew 0 = .ok (.aload_n 0, 1) := by decide +kernel
theorem dX2_renew_1 : decode cX2_renew 1 = .ok (.getfield 24, 3) := by decide +kernel
theorem dX2_renew_4 : decode cX2_renew 4 = .ok (.iload_n 1, 1) := by decide +kernel
theorem dX2_renew_5 : decode cX2_renew 5 = .ok (.iload_n 2, 1) := by decide +kernel
theorem dX2_renew_6 : decode cX2_renew 6 = .ok (.iastore, 1) := by decide +kernel
theorem dX2_renew_7 : decode cX2_renew 7 = .ok (.aload_n 0, 1) := by decide +kernel
theorem dX2_renew_8 : decode cX2_renew 8 = .ok (.getfield 21, 3) := by decide +kernel
theorem dX2_renew_11 : decode cX2_renew 11 = .ok (.iload_n 1, 1) := by decide +kernel
theorem dX2_renew_12 : decode cX2_renew 12 = .ok (.aaload, 1) := by decide +kernel
theorem dX2_renew_13 : decode cX2_renew 13 = .ok (.aload_n 0, 1) := by decide +kernel
theorem dX2_renew_14 : decode cX2_renew 14 = .ok (.getfield 16, 3) := by decide +kernel
theorem dX2_renew_17 : decode cX2_renew 17 = .ok (.invokestatic 28, 3) := by decide +kernel
theorem dX2_renew_20 : decode cX2_renew 20 = .ok (.return_, 1) := by decide +kernel
set_option maxRecDepth 20000 in
theorem ggX2_howMany_X2_isMissing : GoodIn wsX2_howMany wsX2_isMissing := goodIn_r _ [6, 7, 8, 9, 10, 11, 12] (by rfl) (by decide +kernel)
set_option maxRecDepth 20000 in
theorem gX2_howMany_X2_isMissing : GoodIn wsX2_howMany (wsV RX2 34 RX2 yX2_isMissing wsX2_isMissing) := goodIn_app (goodIn_of _ (by decide +kernel)) ggX2_howMany_X2_isMissing
theorem dX2_howMany_0 : decode cX2_howMany 0 = .ok (.iconst 0, 1) := by decide +kernel
theorem dX2_howMany_1 : decode cX2_howMany 1 = .ok (.istore_n 1, 1) := by decide +kernel
theorem dX2_howMany_2 : decode cX2_howMany 2 = .ok (.iconst 0, 1) := by decide +kernel
theorem dX2_howMany_3 : decode cX2_howMany 3 = .ok (.istore_n 2, 1) := by decide +kernel
theorem dX2_howMany_4 : decode cX2_howMany 4 = .ok (.iload_n 2, 1) := by decide +kernel
theorem dX2_howMany_5 : decode cX2_howMany 5 = .ok (.aload_n 0, 1) := by decide +kernel
theorem dX2_howMany_6 : decode cX2_howMany 6 = .ok (.getfield 7, 3) := by decide +kernel
theorem dX2_howMany_9 : decode cX2_howMany 9 = .ok (.if_icmp .ge 25, 3) := by decide +kernel
theorem dX2_howMany_12 : decode cX2_howMany 12 = .ok (.iload_n 1, 1) := by decide +kernel
theorem dX2_howMany_13 : decode cX2_howMany 13 = .ok (.aload_n 0, 1) := by decide +kernel
theorem dX2_howMany_14 : decode cX2_howMany 14 = .ok (.iload_n 2, 1) := by decide +kernel
theorem dX2_howMany_15 : decode cX2_howMany 15 = .ok (.invokevirtual 34, 3) := by decide +kernel
theorem dX2_howMany_18 : decode cX2_howMany 18 = .ok (.ifCond .eq 7, 3) := by decide +kernel
theorem dX2_howMany_21 : decode cX2_howMany 21 = .ok (.iconst 0, 1) := by decide +kernel
theorem dX2_howMany_22 : decode cX2_howMany 22 = .ok (.goto 4, 3) := by decide +kernel
theorem dX2_howMany_25 : decode cX2_howMany 25 = .ok (.iconst 1, 1) := by decide +kernel
theorem dX2_howMany_26 : decode cX2_howMany 26 = .ok (.iadd, 1) := by decide +kernel
theorem dX2_howMany_27 : decode cX2_howMany 27 = .ok (.istore_n 1, 1) := by decide +kernel
theorem dX2_howMany_28 : decode cX2_howMany 28 = .ok (.iinc 2 1, 3) := by decide +kernel
theorem dX2_howMany_31 : decode cX2_howMany 31 = .ok (.goto (-27), 3) := by decide +kernel
theorem dX2_howMany_34 : decode cX2_howMany 34 = .ok (.iload_n 1, 1) := by decide +kernel
theorem dX2_howMany_35 : decode cX2_howMany 35 = .ok (.ireturn, 1) := by decide +kernel
theorem dX2_digested_0 : decode cX2_digested 0 = .ok (.lload_n 1, 1) := by decide +kernel
theorem dX2_digested_1 : decode cX2_digested 1 = .ok (.lstore_n 3, 1) := by decide +kernel
theorem dX2_digested_2 : decode cX2_digested 2 = .ok (.iconst 0, 1) := by decide +kernel
theorem dX2_digested_3 : decode cX2_digested 3 = .ok (.istore 5, 2) := by decide +kernel
theorem dX2_digested_5 : decode cX2_digested 5 = .ok (.iload 5, 2) := by decide +kernel
theorem dX2_digested_7 : decode cX2_digested 7 = .ok (.aload_n 0, 1) := by decide +kernel
theorem dX2_digested_8 : decode cX2_digested 8 = .ok (.getfield 7, 3) := by decide +kernel
theorem dX2_digested_11 : decode cX2_digested 11 = .ok (.if_icmp .ge 63, 3) := by decide +kernel
theorem dX2_digested_14 : decode cX2_digested 14 = .ok (.ldc2_w 38, 3) := by decide +kernel
theorem dX2_digested_17 : decode cX2_digested 17 = .ok (.lload_n 3, 1) := by decide +kernel
theorem dX2_digested_18 : decode cX2_digested 18 = .ok (.lmul, 1) := by decide +kernel
theorem dX2_digested_19 : decode cX2_digested 19 = .ok (.aload_n 0, 1) := by decide +kernel
theorem dX2_digested_20 : decode cX2_digested 20 = .ok (.getfield 24, 3) := by decide +kernel
theorem dX2_digested_23 : decode cX2_digested 23 = .ok (.iload 5, 2) := by decide +kernel
theorem dX2_digested_25 : decode cX2_digested 25 = .ok (.iaload, 1) := by decide +kernel
theorem dX2_digested_26 : decode cX2_digested 26 = .ok (.i2l, 1) := by decide +kernel
theorem dX2_digested_27 : decode cX2_digested 27 = .ok (.ladd, 1) := by decide +kernel
theorem dX2_digested_28 : decode cX2_digested 28 = .ok (.lstore_n 3, 1) := by decide +kernel
theorem dX2_digested_29 : decode cX2_digested 29 = .ok (.iconst 0, 1) := by decide +kernel
theorem dX2_digested_30 : decode cX2_digested 30 = .ok (.istore 6, 2) := by decide +kernel
theorem dX2_digested_32 : decode cX2_digested 32 = .ok (.iload 6, 2) := by decide +kernel
theorem dX2_digested_34 : decode cX2_digested 34 = .ok (.aload_n 0, 1) := by decide +kernel
theorem dX2_digested_35 : decode cX2_digested 35 = .ok (.getfield 24, 3) := by decide +kernel
theorem dX2_digested_38 : decode cX2_digested 38 = .ok (.iload 5, 2) := by decide +kernel
theorem dX2_digested_40 : decode cX2_digested 40 = .ok (.iaload, 1) := by decide +kernel
theorem dX2_digested_41 : decode cX2_digested 41 = .ok (.if_icmp .ge 27, 3) := by decide +kernel
theorem dX2_digested_44 : decode cX2_digested 44 = .ok (.ldc2_w 38, 3) := by decide +kernel
theorem dX2_digested_47 : decode cX2_digested 47 = .ok (.lload_n 3, 1) := by decide +kernel
theorem dX2_digested_48 : decode cX2_digested 48 = .ok (.lmul, 1) := by decide +kernel
theorem dX2_digested_49 : decode cX2_digested 49 = .ok (.aload_n 0, 1) := by decide +kernel
theorem dX2_digested_50 : decode cX2_digested 50 = .ok (.getfield 21, 3) := by decide +kernel
theorem dX2_digested_53 : decode cX2_digested 53 = .ok (.iload 5, 2) := by decide +kernel
theorem dX2_digested_55 : decode cX2_digested 55 = .ok (.aaload, 1) := by decide +kernel
theorem dX2_digested_56 : decode cX2_digested 56 = .ok (.iload 6, 2) := by decide +kernel
theorem dX2_digested_58 : decode cX2_digested 58 = .ok (.iaload, 1) := by decide +kernel
theorem dX2_digested_59 : decode cX2_digested 59 = .ok (.i2l, 1) := by decide +kernel
theorem dX2_digested_60 : decode cX2_digested 60 = .ok (.ladd, 1) := by decide +kernel
theorem dX2_digested_61 : decode cX2_digested 61 = .ok (.lstore_n 3, 1) := by decide +kernel
theorem dX2_digested_62 : decode cX2_digested 62 = .ok (.iinc 6 1, 3) := by decide +kernel
theorem dX2_digested_65 : decode cX2_digested 65 = .ok (.goto (-33), 3) := by decide +kernel
theorem dX2_digested_68 : decode cX2_digested 68 = .ok (.iinc 5 1, 3) := by decide +kernel
theorem dX2_digested_71 : decode cX2_digested 71 = .ok (.goto (-66), 3) := by decide +kernel
theorem dX2_digested_74 : decode cX2_digested 74 = .ok (.lload_n 3, 1) := by decide +kernel
theorem dX2_digested_75 : decode cX2_digested 75 = .ok (.lreturn, 1) := by decide +kernel
theorem dX3_init_0 : decode cX3_init 0 = .ok (.aload_n 0, 1) := by decide +kernel
theorem dX3_init_1 : decode cX3_init 1 = .ok (.invokespecial 5, 3) := by decide +kernel
theorem dX3_init_4 : decode cX3_init 4 = .ok (.aload_n 0, 1) := by decide +kernel
theorem dX3_init_5 : decode cX3_init 5 = .ok (.bipush 36, 2) := by decide +kernel
theorem dX3_init_7 : decode cX3_init 7 = .ok (.newarray .int, 2) := by decide +kernel
theorem dX3_init_9 : decode cX3_init 9 = .ok (.putfield 11, 3) := by decide +kernel
theorem dX3_init_12 : decode cX3_init 12 = .ok (.aload_n 0, 1) := by decide +kernel
theorem dX3_init_13 : decode cX3_init 13 = .ok (.sipush 1024, 3) := by decide +kernel
theorem dX3_init_16 : decode cX3_init 16 = .ok (.newarray .int, 2) := by decide +kernel
theorem dX3_init_18 : decode cX3_init 18 = .ok (.putfield 15, 3) := by decide +kernel
theorem dX3_init_21 : decode cX3_init 21 = .ok (.aload_n 0, 1) := by decide +kernel
theorem dX3_init_22 : decode cX3_init 22 = .ok (.sipush 1024, 3) := by decide +kernel
theorem dX3_init_25 : decode cX3_init 25 = .ok (.newarray .int, 2) := by decide +kernel
theorem dX3_init_27 : decode cX3_init 27 = .ok (.putfield 18, 3) := by decide +kernel
theorem dX3_init_30 : decode cX3_init 30 = .ok (.aload_n 0, 1) := by decide +kernel
theorem dX3_init_31 : decode cX3_init 31 = .ok (.sipush 1024, 3) := by decide +kernel
theorem dX3_init_34 : decode cX3_init 34 = .ok (.newarray .int, 2) := by decide +kernel
theorem dX3_init_36 : decode cX3_init 36 = .ok (.putfield 21, 3) := by decide +kernel
theorem dX3_init_39 : decode cX3_init 39 = .ok (.aload_n 0, 1) := by decide +kernel
theorem dX3_init_40 : decode cX3_init 40 = .ok (.bipush 64, 2) := by decide +kernel
theorem dX3_init_42 : decode cX3_init 42 = .ok (.newarray .int, 2) := by decide +kernel
theorem dX3_init_44 : decode cX3_init 44 = .ok (.putfield 24, 3) := by decide +kernel
theorem dX3_init_47 : decode cX3_init 47 = .ok (.aload_n 0, 1) := by decide +kernel
theorem dX3_init_48 : decode cX3_init 48 = .ok (.iconst 5, 1) := by decide +kernel
theorem dX3_init_49 : decode cX3_init 49 = .ok (.bipush 64, 2) := by decide +kernel
theorem dX3_init_51 : decode cX3_init 51 = .ok (.multianewarray 27 2, 4) := by decide +kernel
theorem dX3_init_55 : decode cX3_init 55 = .ok (.putfield 29, 3) := by decide +kernel
theorem dX3_init_58 : decode cX3_init 58 = .ok (.return_, 1) := by decide +kernel
theorem dX3_areTogether_0 : decode cX3_areTogether 0 = .ok (.iload_n 0, 1) := by decide +kernel
theorem dX3_areTogether_1 : decode cX3_areTogether 1 = .ok (.iload_n 1, 1) := by decide +kernel
theorem dX3_areTogether_2 : decode cX3_areTogether 2 = .ok (.ishr, 1) := by decide +kernel
theorem dX3_areTogether_3 : decode cX3_areTogether 3 = .ok (.iconst 1, 1) := by decide +kernel
theorem dX3_areTogether_4 : decode cX3_areTogether 4 = .ok (.iand, 1) := by decide +kernel
theorem dX3_areTogether_5 : decode cX3_areTogether 5 = .ok (.iload_n 0, 1) := by decide +kernel
theorem dX3_areTogether_6 : decode cX3_areTogether 6 = .ok (.iload_n 2, 1) := by decide +kernel
theorem dX3_areTogether_7 : decode cX3_areTogether 7 = .ok (.ishr, 1) := by decide +kernel
theorem dX3_areTogether_8 : decode cX3_areTogether 8 = .ok (.iconst 1, 1) := by decide +kernel
theorem dX3_areTogether_9 : decode cX3_areTogether 9 = .ok (.iand, 1) := by decide +kernel
theorem dX3_areTogether_10 : decode cX3_areTogether 10 = .ok (.if_icmp .ne 7, 3) := by decide +kernel
theorem dX3_areTogether_13 : decode cX3_areTogether 13 = .ok (.iconst 1, 1) := by decide +kernel
theorem dX3_areTogether_14 : decode cX3_areTogether 14 = .ok (.goto 4, 3) := by decide +kernel
theorem dX3_areTogether_17 : decode cX3_areTogether 17 = .ok (.iconst 0, 1) := by decide +kernel
theorem dX3_areTogether_18 : decode cX3_areTogether 18 = .ok (.ireturn, 1) := by decide +kernel
theorem dX3_stonesAt_0 : decode cX3_stonesAt 0 = .ok (.iload_n 0, 1) := by decide +kernel
theorem dX3_stonesAt_1 : decode cX3_stonesAt 1 = .ok (.iload_n 1, 1) := by decide +kernel
theorem dX3_stonesAt_2 : decode cX3_stonesAt 2 = .ok (.ishr, 1) := by decide +kernel
theorem dX3_stonesAt_3 : decode cX3_stonesAt 3 = .ok (.iconst 1, 1) := by decide +kernel
theorem dX3_stonesAt_4 : decode cX3_stonesAt 4 = .ok (.iand, 1) := by decide +kernel
theorem dX3_stonesAt_5 : decode cX3_stonesAt 5 = .ok (.iconst 1, 1) := by decide +kernel
theorem dX3_stonesAt_6 : decode cX3_stonesAt 6 = .ok (.if_icmp .ne 7, 3) := by decide +kernel
theorem dX3_stonesAt_9 : decode cX3_stonesAt 9 = .ok (.iload_n 2, 1) := by decide +kernel
theorem dX3_stonesAt_10 : decode cX3_stonesAt 10 = .ok (.goto 8, 3) := by decide +kernel
theorem dX3_stonesAt_13 : decode cX3_stonesAt 13 = .ok (.iload_n 3, 1) := by decide +kernel
theorem dX3_stonesAt_14 : decode cX3_stonesAt 14 = .ok (.iload_n 2, 1) := by decide +kernel
theorem dX3_stonesAt_15 : decode cX3_stonesAt 15 = .ok (.iconst (-1), 1) := by decide +kernel
theorem dX3_stonesAt_16 : decode cX3_stonesAt 16 = .ok (.ixor, 1) := by decide +kernel
theorem dX3_stonesAt_17 : decode cX3_stonesAt 17 = .ok (.iand, 1) := by decide +kernel
theorem dX3_stonesAt_18 : decode cX3_stonesAt 18 = .ok (.ireturn, 1) := by decide +kernel
set_option maxRecDepth 20000 in
theorem ggX3_spread_J7_fill_53178 : GoodIn wsX3_spread wsJ7_fill_53178 := goodIn_r _ [8] (by rfl) (by decide +kernel)
set_option maxRecDepth 20000 in
theorem gX3_spread_J7_fill_53178 : GoodIn wsX3_spread (va_wsS RX3 32 yJ7_fill_53178 wsJ7_fill_53178) := goodIn_app (goodIn_of _ (by decide +kernel)) ggX3_spread_J7_fill_53178
set_option maxRecDepth 20000 in
theorem ggX3_spread_X3_leave : GoodIn wsX3_spread wsX3_leave := goodIn_r _ [13, 14, 15, 16, 12, 17, 18, 19, 20, 21, 22, 23, 24, 1, 2, 25, 26, 27, 28, 29, 4, 3, 30, 31, 32, 33, 34, 35, 36, 37] (by rfl) (by decide +kernel)
set_option maxRecDepth 20000 in
theorem gX3_spread_X3_leave : GoodIn wsX3_spread (wsV RX3 42 RX3 yX3_leave wsX3_leave) := goodIn_app (goodIn_of _ (by decide +kernel)) ggX3_spread_X3_leave
theorem dX3_spread_0 : decode cX3_spread 0 = .ok (.aload_n 0, 1) := by decide +kernel
theorem dX3_spread_1 : decode cX3_spread 1 = .ok (.getfield 15, 3) := by decide +kernel
theorem dX3_spread_4 : decode cX3_spread 4 = .ok (.bipush (-9), 2) := by decide +kernel
theorem dX3_spread_6 : decode cX3_spread 6 = .ok (.invokestatic 32, 3) := by decide +kernel
theorem dX3_spread_9 : decode cX3_spread 9 = .ok (.iload_n 1, 1) := by decide +kernel
theorem dX3_spread_10 : decode cX3_spread 10 = .ok (.bipush 64, 2) := by decide +kernel
theorem dX3_spread_12 : decode cX3_spread 12 = .ok (.iload_n 2, 1) := by decide +kernel
theorem dX3_spread_13 : decode cX3_spread 13 = .ok (.imul, 1) := by decide +kernel
theorem dX3_spread_14 : decode cX3_spread 14 = .ok (.iadd, 1) := by decide +kernel
theorem dX3_spread_15 : decode cX3_spread 15 = .ok (.istore 4, 2) := by decide +kernel
theorem dX3_spread_17 : decode cX3_spread 17 = .ok (.aload_n 0, 1) := by decide +kernel
theorem dX3_spread_18 : decode cX3_spread 18 = .ok (.getfield 15, 3) := by decide +kernel
theorem dX3_spread_21 : decode cX3_spread 21 = .ok (.iload 4, 2) := by decide +kernel
theorem dX3_spread_23 : decode cX3_spread 23 = .ok (.iconst 0, 1) := by decide +kernel
theorem dX3_spread_24 : decode cX3_spread 24 = .ok (.iastore, 1) := by decide +kernel
theorem dX3_spread_25 : decode cX3_spread 25 = .ok (.aload_n 0, 1) := by decide +kernel
theorem dX3_spread_26 : decode cX3_spread 26 = .ok (.getfield 18, 3) := by decide +kernel
theorem dX3_spread_29 : decode cX3_spread 29 = .ok (.iload 4, 2) := by decide +kernel
theorem dX3_spread_31 : decode cX3_spread 31 = .ok (.bipush (-9), 2) := by decide +kernel
theorem dX3_spread_33 : decode cX3_spread 33 = .ok (.iastore, 1) := by decide +kernel
theorem dX3_spread_34 : decode cX3_spread 34 = .ok (.aload_n 0, 1) := by decide +kernel
theorem dX3_spread_35 : decode cX3_spread 35 = .ok (.getfield 21, 3) := by decide +kernel
theorem dX3_spread_38 : decode cX3_spread 38 = .ok (.iconst 0, 1) := by decide +kernel
theorem dX3_spread_39 : decode cX3_spread 39 = .ok (.iload 4, 2) := by decide +kernel
theorem dX3_spread_41 : decode cX3_spread 41 = .ok (.iastore, 1) := by decide +kernel
theorem dX3_spread_42 : decode cX3_spread 42 = .ok (.aload_n 0, 1) := by decide +kernel
theorem dX3_spread_43 : decode cX3_spread 43 = .ok (.iconst 1, 1) := by decide +kernel
theorem dX3_spread_44 : decode cX3_spread 44 = .ok (.putfield 38, 3) := by decide +kernel
theorem dX3_spread_47 : decode cX3_spread 47 = .ok (.iconst 0, 1) := by decide +kernel
theorem dX3_spread_48 : decode cX3_spread 48 = .ok (.istore 5, 2) := by decide +kernel
theorem dX3_spread_50 : decode cX3_spread 50 = .ok (.iload 5, 2) := by decide +kernel
theorem dX3_spread_52 : decode cX3_spread 52 = .ok (.aload_n 0, 1) := by decide +kernel
theorem dX3_spread_53 : decode cX3_spread 53 = .ok (.getfield 38, 3) := by decide +kernel
theorem dX3_spread_56 : decode cX3_spread 56 = .ok (.if_icmp .ge 29, 3) := by decide +kernel
theorem dX3_spread_59 : decode cX3_spread 59 = .ok (.iload 5, 2) := by decide +kernel
theorem dX3_spread_61 : decode cX3_spread 61 = .ok (.sipush 1024, 3) := by decide +kernel
theorem dX3_spread_64 : decode cX3_spread 64 = .ok (.if_icmp .ge 21, 3) := by decide +kernel
theorem dX3_spread_67 : decode cX3_spread 67 = .ok (.aload_n 0, 1) := by decide +kernel
theorem dX3_spread_68 : decode cX3_spread 68 = .ok (.aload_n 0, 1) := by decide +kernel
theorem dX3_spread_69 : decode cX3_spread 69 = .ok (.getfield 21, 3) := by decide +kernel
theorem dX3_spread_72 : decode cX3_spread 72 = .ok (.iload 5, 2) := by decide +kernel
theorem dX3_spread_74 : decode cX3_spread 74 = .ok (.iaload, 1) := by decide +kernel
theorem dX3_spread_75 : decode cX3_spread 75 = .ok (.iload_n 3, 1) := by decide +kernel
theorem dX3_spread_76 : decode cX3_spread 76 = .ok (.invokevirtual 42, 3) := by decide +kernel
theorem dX3_spread_79 : decode cX3_spread 79 = .ok (.iinc 5 1, 3) := by decide +kernel
theorem dX3_spread_82 : decode cX3_spread 82 = .ok (.goto (-32), 3) := by decide +kernel
theorem dX3_spread_85 : decode cX3_spread 85 = .ok (.return_, 1) := by decide +kernel
set_option maxRecDepth 20000 in
theorem ggX3_leave_X3_areTogether : GoodIn wsX3_leave wsX3_areTogether := goodIn_r _ [5] (by rfl) (by decide +kernel)
set_option maxRecDepth 20000 in
theorem gX3_leave_X3_areTogether : GoodIn wsX3_leave (va_wsS RX3 49 yX3_areTogether wsX3_areTogether) := goodIn_app (goodIn_of _ (by decide +kernel)) ggX3_leave_X3_areTogether
set_option maxRecDepth 20000 in
theorem ggX3_leave_X3_stonesAt : GoodIn wsX3_leave wsX3_stonesAt := goodIn_r _ [8] (by rfl) (by decide +kernel)
set_option maxRecDepth 20000 in
theorem gX3_leave_X3_stonesAt : GoodIn wsX3_leave (va_wsS RX3 53 yX3_stonesAt wsX3_stonesAt) := goodIn_app (goodIn_of _ (by decide +kernel)) ggX3_leave_X3_stonesAt
set_option maxRecDepth 20000 in
theorem ggX3_leave_X3_leaveBy : GoodIn wsX3_leave wsX3_leaveBy := goodIn_r _ [12, 13, 14, 15, 16, 17, 18, 4, 19, 20, 21, 22, 23, 24, 25, 26, 27, 28, 29] (by rfl) (by decide +kernel)
set_option maxRecDepth 20000 in
theorem gX3_leave_X3_leaveBy : GoodIn wsX3_leave (wsV RX3 57 RX3 yX3_leaveBy wsX3_leaveBy) := goodIn_app (goodIn_of _ (by decide +kernel)) ggX3_leave_X3_leaveBy
theorem dX3_leave_0 : decode cX3_leave 0 = .ok (.iload_n 1, 1) := by decide +kernel
theorem dX3_leave_1 : decode cX3_leave 1 = .ok (.bipush 64, 2) := by decide +kernel
theorem dX3_leave_3 : decode cX3_leave 3 = .ok (.irem, 1) := by decide +kernel
theorem dX3_leave_4 : decode cX3_leave 4 = .ok (.istore_n 3, 1) := by decide +kernel
theorem dX3_leave_5 : decode cX3_leave 5 = .ok (.iconst 0, 1) := by decide +kernel
theorem dX3_leave_6 : decode cX3_leave 6 = .ok (.istore 4, 2) := by decide +kernel
theorem dX3_leave_8 : decode cX3_leave 8 = .ok (.iload 4, 2) := by decide +kernel
theorem dX3_leave_10 : decode cX3_leave 10 = .ok (.aload_n 0, 1) := by decide +kernel
theorem dX3_leave_11 : decode cX3_leave 11 = .ok (.getfield 46, 3) := by decide +kernel
theorem dX3_leave_14 : decode cX3_leave 14 = .ok (.if_icmp .ge 65, 3) := by decide +kernel
theorem dX3_leave_17 : decode cX3_leave 17 = .ok (.iload 4, 2) := by decide +kernel
theorem dX3_leave_19 : decode cX3_leave 19 = .ok (.iconst 1, 1) := by decide +kernel
theorem dX3_leave_20 : decode cX3_leave 20 = .ok (.iadd, 1) := by decide +kernel
theorem dX3_leave_21 : decode cX3_leave 21 = .ok (.istore 5, 2) := by decide +kernel
theorem dX3_leave_23 : decode cX3_leave 23 = .ok (.iload 5, 2) := by decide +kernel
theorem dX3_leave_25 : decode cX3_leave 25 = .ok (.aload_n 0, 1) := by decide +kernel
theorem dX3_leave_26 : decode cX3_leave 26 = .ok (.getfield 46, 3) := by decide +kernel
theorem dX3_leave_29 : decode cX3_leave 29 = .ok (.if_icmp .ge 44, 3) := by decide +kernel
theorem dX3_leave_32 : decode cX3_leave 32 = .ok (.iload_n 3, 1) := by decide +kernel
theorem dX3_leave_33 : decode cX3_leave 33 = .ok (.iload 4, 2) := by decide +kernel
theorem dX3_leave_35 : decode cX3_leave 35 = .ok (.iload 5, 2) := by decide +kernel
theorem dX3_leave_37 : decode cX3_leave 37 = .ok (.invokestatic 49, 3) := by decide +kernel
theorem dX3_leave_40 : decode cX3_leave 40 = .ok (.ifCond .eq 27, 3) := by decide +kernel
theorem dX3_leave_43 : decode cX3_leave 43 = .ok (.aload_n 0, 1) := by decide +kernel
theorem dX3_leave_44 : decode cX3_leave 44 = .ok (.iload_n 1, 1) := by decide +kernel
theorem dX3_leave_45 : decode cX3_leave 45 = .ok (.bipush 6, 2) := by decide +kernel
theorem dX3_leave_47 : decode cX3_leave 47 = .ok (.iload 4, 2) := by decide +kernel
theorem dX3_leave_49 : decode cX3_leave 49 = .ok (.imul, 1) := by decide +kernel
theorem dX3_leave_50 : decode cX3_leave 50 = .ok (.iload 5, 2) := by decide +kernel
theorem dX3_leave_52 : decode cX3_leave 52 = .ok (.iadd, 1) := by decide +kernel
theorem dX3_leave_53 : decode cX3_leave 53 = .ok (.iload_n 3, 1) := by decide +kernel
theorem dX3_leave_54 : decode cX3_leave 54 = .ok (.iload 4, 2) := by decide +kernel
theorem dX3_leave_56 : decode cX3_leave 56 = .ok (.iload_n 1, 1) := by decide +kernel
theorem dX3_leave_57 : decode cX3_leave 57 = .ok (.bipush 64, 2) := by decide +kernel
theorem dX3_leave_59 : decode cX3_leave 59 = .ok (.idiv, 1) := by decide +kernel
theorem dX3_leave_60 : decode cX3_leave 60 = .ok (.iload_n 2, 1) := by decide +kernel
theorem dX3_leave_61 : decode cX3_leave 61 = .ok (.invokestatic 53, 3) := by decide +kernel
theorem dX3_leave_64 : decode cX3_leave 64 = .ok (.invokevirtual 57, 3) := by decide +kernel
theorem dX3_leave_67 : decode cX3_leave 67 = .ok (.iinc 5 1, 3) := by decide +kernel
theorem dX3_leave_70 : decode cX3_leave 70 = .ok (.goto (-47), 3) := by decide +kernel
theorem dX3_leave_73 : decode cX3_leave 73 = .ok (.iinc 4 1, 3) := by decide +kernel
theorem dX3_leave_76 : decode cX3_leave 76 = .ok (.goto (-68), 3) := by decide +kernel
theorem dX3_leave_79 : decode cX3_leave 79 = .ok (.return_, 1) := by decide +kernel
set_option maxRecDepth 20000 in
theorem ggX3_leaveBy_X3_reach : GoodIn wsX3_leaveBy wsX3_reach := goodIn_r _ [8, 1, 9, 2, 10, 11, 12, 13, 14, 15, 16, 17, 18] (by rfl) (by decide +kernel)
set_option maxRecDepth 20000 in
theorem gX3_leaveBy_X3_reach : GoodIn wsX3_leaveBy (wsV RX3 61 RX3 yX3_reach wsX3_reach) := goodIn_app (goodIn_of _ (by decide +kernel)) ggX3_leaveBy_X3_reach
theorem dX3_leaveBy_0 : decode cX3_leaveBy 0 = .ok (.iload_n 1, 1) := by decide +kernel
theorem dX3_leaveBy_1 : decode cX3_leaveBy 1 = .ok (.iconst 1, 1) := by decide +kernel
theorem dX3_leaveBy_2 : decode cX3_leaveBy 2 = .ok (.iload_n 2, 1) := by decide +kernel
theorem dX3_leaveBy_3 : decode cX3_leaveBy 3 = .ok (.bipush 6, 2) := by decide +kernel
theorem dX3_leaveBy_5 : decode cX3_leaveBy 5 = .ok (.idiv, 1) := by decide +kernel
theorem dX3_leaveBy_6 : decode cX3_leaveBy 6 = .ok (.ishl, 1) := by decide +kernel
theorem dX3_leaveBy_7 : decode cX3_leaveBy 7 = .ok (.iconst 1, 1) := by decide +kernel
theorem dX3_leaveBy_8 : decode cX3_leaveBy 8 = .ok (.iload_n 2, 1) := by decide +kernel
theorem dX3_leaveBy_9 : decode cX3_leaveBy 9 = .ok (.bipush 6, 2) := by decide +kernel
theorem dX3_leaveBy_11 : decode cX3_leaveBy 11 = .ok (.irem, 1) := by decide +kernel
theorem dX3_leaveBy_12 : decode cX3_leaveBy 12 = .ok (.ishl, 1) := by decide +kernel
theorem dX3_leaveBy_13 : decode cX3_leaveBy 13 = .ok (.ior, 1) := by decide +kernel
theorem dX3_leaveBy_14 : decode cX3_leaveBy 14 = .ok (.ixor, 1) := by decide +kernel
theorem dX3_leaveBy_15 : decode cX3_leaveBy 15 = .ok (.istore 4, 2) := by decide +kernel
theorem dX3_leaveBy_17 : decode cX3_leaveBy 17 = .ok (.aload_n 0, 1) := by decide +kernel
theorem dX3_leaveBy_18 : decode cX3_leaveBy 18 = .ok (.getfield 15, 3) := by decide +kernel
theorem dX3_leaveBy_21 : decode cX3_leaveBy 21 = .ok (.iload_n 1, 1) := by decide +kernel
theorem dX3_leaveBy_22 : decode cX3_leaveBy 22 = .ok (.iaload, 1) := by decide +kernel
theorem dX3_leaveBy_23 : decode cX3_leaveBy 23 = .ok (.ifCond .ne 7, 3) := by decide +kernel
theorem dX3_leaveBy_26 : decode cX3_leaveBy 26 = .ok (.iload_n 2, 1) := by decide +kernel
theorem dX3_leaveBy_27 : decode cX3_leaveBy 27 = .ok (.goto 9, 3) := by decide +kernel
theorem dX3_leaveBy_30 : decode cX3_leaveBy 30 = .ok (.aload_n 0, 1) := by decide +kernel
theorem dX3_leaveBy_31 : decode cX3_leaveBy 31 = .ok (.getfield 18, 3) := by decide +kernel
theorem dX3_leaveBy_34 : decode cX3_leaveBy 34 = .ok (.iload_n 1, 1) := by decide +kernel
theorem dX3_leaveBy_35 : decode cX3_leaveBy 35 = .ok (.iaload, 1) := by decide +kernel
theorem dX3_leaveBy_36 : decode cX3_leaveBy 36 = .ok (.istore 5, 2) := by decide +kernel
theorem dX3_leaveBy_38 : decode cX3_leaveBy 38 = .ok (.aload_n 0, 1) := by decide +kernel
theorem dX3_leaveBy_39 : decode cX3_leaveBy 39 = .ok (.getfield 11, 3) := by decide +kernel
theorem dX3_leaveBy_42 : decode cX3_leaveBy 42 = .ok (.iload_n 2, 1) := by decide +kernel
theorem dX3_leaveBy_43 : decode cX3_leaveBy 43 = .ok (.iaload, 1) := by decide +kernel
theorem dX3_leaveBy_44 : decode cX3_leaveBy 44 = .ok (.istore 6, 2) := by decide +kernel
theorem dX3_leaveBy_46 : decode cX3_leaveBy 46 = .ok (.iconst 0, 1) := by decide +kernel
theorem dX3_leaveBy_47 : decode cX3_leaveBy 47 = .ok (.istore 7, 2) := by decide +kernel
theorem dX3_leaveBy_49 : decode cX3_leaveBy 49 = .ok (.iload 7, 2) := by decide +kernel
theorem dX3_leaveBy_51 : decode cX3_leaveBy 51 = .ok (.bipush 16, 2) := by decide +kernel
theorem dX3_leaveBy_53 : decode cX3_leaveBy 53 = .ok (.if_icmp .ge 59, 3) := by decide +kernel
theorem dX3_leaveBy_56 : decode cX3_leaveBy 56 = .ok (.iload 6, 2) := by decide +kernel
theorem dX3_leaveBy_58 : decode cX3_leaveBy 58 = .ok (.iload 7, 2) := by decide +kernel
theorem dX3_leaveBy_60 : decode cX3_leaveBy 60 = .ok (.ishr, 1) := by decide +kernel
theorem dX3_leaveBy_61 : decode cX3_leaveBy 61 = .ok (.ifCond .eq 51, 3) := by decide +kernel
theorem dX3_leaveBy_64 : decode cX3_leaveBy 64 = .ok (.iload 6, 2) := by decide +kernel
theorem dX3_leaveBy_66 : decode cX3_leaveBy 66 = .ok (.iload 7, 2) := by decide +kernel
theorem dX3_leaveBy_68 : decode cX3_leaveBy 68 = .ok (.ishr, 1) := by decide +kernel
theorem dX3_leaveBy_69 : decode cX3_leaveBy 69 = .ok (.iconst 1, 1) := by decide +kernel
theorem dX3_leaveBy_70 : decode cX3_leaveBy 70 = .ok (.iand, 1) := by decide +kernel
theorem dX3_leaveBy_71 : decode cX3_leaveBy 71 = .ok (.iconst 1, 1) := by decide +kernel
theorem dX3_leaveBy_72 : decode cX3_leaveBy 72 = .ok (.if_icmp .ne 34, 3) := by decide +kernel
theorem dX3_leaveBy_75 : decode cX3_leaveBy 75 = .ok (.iload 7, 2) := by decide +kernel
theorem dX3_leaveBy_77 : decode cX3_leaveBy 77 = .ok (.iload_n 3, 1) := by decide +kernel
theorem dX3_leaveBy_78 : decode cX3_leaveBy 78 = .ok (.iconst (-1), 1) := by decide +kernel
theorem dX3_leaveBy_79 : decode cX3_leaveBy 79 = .ok (.ixor, 1) := by decide +kernel
theorem dX3_leaveBy_80 : decode cX3_leaveBy 80 = .ok (.iand, 1) := by decide +kernel
theorem dX3_leaveBy_81 : decode cX3_leaveBy 81 = .ok (.ifCond .ne 25, 3) := by decide +kernel
theorem dX3_leaveBy_84 : decode cX3_leaveBy 84 = .ok (.aload_n 0, 1) := by decide +kernel
theorem dX3_leaveBy_85 : decode cX3_leaveBy 85 = .ok (.iload 4, 2) := by decide +kernel
theorem dX3_leaveBy_87 : decode cX3_leaveBy 87 = .ok (.bipush 64, 2) := by decide +kernel
theorem dX3_leaveBy_89 : decode cX3_leaveBy 89 = .ok (.iload 7, 2) := by decide +kernel
theorem dX3_leaveBy_91 : decode cX3_leaveBy 91 = .ok (.imul, 1) := by decide +kernel
theorem dX3_leaveBy_92 : decode cX3_leaveBy 92 = .ok (.ixor, 1) := by decide +kernel
theorem dX3_leaveBy_93 : decode cX3_leaveBy 93 = .ok (.aload_n 0, 1) := by decide +kernel
theorem dX3_leaveBy_94 : decode cX3_leaveBy 94 = .ok (.getfield 15, 3) := by decide +kernel
theorem dX3_leaveBy_97 : decode cX3_leaveBy 97 = .ok (.iload_n 1, 1) := by decide +kernel
theorem dX3_leaveBy_98 : decode cX3_leaveBy 98 = .ok (.iaload, 1) := by decide +kernel
theorem dX3_leaveBy_99 : decode cX3_leaveBy 99 = .ok (.iconst 1, 1) := by decide +kernel
theorem dX3_leaveBy_100 : decode cX3_leaveBy 100 = .ok (.iadd, 1) := by decide +kernel
theorem dX3_leaveBy_101 : decode cX3_leaveBy 101 = .ok (.iload 5, 2) := by decide +kernel
theorem dX3_leaveBy_103 : decode cX3_leaveBy 103 = .ok (.invokevirtual 61, 3) := by decide +kernel
theorem dX3_leaveBy_106 : decode cX3_leaveBy 106 = .ok (.iinc 7 1, 3) := by decide +kernel
theorem dX3_leaveBy_109 : decode cX3_leaveBy 109 = .ok (.goto (-60), 3) := by decide +kernel
theorem dX3_leaveBy_112 : decode cX3_leaveBy 112 = .ok (.return_, 1) := by decide +kernel
theorem dX3_reach_0 : decode cX3_reach 0 = .ok (.aload_n 0, 1) := by decide +kernel
theorem dX3_reach_1 : decode cX3_reach 1 = .ok (.getfield 15, 3) := by decide +kernel
theorem dX3_reach_4 : decode cX3_reach 4 = .ok (.iload_n 1, 1) := by decide +kernel
theorem dX3_reach_5 : decode cX3_reach 5 = .ok (.iaload, 1) := by decide +kernel
theorem dX3_reach_6 : decode cX3_reach 6 = .ok (.bipush (-9), 2) := by decide +kernel
theorem dX3_reach_8 : decode cX3_reach 8 = .ok (.if_icmp .ne 47, 3) := by decide +kernel
theorem dX3_reach_11 : decode cX3_reach 11 = .ok (.aload_n 0, 1) := by decide +kernel
theorem dX3_reach_12 : decode cX3_reach 12 = .ok (.getfield 38, 3) := by decide +kernel
theorem dX3_reach_15 : decode cX3_reach 15 = .ok (.sipush 1024, 3) := by decide +kernel
theorem dX3_reach_18 : decode cX3_reach 18 = .ok (.if_icmp .ge 37, 3) := by decide +kernel
theorem dX3_reach_21 : decode cX3_reach 21 = .ok (.aload_n 0, 1) := by decide +kernel
theorem dX3_reach_22 : decode cX3_reach 22 = .ok (.getfield 15, 3) := by decide +kernel
theorem dX3_reach_25 : decode cX3_reach 25 = .ok (.iload_n 1, 1) := by decide +kernel
theorem dX3_reach_26 : decode cX3_reach 26 = .ok (.iload_n 2, 1) := by decide +kernel
theorem dX3_reach_27 : decode cX3_reach 27 = .ok (.iastore, 1) := by decide +kernel
theorem dX3_reach_28 : decode cX3_reach 28 = .ok (.aload_n 0, 1) := by decide +kernel
theorem dX3_reach_29 : decode cX3_reach 29 = .ok (.getfield 18, 3) := by decide +kernel
theorem dX3_reach_32 : decode cX3_reach 32 = .ok (.iload_n 1, 1) := by decide +kernel
theorem dX3_reach_33 : decode cX3_reach 33 = .ok (.iload_n 3, 1) := by decide +kernel
theorem dX3_reach_34 : decode cX3_reach 34 = .ok (.iastore, 1) := by decide +kernel
theorem dX3_reach_35 : decode cX3_reach 35 = .ok (.aload_n 0, 1) := by decide +kernel
theorem dX3_reach_36 : decode cX3_reach 36 = .ok (.getfield 21, 3) := by decide +kernel
theorem dX3_reach_39 : decode cX3_reach 39 = .ok (.aload_n 0, 1) := by decide +kernel
theorem dX3_reach_40 : decode cX3_reach 40 = .ok (.getfield 38, 3) := by decide +kernel
theorem dX3_reach_43 : decode cX3_reach 43 = .ok (.iload_n 1, 1) := by decide +kernel
theorem dX3_reach_44 : decode cX3_reach 44 = .ok (.iastore, 1) := by decide +kernel
theorem dX3_reach_45 : decode cX3_reach 45 = .ok (.aload_n 0, 1) := by decide +kernel
theorem dX3_reach_46 : decode cX3_reach 46 = .ok (.dup, 1) := by decide +kernel
theorem dX3_reach_47 : decode cX3_reach 47 = .ok (.getfield 38, 3) := by decide +kernel
theorem dX3_reach_50 : decode cX3_reach 50 = .ok (.iconst 1, 1) := by decide +kernel
theorem dX3_reach_51 : decode cX3_reach 51 = .ok (.iadd, 1) := by decide +kernel
theorem dX3_reach_52 : decode cX3_reach 52 = .ok (.putfield 38, 3) := by decide +kernel
theorem dX3_reach_55 : decode cX3_reach 55 = .ok (.return_, 1) := by decide +kernel
theorem dX3_nearest_0 : decode cX3_nearest 0 = .ok (.iconst 0, 1) := by decide +kernel
theorem dX3_nearest_1 : decode cX3_nearest 1 = .ok (.istore_n 3, 1) := by decide +kernel
theorem dX3_nearest_2 : decode cX3_nearest 2 = .ok (.iload_n 3, 1) := by decide +kernel
theorem dX3_nearest_3 : decode cX3_nearest 3 = .ok (.aload_n 0, 1) := by decide +kernel
theorem dX3_nearest_4 : decode cX3_nearest 4 = .ok (.getfield 38, 3) := by decide +kernel
theorem dX3_nearest_7 : decode cX3_nearest 7 = .ok (.if_icmp .ge 35, 3) := by decide +kernel
theorem dX3_nearest_10 : decode cX3_nearest 10 = .ok (.iload_n 3, 1) := by decide +kernel
theorem dX3_nearest_11 : decode cX3_nearest 11 = .ok (.sipush 1024, 3) := by decide +kernel
theorem dX3_nearest_14 : decode cX3_nearest 14 = .ok (.if_icmp .ge 28, 3) := by decide +kernel
theorem dX3_nearest_17 : decode cX3_nearest 17 = .ok (.aload_n 0, 1) := by decide +kernel
theorem dX3_nearest_18 : decode cX3_nearest 18 = .ok (.getfield 21, 3) := by decide +kernel
theorem dX3_nearest_21 : decode cX3_nearest 21 = .ok (.iload_n 3, 1) := by decide +kernel
theorem dX3_nearest_22 : decode cX3_nearest 22 = .ok (.iaload, 1) := by decide +kernel
theorem dX3_nearest_23 : decode cX3_nearest 23 = .ok (.iload_n 1, 1) := by decide +kernel
theorem dX3_nearest_24 : decode cX3_nearest 24 = .ok (.iand, 1) := by decide +kernel
theorem dX3_nearest_25 : decode cX3_nearest 25 = .ok (.iload_n 2, 1) := by decide +kernel
theorem dX3_nearest_26 : decode cX3_nearest 26 = .ok (.if_icmp .ne 10, 3) := by decide +kernel
theorem dX3_nearest_29 : decode cX3_nearest 29 = .ok (.aload_n 0, 1) := by decide +kernel
theorem dX3_nearest_30 : decode cX3_nearest 30 = .ok (.getfield 21, 3) := by decide +kernel
theorem dX3_nearest_33 : decode cX3_nearest 33 = .ok (.iload_n 3, 1) := by decide +kernel
theorem dX3_nearest_34 : decode cX3_nearest 34 = .ok (.iaload, 1) := by decide +kernel
theorem dX3_nearest_35 : decode cX3_nearest 35 = .ok (.ireturn, 1) := by decide +kernel
theorem dX3_nearest_36 : decode cX3_nearest 36 = .ok (.iinc 3 1, 3) := by decide +kernel
theorem dX3_nearest_39 : decode cX3_nearest 39 = .ok (.goto (-37), 3) := by decide +kernel
theorem dX3_nearest_42 : decode cX3_nearest 42 = .ok (.bipush (-9), 2) := by decide +kernel
theorem dX3_nearest_44 : decode cX3_nearest 44 = .ok (.ireturn, 1) := by decide +kernel
theorem dX3_moved_0 : decode cX3_moved 0 = .ok (.iconst 0, 1) := by decide +kernel
theorem dX3_moved_1 : decode cX3_moved 1 = .ok (.istore_n 2, 1) := by decide +kernel
theorem dX3_moved_2 : decode cX3_moved 2 = .ok (.iconst 0, 1) := by decide +kernel
theorem dX3_moved_3 : decode cX3_moved 3 = .ok (.istore_n 3, 1) := by decide +kernel
theorem dX3_moved_4 : decode cX3_moved 4 = .ok (.iload_n 3, 1) := by decide +kernel
theorem dX3_moved_5 : decode cX3_moved 5 = .ok (.aload_n 0, 1) := by decide +kernel
theorem dX3_moved_6 : decode cX3_moved 6 = .ok (.getfield 38, 3) := by decide +kernel
theorem dX3_moved_9 : decode cX3_moved 9 = .ok (.if_icmp .ge 30, 3) := by decide +kernel
theorem dX3_moved_12 : decode cX3_moved 12 = .ok (.iload_n 3, 1) := by decide +kernel
theorem dX3_moved_13 : decode cX3_moved 13 = .ok (.sipush 1024, 3) := by decide +kernel
theorem dX3_moved_16 : decode cX3_moved 16 = .ok (.if_icmp .ge 23, 3) := by decide +kernel
theorem dX3_moved_19 : decode cX3_moved 19 = .ok (.iload_n 2, 1) := by decide +kernel
theorem dX3_moved_20 : decode cX3_moved 20 = .ok (.aload_n 0, 1) := by decide +kernel
theorem dX3_moved_21 : decode cX3_moved 21 = .ok (.getfield 21, 3) := by decide +kernel
theorem dX3_moved_24 : decode cX3_moved 24 = .ok (.iload_n 3, 1) := by decide +kernel
theorem dX3_moved_25 : decode cX3_moved 25 = .ok (.iaload, 1) := by decide +kernel
theorem dX3_moved_26 : decode cX3_moved 26 = .ok (.bipush 64, 2) := by decide +kernel
theorem dX3_moved_28 : decode cX3_moved 28 = .ok (.irem, 1) := by decide +kernel
theorem dX3_moved_29 : decode cX3_moved 29 = .ok (.iload_n 1, 1) := by decide +kernel
theorem dX3_moved_30 : decode cX3_moved 30 = .ok (.ixor, 1) := by decide +kernel
theorem dX3_moved_31 : decode cX3_moved 31 = .ok (.ior, 1) := by decide +kernel
theorem dX3_moved_32 : decode cX3_moved 32 = .ok (.istore_n 2, 1) := by decide +kernel
theorem dX3_moved_33 : decode cX3_moved 33 = .ok (.iinc 3 1, 3) := by decide +kernel
theorem dX3_moved_36 : decode cX3_moved 36 = .ok (.goto (-32), 3) := by decide +kernel
theorem dX3_moved_39 : decode cX3_moved 39 = .ok (.iload_n 2, 1) := by decide +kernel
theorem dX3_moved_40 : decode cX3_moved 40 = .ok (.ireturn, 1) := by decide +kernel
set_option maxRecDepth 20000 in
theorem ggX3_paired_J7_fill_53178 : GoodIn wsX3_paired wsJ7_fill_53178 := goodIn_r _ [6] (by rfl) (by decide +kernel)
set_option maxRecDepth 20000 in
theorem gX3_paired_J7_fill_53178 : GoodIn wsX3_paired (va_wsS RX3 32 yJ7_fill_53178 wsJ7_fill_53178) := goodIn_app (goodIn_of _ (by decide +kernel)) ggX3_paired_J7_fill_53178
set_option maxRecDepth 20000 in
theorem ggX3_paired_X3_join : GoodIn wsX3_paired wsX3_join := goodIn_r _ [11, 2, 1, 12, 13, 14, 10, 15, 16, 17, 18, 19, 20, 21, 22, 23, 24, 32, 33, 34, 35, 36, 37, 38, 39] (by rfl) (by decide +kernel)
set_option maxRecDepth 20000 in
theorem gX3_paired_X3_join : GoodIn wsX3_paired (wsV RX3 64 RX3 yX3_join wsX3_join) := goodIn_app (goodIn_of _ (by decide +kernel)) ggX3_paired_X3_join
set_option maxRecDepth 20000 in
theorem ggX3_paired_J6_bitCount_0f7a4 : GoodIn wsX3_paired wsJ6_bitCount_0f7a4 := goodIn_r _ [28, 29, 30, 31] (by rfl) (by decide +kernel)
set_option maxRecDepth 20000 in
theorem gX3_paired_J6_bitCount_0f7a4 : GoodIn wsX3_paired (va_wsS RX3 68 yJ6_bitCount_0f7a4 wsJ6_bitCount_0f7a4) := goodIn_app (goodIn_of _ (by decide +kernel)) ggX3_paired_J6_bitCount_0f7a4
theorem dX3_paired_0 : decode cX3_paired 0 = .ok (.aload_n 0, 1) := by decide +kernel
theorem dX3_paired_1 : decode cX3_paired 1 = .ok (.getfield 24, 3) := by decide +kernel
theorem dX3_paired_4 : decode cX3_paired 4 = .ok (.iconst 0, 1) := by decide +kernel
theorem dX3_paired_5 : decode cX3_paired 5 = .ok (.invokestatic 32, 3) := by decide +kernel
theorem dX3_paired_8 : decode cX3_paired 8 = .ok (.aload_n 0, 1) := by decide +kernel
theorem dX3_paired_9 : decode cX3_paired 9 = .ok (.getfield 24, 3) := by decide +kernel
theorem dX3_paired_12 : decode cX3_paired 12 = .ok (.iconst 0, 1) := by decide +kernel
theorem dX3_paired_13 : decode cX3_paired 13 = .ok (.iconst 1, 1) := by decide +kernel
theorem dX3_paired_14 : decode cX3_paired 14 = .ok (.iastore, 1) := by decide +kernel
theorem dX3_paired_15 : decode cX3_paired 15 = .ok (.iconst 0, 1) := by decide +kernel
theorem dX3_paired_16 : decode cX3_paired 16 = .ok (.istore 4, 2) := by decide +kernel
theorem dX3_paired_18 : decode cX3_paired 18 = .ok (.iconst 0, 1) := by decide +kernel
theorem dX3_paired_19 : decode cX3_paired 19 = .ok (.istore 5, 2) := by decide +kernel
theorem dX3_paired_21 : decode cX3_paired 21 = .ok (.iload 5, 2) := by decide +kernel
theorem dX3_paired_23 : decode cX3_paired 23 = .ok (.iconst 1, 1) := by decide +kernel
theorem dX3_paired_24 : decode cX3_paired 24 = .ok (.aload_n 0, 1) := by decide +kernel
theorem dX3_paired_25 : decode cX3_paired 25 = .ok (.getfield 46, 3) := by decide +kernel
theorem dX3_paired_28 : decode cX3_paired 28 = .ok (.ishl, 1) := by decide +kernel
theorem dX3_paired_29 : decode cX3_paired 29 = .ok (.if_icmp .ge 50, 3) := by decide +kernel
theorem dX3_paired_32 : decode cX3_paired 32 = .ok (.aload_n 0, 1) := by decide +kernel
theorem dX3_paired_33 : decode cX3_paired 33 = .ok (.getfield 24, 3) := by decide +kernel
theorem dX3_paired_36 : decode cX3_paired 36 = .ok (.iload 5, 2) := by decide +kernel
theorem dX3_paired_38 : decode cX3_paired 38 = .ok (.iaload, 1) := by decide +kernel
theorem dX3_paired_39 : decode cX3_paired 39 = .ok (.ifCond .eq 34, 3) := by decide +kernel
theorem dX3_paired_42 : decode cX3_paired 42 = .ok (.aload_n 0, 1) := by decide +kernel
theorem dX3_paired_43 : decode cX3_paired 43 = .ok (.iload 5, 2) := by decide +kernel
theorem dX3_paired_45 : decode cX3_paired 45 = .ok (.iload_n 1, 1) := by decide +kernel
theorem dX3_paired_46 : decode cX3_paired 46 = .ok (.iload_n 2, 1) := by decide +kernel
theorem dX3_paired_47 : decode cX3_paired 47 = .ok (.iload_n 3, 1) := by decide +kernel
theorem dX3_paired_48 : decode cX3_paired 48 = .ok (.invokevirtual 64, 3) := by decide +kernel
theorem dX3_paired_51 : decode cX3_paired 51 = .ok (.iload 5, 2) := by decide +kernel
theorem dX3_paired_53 : decode cX3_paired 53 = .ok (.invokestatic 68, 3) := by decide +kernel
theorem dX3_paired_56 : decode cX3_paired 56 = .ok (.iload 4, 2) := by decide +kernel
theorem dX3_paired_58 : decode cX3_paired 58 = .ok (.invokestatic 68, 3) := by decide +kernel
theorem dX3_paired_61 : decode cX3_paired 61 = .ok (.if_icmp .le 8, 3) := by decide +kernel
theorem dX3_paired_64 : decode cX3_paired 64 = .ok (.iload 5, 2) := by decide +kernel
theorem dX3_paired_66 : decode cX3_paired 66 = .ok (.goto 5, 3) := by decide +kernel
theorem dX3_paired_69 : decode cX3_paired 69 = .ok (.iload 4, 2) := by decide +kernel
theorem dX3_paired_71 : decode cX3_paired 71 = .ok (.istore 4, 2) := by decide +kernel
theorem dX3_paired_73 : decode cX3_paired 73 = .ok (.iinc 5 1, 3) := by decide +kernel
theorem dX3_paired_76 : decode cX3_paired 76 = .ok (.goto (-55), 3) := by decide +kernel
theorem dX3_paired_79 : decode cX3_paired 79 = .ok (.iload 4, 2) := by decide +kernel
theorem dX3_paired_81 : decode cX3_paired 81 = .ok (.ireturn, 1) := by decide +kernel
set_option maxRecDepth 20000 in
theorem ggX3_join_X3_areTogether : GoodIn wsX3_join wsX3_areTogether := goodIn_r _ [7] (by rfl) (by decide +kernel)
set_option maxRecDepth 20000 in
theorem gX3_join_X3_areTogether : GoodIn wsX3_join (va_wsS RX3 49 yX3_areTogether wsX3_areTogether) := goodIn_app (goodIn_of _ (by decide +kernel)) ggX3_join_X3_areTogether
set_option maxRecDepth 20000 in
theorem ggX3_join_X3_stonesAt : GoodIn wsX3_join wsX3_stonesAt := goodIn_r _ [10] (by rfl) (by decide +kernel)
set_option maxRecDepth 20000 in
theorem gX3_join_X3_stonesAt : GoodIn wsX3_join (va_wsS RX3 53 yX3_stonesAt wsX3_stonesAt) := goodIn_app (goodIn_of _ (by decide +kernel)) ggX3_join_X3_stonesAt
set_option maxRecDepth 20000 in
theorem ggX3_join_X3_joined : GoodIn wsX3_join wsX3_joined := goodIn_r _ [13, 14, 15, 6, 16] (by rfl) (by decide +kernel)
set_option maxRecDepth 20000 in
theorem gX3_join_X3_joined : GoodIn wsX3_join (va_wsS RX3 74 yX3_joined wsX3_joined) := goodIn_app (goodIn_of _ (by decide +kernel)) ggX3_join_X3_joined
theorem dX3_join_0 : decode cX3_join 0 = .ok (.iconst 0, 1) := by decide +kernel
theorem dX3_join_1 : decode cX3_join 1 = .ok (.istore 5, 2) := by decide +kernel
theorem dX3_join_3 : decode cX3_join 3 = .ok (.iload 5, 2) := by decide +kernel
theorem dX3_join_5 : decode cX3_join 5 = .ok (.aload_n 0, 1) := by decide +kernel
theorem dX3_join_6 : decode cX3_join 6 = .ok (.getfield 46, 3) := by decide +kernel
theorem dX3_join_9 : decode cX3_join 9 = .ok (.if_icmp .ge 106, 3) := by decide +kernel
theorem dX3_join_12 : decode cX3_join 12 = .ok (.iload 5, 2) := by decide +kernel
theorem dX3_join_14 : decode cX3_join 14 = .ok (.iconst 1, 1) := by decide +kernel
theorem dX3_join_15 : decode cX3_join 15 = .ok (.iadd, 1) := by decide +kernel
theorem dX3_join_16 : decode cX3_join 16 = .ok (.istore 6, 2) := by decide +kernel
theorem dX3_join_18 : decode cX3_join 18 = .ok (.iload 6, 2) := by decide +kernel
theorem dX3_join_20 : decode cX3_join 20 = .ok (.aload_n 0, 1) := by decide +kernel
theorem dX3_join_21 : decode cX3_join 21 = .ok (.getfield 46, 3) := by decide +kernel
theorem dX3_join_24 : decode cX3_join 24 = .ok (.if_icmp .ge 85, 3) := by decide +kernel
theorem dX3_join_27 : decode cX3_join 27 = .ok (.iconst 1, 1) := by decide +kernel
theorem dX3_join_28 : decode cX3_join 28 = .ok (.iload 5, 2) := by decide +kernel
theorem dX3_join_30 : decode cX3_join 30 = .ok (.ishl, 1) := by decide +kernel
theorem dX3_join_31 : decode cX3_join 31 = .ok (.iconst 1, 1) := by decide +kernel
theorem dX3_join_32 : decode cX3_join 32 = .ok (.iload 6, 2) := by decide +kernel
theorem dX3_join_34 : decode cX3_join 34 = .ok (.ishl, 1) := by decide +kernel
theorem dX3_join_35 : decode cX3_join 35 = .ok (.ior, 1) := by decide +kernel
theorem dX3_join_36 : decode cX3_join 36 = .ok (.istore 7, 2) := by decide +kernel
theorem dX3_join_38 : decode cX3_join 38 = .ok (.iload_n 1, 1) := by decide +kernel
theorem dX3_join_39 : decode cX3_join 39 = .ok (.iload 7, 2) := by decide +kernel
theorem dX3_join_41 : decode cX3_join 41 = .ok (.iand, 1) := by decide +kernel
theorem dX3_join_42 : decode cX3_join 42 = .ok (.ifCond .ne 61, 3) := by decide +kernel
theorem dX3_join_45 : decode cX3_join 45 = .ok (.iload_n 2, 1) := by decide +kernel
theorem dX3_join_46 : decode cX3_join 46 = .ok (.iload 5, 2) := by decide +kernel
theorem dX3_join_48 : decode cX3_join 48 = .ok (.iload 6, 2) := by decide +kernel
theorem dX3_join_50 : decode cX3_join 50 = .ok (.invokestatic 49, 3) := by decide +kernel
theorem dX3_join_53 : decode cX3_join 53 = .ok (.ifCond .eq 50, 3) := by decide +kernel
theorem dX3_join_56 : decode cX3_join 56 = .ok (.iload_n 2, 1) := by decide +kernel
theorem dX3_join_57 : decode cX3_join 57 = .ok (.iload 5, 2) := by decide +kernel
theorem dX3_join_59 : decode cX3_join 59 = .ok (.iload_n 3, 1) := by decide +kernel
theorem dX3_join_60 : decode cX3_join 60 = .ok (.iload 4, 2) := by decide +kernel
theorem dX3_join_62 : decode cX3_join 62 = .ok (.invokestatic 53, 3) := by decide +kernel
theorem dX3_join_65 : decode cX3_join 65 = .ok (.istore 8, 2) := by decide +kernel
theorem dX3_join_67 : decode cX3_join 67 = .ok (.aload_n 0, 1) := by decide +kernel
theorem dX3_join_68 : decode cX3_join 68 = .ok (.getfield 24, 3) := by decide +kernel
theorem dX3_join_71 : decode cX3_join 71 = .ok (.iload_n 1, 1) := by decide +kernel
theorem dX3_join_72 : decode cX3_join 72 = .ok (.iload 7, 2) := by decide +kernel
theorem dX3_join_74 : decode cX3_join 74 = .ok (.ior, 1) := by decide +kernel
theorem dX3_join_75 : decode cX3_join 75 = .ok (.dup2, 1) := by decide +kernel
theorem dX3_join_76 : decode cX3_join 76 = .ok (.iaload, 1) := by decide +kernel
theorem dX3_join_77 : decode cX3_join 77 = .ok (.aload_n 0, 1) := by decide +kernel
theorem dX3_join_78 : decode cX3_join 78 = .ok (.getfield 24, 3) := by decide +kernel
theorem dX3_join_81 : decode cX3_join 81 = .ok (.iload_n 1, 1) := by decide +kernel
theorem dX3_join_82 : decode cX3_join 82 = .ok (.iaload, 1) := by decide +kernel
theorem dX3_join_83 : decode cX3_join 83 = .ok (.aload_n 0, 1) := by decide +kernel
theorem dX3_join_84 : decode cX3_join 84 = .ok (.getfield 11, 3) := by decide +kernel
theorem dX3_join_87 : decode cX3_join 87 = .ok (.bipush 6, 2) := by decide +kernel
theorem dX3_join_89 : decode cX3_join 89 = .ok (.iload 5, 2) := by decide +kernel
theorem dX3_join_91 : decode cX3_join 91 = .ok (.imul, 1) := by decide +kernel
theorem dX3_join_92 : decode cX3_join 92 = .ok (.iload 6, 2) := by decide +kernel
theorem dX3_join_94 : decode cX3_join 94 = .ok (.iadd, 1) := by decide +kernel
theorem dX3_join_95 : decode cX3_join 95 = .ok (.iaload, 1) := by decide +kernel
theorem dX3_join_96 : decode cX3_join 96 = .ok (.iload 8, 2) := by decide +kernel
theorem dX3_join_98 : decode cX3_join 98 = .ok (.invokestatic 74, 3) := by decide +kernel
theorem dX3_join_101 : decode cX3_join 101 = .ok (.ior, 1) := by decide +kernel
theorem dX3_join_102 : decode cX3_join 102 = .ok (.iastore, 1) := by decide +kernel
theorem dX3_join_103 : decode cX3_join 103 = .ok (.iinc 6 1, 3) := by decide +kernel
theorem dX3_join_106 : decode cX3_join 106 = .ok (.goto (-88), 3) := by decide +kernel
theorem dX3_join_109 : decode cX3_join 109 = .ok (.iinc 5 1, 3) := by decide +kernel
theorem dX3_join_112 : decode cX3_join 112 = .ok (.goto (-109), 3) := by decide +kernel
theorem dX3_join_115 : decode cX3_join 115 = .ok (.return_, 1) := by decide +kernel
set_option maxRecDepth 20000 in
theorem ggX3_joined_X3_added : GoodIn wsX3_joined wsX3_added := goodIn_r _ [4] (by rfl) (by decide +kernel)
set_option maxRecDepth 20000 in
theorem gX3_joined_X3_added : GoodIn wsX3_joined (va_wsS RX3 78 yX3_added wsX3_added) := goodIn_app (goodIn_of _ (by decide +kernel)) ggX3_joined_X3_added
theorem dX3_joined_0 : decode cX3_joined 0 = .ok (.iconst 0, 1) := by decide +kernel
theorem dX3_joined_1 : decode cX3_joined 1 = .ok (.istore_n 3, 1) := by decide +kernel
theorem dX3_joined_2 : decode cX3_joined 2 = .ok (.iconst 0, 1) := by decide +kernel
theorem dX3_joined_3 : decode cX3_joined 3 = .ok (.istore 4, 2) := by decide +kernel
theorem dX3_joined_5 : decode cX3_joined 5 = .ok (.iload 4, 2) := by decide +kernel
theorem dX3_joined_7 : decode cX3_joined 7 = .ok (.bipush 16, 2) := by decide +kernel
theorem dX3_joined_9 : decode cX3_joined 9 = .ok (.if_icmp .ge 34, 3) := by decide +kernel
theorem dX3_joined_12 : decode cX3_joined 12 = .ok (.iload_n 0, 1) := by decide +kernel
theorem dX3_joined_13 : decode cX3_joined 13 = .ok (.iload 4, 2) := by decide +kernel
theorem dX3_joined_15 : decode cX3_joined 15 = .ok (.ishr, 1) := by decide +kernel
theorem dX3_joined_16 : decode cX3_joined 16 = .ok (.iconst 1, 1) := by decide +kernel
theorem dX3_joined_17 : decode cX3_joined 17 = .ok (.iand, 1) := by decide +kernel
theorem dX3_joined_18 : decode cX3_joined 18 = .ok (.iconst 1, 1) := by decide +kernel
theorem dX3_joined_19 : decode cX3_joined 19 = .ok (.if_icmp .ne 18, 3) := by decide +kernel
theorem dX3_joined_22 : decode cX3_joined 22 = .ok (.iload_n 3, 1) := by decide +kernel
theorem dX3_joined_23 : decode cX3_joined 23 = .ok (.iload 4, 2) := by decide +kernel
theorem dX3_joined_25 : decode cX3_joined 25 = .ok (.iload_n 1, 1) := by decide +kernel
theorem dX3_joined_26 : decode cX3_joined 26 = .ok (.iload_n 2, 1) := by decide +kernel
theorem dX3_joined_27 : decode cX3_joined 27 = .ok (.iload 4, 2) := by decide +kernel
theorem dX3_joined_29 : decode cX3_joined 29 = .ok (.iconst (-1), 1) := by decide +kernel
theorem dX3_joined_30 : decode cX3_joined 30 = .ok (.ixor, 1) := by decide +kernel
theorem dX3_joined_31 : decode cX3_joined 31 = .ok (.iand, 1) := by decide +kernel
theorem dX3_joined_32 : decode cX3_joined 32 = .ok (.invokestatic 78, 3) := by decide +kernel
theorem dX3_joined_35 : decode cX3_joined 35 = .ok (.ior, 1) := by decide +kernel
theorem dX3_joined_36 : decode cX3_joined 36 = .ok (.istore_n 3, 1) := by decide +kernel
theorem dX3_joined_37 : decode cX3_joined 37 = .ok (.iinc 4 1, 3) := by decide +kernel
theorem dX3_joined_40 : decode cX3_joined 40 = .ok (.goto (-35), 3) := by decide +kernel
theorem dX3_joined_43 : decode cX3_joined 43 = .ok (.iload_n 3, 1) := by decide +kernel
theorem dX3_joined_44 : decode cX3_joined 44 = .ok (.ireturn, 1) := by decide +kernel
theorem dX3_added_0 : decode cX3_added 0 = .ok (.iconst 0, 1) := by decide +kernel
theorem dX3_added_1 : decode cX3_added 1 = .ok (.istore_n 3, 1) := by decide +kernel
theorem dX3_added_2 : decode cX3_added 2 = .ok (.iconst 0, 1) := by decide +kernel
theorem dX3_added_3 : decode cX3_added 3 = .ok (.istore 4, 2) := by decide +kernel
theorem dX3_added_5 : decode cX3_added 5 = .ok (.iload 4, 2) := by decide +kernel
theorem dX3_added_7 : decode cX3_added 7 = .ok (.bipush 16, 2) := by decide +kernel
theorem dX3_added_9 : decode cX3_added 9 = .ok (.if_icmp .ge 44, 3) := by decide +kernel
theorem dX3_added_12 : decode cX3_added 12 = .ok (.iload_n 1, 1) := by decide +kernel
theorem dX3_added_13 : decode cX3_added 13 = .ok (.iload 4, 2) := by decide +kernel
theorem dX3_added_15 : decode cX3_added 15 = .ok (.ishr, 1) := by decide +kernel
theorem dX3_added_16 : decode cX3_added 16 = .ok (.ifCond .eq 37, 3) := by decide +kernel
theorem dX3_added_19 : decode cX3_added 19 = .ok (.iload_n 1, 1) := by decide +kernel
theorem dX3_added_20 : decode cX3_added 20 = .ok (.iload 4, 2) := by decide +kernel
theorem dX3_added_22 : decode cX3_added 22 = .ok (.ishr, 1) := by decide +kernel
theorem dX3_added_23 : decode cX3_added 23 = .ok (.iconst 1, 1) := by decide +kernel
theorem dX3_added_24 : decode cX3_added 24 = .ok (.iand, 1) := by decide +kernel
theorem dX3_added_25 : decode cX3_added 25 = .ok (.iconst 1, 1) := by decide +kernel
theorem dX3_added_26 : decode cX3_added 26 = .ok (.if_icmp .ne 21, 3) := by decide +kernel
theorem dX3_added_29 : decode cX3_added 29 = .ok (.iload 4, 2) := by decide +kernel
theorem dX3_added_31 : decode cX3_added 31 = .ok (.iload_n 2, 1) := by decide +kernel
theorem dX3_added_32 : decode cX3_added 32 = .ok (.iconst (-1), 1) := by decide +kernel
theorem dX3_added_33 : decode cX3_added 33 = .ok (.ixor, 1) := by decide +kernel
theorem dX3_added_34 : decode cX3_added 34 = .ok (.iand, 1) := by decide +kernel
theorem dX3_added_35 : decode cX3_added 35 = .ok (.ifCond .ne 12, 3) := by decide +kernel
theorem dX3_added_38 : decode cX3_added 38 = .ok (.iload_n 3, 1) := by decide +kernel
theorem dX3_added_39 : decode cX3_added 39 = .ok (.iconst 1, 1) := by decide +kernel
theorem dX3_added_40 : decode cX3_added 40 = .ok (.iload_n 0, 1) := by decide +kernel
theorem dX3_added_41 : decode cX3_added 41 = .ok (.iload 4, 2) := by decide +kernel
theorem dX3_added_43 : decode cX3_added 43 = .ok (.ior, 1) := by decide +kernel
theorem dX3_added_44 : decode cX3_added 44 = .ok (.ishl, 1) := by decide +kernel
theorem dX3_added_45 : decode cX3_added 45 = .ok (.ior, 1) := by decide +kernel
theorem dX3_added_46 : decode cX3_added 46 = .ok (.istore_n 3, 1) := by decide +kernel
theorem dX3_added_47 : decode cX3_added 47 = .ok (.iinc 4 1, 3) := by decide +kernel
theorem dX3_added_50 : decode cX3_added 50 = .ok (.goto (-45), 3) := by decide +kernel
theorem dX3_added_53 : decode cX3_added 53 = .ok (.iload_n 3, 1) := by decide +kernel
theorem dX3_added_54 : decode cX3_added 54 = .ok (.ireturn, 1) := by decide +kernel
set_option maxRecDepth 20000 in
theorem ggX3_byTurns_J6_bitCount_0f7a4 : GoodIn wsX3_byTurns wsJ6_bitCount_0f7a4 := goodIn_r _ [5, 6, 7, 8] (by rfl) (by decide +kernel)
set_option maxRecDepth 20000 in
theorem gX3_byTurns_J6_bitCount_0f7a4 : GoodIn wsX3_byTurns (va_wsS RX3 68 yJ6_bitCount_0f7a4 wsJ6_bitCount_0f7a4) := goodIn_app (goodIn_of _ (by decide +kernel)) ggX3_byTurns_J6_bitCount_0f7a4
set_option maxRecDepth 20000 in
theorem ggX3_byTurns_X3_wanted : GoodIn wsX3_byTurns wsX3_wanted := goodIn_r _ [13, 14, 15, 16, 17, 18, 19, 20, 21, 22, 23, 24, 12, 25, 26, 27, 28, 29, 30, 31, 32, 33] (by rfl) (by decide +kernel)
set_option maxRecDepth 20000 in
theorem gX3_byTurns_X3_wanted : GoodIn wsX3_byTurns (wsV RX3 81 RX3 yX3_wanted wsX3_wanted) := goodIn_app (goodIn_of _ (by decide +kernel)) ggX3_byTurns_X3_wanted
theorem dX3_byTurns_0 : decode cX3_byTurns 0 = .ok (.iconst 0, 1) := by decide +kernel
theorem dX3_byTurns_1 : decode cX3_byTurns 1 = .ok (.istore_n 3, 1) := by decide +kernel
theorem dX3_byTurns_2 : decode cX3_byTurns 2 = .ok (.iload_n 3, 1) := by decide +kernel
theorem dX3_byTurns_3 : decode cX3_byTurns 3 = .ok (.bipush 64, 2) := by decide +kernel
theorem dX3_byTurns_5 : decode cX3_byTurns 5 = .ok (.if_icmp .ge 21, 3) := by decide +kernel
theorem dX3_byTurns_8 : decode cX3_byTurns 8 = .ok (.aload_n 0, 1) := by decide +kernel
theorem dX3_byTurns_9 : decode cX3_byTurns 9 = .ok (.getfield 29, 3) := by decide +kernel
theorem dX3_byTurns_12 : decode cX3_byTurns 12 = .ok (.iconst 0, 1) := by decide +kernel
theorem dX3_byTurns_13 : decode cX3_byTurns 13 = .ok (.aaload, 1) := by decide +kernel
theorem dX3_byTurns_14 : decode cX3_byTurns 14 = .ok (.iload_n 3, 1) := by decide +kernel
theorem dX3_byTurns_15 : decode cX3_byTurns 15 = .ok (.iload_n 3, 1) := by decide +kernel
theorem dX3_byTurns_16 : decode cX3_byTurns 16 = .ok (.invokestatic 68, 3) := by decide +kernel
theorem dX3_byTurns_19 : decode cX3_byTurns 19 = .ok (.iastore, 1) := by decide +kernel
theorem dX3_byTurns_20 : decode cX3_byTurns 20 = .ok (.iinc 3 1, 3) := by decide +kernel
theorem dX3_byTurns_23 : decode cX3_byTurns 23 = .ok (.goto (-21), 3) := by decide +kernel
theorem dX3_byTurns_26 : decode cX3_byTurns 26 = .ok (.iconst 1, 1) := by decide +kernel
theorem dX3_byTurns_27 : decode cX3_byTurns 27 = .ok (.istore_n 3, 1) := by decide +kernel
theorem dX3_byTurns_28 : decode cX3_byTurns 28 = .ok (.iload_n 3, 1) := by decide +kernel
theorem dX3_byTurns_29 : decode cX3_byTurns 29 = .ok (.iload_n 1, 1) := by decide +kernel
theorem dX3_byTurns_30 : decode cX3_byTurns 30 = .ok (.if_icmp .gt 68, 3) := by decide +kernel
theorem dX3_byTurns_33 : decode cX3_byTurns 33 = .ok (.iload_n 3, 1) := by decide +kernel
theorem dX3_byTurns_34 : decode cX3_byTurns 34 = .ok (.aload_n 0, 1) := by decide +kernel
theorem dX3_byTurns_35 : decode cX3_byTurns 35 = .ok (.getfield 29, 3) := by decide +kernel
theorem dX3_byTurns_38 : decode cX3_byTurns 38 = .ok (.arraylength, 1) := by decide +kernel
theorem dX3_byTurns_39 : decode cX3_byTurns 39 = .ok (.if_icmp .ge 59, 3) := by decide +kernel
theorem dX3_byTurns_42 : decode cX3_byTurns 42 = .ok (.iconst 0, 1) := by decide +kernel
theorem dX3_byTurns_43 : decode cX3_byTurns 43 = .ok (.istore 4, 2) := by decide +kernel
theorem dX3_byTurns_45 : decode cX3_byTurns 45 = .ok (.iload 4, 2) := by decide +kernel
theorem dX3_byTurns_47 : decode cX3_byTurns 47 = .ok (.bipush 64, 2) := by decide +kernel
theorem dX3_byTurns_49 : decode cX3_byTurns 49 = .ok (.if_icmp .ge 43, 3) := by decide +kernel
theorem dX3_byTurns_52 : decode cX3_byTurns 52 = .ok (.aload_n 0, 1) := by decide +kernel
theorem dX3_byTurns_53 : decode cX3_byTurns 53 = .ok (.getfield 29, 3) := by decide +kernel
theorem dX3_byTurns_56 : decode cX3_byTurns 56 = .ok (.iload_n 3, 1) := by decide +kernel
theorem dX3_byTurns_57 : decode cX3_byTurns 57 = .ok (.aaload, 1) := by decide +kernel
theorem dX3_byTurns_58 : decode cX3_byTurns 58 = .ok (.iload 4, 2) := by decide +kernel
theorem dX3_byTurns_60 : decode cX3_byTurns 60 = .ok (.aload_n 0, 1) := by decide +kernel
theorem dX3_byTurns_61 : decode cX3_byTurns 61 = .ok (.aload_n 0, 1) := by decide +kernel
theorem dX3_byTurns_62 : decode cX3_byTurns 62 = .ok (.getfield 29, 3) := by decide +kernel
theorem dX3_byTurns_65 : decode cX3_byTurns 65 = .ok (.iload_n 3, 1) := by decide +kernel
theorem dX3_byTurns_66 : decode cX3_byTurns 66 = .ok (.iconst 1, 1) := by decide +kernel
theorem dX3_byTurns_67 : decode cX3_byTurns 67 = .ok (.isub, 1) := by decide +kernel
theorem dX3_byTurns_68 : decode cX3_byTurns 68 = .ok (.aaload, 1) := by decide +kernel
theorem dX3_byTurns_69 : decode cX3_byTurns 69 = .ok (.iload 4, 2) := by decide +kernel
theorem dX3_byTurns_71 : decode cX3_byTurns 71 = .ok (.iload_n 3, 1) := by decide +kernel
theorem dX3_byTurns_72 : decode cX3_byTurns 72 = .ok (.iconst 2, 1) := by decide +kernel
theorem dX3_byTurns_73 : decode cX3_byTurns 73 = .ok (.irem, 1) := by decide +kernel
theorem dX3_byTurns_74 : decode cX3_byTurns 74 = .ok (.ifCond .ne 7, 3) := by decide +kernel
theorem dX3_byTurns_77 : decode cX3_byTurns 77 = .ok (.iconst 1, 1) := by decide +kernel
theorem dX3_byTurns_78 : decode cX3_byTurns 78 = .ok (.goto 4, 3) := by decide +kernel
theorem dX3_byTurns_81 : decode cX3_byTurns 81 = .ok (.iconst 0, 1) := by decide +kernel
theorem dX3_byTurns_82 : decode cX3_byTurns 82 = .ok (.invokevirtual 81, 3) := by decide +kernel
theorem dX3_byTurns_85 : decode cX3_byTurns 85 = .ok (.iastore, 1) := by decide +kernel
theorem dX3_byTurns_86 : decode cX3_byTurns 86 = .ok (.iinc 4 1, 3) := by decide +kernel
theorem dX3_byTurns_89 : decode cX3_byTurns 89 = .ok (.goto (-44), 3) := by decide +kernel
theorem dX3_byTurns_92 : decode cX3_byTurns 92 = .ok (.iinc 3 1, 3) := by decide +kernel
theorem dX3_byTurns_95 : decode cX3_byTurns 95 = .ok (.goto (-67), 3) := by decide +kernel
theorem dX3_byTurns_98 : decode cX3_byTurns 98 = .ok (.aload_n 0, 1) := by decide +kernel
theorem dX3_byTurns_99 : decode cX3_byTurns 99 = .ok (.getfield 29, 3) := by decide +kernel
theorem dX3_byTurns_102 : decode cX3_byTurns 102 = .ok (.iload_n 1, 1) := by decide +kernel
theorem dX3_byTurns_103 : decode cX3_byTurns 103 = .ok (.aaload, 1) := by decide +kernel
theorem dX3_byTurns_104 : decode cX3_byTurns 104 = .ok (.iload_n 2, 1) := by decide +kernel
theorem dX3_byTurns_105 : decode cX3_byTurns 105 = .ok (.iaload, 1) := by decide +kernel
theorem dX3_byTurns_106 : decode cX3_byTurns 106 = .ok (.ireturn, 1) := by decide +kernel
set_option maxRecDepth 20000 in
theorem ggX3_wanted_X3_areTogether : GoodIn wsX3_wanted wsX3_areTogether := goodIn_r _ [13] (by rfl) (by decide +kernel)
set_option maxRecDepth 20000 in
theorem gX3_wanted_X3_areTogether : GoodIn wsX3_wanted (va_wsS RX3 49 yX3_areTogether wsX3_areTogether) := goodIn_app (goodIn_of _ (by decide +kernel)) ggX3_wanted_X3_areTogether
theorem dX3_wanted_0 : decode cX3_wanted 0 = .ok (.aload_n 1, 1) := by decide +kernel
theorem dX3_wanted_1 : decode cX3_wanted 1 = .ok (.iload_n 2, 1) := by decide +kernel
theorem dX3_wanted_2 : decode cX3_wanted 2 = .ok (.iaload, 1) := by decide +kernel
theorem dX3_wanted_3 : decode cX3_wanted 3 = .ok (.istore 4, 2) := by decide +kernel
theorem dX3_wanted_5 : decode cX3_wanted 5 = .ok (.iconst 0, 1) := by decide +kernel
theorem dX3_wanted_6 : decode cX3_wanted 6 = .ok (.istore 5, 2) := by decide +kernel
theorem dX3_wanted_8 : decode cX3_wanted 8 = .ok (.iload 5, 2) := by decide +kernel
theorem dX3_wanted_10 : decode cX3_wanted 10 = .ok (.aload_n 0, 1) := by decide +kernel
theorem dX3_wanted_11 : decode cX3_wanted 11 = .ok (.getfield 46, 3) := by decide +kernel
theorem dX3_wanted_14 : decode cX3_wanted 14 = .ok (.if_icmp .ge 98, 3) := by decide +kernel
theorem dX3_wanted_17 : decode cX3_wanted 17 = .ok (.iload 5, 2) := by decide +kernel
theorem dX3_wanted_19 : decode cX3_wanted 19 = .ok (.iconst 1, 1) := by decide +kernel
theorem dX3_wanted_20 : decode cX3_wanted 20 = .ok (.iadd, 1) := by decide +kernel
theorem dX3_wanted_21 : decode cX3_wanted 21 = .ok (.istore 6, 2) := by decide +kernel
theorem dX3_wanted_23 : decode cX3_wanted 23 = .ok (.iload 6, 2) := by decide +kernel
theorem dX3_wanted_25 : decode cX3_wanted 25 = .ok (.aload_n 0, 1) := by decide +kernel
theorem dX3_wanted_26 : decode cX3_wanted 26 = .ok (.getfield 46, 3) := by decide +kernel
theorem dX3_wanted_29 : decode cX3_wanted 29 = .ok (.if_icmp .ge 77, 3) := by decide +kernel
theorem dX3_wanted_32 : decode cX3_wanted 32 = .ok (.iload_n 2, 1) := by decide +kernel
theorem dX3_wanted_33 : decode cX3_wanted 33 = .ok (.iload 5, 2) := by decide +kernel
theorem dX3_wanted_35 : decode cX3_wanted 35 = .ok (.iload 6, 2) := by decide +kernel
theorem dX3_wanted_37 : decode cX3_wanted 37 = .ok (.invokestatic 49, 3) := by decide +kernel
theorem dX3_wanted_40 : decode cX3_wanted 40 = .ok (.ifCond .eq 60, 3) := by decide +kernel
theorem dX3_wanted_43 : decode cX3_wanted 43 = .ok (.aload_n 0, 1) := by decide +kernel
theorem dX3_wanted_44 : decode cX3_wanted 44 = .ok (.getfield 11, 3) := by decide +kernel
theorem dX3_wanted_47 : decode cX3_wanted 47 = .ok (.bipush 6, 2) := by decide +kernel
theorem dX3_wanted_49 : decode cX3_wanted 49 = .ok (.iload 5, 2) := by decide +kernel
theorem dX3_wanted_51 : decode cX3_wanted 51 = .ok (.imul, 1) := by decide +kernel
theorem dX3_wanted_52 : decode cX3_wanted 52 = .ok (.iload 6, 2) := by decide +kernel
theorem dX3_wanted_54 : decode cX3_wanted 54 = .ok (.iadd, 1) := by decide +kernel
theorem dX3_wanted_55 : decode cX3_wanted 55 = .ok (.iaload, 1) := by decide +kernel
theorem dX3_wanted_56 : decode cX3_wanted 56 = .ok (.iconst 1, 1) := by decide +kernel
theorem dX3_wanted_57 : decode cX3_wanted 57 = .ok (.iand, 1) := by decide +kernel
theorem dX3_wanted_58 : decode cX3_wanted 58 = .ok (.iconst 1, 1) := by decide +kernel
theorem dX3_wanted_59 : decode cX3_wanted 59 = .ok (.if_icmp .ne 41, 3) := by decide +kernel
theorem dX3_wanted_62 : decode cX3_wanted 62 = .ok (.aload_n 1, 1) := by decide +kernel
theorem dX3_wanted_63 : decode cX3_wanted 63 = .ok (.iload_n 2, 1) := by decide +kernel
theorem dX3_wanted_64 : decode cX3_wanted 64 = .ok (.iconst 1, 1) := by decide +kernel
theorem dX3_wanted_65 : decode cX3_wanted 65 = .ok (.iload 5, 2) := by decide +kernel
theorem dX3_wanted_67 : decode cX3_wanted 67 = .ok (.ishl, 1) := by decide +kernel
theorem dX3_wanted_68 : decode cX3_wanted 68 = .ok (.iconst 1, 1) := by decide +kernel
theorem dX3_wanted_69 : decode cX3_wanted 69 = .ok (.iload 6, 2) := by decide +kernel
theorem dX3_wanted_71 : decode cX3_wanted 71 = .ok (.ishl, 1) := by decide +kernel
theorem dX3_wanted_72 : decode cX3_wanted 72 = .ok (.ior, 1) := by decide +kernel
theorem dX3_wanted_73 : decode cX3_wanted 73 = .ok (.ixor, 1) := by decide +kernel
theorem dX3_wanted_74 : decode cX3_wanted 74 = .ok (.iaload, 1) := by decide +kernel
theorem dX3_wanted_75 : decode cX3_wanted 75 = .ok (.istore 7, 2) := by decide +kernel
theorem dX3_wanted_77 : decode cX3_wanted 77 = .ok (.iload_n 3, 1) := by decide +kernel
theorem dX3_wanted_78 : decode cX3_wanted 78 = .ok (.ifCond .eq 13, 3) := by decide +kernel
theorem dX3_wanted_81 : decode cX3_wanted 81 = .ok (.iload 4, 2) := by decide +kernel
theorem dX3_wanted_83 : decode cX3_wanted 83 = .ok (.iload 7, 2) := by decide +kernel
theorem dX3_wanted_85 : decode cX3_wanted 85 = .ok (.invokestatic 85, 3) := by decide +kernel
theorem dX3_wanted_88 : decode cX3_wanted 88 = .ok (.goto 10, 3) := by decide +kernel
theorem dX3_wanted_91 : decode cX3_wanted 91 = .ok (.iload 4, 2) := by decide +kernel
theorem dX3_wanted_93 : decode cX3_wanted 93 = .ok (.iload 7, 2) := by decide +kernel
theorem dX3_wanted_95 : decode cX3_wanted 95 = .ok (.invokestatic 91, 3) := by decide +kernel
theorem dX3_wanted_98 : decode cX3_wanted 98 = .ok (.istore 4, 2) := by decide +kernel
theorem dX3_wanted_100 : decode cX3_wanted 100 = .ok (.iinc 6 1, 3) := by decide +kernel
theorem dX3_wanted_103 : decode cX3_wanted 103 = .ok (.goto (-80), 3) := by decide +kernel
theorem dX3_wanted_106 : decode cX3_wanted 106 = .ok (.iinc 5 1, 3) := by decide +kernel
theorem dX3_wanted_109 : decode cX3_wanted 109 = .ok (.goto (-101), 3) := by decide +kernel
theorem dX3_wanted_112 : decode cX3_wanted 112 = .ok (.iload 4, 2) := by decide +kernel
theorem dX3_wanted_114 : decode cX3_wanted 114 = .ok (.ireturn, 1) := by decide +kernel
set_option maxRecDepth 20000 in
theorem ggX4_init_X2_init : GoodIn wsX4_init wsX2_init := goodIn_r _ [30, 31, 2, 3, 32, 33, 34, 35, 20, 36, 37, 38, 39, 40, 41, 66, 67, 68, 69, 70] (by rfl) (by decide +kernel)
set_option maxRecDepth 20000 in
theorem gX4_init_X2_init : GoodIn wsX4_init (wsX2_init) := ggX4_init_X2_init
set_option maxRecDepth 20000 in
theorem ggX4_init_X0_init : GoodIn wsX4_init wsX0_init := goodIn_r _ [43, 44, 2, 3, 20, 45, 46, 47, 48, 84, 85, 86, 87, 88] (by rfl) (by decide +kernel)
set_option maxRecDepth 20000 in
theorem gX4_init_X0_init_n23 : GoodIn wsX4_init (wsX0_init) := ggX4_init_X0_init
set_option maxRecDepth 20000 in
theorem ggX4_init_X3_init : GoodIn wsX4_init wsX3_init := goodIn_r _ [50, 51, 2, 3, 20, 52, 53, 54, 55, 56, 57, 58, 89, 90, 91, 92, 93, 94, 95, 96] (by rfl) (by decide +kernel)
set_option maxRecDepth 20000 in
theorem gX4_init_X3_init_n38 : GoodIn wsX4_init (wsX3_init) := ggX4_init_X3_init
set_option maxRecDepth 20000 in
theorem ggX4_init_X1_init : GoodIn wsX4_init wsX1_init := goodIn_r _ [60, 61, 2, 3, 20, 62, 63, 64, 65, 97, 98, 99, 100, 101, 102, 103, 104, 105] (by rfl) (by decide +kernel)
set_option maxRecDepth 20000 in
theorem gX4_init_X1_init_n49 : GoodIn wsX4_init (wsX1_init) := ggX4_init_X1_init
