theorem dX4_count_0 : decode cX4_count 0 = .ok (.iload_n 1, 1) := by decide +kernel
theorem dX4_count_1 : decode cX4_count 1 = .ok (.tableswitch 170 0 12 #[67, 75, 83, 91, 99, 107, 115, 123, 131, 140, 149, 157, 165], 67) := by decide +kernel
theorem dX4_count_68 : decode cX4_count 68 = .ok (.aload_n 0, 1) := by decide +kernel
theorem dX4_count_69 : decode cX4_count 69 = .ok (.getfield 50, 3) := by decide +kernel
theorem dX4_count_72 : decode cX4_count 72 = .ok (.getfield 115, 3) := by decide +kernel
theorem dX4_count_75 : decode cX4_count 75 = .ok (.ireturn, 1) := by decide +kernel
theorem dX4_count_76 : decode cX4_count 76 = .ok (.aload_n 0, 1) := by decide +kernel
theorem dX4_count_77 : decode cX4_count 77 = .ok (.getfield 50, 3) := by decide +kernel
theorem dX4_count_80 : decode cX4_count 80 = .ok (.getfield 211, 3) := by decide +kernel
theorem dX4_count_83 : decode cX4_count 83 = .ok (.ireturn, 1) := by decide +kernel
theorem dX4_count_84 : decode cX4_count 84 = .ok (.aload_n 0, 1) := by decide +kernel
theorem dX4_count_85 : decode cX4_count 85 = .ok (.getfield 24, 3) := by decide +kernel
theorem dX4_count_88 : decode cX4_count 88 = .ok (.getfield 112, 3) := by decide +kernel
theorem dX4_count_91 : decode cX4_count 91 = .ok (.ireturn, 1) := by decide +kernel
theorem dX4_count_92 : decode cX4_count 92 = .ok (.aload_n 0, 1) := by decide +kernel
theorem dX4_count_93 : decode cX4_count 93 = .ok (.getfield 24, 3) := by decide +kernel
theorem dX4_count_96 : decode cX4_count 96 = .ok (.invokevirtual 143, 3) := by decide +kernel
theorem dX4_count_99 : decode cX4_count 99 = .ok (.ireturn, 1) := by decide +kernel
theorem dX4_count_100 : decode cX4_count 100 = .ok (.aload_n 0, 1) := by decide +kernel
theorem dX4_count_101 : decode cX4_count 101 = .ok (.getfield 24, 3) := by decide +kernel
theorem dX4_count_104 : decode cX4_count 104 = .ok (.invokevirtual 191, 3) := by decide +kernel
theorem dX4_count_107 : decode cX4_count 107 = .ok (.ireturn, 1) := by decide +kernel
theorem dX4_count_108 : decode cX4_count 108 = .ok (.aload_n 0, 1) := by decide +kernel
theorem dX4_count_109 : decode cX4_count 109 = .ok (.getfield 24, 3) := by decide +kernel
theorem dX4_count_112 : decode cX4_count 112 = .ok (.invokevirtual 194, 3) := by decide +kernel
theorem dX4_count_115 : decode cX4_count 115 = .ok (.ireturn, 1) := by decide +kernel
theorem dX4_count_116 : decode cX4_count 116 = .ok (.aload_n 0, 1) := by decide +kernel
theorem dX4_count_117 : decode cX4_count 117 = .ok (.getfield 50, 3) := by decide +kernel
theorem dX4_count_120 : decode cX4_count 120 = .ok (.getfield 168, 3) := by decide +kernel
theorem dX4_count_123 : decode cX4_count 123 = .ok (.ireturn, 1) := by decide +kernel
theorem dX4_count_124 : decode cX4_count 124 = .ok (.aload_n 0, 1) := by decide +kernel
theorem dX4_count_125 : decode cX4_count 125 = .ok (.getfield 24, 3) := by decide +kernel
theorem dX4_count_128 : decode cX4_count 128 = .ok (.invokevirtual 267, 3) := by decide +kernel
theorem dX4_count_131 : decode cX4_count 131 = .ok (.ireturn, 1) := by decide +kernel
theorem dX4_count_132 : decode cX4_count 132 = .ok (.aload_n 0, 1) := by decide +kernel
theorem dX4_count_133 : decode cX4_count 133 = .ok (.getfield 50, 3) := by decide +kernel
theorem dX4_count_136 : decode cX4_count 136 = .ok (.iconst 2, 1) := by decide +kernel
theorem dX4_count_137 : decode cX4_count 137 = .ok (.invokevirtual 131, 3) := by decide +kernel
theorem dX4_count_140 : decode cX4_count 140 = .ok (.ireturn, 1) := by decide +kernel
theorem dX4_count_141 : decode cX4_count 141 = .ok (.aload_n 0, 1) := by decide +kernel
theorem dX4_count_142 : decode cX4_count 142 = .ok (.getfield 50, 3) := by decide +kernel
theorem dX4_count_145 : decode cX4_count 145 = .ok (.iconst 3, 1) := by decide +kernel
theorem dX4_count_146 : decode cX4_count 146 = .ok (.invokevirtual 131, 3) := by decide +kernel
theorem dX4_count_149 : decode cX4_count 149 = .ok (.ireturn, 1) := by decide +kernel
theorem dX4_count_150 : decode cX4_count 150 = .ok (.aload_n 0, 1) := by decide +kernel
theorem dX4_count_151 : decode cX4_count 151 = .ok (.getfield 12, 3) := by decide +kernel
theorem dX4_count_154 : decode cX4_count 154 = .ok (.invokevirtual 270, 3) := by decide +kernel
theorem dX4_count_157 : decode cX4_count 157 = .ok (.ireturn, 1) := by decide +kernel
theorem dX4_count_158 : decode cX4_count 158 = .ok (.aload_n 0, 1) := by decide +kernel
theorem dX4_count_159 : decode cX4_count 159 = .ok (.getfield 18, 3) := by decide +kernel
theorem dX4_count_162 : decode cX4_count 162 = .ok (.invokevirtual 270, 3) := by decide +kernel
theorem dX4_count_165 : decode cX4_count 165 = .ok (.ireturn, 1) := by decide +kernel
theorem dX4_count_166 : decode cX4_count 166 = .ok (.aload_n 0, 1) := by decide +kernel
theorem dX4_count_167 : decode cX4_count 167 = .ok (.invokevirtual 272, 3) := by decide +kernel
theorem dX4_count_170 : decode cX4_count 170 = .ok (.ireturn, 1) := by decide +kernel
theorem dX4_count_171 : decode cX4_count 171 = .ok (.iconst (-1), 1) := by decide +kernel
theorem dX4_count_172 : decode cX4_count 172 = .ok (.ireturn, 1) := by decide +kernel
set_option maxRecDepth 20000 in
theorem ggX4_digest_X4_count : GoodIn wsX4_digest wsX4_count := goodIn_r _ [16, 3, 6, 4, 17, 9, 18, 11, 10, 19, 20, 21, 22, 23, 24, 25, 26, 27, 28, 29, 30, 31, 32, 33, 34, 35, 36, 37, 38, 39, 40, 41, 42, 43, 44, 45, 46, 47, 48, 49, 50, 51, 52, 53, 54, 55, 56, 57, 58, 59, 60, 61, 15, 62, 7, 127, 128, 129, 130, 131, 132, 133, 134, 135, 136, 137, 138, 139, 140, 141, 142, 143, 144, 145, 146, 147, 148, 149, 150, 151, 152, 153, 154, 155, 156, 157, 158] (by rfl) (by decide +kernel)
set_option maxRecDepth 20000 in
theorem gX4_digest_X4_count : GoodIn wsX4_digest (wsV RX4 282 RX4 yX4_count wsX4_count) := goodIn_app (goodIn_of _ (by decide +kernel)) ggX4_digest_X4_count
set_option maxRecDepth 20000 in
theorem ggX4_digest_X4_about : GoodIn wsX4_digest wsX4_about := goodIn_r _ [66, 3, 67, 68, 17, 69, 70, 71, 15, 72, 19, 20, 21, 22, 23, 24, 25, 73, 74, 75, 26, 27, 28, 29, 30, 76, 77, 78, 79, 6, 80, 81, 82, 83, 18, 84, 85, 86, 87, 88, 89, 90, 91, 31, 32, 33, 34, 35, 92, 93, 94, 44, 95, 96, 97, 98, 99, 100, 101, 102, 103, 104, 47, 105, 106, 107, 108, 109, 110, 111, 112, 113, 114, 115, 116, 117, 118, 119, 120, 127, 128, 129, 130, 131, 132, 133, 134, 135, 136, 137, 138, 139, 140, 141, 142, 143, 144, 145, 146, 147, 148, 149, 150, 151, 152, 153] (by rfl) (by decide +kernel)
set_option maxRecDepth 20000 in
theorem gX4_digest_X4_about : GoodIn wsX4_digest (wsV RX4 121 RX4 yX4_about wsX4_about) := goodIn_app (goodIn_of _ (by decide +kernel)) ggX4_digest_X4_about
set_option maxRecDepth 20000 in
theorem ggX4_digest_X2_digested : GoodIn wsX4_digest wsX2_digested := goodIn_r _ [124, 53, 125, 58, 126, 154, 155, 156, 157, 158] (by rfl) (by decide +kernel)
set_option maxRecDepth 20000 in
theorem gX4_digest_X2_digested : GoodIn wsX4_digest (wsV RX4 288 RX2 yX2_digested wsX2_digested) := goodIn_app (goodIn_of _ (by decide +kernel)) ggX4_digest_X2_digested
theorem dX4_digest_0 : decode cX4_digest 0 = .ok (.ldc2_w 278, 3) := by decide +kernel
theorem dX4_digest_3 : decode cX4_digest 3 = .ok (.lstore_n 1, 1) := by decide +kernel
theorem dX4_digest_4 : decode cX4_digest 4 = .ok (.iconst 0, 1) := by decide +kernel
theorem dX4_digest_5 : decode cX4_digest 5 = .ok (.istore_n 3, 1) := by decide +kernel
theorem dX4_digest_6 : decode cX4_digest 6 = .ok (.iload_n 3, 1) := by decide +kernel
theorem dX4_digest_7 : decode cX4_digest 7 = .ok (.bipush 12, 2) := by decide +kernel
theorem dX4_digest_9 : decode cX4_digest 9 = .ok (.if_icmp .gt 22, 3) := by decide +kernel
theorem dX4_digest_12 : decode cX4_digest 12 = .ok (.ldc2_w 280, 3) := by decide +kernel
theorem dX4_digest_15 : decode cX4_digest 15 = .ok (.lload_n 1, 1) := by decide +kernel
theorem dX4_digest_16 : decode cX4_digest 16 = .ok (.lmul, 1) := by decide +kernel
theorem dX4_digest_17 : decode cX4_digest 17 = .ok (.aload_n 0, 1) := by decide +kernel
theorem dX4_digest_18 : decode cX4_digest 18 = .ok (.iload_n 3, 1) := by decide +kernel
theorem dX4_digest_19 : decode cX4_digest 19 = .ok (.invokevirtual 282, 3) := by decide +kernel
theorem dX4_digest_22 : decode cX4_digest 22 = .ok (.i2l, 1) := by decide +kernel
theorem dX4_digest_23 : decode cX4_digest 23 = .ok (.ladd, 1) := by decide +kernel
theorem dX4_digest_24 : decode cX4_digest 24 = .ok (.lstore_n 1, 1) := by decide +kernel
theorem dX4_digest_25 : decode cX4_digest 25 = .ok (.iinc 3 1, 3) := by decide +kernel
theorem dX4_digest_28 : decode cX4_digest 28 = .ok (.goto (-22), 3) := by decide +kernel
theorem dX4_digest_31 : decode cX4_digest 31 = .ok (.iconst 0, 1) := by decide +kernel
theorem dX4_digest_32 : decode cX4_digest 32 = .ok (.istore_n 3, 1) := by decide +kernel
theorem dX4_digest_33 : decode cX4_digest 33 = .ok (.iload_n 3, 1) := by decide +kernel
theorem dX4_digest_34 : decode cX4_digest 34 = .ok (.aload_n 0, 1) := by decide +kernel
theorem dX4_digest_35 : decode cX4_digest 35 = .ok (.getfield 50, 3) := by decide +kernel
theorem dX4_digest_38 : decode cX4_digest 38 = .ok (.getfield 211, 3) := by decide +kernel
theorem dX4_digest_41 : decode cX4_digest 41 = .ok (.if_icmp .ge 26, 3) := by decide +kernel
theorem dX4_digest_44 : decode cX4_digest 44 = .ok (.ldc2_w 280, 3) := by decide +kernel
theorem dX4_digest_47 : decode cX4_digest 47 = .ok (.lload_n 1, 1) := by decide +kernel
theorem dX4_digest_48 : decode cX4_digest 48 = .ok (.lmul, 1) := by decide +kernel
theorem dX4_digest_49 : decode cX4_digest 49 = .ok (.aload_n 0, 1) := by decide +kernel
theorem dX4_digest_50 : decode cX4_digest 50 = .ok (.getfield 50, 3) := by decide +kernel
theorem dX4_digest_53 : decode cX4_digest 53 = .ok (.getfield 285, 3) := by decide +kernel
theorem dX4_digest_56 : decode cX4_digest 56 = .ok (.iload_n 3, 1) := by decide +kernel
theorem dX4_digest_57 : decode cX4_digest 57 = .ok (.iaload, 1) := by decide +kernel
theorem dX4_digest_58 : decode cX4_digest 58 = .ok (.i2l, 1) := by decide +kernel
theorem dX4_digest_59 : decode cX4_digest 59 = .ok (.ladd, 1) := by decide +kernel
theorem dX4_digest_60 : decode cX4_digest 60 = .ok (.lstore_n 1, 1) := by decide +kernel
theorem dX4_digest_61 : decode cX4_digest 61 = .ok (.iinc 3 1, 3) := by decide +kernel
theorem dX4_digest_64 : decode cX4_digest 64 = .ok (.goto (-31), 3) := by decide +kernel
theorem dX4_digest_67 : decode cX4_digest 67 = .ok (.iconst 0, 1) := by decide +kernel
theorem dX4_digest_68 : decode cX4_digest 68 = .ok (.istore_n 3, 1) := by decide +kernel
theorem dX4_digest_69 : decode cX4_digest 69 = .ok (.iload_n 3, 1) := by decide +kernel
theorem dX4_digest_70 : decode cX4_digest 70 = .ok (.aload_n 0, 1) := by decide +kernel
theorem dX4_digest_71 : decode cX4_digest 71 = .ok (.getfield 50, 3) := by decide +kernel
theorem dX4_digest_74 : decode cX4_digest 74 = .ok (.getfield 115, 3) := by decide +kernel
theorem dX4_digest_77 : decode cX4_digest 77 = .ok (.if_icmp .ge 39, 3) := by decide +kernel
theorem dX4_digest_80 : decode cX4_digest 80 = .ok (.iconst 0, 1) := by decide +kernel
theorem dX4_digest_81 : decode cX4_digest 81 = .ok (.istore 4, 2) := by decide +kernel
theorem dX4_digest_83 : decode cX4_digest 83 = .ok (.iload 4, 2) := by decide +kernel
theorem dX4_digest_85 : decode cX4_digest 85 = .ok (.iconst 4, 1) := by decide +kernel
theorem dX4_digest_86 : decode cX4_digest 86 = .ok (.if_icmp .gt 24, 3) := by decide +kernel
theorem dX4_digest_89 : decode cX4_digest 89 = .ok (.ldc2_w 280, 3) := by decide +kernel
theorem dX4_digest_92 : decode cX4_digest 92 = .ok (.lload_n 1, 1) := by decide +kernel
theorem dX4_digest_93 : decode cX4_digest 93 = .ok (.lmul, 1) := by decide +kernel
theorem dX4_digest_94 : decode cX4_digest 94 = .ok (.aload_n 0, 1) := by decide +kernel
theorem dX4_digest_95 : decode cX4_digest 95 = .ok (.iload_n 3, 1) := by decide +kernel
theorem dX4_digest_96 : decode cX4_digest 96 = .ok (.iload 4, 2) := by decide +kernel
theorem dX4_digest_98 : decode cX4_digest 98 = .ok (.invokevirtual 121, 3) := by decide +kernel
theorem dX4_digest_101 : decode cX4_digest 101 = .ok (.i2l, 1) := by decide +kernel
theorem dX4_digest_102 : decode cX4_digest 102 = .ok (.ladd, 1) := by decide +kernel
theorem dX4_digest_103 : decode cX4_digest 103 = .ok (.lstore_n 1, 1) := by decide +kernel
theorem dX4_digest_104 : decode cX4_digest 104 = .ok (.iinc 4 1, 3) := by decide +kernel
theorem dX4_digest_107 : decode cX4_digest 107 = .ok (.goto (-24), 3) := by decide +kernel
theorem dX4_digest_110 : decode cX4_digest 110 = .ok (.iinc 3 1, 3) := by decide +kernel
theorem dX4_digest_113 : decode cX4_digest 113 = .ok (.goto (-44), 3) := by decide +kernel
theorem dX4_digest_116 : decode cX4_digest 116 = .ok (.iconst 0, 1) := by decide +kernel
theorem dX4_digest_117 : decode cX4_digest 117 = .ok (.istore_n 3, 1) := by decide +kernel
theorem dX4_digest_118 : decode cX4_digest 118 = .ok (.iload_n 3, 1) := by decide +kernel
theorem dX4_digest_119 : decode cX4_digest 119 = .ok (.iconst 3, 1) := by decide +kernel
theorem dX4_digest_120 : decode cX4_digest 120 = .ok (.if_icmp .ge 39, 3) := by decide +kernel
theorem dX4_digest_123 : decode cX4_digest 123 = .ok (.ldc2_w 280, 3) := by decide +kernel
theorem dX4_digest_126 : decode cX4_digest 126 = .ok (.lload_n 1, 1) := by decide +kernel
theorem dX4_digest_127 : decode cX4_digest 127 = .ok (.lmul, 1) := by decide +kernel
theorem dX4_digest_128 : decode cX4_digest 128 = .ok (.aload_n 0, 1) := by decide +kernel
theorem dX4_digest_129 : decode cX4_digest 129 = .ok (.getfield 32, 3) := by decide +kernel
theorem dX4_digest_132 : decode cX4_digest 132 = .ok (.iload_n 3, 1) := by decide +kernel
theorem dX4_digest_133 : decode cX4_digest 133 = .ok (.baload, 1) := by decide +kernel
theorem dX4_digest_134 : decode cX4_digest 134 = .ok (.ifCond .eq 15, 3) := by decide +kernel
theorem dX4_digest_137 : decode cX4_digest 137 = .ok (.aload_n 0, 1) := by decide +kernel
theorem dX4_digest_138 : decode cX4_digest 138 = .ok (.getfield 28, 3) := by decide +kernel
theorem dX4_digest_141 : decode cX4_digest 141 = .ok (.iload_n 3, 1) := by decide +kernel
theorem dX4_digest_142 : decode cX4_digest 142 = .ok (.aaload, 1) := by decide +kernel
theorem dX4_digest_143 : decode cX4_digest 143 = .ok (.getfield 112, 3) := by decide +kernel
theorem dX4_digest_146 : decode cX4_digest 146 = .ok (.goto 4, 3) := by decide +kernel
theorem dX4_digest_149 : decode cX4_digest 149 = .ok (.iconst (-1), 1) := by decide +kernel
theorem dX4_digest_150 : decode cX4_digest 150 = .ok (.i2l, 1) := by decide +kernel
theorem dX4_digest_151 : decode cX4_digest 151 = .ok (.ladd, 1) := by decide +kernel
theorem dX4_digest_152 : decode cX4_digest 152 = .ok (.lstore_n 1, 1) := by decide +kernel
theorem dX4_digest_153 : decode cX4_digest 153 = .ok (.iinc 3 1, 3) := by decide +kernel
theorem dX4_digest_156 : decode cX4_digest 156 = .ok (.goto (-38), 3) := by decide +kernel
theorem dX4_digest_159 : decode cX4_digest 159 = .ok (.aload_n 0, 1) := by decide +kernel
theorem dX4_digest_160 : decode cX4_digest 160 = .ok (.getfield 18, 3) := by decide +kernel
theorem dX4_digest_163 : decode cX4_digest 163 = .ok (.aload_n 0, 1) := by decide +kernel
theorem dX4_digest_164 : decode cX4_digest 164 = .ok (.getfield 12, 3) := by decide +kernel
theorem dX4_digest_167 : decode cX4_digest 167 = .ok (.lload_n 1, 1) := by decide +kernel
theorem dX4_digest_168 : decode cX4_digest 168 = .ok (.invokevirtual 288, 3) := by decide +kernel
theorem dX4_digest_171 : decode cX4_digest 171 = .ok (.invokevirtual 288, 3) := by decide +kernel
theorem dX4_digest_174 : decode cX4_digest 174 = .ok (.lreturn, 1) := by decide +kernel
theorem dX4_found_0 : decode cX4_found 0 = .ok (.aload_n 0, 1) := by decide +kernel
theorem dX4_found_1 : decode cX4_found 1 = .ok (.iload_n 1, 1) := by decide +kernel
theorem dX4_found_2 : decode cX4_found 2 = .ok (.putfield 275, 3) := by decide +kernel
theorem dX4_found_5 : decode cX4_found 5 = .ok (.aload_n 0, 1) := by decide +kernel
theorem dX4_found_6 : decode cX4_found 6 = .ok (.getfield 43, 3) := by decide +kernel
theorem dX4_found_9 : decode cX4_found 9 = .ok (.iload_n 1, 1) := by decide +kernel
theorem dX4_found_10 : decode cX4_found 10 = .ok (.dup2, 1) := by decide +kernel
theorem dX4_found_11 : decode cX4_found 11 = .ok (.iaload, 1) := by decide +kernel
theorem dX4_found_12 : decode cX4_found 12 = .ok (.iconst 1, 1) := by decide +kernel
theorem dX4_found_13 : decode cX4_found 13 = .ok (.iadd, 1) := by decide +kernel
theorem dX4_found_14 : decode cX4_found 14 = .ok (.iastore, 1) := by decide +kernel
theorem dX4_found_15 : decode cX4_found 15 = .ok (.bipush (-3), 2) := by decide +kernel
theorem dX4_found_17 : decode cX4_found 17 = .ok (.ireturn, 1) := by decide +kernel
set_option maxRecDepth 20000 in
theorem ggX4_renewed_X2_hasNo : GoodIn wsX4_renewed wsX2_hasNo := goodIn_r _ [6, 7, 26, 27, 28, 29, 30] (by rfl) (by decide +kernel)
set_option maxRecDepth 20000 in
theorem gX4_renewed_X2_hasNo : GoodIn wsX4_renewed (wsV RX4 83 RX2 yX2_hasNo wsX2_hasNo) := goodIn_app (goodIn_of _ (by decide +kernel)) ggX4_renewed_X2_hasNo
set_option maxRecDepth 20000 in
theorem ggX4_renewed_X4_found : GoodIn wsX4_renewed wsX4_found := goodIn_r _ [12, 13, 14, 31, 32, 33, 34, 35, 36, 37, 38, 39, 40, 41, 42, 43] (by rfl) (by decide +kernel)
set_option maxRecDepth 20000 in
theorem gX4_renewed_X4_found : GoodIn wsX4_renewed (wsV RX4 87 RX4 yX4_found wsX4_found) := goodIn_app (goodIn_of _ (by decide +kernel)) ggX4_renewed_X4_found
set_option maxRecDepth 20000 in
theorem ggX4_renewed_X2_renew : GoodIn wsX4_renewed wsX2_renew := goodIn_r _ [18, 19, 20, 21, 22, 23, 24, 25, 26, 27, 28, 29, 30] (by rfl) (by decide +kernel)
set_option maxRecDepth 20000 in
theorem gX4_renewed_X2_renew : GoodIn wsX4_renewed (wsV RX4 295 RX2 yX2_renew wsX2_renew) := goodIn_app (goodIn_of _ (by decide +kernel)) ggX4_renewed_X2_renew
theorem dX4_renewed_0 : decode cX4_renewed 0 = .ok (.aload_n 1, 1) := by decide +kernel
theorem dX4_renewed_1 : decode cX4_renewed 1 = .ok (.iload_n 2, 1) := by decide +kernel
theorem dX4_renewed_2 : decode cX4_renewed 2 = .ok (.invokevirtual 83, 3) := by decide +kernel
theorem dX4_renewed_5 : decode cX4_renewed 5 = .ok (.ifCond .ne 11, 3) := by decide +kernel
theorem dX4_renewed_8 : decode cX4_renewed 8 = .ok (.iload_n 3, 1) := by decide +kernel
theorem dX4_renewed_9 : decode cX4_renewed 9 = .ok (.aload_n 1, 1) := by decide +kernel
theorem dX4_renewed_10 : decode cX4_renewed 10 = .ok (.getfield 292, 3) := by decide +kernel
theorem dX4_renewed_13 : decode cX4_renewed 13 = .ok (.if_icmp .le 5, 3) := by decide +kernel
theorem dX4_renewed_16 : decode cX4_renewed 16 = .ok (.iconst (-1), 1) := by decide +kernel
theorem dX4_renewed_17 : decode cX4_renewed 17 = .ok (.ireturn, 1) := by decide +kernel
theorem dX4_renewed_18 : decode cX4_renewed 18 = .ok (.iload_n 3, 1) := by decide +kernel
theorem dX4_renewed_19 : decode cX4_renewed 19 = .ok (.ifCond .ge 9, 3) := by decide +kernel
theorem dX4_renewed_22 : decode cX4_renewed 22 = .ok (.aload_n 0, 1) := by decide +kernel
theorem dX4_renewed_23 : decode cX4_renewed 23 = .ok (.iconst 5, 1) := by decide +kernel
theorem dX4_renewed_24 : decode cX4_renewed 24 = .ok (.invokevirtual 87, 3) := by decide +kernel
theorem dX4_renewed_27 : decode cX4_renewed 27 = .ok (.ireturn, 1) := by decide +kernel
theorem dX4_renewed_28 : decode cX4_renewed 28 = .ok (.aload_n 1, 1) := by decide +kernel
theorem dX4_renewed_29 : decode cX4_renewed 29 = .ok (.iload_n 2, 1) := by decide +kernel
theorem dX4_renewed_30 : decode cX4_renewed 30 = .ok (.iload_n 3, 1) := by decide +kernel
theorem dX4_renewed_31 : decode cX4_renewed 31 = .ok (.invokevirtual 295, 3) := by decide +kernel
theorem dX4_renewed_34 : decode cX4_renewed 34 = .ok (.iload_n 3, 1) := by decide +kernel
theorem dX4_renewed_35 : decode cX4_renewed 35 = .ok (.ireturn, 1) := by decide +kernel
set_option maxRecDepth 20000 in
theorem ggX4_refusedRow_X2_hasNo : GoodIn wsX4_refusedRow wsX2_hasNo := goodIn_r _ [5, 6, 19, 20, 21, 22, 23] (by rfl) (by decide +kernel)
set_option maxRecDepth 20000 in
theorem gX4_refusedRow_X2_hasNo : GoodIn wsX4_refusedRow (wsV RX4 83 RX2 yX2_hasNo wsX2_hasNo) := goodIn_app (goodIn_of _ (by decide +kernel)) ggX4_refusedRow_X2_hasNo
set_option maxRecDepth 20000 in
theorem ggX4_refusedRow_X2_isMissing : GoodIn wsX4_refusedRow wsX2_isMissing := goodIn_r _ [10, 11, 19, 20, 21, 22, 23] (by rfl) (by decide +kernel)
set_option maxRecDepth 20000 in
theorem gX4_refusedRow_X2_isMissing : GoodIn wsX4_refusedRow (wsV RX4 91 RX2 yX2_isMissing wsX2_isMissing) := goodIn_app (goodIn_of _ (by decide +kernel)) ggX4_refusedRow_X2_isMissing
set_option maxRecDepth 20000 in
theorem ggX4_refusedRow_X4_found : GoodIn wsX4_refusedRow wsX4_found := goodIn_r _ [16, 17, 18, 24, 25, 26, 27, 28, 29, 30, 31, 32, 33, 34, 35, 36] (by rfl) (by decide +kernel)
set_option maxRecDepth 20000 in
theorem gX4_refusedRow_X4_found : GoodIn wsX4_refusedRow (wsV RX4 87 RX4 yX4_found wsX4_found) := goodIn_app (goodIn_of _ (by decide +kernel)) ggX4_refusedRow_X4_found
theorem dX4_refusedRow_0 : decode cX4_refusedRow 0 = .ok (.aload_n 1, 1) := by decide +kernel
theorem dX4_refusedRow_1 : decode cX4_refusedRow 1 = .ok (.iload_n 2, 1) := by decide +kernel
theorem dX4_refusedRow_2 : decode cX4_refusedRow 2 = .ok (.invokevirtual 83, 3) := by decide +kernel
theorem dX4_refusedRow_5 : decode cX4_refusedRow 5 = .ok (.ifCond .eq 5, 3) := by decide +kernel
theorem dX4_refusedRow_8 : decode cX4_refusedRow 8 = .ok (.iconst (-1), 1) := by decide +kernel
theorem dX4_refusedRow_9 : decode cX4_refusedRow 9 = .ok (.ireturn, 1) := by decide +kernel
theorem dX4_refusedRow_10 : decode cX4_refusedRow 10 = .ok (.aload_n 1, 1) := by decide +kernel
theorem dX4_refusedRow_11 : decode cX4_refusedRow 11 = .ok (.iload_n 2, 1) := by decide +kernel
theorem dX4_refusedRow_12 : decode cX4_refusedRow 12 = .ok (.invokevirtual 91, 3) := by decide +kernel
theorem dX4_refusedRow_15 : decode cX4_refusedRow 15 = .ok (.ifCond .eq 11, 3) := by decide +kernel
theorem dX4_refusedRow_18 : decode cX4_refusedRow 18 = .ok (.aload_n 0, 1) := by decide +kernel
theorem dX4_refusedRow_19 : decode cX4_refusedRow 19 = .ok (.iconst 1, 1) := by decide +kernel
theorem dX4_refusedRow_20 : decode cX4_refusedRow 20 = .ok (.invokevirtual 87, 3) := by decide +kernel
theorem dX4_refusedRow_23 : decode cX4_refusedRow 23 = .ok (.goto 4, 3) := by decide +kernel
theorem dX4_refusedRow_26 : decode cX4_refusedRow 26 = .ok (.iconst 0, 1) := by decide +kernel
theorem dX4_refusedRow_27 : decode cX4_refusedRow 27 = .ok (.ireturn, 1) := by decide +kernel
set_option maxRecDepth 20000 in
theorem ggX4_refusedPlace_X4_refusedRow : GoodIn wsX4_refusedPlace wsX4_refusedRow := goodIn_r _ [5, 6, 7, 8, 9, 10, 11, 12, 13, 14, 15, 16, 17, 18, 19, 4, 20, 21, 22, 27, 28, 29, 30, 31, 32, 33, 34, 35, 36, 37, 38, 39, 40, 41, 42, 43, 44] (by rfl) (by decide +kernel)
set_option maxRecDepth 20000 in
theorem gX4_refusedPlace_X4_refusedRow : GoodIn wsX4_refusedPlace (wsV RX4 76 RX4 yX4_refusedRow wsX4_refusedRow) := goodIn_app (goodIn_of _ (by decide +kernel)) ggX4_refusedPlace_X4_refusedRow
set_option maxRecDepth 20000 in
theorem ggX4_refusedPlace_X2_lacks : GoodIn wsX4_refusedPlace wsX2_lacks := goodIn_r _ [26, 16, 27, 28, 29, 30, 31] (by rfl) (by decide +kernel)
set_option maxRecDepth 20000 in
theorem gX4_refusedPlace_X2_lacks : GoodIn wsX4_refusedPlace (wsV RX4 94 RX2 yX2_lacks wsX2_lacks) := goodIn_app (goodIn_of _ (by decide +kernel)) ggX4_refusedPlace_X2_lacks
set_option maxRecDepth 20000 in
theorem ggX4_refusedPlace_X4_found : GoodIn wsX4_refusedPlace wsX4_found := goodIn_r _ [20, 21, 22, 32, 33, 34, 35, 36, 37, 38, 39, 40, 41, 42, 43, 44] (by rfl) (by decide +kernel)
set_option maxRecDepth 20000 in
theorem gX4_refusedPlace_X4_found : GoodIn wsX4_refusedPlace (wsV RX4 87 RX4 yX4_found wsX4_found) := goodIn_app (goodIn_of _ (by decide +kernel)) ggX4_refusedPlace_X4_found
theorem dX4_refusedPlace_0 : decode cX4_refusedPlace 0 = .ok (.aload_n 0, 1) := by decide +kernel
theorem dX4_refusedPlace_1 : decode cX4_refusedPlace 1 = .ok (.aload_n 1, 1) := by decide +kernel
theorem dX4_refusedPlace_2 : decode cX4_refusedPlace 2 = .ok (.iload_n 2, 1) := by decide +kernel
theorem dX4_refusedPlace_3 : decode cX4_refusedPlace 3 = .ok (.invokevirtual 76, 3) := by decide +kernel
theorem dX4_refusedPlace_6 : decode cX4_refusedPlace 6 = .ok (.istore 4, 2) := by decide +kernel
theorem dX4_refusedPlace_8 : decode cX4_refusedPlace 8 = .ok (.iload 4, 2) := by decide +kernel
theorem dX4_refusedPlace_10 : decode cX4_refusedPlace 10 = .ok (.ifCond .ne 21, 3) := by decide +kernel
theorem dX4_refusedPlace_13 : decode cX4_refusedPlace 13 = .ok (.aload_n 1, 1) := by decide +kernel
theorem dX4_refusedPlace_14 : decode cX4_refusedPlace 14 = .ok (.iload_n 2, 1) := by decide +kernel
theorem dX4_refusedPlace_15 : decode cX4_refusedPlace 15 = .ok (.iload_n 3, 1) := by decide +kernel
theorem dX4_refusedPlace_16 : decode cX4_refusedPlace 16 = .ok (.iconst 1, 1) := by decide +kernel
theorem dX4_refusedPlace_17 : decode cX4_refusedPlace 17 = .ok (.invokevirtual 94, 3) := by decide +kernel
theorem dX4_refusedPlace_20 : decode cX4_refusedPlace 20 = .ok (.ifCond .eq 11, 3) := by decide +kernel
theorem dX4_refusedPlace_23 : decode cX4_refusedPlace 23 = .ok (.aload_n 0, 1) := by decide +kernel
theorem dX4_refusedPlace_24 : decode cX4_refusedPlace 24 = .ok (.iconst 2, 1) := by decide +kernel
theorem dX4_refusedPlace_25 : decode cX4_refusedPlace 25 = .ok (.invokevirtual 87, 3) := by decide +kernel
theorem dX4_refusedPlace_28 : decode cX4_refusedPlace 28 = .ok (.goto 5, 3) := by decide +kernel
theorem dX4_refusedPlace_31 : decode cX4_refusedPlace 31 = .ok (.iload 4, 2) := by decide +kernel
theorem dX4_refusedPlace_33 : decode cX4_refusedPlace 33 = .ok (.ireturn, 1) := by decide +kernel
theorem dX4_isNobody_0 : decode cX4_isNobody 0 = .ok (.iload_n 1, 1) := by decide +kernel
theorem dX4_isNobody_1 : decode cX4_isNobody 1 = .ok (.ifCond .lt 14, 3) := by decide +kernel
theorem dX4_isNobody_4 : decode cX4_isNobody 4 = .ok (.iload_n 1, 1) := by decide +kernel
theorem dX4_isNobody_5 : decode cX4_isNobody 5 = .ok (.aload_n 0, 1) := by decide +kernel
theorem dX4_isNobody_6 : decode cX4_isNobody 6 = .ok (.getfield 50, 3) := by decide +kernel
theorem dX4_isNobody_9 : decode cX4_isNobody 9 = .ok (.getfield 115, 3) := by decide +kernel
theorem dX4_isNobody_12 : decode cX4_isNobody 12 = .ok (.if_icmp .lt 7, 3) := by decide +kernel
theorem dX4_isNobody_15 : decode cX4_isNobody 15 = .ok (.iconst 1, 1) := by decide +kernel
theorem dX4_isNobody_16 : decode cX4_isNobody 16 = .ok (.goto 4, 3) := by decide +kernel
theorem dX4_isNobody_19 : decode cX4_isNobody 19 = .ok (.iconst 0, 1) := by decide +kernel
theorem dX4_isNobody_20 : decode cX4_isNobody 20 = .ok (.ireturn, 1) := by decide +kernel
set_option maxRecDepth 20000 in
theorem ggX4_isNoPair_X4_isNobody : GoodIn wsX4_isNoPair wsX4_isNobody := goodIn_r _ [5, 6, 7, 8, 9, 10, 11, 12, 13, 14, 15, 16, 17, 18, 19, 20, 21, 22, 23, 24, 25, 26, 27, 28, 29] (by rfl) (by decide +kernel)
set_option maxRecDepth 20000 in
theorem gX4_isNoPair_X4_isNobody : GoodIn wsX4_isNoPair (wsV RX4 118 RX4 yX4_isNobody wsX4_isNobody) := goodIn_app (goodIn_of _ (by decide +kernel)) ggX4_isNoPair_X4_isNobody
theorem dX4_isNoPair_0 : decode cX4_isNoPair 0 = .ok (.aload_n 0, 1) := by decide +kernel
theorem dX4_isNoPair_1 : decode cX4_isNoPair 1 = .ok (.iload_n 1, 1) := by decide +kernel
theorem dX4_isNoPair_2 : decode cX4_isNoPair 2 = .ok (.invokevirtual 118, 3) := by decide +kernel
theorem dX4_isNoPair_5 : decode cX4_isNoPair 5 = .ok (.ifCond .ne 16, 3) := by decide +kernel
theorem dX4_isNoPair_8 : decode cX4_isNoPair 8 = .ok (.aload_n 0, 1) := by decide +kernel
theorem dX4_isNoPair_9 : decode cX4_isNoPair 9 = .ok (.iload_n 2, 1) := by decide +kernel
theorem dX4_isNoPair_10 : decode cX4_isNoPair 10 = .ok (.invokevirtual 118, 3) := by decide +kernel
theorem dX4_isNoPair_13 : decode cX4_isNoPair 13 = .ok (.ifCond .ne 8, 3) := by decide +kernel
theorem dX4_isNoPair_16 : decode cX4_isNoPair 16 = .ok (.iload_n 1, 1) := by decide +kernel
theorem dX4_isNoPair_17 : decode cX4_isNoPair 17 = .ok (.iload_n 2, 1) := by decide +kernel
theorem dX4_isNoPair_18 : decode cX4_isNoPair 18 = .ok (.if_icmp .ne 7, 3) := by decide +kernel
theorem dX4_isNoPair_21 : decode cX4_isNoPair 21 = .ok (.iconst 1, 1) := by decide +kernel
theorem dX4_isNoPair_22 : decode cX4_isNoPair 22 = .ok (.goto 4, 3) := by decide +kernel
theorem dX4_isNoPair_25 : decode cX4_isNoPair 25 = .ok (.iconst 0, 1) := by decide +kernel
theorem dX4_isNoPair_26 : decode cX4_isNoPair 26 = .ok (.ireturn, 1) := by decide +kernel
theorem dX4_isNoGroup_0 : decode cX4_isNoGroup 0 = .ok (.iload_n 1, 1) := by decide +kernel
theorem dX4_isNoGroup_1 : decode cX4_isNoGroup 1 = .ok (.ifCond .lt 16, 3) := by decide +kernel
theorem dX4_isNoGroup_4 : decode cX4_isNoGroup 4 = .ok (.iload_n 1, 1) := by decide +kernel
theorem dX4_isNoGroup_5 : decode cX4_isNoGroup 5 = .ok (.iconst 1, 1) := by decide +kernel
theorem dX4_isNoGroup_6 : decode cX4_isNoGroup 6 = .ok (.aload_n 0, 1) := by decide +kernel
theorem dX4_isNoGroup_7 : decode cX4_isNoGroup 7 = .ok (.getfield 50, 3) := by decide +kernel
theorem dX4_isNoGroup_10 : decode cX4_isNoGroup 10 = .ok (.getfield 115, 3) := by decide +kernel
theorem dX4_isNoGroup_13 : decode cX4_isNoGroup 13 = .ok (.ishl, 1) := by decide +kernel
theorem dX4_isNoGroup_14 : decode cX4_isNoGroup 14 = .ok (.if_icmp .lt 7, 3) := by decide +kernel
theorem dX4_isNoGroup_17 : decode cX4_isNoGroup 17 = .ok (.iconst 1, 1) := by decide +kernel
theorem dX4_isNoGroup_18 : decode cX4_isNoGroup 18 = .ok (.goto 4, 3) := by decide +kernel
theorem dX4_isNoGroup_21 : decode cX4_isNoGroup 21 = .ok (.iconst 0, 1) := by decide +kernel
theorem dX4_isNoGroup_22 : decode cX4_isNoGroup 22 = .ok (.ireturn, 1) := by decide +kernel
set_option maxRecDepth 20000 in
theorem ggX4_areNoSets_X1_allStones : GoodIn wsX4_areNoSets wsX1_allStones := goodIn_r _ [6, 7, 21, 22, 23, 24, 25, 26, 27, 28, 29] (by rfl) (by decide +kernel)
set_option maxRecDepth 20000 in
theorem gX4_areNoSets_X1_allStones : GoodIn wsX4_areNoSets (wsV RX4 197 RX1 yX1_allStones wsX1_allStones) := goodIn_app (goodIn_of _ (by decide +kernel)) ggX4_areNoSets_X1_allStones
theorem dX4_areNoSets_0 : decode cX4_areNoSets 0 = .ok (.aload_n 0, 1) := by decide +kernel
theorem dX4_areNoSets_1 : decode cX4_areNoSets 1 = .ok (.getfield 50, 3) := by decide +kernel
theorem dX4_areNoSets_4 : decode cX4_areNoSets 4 = .ok (.invokevirtual 197, 3) := by decide +kernel
theorem dX4_areNoSets_7 : decode cX4_areNoSets 7 = .ok (.istore_n 3, 1) := by decide +kernel
theorem dX4_areNoSets_8 : decode cX4_areNoSets 8 = .ok (.iload_n 1, 1) := by decide +kernel
theorem dX4_areNoSets_9 : decode cX4_areNoSets 9 = .ok (.ifCond .lt 23, 3) := by decide +kernel
theorem dX4_areNoSets_12 : decode cX4_areNoSets 12 = .ok (.iload_n 1, 1) := by decide +kernel
theorem dX4_areNoSets_13 : decode cX4_areNoSets 13 = .ok (.iload_n 3, 1) := by decide +kernel
theorem dX4_areNoSets_14 : decode cX4_areNoSets 14 = .ok (.if_icmp .gt 18, 3) := by decide +kernel
theorem dX4_areNoSets_17 : decode cX4_areNoSets 17 = .ok (.iload_n 2, 1) := by decide +kernel
theorem dX4_areNoSets_18 : decode cX4_areNoSets 18 = .ok (.ifCond .lt 14, 3) := by decide +kernel
theorem dX4_areNoSets_21 : decode cX4_areNoSets 21 = .ok (.iload_n 2, 1) := by decide +kernel
theorem dX4_areNoSets_22 : decode cX4_areNoSets 22 = .ok (.iload_n 3, 1) := by decide +kernel
theorem dX4_areNoSets_23 : decode cX4_areNoSets 23 = .ok (.if_icmp .gt 9, 3) := by decide +kernel
theorem dX4_areNoSets_26 : decode cX4_areNoSets 26 = .ok (.iload_n 1, 1) := by decide +kernel
theorem dX4_areNoSets_27 : decode cX4_areNoSets 27 = .ok (.iload_n 2, 1) := by decide +kernel
theorem dX4_areNoSets_28 : decode cX4_areNoSets 28 = .ok (.iand, 1) := by decide +kernel
theorem dX4_areNoSets_29 : decode cX4_areNoSets 29 = .ok (.ifCond .eq 7, 3) := by decide +kernel
theorem dX4_areNoSets_32 : decode cX4_areNoSets 32 = .ok (.iconst 1, 1) := by decide +kernel
theorem dX4_areNoSets_33 : decode cX4_areNoSets 33 = .ok (.goto 4, 3) := by decide +kernel
theorem dX4_areNoSets_36 : decode cX4_areNoSets 36 = .ok (.iconst 0, 1) := by decide +kernel
theorem dX4_areNoSets_37 : decode cX4_areNoSets 37 = .ok (.ireturn, 1) := by decide +kernel
set_option maxRecDepth 20000 in
theorem ggX4_areApart_X0_top : GoodIn wsX4_areApart wsX0_top := goodIn_r _ [6, 7, 8, 22, 23, 24, 25, 26] (by rfl) (by decide +kernel)
set_option maxRecDepth 20000 in
theorem gX4_areApart_X0_top : GoodIn wsX4_areApart (wsV RX4 191 RX0 yX0_top wsX0_top) := goodIn_app (goodIn_of _ (by decide +kernel)) ggX4_areApart_X0_top
theorem dX4_areApart_0 : decode cX4_areApart 0 = .ok (.aload_n 0, 1) := by decide +kernel
theorem dX4_areApart_1 : decode cX4_areApart 1 = .ok (.getfield 24, 3) := by decide +kernel
theorem dX4_areApart_4 : decode cX4_areApart 4 = .ok (.invokevirtual 191, 3) := by decide +kernel
theorem dX4_areApart_7 : decode cX4_areApart 7 = .ok (.iload_n 1, 1) := by decide +kernel
theorem dX4_areApart_8 : decode cX4_areApart 8 = .ok (.ishr, 1) := by decide +kernel
theorem dX4_areApart_9 : decode cX4_areApart 9 = .ok (.iconst 1, 1) := by decide +kernel
theorem dX4_areApart_10 : decode cX4_areApart 10 = .ok (.iand, 1) := by decide +kernel
theorem dX4_areApart_11 : decode cX4_areApart 11 = .ok (.aload_n 0, 1) := by decide +kernel
theorem dX4_areApart_12 : decode cX4_areApart 12 = .ok (.getfield 24, 3) := by decide +kernel
theorem dX4_areApart_15 : decode cX4_areApart 15 = .ok (.invokevirtual 191, 3) := by decide +kernel
theorem dX4_areApart_18 : decode cX4_areApart 18 = .ok (.iload_n 2, 1) := by decide +kernel
theorem dX4_areApart_19 : decode cX4_areApart 19 = .ok (.ishr, 1) := by decide +kernel
theorem dX4_areApart_20 : decode cX4_areApart 20 = .ok (.iconst 1, 1) := by decide +kernel
theorem dX4_areApart_21 : decode cX4_areApart 21 = .ok (.iand, 1) := by decide +kernel
theorem dX4_areApart_22 : decode cX4_areApart 22 = .ok (.if_icmp .eq 7, 3) := by decide +kernel
theorem dX4_areApart_25 : decode cX4_areApart 25 = .ok (.iconst 1, 1) := by decide +kernel
theorem dX4_areApart_26 : decode cX4_areApart 26 = .ok (.goto 4, 3) := by decide +kernel
theorem dX4_areApart_29 : decode cX4_areApart 29 = .ok (.iconst 0, 1) := by decide +kernel
theorem dX4_areApart_30 : decode cX4_areApart 30 = .ok (.ireturn, 1) := by decide +kernel
set_option maxRecDepth 20000 in
theorem ggX4_stonesWith_X0_stonesUp : GoodIn wsX4_stonesWith wsX0_stonesUp := goodIn_r _ [7, 8, 9, 34, 35, 36, 37, 38] (by rfl) (by decide +kernel)
set_option maxRecDepth 20000 in
theorem gX4_stonesWith_X0_stonesUp : GoodIn wsX4_stonesWith (wsV RX4 194 RX0 yX0_stonesUp wsX0_stonesUp) := goodIn_app (goodIn_of _ (by decide +kernel)) ggX4_stonesWith_X0_stonesUp
set_option maxRecDepth 20000 in
theorem ggX4_stonesWith_X0_top : GoodIn wsX4_stonesWith wsX0_top := goodIn_r _ [13, 14, 9, 34, 35, 36, 37, 38] (by rfl) (by decide +kernel)
set_option maxRecDepth 20000 in
theorem gX4_stonesWith_X0_top : GoodIn wsX4_stonesWith (wsV RX4 191 RX0 yX0_top wsX0_top) := goodIn_app (goodIn_of _ (by decide +kernel)) ggX4_stonesWith_X0_top
set_option maxRecDepth 20000 in
theorem ggX4_stonesWith_X1_allStones : GoodIn wsX4_stonesWith wsX1_allStones := goodIn_r _ [19, 20, 39, 40, 41, 42, 43, 44, 45, 46, 47] (by rfl) (by decide +kernel)
set_option maxRecDepth 20000 in
theorem gX4_stonesWith_X1_allStones : GoodIn wsX4_stonesWith (wsV RX4 197 RX1 yX1_allStones wsX1_allStones) := goodIn_app (goodIn_of _ (by decide +kernel)) ggX4_stonesWith_X1_allStones
theorem dX4_stonesWith_0 : decode cX4_stonesWith 0 = .ok (.aload_n 0, 1) := by decide +kernel
theorem dX4_stonesWith_1 : decode cX4_stonesWith 1 = .ok (.getfield 24, 3) := by decide +kernel
theorem dX4_stonesWith_4 : decode cX4_stonesWith 4 = .ok (.invokevirtual 194, 3) := by decide +kernel
theorem dX4_stonesWith_7 : decode cX4_stonesWith 7 = .ok (.istore_n 2, 1) := by decide +kernel
theorem dX4_stonesWith_8 : decode cX4_stonesWith 8 = .ok (.aload_n 0, 1) := by decide +kernel
theorem dX4_stonesWith_9 : decode cX4_stonesWith 9 = .ok (.getfield 24, 3) := by decide +kernel
theorem dX4_stonesWith_12 : decode cX4_stonesWith 12 = .ok (.invokevirtual 191, 3) := by decide +kernel
theorem dX4_stonesWith_15 : decode cX4_stonesWith 15 = .ok (.iload_n 1, 1) := by decide +kernel
theorem dX4_stonesWith_16 : decode cX4_stonesWith 16 = .ok (.ishr, 1) := by decide +kernel
theorem dX4_stonesWith_17 : decode cX4_stonesWith 17 = .ok (.iconst 1, 1) := by decide +kernel
theorem dX4_stonesWith_18 : decode cX4_stonesWith 18 = .ok (.iand, 1) := by decide +kernel
theorem dX4_stonesWith_19 : decode cX4_stonesWith 19 = .ok (.iconst 1, 1) := by decide +kernel
theorem dX4_stonesWith_20 : decode cX4_stonesWith 20 = .ok (.if_icmp .ne 7, 3) := by decide +kernel
theorem dX4_stonesWith_23 : decode cX4_stonesWith 23 = .ok (.iload_n 2, 1) := by decide +kernel
theorem dX4_stonesWith_24 : decode cX4_stonesWith 24 = .ok (.goto 14, 3) := by decide +kernel
theorem dX4_stonesWith_27 : decode cX4_stonesWith 27 = .ok (.aload_n 0, 1) := by decide +kernel
theorem dX4_stonesWith_28 : decode cX4_stonesWith 28 = .ok (.getfield 50, 3) := by decide +kernel
theorem dX4_stonesWith_31 : decode cX4_stonesWith 31 = .ok (.invokevirtual 197, 3) := by decide +kernel
theorem dX4_stonesWith_34 : decode cX4_stonesWith 34 = .ok (.iload_n 2, 1) := by decide +kernel
theorem dX4_stonesWith_35 : decode cX4_stonesWith 35 = .ok (.iconst (-1), 1) := by decide +kernel
theorem dX4_stonesWith_36 : decode cX4_stonesWith 36 = .ok (.ixor, 1) := by decide +kernel
theorem dX4_stonesWith_37 : decode cX4_stonesWith 37 = .ok (.iand, 1) := by decide +kernel
theorem dX4_stonesWith_38 : decode cX4_stonesWith 38 = .ok (.ireturn, 1) := by decide +kernel
set_option maxRecDepth 20000 in
theorem ggX4_counts_X0_eaten : GoodIn wsX4_counts wsX0_eaten := goodIn_r _ [9, 10, 11, 38, 39, 40, 41, 42] (by rfl) (by decide +kernel)
set_option maxRecDepth 20000 in
theorem gX4_counts_X0_eaten : GoodIn wsX4_counts (wsV RX4 143 RX0 yX0_eaten wsX0_eaten) := goodIn_app (goodIn_of _ (by decide +kernel)) ggX4_counts_X0_eaten
set_option maxRecDepth 20000 in
theorem ggX4_counts_X4_counted : GoodIn wsX4_counts wsX4_counted := goodIn_r _ [15] (by rfl) (by decide +kernel)
set_option maxRecDepth 20000 in
theorem gX4_counts_X4_counted : GoodIn wsX4_counts (va_wsS RX4 147 yX4_counted wsX4_counted) := goodIn_app (goodIn_of _ (by decide +kernel)) ggX4_counts_X4_counted
theorem dX4_counts_0 : decode cX4_counts 0 = .ok (.aload_n 0, 1) := by decide +kernel
theorem dX4_counts_1 : decode cX4_counts 1 = .ok (.getfield 50, 3) := by decide +kernel
theorem dX4_counts_4 : decode cX4_counts 4 = .ok (.getfield 128, 3) := by decide +kernel
theorem dX4_counts_7 : decode cX4_counts 7 = .ok (.iload_n 1, 1) := by decide +kernel
theorem dX4_counts_8 : decode cX4_counts 8 = .ok (.iaload, 1) := by decide +kernel
theorem dX4_counts_9 : decode cX4_counts 9 = .ok (.aload_n 0, 1) := by decide +kernel
theorem dX4_counts_10 : decode cX4_counts 10 = .ok (.getfield 50, 3) := by decide +kernel
theorem dX4_counts_13 : decode cX4_counts 13 = .ok (.getfield 134, 3) := by decide +kernel
theorem dX4_counts_16 : decode cX4_counts 16 = .ok (.iload_n 1, 1) := by decide +kernel
theorem dX4_counts_17 : decode cX4_counts 17 = .ok (.iaload, 1) := by decide +kernel
theorem dX4_counts_18 : decode cX4_counts 18 = .ok (.aload_n 0, 1) := by decide +kernel
theorem dX4_counts_19 : decode cX4_counts 19 = .ok (.getfield 24, 3) := by decide +kernel
theorem dX4_counts_22 : decode cX4_counts 22 = .ok (.invokevirtual 143, 3) := by decide +kernel
theorem dX4_counts_25 : decode cX4_counts 25 = .ok (.invokestatic 147, 3) := by decide +kernel
theorem dX4_counts_28 : decode cX4_counts 28 = .ok (.ireturn, 1) := by decide +kernel
set_option maxRecDepth 20000 in
theorem ggX4_steps_X0_eaten : GoodIn wsX4_steps wsX0_eaten := goodIn_r _ [7, 8, 9, 44, 45, 46, 47, 48] (by rfl) (by decide +kernel)
set_option maxRecDepth 20000 in
theorem gX4_steps_X0_eaten : GoodIn wsX4_steps (wsV RX4 143 RX0 yX0_eaten wsX0_eaten) := goodIn_app (goodIn_of _ (by decide +kernel)) ggX4_steps_X0_eaten
set_option maxRecDepth 20000 in
theorem ggX4_steps_X1_steps : GoodIn wsX4_steps wsX1_steps := goodIn_r _ [14, 15, 16, 17, 18, 19, 20, 21, 22, 23, 13, 24, 25, 26, 27, 28, 29, 30, 49, 50, 51, 52, 53, 54, 55, 56, 57] (by rfl) (by decide +kernel)
set_option maxRecDepth 20000 in
theorem gX4_steps_X1_steps : GoodIn wsX4_steps (wsV RX4 214 RX1 yX1_steps wsX1_steps) := goodIn_app (goodIn_of _ (by decide +kernel)) ggX4_steps_X1_steps
theorem dX4_steps_0 : decode cX4_steps 0 = .ok (.aload_n 0, 1) := by decide +kernel
theorem dX4_steps_1 : decode cX4_steps 1 = .ok (.getfield 50, 3) := by decide +kernel
theorem dX4_steps_4 : decode cX4_steps 4 = .ok (.iload_n 1, 1) := by decide +kernel
theorem dX4_steps_5 : decode cX4_steps 5 = .ok (.iload_n 2, 1) := by decide +kernel
theorem dX4_steps_6 : decode cX4_steps 6 = .ok (.iload_n 3, 1) := by decide +kernel
theorem dX4_steps_7 : decode cX4_steps 7 = .ok (.iload 4, 2) := by decide +kernel
theorem dX4_steps_9 : decode cX4_steps 9 = .ok (.aload_n 0, 1) := by decide +kernel
theorem dX4_steps_10 : decode cX4_steps 10 = .ok (.getfield 24, 3) := by decide +kernel
theorem dX4_steps_13 : decode cX4_steps 13 = .ok (.invokevirtual 143, 3) := by decide +kernel
theorem dX4_steps_16 : decode cX4_steps 16 = .ok (.invokevirtual 214, 3) := by decide +kernel
theorem dX4_steps_19 : decode cX4_steps 19 = .ok (.ireturn, 1) := by decide +kernel
set_option maxRecDepth 20000 in
theorem ggX4_least_X4_counts : GoodIn wsX4_least wsX4_counts := goodIn_r _ [6, 1, 7, 8, 9, 10, 11, 12, 13, 14, 15, 16, 17, 18, 5, 19, 46, 47, 48, 49, 50, 51, 52, 53, 54, 55, 56, 57, 58, 59, 60, 61, 62, 63, 64, 65, 66, 67, 68, 69, 70, 71, 72] (by rfl) (by decide +kernel)
set_option maxRecDepth 20000 in
theorem gX4_least_X4_counts : GoodIn wsX4_least (wsV RX4 137 RX4 yX4_counts wsX4_counts) := goodIn_app (goodIn_of _ (by decide +kernel)) ggX4_least_X4_counts
set_option maxRecDepth 20000 in
theorem ggX4_least_X1_areTwins : GoodIn wsX4_least wsX1_areTwins := goodIn_r _ [24, 25, 59, 60, 61, 62, 63, 64, 65, 66, 67] (by rfl) (by decide +kernel)
set_option maxRecDepth 20000 in
theorem gX4_least_X1_areTwins : GoodIn wsX4_least (wsV RX4 299 RX1 yX1_areTwins wsX1_areTwins) := goodIn_app (goodIn_of _ (by decide +kernel)) ggX4_least_X1_areTwins
set_option maxRecDepth 20000 in
theorem ggX4_least_X1_least : GoodIn wsX4_least wsX1_least := goodIn_r _ [29, 30, 31, 32, 33, 34, 35, 36, 37, 38, 23, 39, 40, 41, 5, 42, 43, 44, 45, 59, 60, 61, 62, 63, 64, 65, 66, 67] (by rfl) (by decide +kernel)
set_option maxRecDepth 20000 in
theorem gX4_least_X1_least : GoodIn wsX4_least (wsV RX4 208 RX1 yX1_least wsX1_least) := goodIn_app (goodIn_of _ (by decide +kernel)) ggX4_least_X1_least
theorem dX4_least_0 : decode cX4_least 0 = .ok (.aload_n 0, 1) := by decide +kernel
theorem dX4_least_1 : decode cX4_least 1 = .ok (.getfield 50, 3) := by decide +kernel
theorem dX4_least_4 : decode cX4_least 4 = .ok (.aload_n 0, 1) := by decide +kernel
theorem dX4_least_5 : decode cX4_least 5 = .ok (.iload_n 1, 1) := by decide +kernel
theorem dX4_least_6 : decode cX4_least 6 = .ok (.invokevirtual 137, 3) := by decide +kernel
theorem dX4_least_9 : decode cX4_least 9 = .ok (.aload_n 0, 1) := by decide +kernel
theorem dX4_least_10 : decode cX4_least 10 = .ok (.iload_n 2, 1) := by decide +kernel
theorem dX4_least_11 : decode cX4_least 11 = .ok (.invokevirtual 137, 3) := by decide +kernel
theorem dX4_least_14 : decode cX4_least 14 = .ok (.isub, 1) := by decide +kernel
theorem dX4_least_15 : decode cX4_least 15 = .ok (.aload_n 0, 1) := by decide +kernel
theorem dX4_least_16 : decode cX4_least 16 = .ok (.getfield 50, 3) := by decide +kernel
theorem dX4_least_19 : decode cX4_least 19 = .ok (.iload_n 1, 1) := by decide +kernel
theorem dX4_least_20 : decode cX4_least 20 = .ok (.iload_n 2, 1) := by decide +kernel
theorem dX4_least_21 : decode cX4_least 21 = .ok (.invokevirtual 299, 3) := by decide +kernel
theorem dX4_least_24 : decode cX4_least 24 = .ok (.iload_n 3, 1) := by decide +kernel
theorem dX4_least_25 : decode cX4_least 25 = .ok (.invokevirtual 208, 3) := by decide +kernel
theorem dX4_least_28 : decode cX4_least 28 = .ok (.ireturn, 1) := by decide +kernel
set_option maxRecDepth 20000 in
theorem ggX4_canGo_X4_areApart : GoodIn wsX4_canGo wsX4_areApart := goodIn_r _ [7, 8, 9, 10, 11, 12, 13, 14, 15, 70, 71, 72, 73, 74, 75, 76, 77, 78, 79, 80, 81, 82, 92, 93, 94, 95, 96] (by rfl) (by decide +kernel)
set_option maxRecDepth 20000 in
theorem gX4_canGo_X4_areApart : GoodIn wsX4_canGo (wsV RX4 158 RX4 yX4_areApart wsX4_areApart) := goodIn_app (goodIn_of _ (by decide +kernel)) ggX4_canGo_X4_areApart
set_option maxRecDepth 20000 in
theorem ggX4_canGo_X4_stonesWith : GoodIn wsX4_canGo wsX4_stonesWith := goodIn_r _ [19, 8, 1, 20, 21, 22, 12, 23, 24, 15, 9, 10, 11, 13, 14, 25, 26, 27, 28, 29, 30, 70, 71, 72, 73, 74, 75, 76, 77, 78, 79, 80, 81, 82, 92, 93, 94, 95, 96, 83, 84, 85, 86, 87, 88, 89, 90, 91] (by rfl) (by decide +kernel)
set_option maxRecDepth 20000 in
theorem gX4_canGo_X4_stonesWith : GoodIn wsX4_canGo (wsV RX4 161 RX4 yX4_stonesWith wsX4_stonesWith) := goodIn_app (goodIn_of _ (by decide +kernel)) ggX4_canGo_X4_stonesWith
set_option maxRecDepth 20000 in
theorem ggX4_canGo_X4_least : GoodIn wsX4_canGo wsX4_least := goodIn_r _ [34, 1, 35, 36, 37, 6, 38, 39, 40, 8, 41, 42, 43, 12, 44, 45, 15, 46, 47, 48, 49, 50, 51, 28, 52, 53, 54, 55, 56, 57, 58, 59, 60, 61, 62, 63, 64, 26, 27, 29, 30, 65, 66, 67, 68, 69, 70, 71, 72, 73, 74, 75, 76, 77, 78, 79, 80, 81, 82, 83, 84, 85, 86, 87, 88, 89, 90, 91, 92, 93, 94, 95, 96] (by rfl) (by decide +kernel)
set_option maxRecDepth 20000 in
theorem gX4_canGo_X4_least : GoodIn wsX4_canGo (wsV RX4 179 RX4 yX4_least wsX4_least) := goodIn_app (goodIn_of _ (by decide +kernel)) ggX4_canGo_X4_least
theorem dX4_canGo_0 : decode cX4_canGo 0 = .ok (.aload_n 0, 1) := by decide +kernel
theorem dX4_canGo_1 : decode cX4_canGo 1 = .ok (.iload_n 1, 1) := by decide +kernel
theorem dX4_canGo_2 : decode cX4_canGo 2 = .ok (.iload_n 2, 1) := by decide +kernel
theorem dX4_canGo_3 : decode cX4_canGo 3 = .ok (.invokevirtual 158, 3) := by decide +kernel
theorem dX4_canGo_6 : decode cX4_canGo 6 = .ok (.ifCond .ne 36, 3) := by decide +kernel
theorem dX4_canGo_9 : decode cX4_canGo 9 = .ok (.aload_n 0, 1) := by decide +kernel
theorem dX4_canGo_10 : decode cX4_canGo 10 = .ok (.iload_n 1, 1) := by decide +kernel
theorem dX4_canGo_11 : decode cX4_canGo 11 = .ok (.iload_n 2, 1) := by decide +kernel
theorem dX4_canGo_12 : decode cX4_canGo 12 = .ok (.aload_n 0, 1) := by decide +kernel
theorem dX4_canGo_13 : decode cX4_canGo 13 = .ok (.iload_n 1, 1) := by decide +kernel
theorem dX4_canGo_14 : decode cX4_canGo 14 = .ok (.invokevirtual 161, 3) := by decide +kernel
theorem dX4_canGo_17 : decode cX4_canGo 17 = .ok (.iload_n 3, 1) := by decide +kernel
theorem dX4_canGo_18 : decode cX4_canGo 18 = .ok (.iconst (-1), 1) := by decide +kernel
theorem dX4_canGo_19 : decode cX4_canGo 19 = .ok (.ixor, 1) := by decide +kernel
theorem dX4_canGo_20 : decode cX4_canGo 20 = .ok (.iand, 1) := by decide +kernel
theorem dX4_canGo_21 : decode cX4_canGo 21 = .ok (.invokevirtual 179, 3) := by decide +kernel
theorem dX4_canGo_24 : decode cX4_canGo 24 = .ok (.sipush 256, 3) := by decide +kernel
theorem dX4_canGo_27 : decode cX4_canGo 27 = .ok (.idiv, 1) := by decide +kernel
theorem dX4_canGo_28 : decode cX4_canGo 28 = .ok (.aload_n 0, 1) := by decide +kernel
theorem dX4_canGo_29 : decode cX4_canGo 29 = .ok (.getfield 50, 3) := by decide +kernel
theorem dX4_canGo_32 : decode cX4_canGo 32 = .ok (.getfield 168, 3) := by decide +kernel
theorem dX4_canGo_35 : decode cX4_canGo 35 = .ok (.if_icmp .gt 7, 3) := by decide +kernel
theorem dX4_canGo_38 : decode cX4_canGo 38 = .ok (.iconst 1, 1) := by decide +kernel
theorem dX4_canGo_39 : decode cX4_canGo 39 = .ok (.goto 4, 3) := by decide +kernel
theorem dX4_canGo_42 : decode cX4_canGo 42 = .ok (.iconst 0, 1) := by decide +kernel
theorem dX4_canGo_43 : decode cX4_canGo 43 = .ok (.ireturn, 1) := by decide +kernel
set_option maxRecDepth 20000 in
theorem ggX4_companions_X4_canGo : GoodIn wsX4_companions wsX4_canGo := goodIn_r _ [7, 1, 8, 9, 10, 11, 6, 12, 13, 14, 15, 16, 17, 18, 19, 20, 21, 22, 23, 24, 25, 26, 27, 28, 29, 30, 31, 32, 33, 34, 35, 36, 37, 38, 39, 40, 41, 42, 43, 44, 45, 46, 47, 48, 49, 50, 51, 52, 53, 54, 55, 56, 57, 58, 59, 60, 61, 62, 63, 64, 65, 66, 67, 68, 69, 70, 71, 72, 73, 74, 75, 76, 77, 78, 79, 80, 81, 82, 83, 84, 85, 86, 87, 88, 89, 90, 91, 92, 93, 94, 95, 96, 97, 98, 99, 100, 101] (by rfl) (by decide +kernel)
set_option maxRecDepth 20000 in
theorem gX4_companions_X4_canGo : GoodIn wsX4_companions (wsV RX4 302 RX4 yX4_canGo wsX4_canGo) := goodIn_app (goodIn_of _ (by decide +kernel)) ggX4_companions_X4_canGo
theorem dX4_companions_0 : decode cX4_companions 0 = .ok (.iconst 0, 1) := by decide +kernel
theorem dX4_companions_1 : decode cX4_companions 1 = .ok (.istore_n 2, 1) := by decide +kernel
theorem dX4_companions_2 : decode cX4_companions 2 = .ok (.iconst 0, 1) := by decide +kernel
theorem dX4_companions_3 : decode cX4_companions 3 = .ok (.istore_n 3, 1) := by decide +kernel
theorem dX4_companions_4 : decode cX4_companions 4 = .ok (.iload_n 3, 1) := by decide +kernel
theorem dX4_companions_5 : decode cX4_companions 5 = .ok (.aload_n 0, 1) := by decide +kernel
theorem dX4_companions_6 : decode cX4_companions 6 = .ok (.getfield 50, 3) := by decide +kernel
theorem dX4_companions_9 : decode cX4_companions 9 = .ok (.getfield 115, 3) := by decide +kernel
theorem dX4_companions_12 : decode cX4_companions 12 = .ok (.if_icmp .ge 30, 3) := by decide +kernel
theorem dX4_companions_15 : decode cX4_companions 15 = .ok (.iload_n 3, 1) := by decide +kernel
theorem dX4_companions_16 : decode cX4_companions 16 = .ok (.iload_n 1, 1) := by decide +kernel
theorem dX4_companions_17 : decode cX4_companions 17 = .ok (.if_icmp .eq 19, 3) := by decide +kernel
theorem dX4_companions_20 : decode cX4_companions 20 = .ok (.aload_n 0, 1) := by decide +kernel
theorem dX4_companions_21 : decode cX4_companions 21 = .ok (.iload_n 1, 1) := by decide +kernel
theorem dX4_companions_22 : decode cX4_companions 22 = .ok (.iload_n 3, 1) := by decide +kernel
theorem dX4_companions_23 : decode cX4_companions 23 = .ok (.iconst 0, 1) := by decide +kernel
theorem dX4_companions_24 : decode cX4_companions 24 = .ok (.invokevirtual 302, 3) := by decide +kernel
theorem dX4_companions_27 : decode cX4_companions 27 = .ok (.ifCond .eq 9, 3) := by decide +kernel
theorem dX4_companions_30 : decode cX4_companions 30 = .ok (.iload_n 2, 1) := by decide +kernel
theorem dX4_companions_31 : decode cX4_companions 31 = .ok (.iconst 1, 1) := by decide +kernel
theorem dX4_companions_32 : decode cX4_companions 32 = .ok (.iload_n 3, 1) := by decide +kernel
theorem dX4_companions_33 : decode cX4_companions 33 = .ok (.ishl, 1) := by decide +kernel
theorem dX4_companions_34 : decode cX4_companions 34 = .ok (.ior, 1) := by decide +kernel
theorem dX4_companions_35 : decode cX4_companions 35 = .ok (.istore_n 2, 1) := by decide +kernel
theorem dX4_companions_36 : decode cX4_companions 36 = .ok (.iinc 3 1, 3) := by decide +kernel
theorem dX4_companions_39 : decode cX4_companions 39 = .ok (.goto (-35), 3) := by decide +kernel
theorem dX4_companions_42 : decode cX4_companions 42 = .ok (.iload_n 2, 1) := by decide +kernel
theorem dX4_companions_43 : decode cX4_companions 43 = .ok (.ireturn, 1) := by decide +kernel
set_option maxRecDepth 20000 in
theorem ggX4_firstPair_X4_canGo : GoodIn wsX4_firstPair wsX4_canGo := goodIn_r _ [7, 1, 8, 9, 10, 11, 6, 12, 13, 14, 15, 16, 17, 18, 19, 20, 21, 22, 23, 24, 25, 26, 27, 28, 29, 30, 31, 32, 33, 34, 35, 36, 37, 38, 39, 40, 41, 42, 43, 44, 45, 46, 47, 48, 49, 50, 51, 52, 53, 54, 55, 56, 57, 58, 59, 60, 61, 62, 63, 64, 65, 66, 67, 68, 69, 70, 71, 72, 73, 74, 75, 76, 77, 78, 79, 80, 81, 82, 83, 84, 85, 86, 87, 88, 89, 90, 91, 92, 93, 94, 95, 96, 97, 98, 99, 100, 101] (by rfl) (by decide +kernel)
set_option maxRecDepth 20000 in
theorem gX4_firstPair_X4_canGo : GoodIn wsX4_firstPair (wsV RX4 302 RX4 yX4_canGo wsX4_canGo) := goodIn_app (goodIn_of _ (by decide +kernel)) ggX4_firstPair_X4_canGo
theorem dX4_firstPair_0 : decode cX4_firstPair 0 = .ok (.iconst 0, 1) := by decide +kernel
theorem dX4_firstPair_1 : decode cX4_firstPair 1 = .ok (.istore_n 1, 1) := by decide +kernel
theorem dX4_firstPair_2 : decode cX4_firstPair 2 = .ok (.iload_n 1, 1) := by decide +kernel
theorem dX4_firstPair_3 : decode cX4_firstPair 3 = .ok (.aload_n 0, 1) := by decide +kernel
theorem dX4_firstPair_4 : decode cX4_firstPair 4 = .ok (.getfield 50, 3) := by decide +kernel
theorem dX4_firstPair_7 : decode cX4_firstPair 7 = .ok (.getfield 115, 3) := by decide +kernel
theorem dX4_firstPair_10 : decode cX4_firstPair 10 = .ok (.if_icmp .ge 47, 3) := by decide +kernel
theorem dX4_firstPair_13 : decode cX4_firstPair 13 = .ok (.iload_n 1, 1) := by decide +kernel
theorem dX4_firstPair_14 : decode cX4_firstPair 14 = .ok (.iconst 1, 1) := by decide +kernel
theorem dX4_firstPair_15 : decode cX4_firstPair 15 = .ok (.iadd, 1) := by decide +kernel
theorem dX4_firstPair_16 : decode cX4_firstPair 16 = .ok (.istore_n 2, 1) := by decide +kernel
theorem dX4_firstPair_17 : decode cX4_firstPair 17 = .ok (.iload_n 2, 1) := by decide +kernel
theorem dX4_firstPair_18 : decode cX4_firstPair 18 = .ok (.aload_n 0, 1) := by decide +kernel
theorem dX4_firstPair_19 : decode cX4_firstPair 19 = .ok (.getfield 50, 3) := by decide +kernel
theorem dX4_firstPair_22 : decode cX4_firstPair 22 = .ok (.getfield 115, 3) := by decide +kernel
theorem dX4_firstPair_25 : decode cX4_firstPair 25 = .ok (.if_icmp .ge 26, 3) := by decide +kernel
theorem dX4_firstPair_28 : decode cX4_firstPair 28 = .ok (.aload_n 0, 1) := by decide +kernel
theorem dX4_firstPair_29 : decode cX4_firstPair 29 = .ok (.iload_n 1, 1) := by decide +kernel
theorem dX4_firstPair_30 : decode cX4_firstPair 30 = .ok (.iload_n 2, 1) := by decide +kernel
theorem dX4_firstPair_31 : decode cX4_firstPair 31 = .ok (.iconst 0, 1) := by decide +kernel
theorem dX4_firstPair_32 : decode cX4_firstPair 32 = .ok (.invokevirtual 302, 3) := by decide +kernel
theorem dX4_firstPair_35 : decode cX4_firstPair 35 = .ok (.ifCond .eq 10, 3) := by decide +kernel
theorem dX4_firstPair_38 : decode cX4_firstPair 38 = .ok (.bipush 6, 2) := by decide +kernel
theorem dX4_firstPair_40 : decode cX4_firstPair 40 = .ok (.iload_n 1, 1) := by decide +kernel
theorem dX4_firstPair_41 : decode cX4_firstPair 41 = .ok (.imul, 1) := by decide +kernel
theorem dX4_firstPair_42 : decode cX4_firstPair 42 = .ok (.iload_n 2, 1) := by decide +kernel
theorem dX4_firstPair_43 : decode cX4_firstPair 43 = .ok (.iadd, 1) := by decide +kernel
theorem dX4_firstPair_44 : decode cX4_firstPair 44 = .ok (.ireturn, 1) := by decide +kernel
theorem dX4_firstPair_45 : decode cX4_firstPair 45 = .ok (.iinc 2 1, 3) := by decide +kernel
theorem dX4_firstPair_48 : decode cX4_firstPair 48 = .ok (.goto (-31), 3) := by decide +kernel
theorem dX4_firstPair_51 : decode cX4_firstPair 51 = .ok (.iinc 1 1, 3) := by decide +kernel
theorem dX4_firstPair_54 : decode cX4_firstPair 54 = .ok (.goto (-52), 3) := by decide +kernel
theorem dX4_firstPair_57 : decode cX4_firstPair 57 = .ok (.bipush (-9), 2) := by decide +kernel
theorem dX4_firstPair_59 : decode cX4_firstPair 59 = .ok (.ireturn, 1) := by decide +kernel
set_option maxRecDepth 20000 in
theorem ggX4_pairsWithout_X4_canGo : GoodIn wsX4_pairsWithout wsX4_canGo := goodIn_r _ [7, 1, 8, 9, 10, 11, 6, 12, 13, 14, 15, 16, 17, 18, 19, 20, 21, 22, 23, 24, 25, 26, 27, 28, 29, 30, 31, 32, 33, 34, 35, 36, 37, 38, 39, 40, 41, 42, 43, 44, 45, 46, 47, 48, 49, 50, 51, 52, 53, 54, 55, 56, 57, 58, 59, 60, 61, 62, 63, 64, 65, 66, 67, 68, 69, 70, 71, 72, 73, 74, 75, 76, 77, 78, 79, 80, 81, 82, 83, 84, 85, 86, 87, 88, 89, 90, 91, 92, 93, 94, 95, 96, 97, 98, 99, 100, 101] (by rfl) (by decide +kernel)
set_option maxRecDepth 20000 in
theorem gX4_pairsWithout_X4_canGo : GoodIn wsX4_pairsWithout (wsV RX4 302 RX4 yX4_canGo wsX4_canGo) := goodIn_app (goodIn_of _ (by decide +kernel)) ggX4_pairsWithout_X4_canGo
theorem dX4_pairsWithout_0 : decode cX4_pairsWithout 0 = .ok (.iconst 0, 1) := by decide +kernel
theorem dX4_pairsWithout_1 : decode cX4_pairsWithout 1 = .ok (.istore_n 2, 1) := by decide +kernel
theorem dX4_pairsWithout_2 : decode cX4_pairsWithout 2 = .ok (.iconst 0, 1) := by decide +kernel
theorem dX4_pairsWithout_3 : decode cX4_pairsWithout 3 = .ok (.istore_n 3, 1) := by decide +kernel
theorem dX4_pairsWithout_4 : decode cX4_pairsWithout 4 = .ok (.iload_n 3, 1) := by decide +kernel
theorem dX4_pairsWithout_5 : decode cX4_pairsWithout 5 = .ok (.aload_n 0, 1) := by decide +kernel
theorem dX4_pairsWithout_6 : decode cX4_pairsWithout 6 = .ok (.getfield 50, 3) := by decide +kernel
theorem dX4_pairsWithout_9 : decode cX4_pairsWithout 9 = .ok (.getfield 115, 3) := by decide +kernel
theorem dX4_pairsWithout_12 : decode cX4_pairsWithout 12 = .ok (.if_icmp .ge 51, 3) := by decide +kernel
theorem dX4_pairsWithout_15 : decode cX4_pairsWithout 15 = .ok (.iload_n 3, 1) := by decide +kernel
theorem dX4_pairsWithout_16 : decode cX4_pairsWithout 16 = .ok (.iconst 1, 1) := by decide +kernel
theorem dX4_pairsWithout_17 : decode cX4_pairsWithout 17 = .ok (.iadd, 1) := by decide +kernel
theorem dX4_pairsWithout_18 : decode cX4_pairsWithout 18 = .ok (.istore 4, 2) := by decide +kernel
theorem dX4_pairsWithout_20 : decode cX4_pairsWithout 20 = .ok (.iload 4, 2) := by decide +kernel
theorem dX4_pairsWithout_22 : decode cX4_pairsWithout 22 = .ok (.aload_n 0, 1) := by decide +kernel
theorem dX4_pairsWithout_23 : decode cX4_pairsWithout 23 = .ok (.getfield 50, 3) := by decide +kernel
theorem dX4_pairsWithout_26 : decode cX4_pairsWithout 26 = .ok (.getfield 115, 3) := by decide +kernel
theorem dX4_pairsWithout_29 : decode cX4_pairsWithout 29 = .ok (.if_icmp .ge 28, 3) := by decide +kernel
theorem dX4_pairsWithout_32 : decode cX4_pairsWithout 32 = .ok (.iload_n 2, 1) := by decide +kernel
theorem dX4_pairsWithout_33 : decode cX4_pairsWithout 33 = .ok (.aload_n 0, 1) := by decide +kernel
theorem dX4_pairsWithout_34 : decode cX4_pairsWithout 34 = .ok (.iload_n 3, 1) := by decide +kernel
theorem dX4_pairsWithout_35 : decode cX4_pairsWithout 35 = .ok (.iload 4, 2) := by decide +kernel
theorem dX4_pairsWithout_37 : decode cX4_pairsWithout 37 = .ok (.iload_n 1, 1) := by decide +kernel
theorem dX4_pairsWithout_38 : decode cX4_pairsWithout 38 = .ok (.invokevirtual 302, 3) := by decide +kernel
theorem dX4_pairsWithout_41 : decode cX4_pairsWithout 41 = .ok (.ifCond .eq 7, 3) := by decide +kernel
theorem dX4_pairsWithout_44 : decode cX4_pairsWithout 44 = .ok (.iconst 1, 1) := by decide +kernel
theorem dX4_pairsWithout_45 : decode cX4_pairsWithout 45 = .ok (.goto 4, 3) := by decide +kernel
theorem dX4_pairsWithout_48 : decode cX4_pairsWithout 48 = .ok (.iconst 0, 1) := by decide +kernel
theorem dX4_pairsWithout_49 : decode cX4_pairsWithout 49 = .ok (.iadd, 1) := by decide +kernel
theorem dX4_pairsWithout_50 : decode cX4_pairsWithout 50 = .ok (.istore_n 2, 1) := by decide +kernel
theorem dX4_pairsWithout_51 : decode cX4_pairsWithout 51 = .ok (.iinc 4 1, 3) := by decide +kernel
theorem dX4_pairsWithout_54 : decode cX4_pairsWithout 54 = .ok (.goto (-34), 3) := by decide +kernel
theorem dX4_pairsWithout_57 : decode cX4_pairsWithout 57 = .ok (.iinc 3 1, 3) := by decide +kernel
theorem dX4_pairsWithout_60 : decode cX4_pairsWithout 60 = .ok (.goto (-56), 3) := by decide +kernel
theorem dX4_pairsWithout_63 : decode cX4_pairsWithout 63 = .ok (.iload_n 2, 1) := by decide +kernel
theorem dX4_pairsWithout_64 : decode cX4_pairsWithout 64 = .ok (.ireturn, 1) := by decide +kernel
set_option maxRecDepth 20000 in
theorem ggX4_about_X4_counts : GoodIn wsX4_about wsX4_counts := goodIn_r _ [9, 1, 2, 3, 4, 10, 11, 12, 13, 14, 15, 16, 17, 18, 8, 19, 79, 80, 81, 82, 83, 84, 85, 86, 87, 88, 89, 90, 91, 92, 93, 94, 95, 96, 97, 98, 99, 100, 101, 102, 103, 104, 105] (by rfl) (by decide +kernel)
set_option maxRecDepth 20000 in
theorem gX4_about_X4_counts : GoodIn wsX4_about (wsV RX4 137 RX4 yX4_counts wsX4_counts) := goodIn_app (goodIn_of _ (by decide +kernel)) ggX4_about_X4_counts
set_option maxRecDepth 20000 in
theorem ggX4_about_X0_top : GoodIn wsX4_about wsX0_top := goodIn_r _ [23, 24, 16, 101, 102, 103, 104, 105] (by rfl) (by decide +kernel)
set_option maxRecDepth 20000 in
theorem gX4_about_X0_top : GoodIn wsX4_about (wsV RX4 191 RX0 yX0_top wsX0_top) := goodIn_app (goodIn_of _ (by decide +kernel)) ggX4_about_X0_top
set_option maxRecDepth 20000 in
theorem ggX4_about_X4_companions : GoodIn wsX4_about wsX4_companions := goodIn_r _ [28, 1, 29, 30, 31, 32, 8, 33, 34, 35, 36, 37, 38, 4, 20, 21, 22, 13, 23, 24, 16, 39, 40, 41, 42, 43, 44, 45, 46, 47, 48, 49, 50, 51, 52, 53, 54, 55, 56, 57, 5, 6, 7, 9, 2, 3, 10, 11, 12, 14, 15, 17, 18, 19, 58, 59, 60, 61, 62, 63, 64, 65, 66, 67, 68, 69, 70, 71, 72, 73, 74, 75, 76, 77, 78, 79, 80, 81, 82, 83, 84, 85, 86, 87, 88, 89, 90, 91, 92, 93, 94, 95, 96, 97, 98, 99, 100, 101, 102, 103, 104, 105] (by rfl) (by decide +kernel)
set_option maxRecDepth 20000 in
theorem gX4_about_X4_companions : GoodIn wsX4_about (wsV RX4 305 RX4 yX4_companions wsX4_companions) := goodIn_app (goodIn_of _ (by decide +kernel)) ggX4_about_X4_companions
theorem dX4_about_0 : decode cX4_about 0 = .ok (.iload_n 2, 1) := by decide +kernel
theorem dX4_about_1 : decode cX4_about 1 = .ok (.tableswitch 69 0 3 #[31, 41, 51, 57], 31) := by decide +kernel
theorem dX4_about_32 : decode cX4_about 32 = .ok (.aload_n 0, 1) := by decide +kernel
theorem dX4_about_33 : decode cX4_about 33 = .ok (.getfield 50, 3) := by decide +kernel
theorem dX4_about_36 : decode cX4_about 36 = .ok (.getfield 128, 3) := by decide +kernel
theorem dX4_about_39 : decode cX4_about 39 = .ok (.iload_n 1, 1) := by decide +kernel
theorem dX4_about_40 : decode cX4_about 40 = .ok (.iaload, 1) := by decide +kernel
theorem dX4_about_41 : decode cX4_about 41 = .ok (.ireturn, 1) := by decide +kernel
theorem dX4_about_42 : decode cX4_about 42 = .ok (.aload_n 0, 1) := by decide +kernel
theorem dX4_about_43 : decode cX4_about 43 = .ok (.getfield 50, 3) := by decide +kernel
theorem dX4_about_46 : decode cX4_about 46 = .ok (.getfield 134, 3) := by decide +kernel
theorem dX4_about_49 : decode cX4_about 49 = .ok (.iload_n 1, 1) := by decide +kernel
theorem dX4_about_50 : decode cX4_about 50 = .ok (.iaload, 1) := by decide +kernel
theorem dX4_about_51 : decode cX4_about 51 = .ok (.ireturn, 1) := by decide +kernel
theorem dX4_about_52 : decode cX4_about 52 = .ok (.aload_n 0, 1) := by decide +kernel
theorem dX4_about_53 : decode cX4_about 53 = .ok (.iload_n 1, 1) := by decide +kernel
theorem dX4_about_54 : decode cX4_about 54 = .ok (.invokevirtual 137, 3) := by decide +kernel
theorem dX4_about_57 : decode cX4_about 57 = .ok (.ireturn, 1) := by decide +kernel
theorem dX4_about_58 : decode cX4_about 58 = .ok (.aload_n 0, 1) := by decide +kernel
theorem dX4_about_59 : decode cX4_about 59 = .ok (.getfield 24, 3) := by decide +kernel
theorem dX4_about_62 : decode cX4_about 62 = .ok (.invokevirtual 191, 3) := by decide +kernel
theorem dX4_about_65 : decode cX4_about 65 = .ok (.iload_n 1, 1) := by decide +kernel
theorem dX4_about_66 : decode cX4_about 66 = .ok (.ishr, 1) := by decide +kernel
theorem dX4_about_67 : decode cX4_about 67 = .ok (.iconst 1, 1) := by decide +kernel
theorem dX4_about_68 : decode cX4_about 68 = .ok (.iand, 1) := by decide +kernel
theorem dX4_about_69 : decode cX4_about 69 = .ok (.ireturn, 1) := by decide +kernel
theorem dX4_about_70 : decode cX4_about 70 = .ok (.aload_n 0, 1) := by decide +kernel
theorem dX4_about_71 : decode cX4_about 71 = .ok (.iload_n 1, 1) := by decide +kernel
theorem dX4_about_72 : decode cX4_about 72 = .ok (.invokevirtual 305, 3) := by decide +kernel
theorem dX4_about_75 : decode cX4_about 75 = .ok (.ireturn, 1) := by decide +kernel
theorem dX4_howManyKept_0 : decode cX4_howManyKept 0 = .ok (.iconst 0, 1) := by decide +kernel
theorem dX4_howManyKept_1 : decode cX4_howManyKept 1 = .ok (.istore_n 1, 1) := by decide +kernel
theorem dX4_howManyKept_2 : decode cX4_howManyKept 2 = .ok (.iconst 0, 1) := by decide +kernel
theorem dX4_howManyKept_3 : decode cX4_howManyKept 3 = .ok (.istore_n 2, 1) := by decide +kernel
theorem dX4_howManyKept_4 : decode cX4_howManyKept 4 = .ok (.iload_n 2, 1) := by decide +kernel
theorem dX4_howManyKept_5 : decode cX4_howManyKept 5 = .ok (.iconst 3, 1) := by decide +kernel
theorem dX4_howManyKept_6 : decode cX4_howManyKept 6 = .ok (.if_icmp .ge 26, 3) := by decide +kernel
theorem dX4_howManyKept_9 : decode cX4_howManyKept 9 = .ok (.iload_n 1, 1) := by decide +kernel
theorem dX4_howManyKept_10 : decode cX4_howManyKept 10 = .ok (.aload_n 0, 1) := by decide +kernel
theorem dX4_howManyKept_11 : decode cX4_howManyKept 11 = .ok (.getfield 32, 3) := by decide +kernel
theorem dX4_howManyKept_14 : decode cX4_howManyKept 14 = .ok (.iload_n 2, 1) := by decide +kernel
theorem dX4_howManyKept_15 : decode cX4_howManyKept 15 = .ok (.baload, 1) := by decide +kernel
theorem dX4_howManyKept_16 : decode cX4_howManyKept 16 = .ok (.ifCond .eq 7, 3) := by decide +kernel
theorem dX4_howManyKept_19 : decode cX4_howManyKept 19 = .ok (.iconst 1, 1) := by decide +kernel
theorem dX4_howManyKept_20 : decode cX4_howManyKept 20 = .ok (.goto 4, 3) := by decide +kernel
theorem dX4_howManyKept_23 : decode cX4_howManyKept 23 = .ok (.iconst 0, 1) := by decide +kernel
theorem dX4_howManyKept_24 : decode cX4_howManyKept 24 = .ok (.iadd, 1) := by decide +kernel
theorem dX4_howManyKept_25 : decode cX4_howManyKept 25 = .ok (.istore_n 1, 1) := by decide +kernel
theorem dX4_howManyKept_26 : decode cX4_howManyKept 26 = .ok (.iinc 2 1, 3) := by decide +kernel
theorem dX4_howManyKept_29 : decode cX4_howManyKept 29 = .ok (.goto (-25), 3) := by decide +kernel
theorem dX4_howManyKept_32 : decode cX4_howManyKept 32 = .ok (.iload_n 1, 1) := by decide +kernel
theorem dX4_howManyKept_33 : decode cX4_howManyKept 33 = .ok (.ireturn, 1) := by decide +kernel
set_option maxRecDepth 20000 in
theorem ggX4_findWays_X4_counts : GoodIn wsX4_findWays wsX4_counts := goodIn_r _ [10, 2, 11, 12, 13, 14, 15, 16, 17, 18, 19, 20, 21, 22, 9, 23, 47, 48, 49, 50, 51, 52, 53, 54, 55, 56, 57, 58, 59, 60, 61, 62, 63, 64, 65, 66, 67, 68, 77, 78, 79, 80, 81] (by rfl) (by decide +kernel)
set_option maxRecDepth 20000 in
theorem gX4_findWays_X4_counts : GoodIn wsX4_findWays (wsV RX4 137 RX4 yX4_counts wsX4_counts) := goodIn_app (goodIn_of _ (by decide +kernel)) ggX4_findWays_X4_counts
set_option maxRecDepth 20000 in
theorem ggX4_findWays_X1_areTwins : GoodIn wsX4_findWays wsX1_areTwins := goodIn_r _ [28, 29, 60, 61, 62, 63, 64, 65, 66, 67, 68] (by rfl) (by decide +kernel)
set_option maxRecDepth 20000 in
theorem gX4_findWays_X1_areTwins : GoodIn wsX4_findWays (wsV RX4 299 RX1 yX1_areTwins wsX1_areTwins) := goodIn_app (goodIn_of _ (by decide +kernel)) ggX4_findWays_X1_areTwins
set_option maxRecDepth 20000 in
theorem ggX4_findWays_X1_openSets : GoodIn wsX4_findWays wsX1_openSets := goodIn_r _ [33, 34, 35, 36, 37, 38, 27, 39, 40, 41, 9, 42, 43, 44, 45, 46, 60, 61, 62, 63, 64, 65, 66, 67, 68] (by rfl) (by decide +kernel)
set_option maxRecDepth 20000 in
theorem gX4_findWays_X1_openSets : GoodIn wsX4_findWays (wsV RX4 312 RX1 yX1_openSets wsX1_openSets) := goodIn_app (goodIn_of _ (by decide +kernel)) ggX4_findWays_X1_openSets
theorem dX4_findWays_0 : decode cX4_findWays 0 = .ok (.aload_n 0, 1) := by decide +kernel
theorem dX4_findWays_1 : decode cX4_findWays 1 = .ok (.getfield 39, 3) := by decide +kernel
theorem dX4_findWays_4 : decode cX4_findWays 4 = .ok (.aload_n 0, 1) := by decide +kernel
theorem dX4_findWays_5 : decode cX4_findWays 5 = .ok (.getfield 50, 3) := by decide +kernel
theorem dX4_findWays_8 : decode cX4_findWays 8 = .ok (.getfield 115, 3) := by decide +kernel
theorem dX4_findWays_11 : decode cX4_findWays 11 = .ok (.putfield 308, 3) := by decide +kernel
theorem dX4_findWays_14 : decode cX4_findWays 14 = .ok (.iconst 0, 1) := by decide +kernel
theorem dX4_findWays_15 : decode cX4_findWays 15 = .ok (.istore_n 1, 1) := by decide +kernel
theorem dX4_findWays_16 : decode cX4_findWays 16 = .ok (.iload_n 1, 1) := by decide +kernel
theorem dX4_findWays_17 : decode cX4_findWays 17 = .ok (.aload_n 0, 1) := by decide +kernel
theorem dX4_findWays_18 : decode cX4_findWays 18 = .ok (.getfield 50, 3) := by decide +kernel
theorem dX4_findWays_21 : decode cX4_findWays 21 = .ok (.getfield 115, 3) := by decide +kernel
theorem dX4_findWays_24 : decode cX4_findWays 24 = .ok (.if_icmp .ge 71, 3) := by decide +kernel
theorem dX4_findWays_27 : decode cX4_findWays 27 = .ok (.iload_n 1, 1) := by decide +kernel
theorem dX4_findWays_28 : decode cX4_findWays 28 = .ok (.iconst 1, 1) := by decide +kernel
theorem dX4_findWays_29 : decode cX4_findWays 29 = .ok (.iadd, 1) := by decide +kernel
theorem dX4_findWays_30 : decode cX4_findWays 30 = .ok (.istore_n 2, 1) := by decide +kernel
theorem dX4_findWays_31 : decode cX4_findWays 31 = .ok (.iload_n 2, 1) := by decide +kernel
theorem dX4_findWays_32 : decode cX4_findWays 32 = .ok (.aload_n 0, 1) := by decide +kernel
theorem dX4_findWays_33 : decode cX4_findWays 33 = .ok (.getfield 50, 3) := by decide +kernel
theorem dX4_findWays_36 : decode cX4_findWays 36 = .ok (.getfield 115, 3) := by decide +kernel
theorem dX4_findWays_39 : decode cX4_findWays 39 = .ok (.if_icmp .ge 50, 3) := by decide +kernel
theorem dX4_findWays_42 : decode cX4_findWays 42 = .ok (.aload_n 0, 1) := by decide +kernel
theorem dX4_findWays_43 : decode cX4_findWays 43 = .ok (.getfield 39, 3) := by decide +kernel
theorem dX4_findWays_46 : decode cX4_findWays 46 = .ok (.getfield 309, 3) := by decide +kernel
theorem dX4_findWays_49 : decode cX4_findWays 49 = .ok (.bipush 6, 2) := by decide +kernel
theorem dX4_findWays_51 : decode cX4_findWays 51 = .ok (.iload_n 1, 1) := by decide +kernel
theorem dX4_findWays_52 : decode cX4_findWays 52 = .ok (.imul, 1) := by decide +kernel
theorem dX4_findWays_53 : decode cX4_findWays 53 = .ok (.iload_n 2, 1) := by decide +kernel
theorem dX4_findWays_54 : decode cX4_findWays 54 = .ok (.iadd, 1) := by decide +kernel
theorem dX4_findWays_55 : decode cX4_findWays 55 = .ok (.aload_n 0, 1) := by decide +kernel
theorem dX4_findWays_56 : decode cX4_findWays 56 = .ok (.getfield 50, 3) := by decide +kernel
theorem dX4_findWays_59 : decode cX4_findWays 59 = .ok (.aload_n 0, 1) := by decide +kernel
theorem dX4_findWays_60 : decode cX4_findWays 60 = .ok (.iload_n 1, 1) := by decide +kernel
theorem dX4_findWays_61 : decode cX4_findWays 61 = .ok (.invokevirtual 137, 3) := by decide +kernel
theorem dX4_findWays_64 : decode cX4_findWays 64 = .ok (.aload_n 0, 1) := by decide +kernel
theorem dX4_findWays_65 : decode cX4_findWays 65 = .ok (.iload_n 2, 1) := by decide +kernel
theorem dX4_findWays_66 : decode cX4_findWays 66 = .ok (.invokevirtual 137, 3) := by decide +kernel
theorem dX4_findWays_69 : decode cX4_findWays 69 = .ok (.isub, 1) := by decide +kernel
theorem dX4_findWays_70 : decode cX4_findWays 70 = .ok (.aload_n 0, 1) := by decide +kernel
theorem dX4_findWays_71 : decode cX4_findWays 71 = .ok (.getfield 50, 3) := by decide +kernel
theorem dX4_findWays_74 : decode cX4_findWays 74 = .ok (.iload_n 1, 1) := by decide +kernel
theorem dX4_findWays_75 : decode cX4_findWays 75 = .ok (.iload_n 2, 1) := by decide +kernel
theorem dX4_findWays_76 : decode cX4_findWays 76 = .ok (.invokevirtual 299, 3) := by decide +kernel
theorem dX4_findWays_79 : decode cX4_findWays 79 = .ok (.invokevirtual 312, 3) := by decide +kernel
theorem dX4_findWays_82 : decode cX4_findWays 82 = .ok (.iastore, 1) := by decide +kernel
theorem dX4_findWays_83 : decode cX4_findWays 83 = .ok (.iinc 2 1, 3) := by decide +kernel
theorem dX4_findWays_86 : decode cX4_findWays 86 = .ok (.goto (-55), 3) := by decide +kernel
theorem dX4_findWays_89 : decode cX4_findWays 89 = .ok (.iinc 1 1, 3) := by decide +kernel
theorem dX4_findWays_92 : decode cX4_findWays 92 = .ok (.goto (-76), 3) := by decide +kernel
theorem dX4_findWays_95 : decode cX4_findWays 95 = .ok (.return_, 1) := by decide +kernel
set_option maxRecDepth 20000 in
theorem ggX4_spread_X4_findWays : GoodIn wsX4_spread wsX4_findWays := goodIn_r _ [8, 1, 3, 9, 10, 11, 12, 13, 14, 7, 15, 16, 17, 2, 18, 19, 20, 21, 22, 23, 24, 25, 26, 27, 28, 29, 30, 31, 32, 33, 34, 35, 36, 37, 38, 39, 40, 41, 42, 43, 44, 45, 46, 47, 48, 49, 50, 95, 96, 97, 98, 99, 100, 101, 102, 103, 104, 105, 106, 107, 108, 109, 110, 111, 112, 113, 114, 115, 116, 117, 118, 119, 120, 121, 122, 123, 124, 125, 126, 127, 128, 129] (by rfl) (by decide +kernel)
set_option maxRecDepth 20000 in
theorem gX4_spread_X4_findWays : GoodIn wsX4_spread (wsV RX4 188 RX4 yX4_findWays wsX4_findWays) := goodIn_app (goodIn_of _ (by decide +kernel)) ggX4_spread_X4_findWays
set_option maxRecDepth 20000 in
theorem ggX4_spread_X0_top : GoodIn wsX4_spread wsX0_top := goodIn_r _ [54, 55, 24, 125, 126, 127, 128, 129] (by rfl) (by decide +kernel)
set_option maxRecDepth 20000 in
theorem gX4_spread_X0_top : GoodIn wsX4_spread (wsV RX4 191 RX0 yX0_top wsX0_top) := goodIn_app (goodIn_of _ (by decide +kernel)) ggX4_spread_X0_top
set_option maxRecDepth 20000 in
theorem ggX4_spread_X0_stonesUp : GoodIn wsX4_spread wsX0_stonesUp := goodIn_r _ [59, 60, 24, 125, 126, 127, 128, 129] (by rfl) (by decide +kernel)
set_option maxRecDepth 20000 in
theorem gX4_spread_X0_stonesUp : GoodIn wsX4_spread (wsV RX4 194 RX0 yX0_stonesUp wsX0_stonesUp) := goodIn_app (goodIn_of _ (by decide +kernel)) ggX4_spread_X0_stonesUp
set_option maxRecDepth 20000 in
theorem ggX4_spread_X1_allStones : GoodIn wsX4_spread wsX1_allStones := goodIn_r _ [43, 44, 108, 109, 110, 111, 112, 113, 114, 115, 116] (by rfl) (by decide +kernel)
set_option maxRecDepth 20000 in
theorem gX4_spread_X1_allStones : GoodIn wsX4_spread (wsV RX4 197 RX1 yX1_allStones wsX1_allStones) := goodIn_app (goodIn_of _ (by decide +kernel)) ggX4_spread_X1_allStones
set_option maxRecDepth 20000 in
theorem ggX4_spread_X3_spread : GoodIn wsX4_spread wsX3_spread := goodIn_r _ [66, 67, 68, 69, 70, 71, 72, 73, 74, 75, 76, 77, 65, 78, 79, 80, 81, 82, 83, 84, 85, 86, 87, 88, 89, 90, 91, 92, 93, 94, 117, 118, 119, 120, 121, 122, 123, 124] (by rfl) (by decide +kernel)
set_option maxRecDepth 20000 in
theorem gX4_spread_X3_spread : GoodIn wsX4_spread (wsV RX4 316 RX3 yX3_spread wsX3_spread) := goodIn_app (goodIn_of _ (by decide +kernel)) ggX4_spread_X3_spread
theorem dX4_spread_0 : decode cX4_spread 0 = .ok (.aload_n 0, 1) := by decide +kernel
theorem dX4_spread_1 : decode cX4_spread 1 = .ok (.invokevirtual 188, 3) := by decide +kernel
theorem dX4_spread_4 : decode cX4_spread 4 = .ok (.aload_n 0, 1) := by decide +kernel
theorem dX4_spread_5 : decode cX4_spread 5 = .ok (.getfield 39, 3) := by decide +kernel
theorem dX4_spread_8 : decode cX4_spread 8 = .ok (.aload_n 0, 1) := by decide +kernel
theorem dX4_spread_9 : decode cX4_spread 9 = .ok (.getfield 24, 3) := by decide +kernel
theorem dX4_spread_12 : decode cX4_spread 12 = .ok (.invokevirtual 191, 3) := by decide +kernel
theorem dX4_spread_15 : decode cX4_spread 15 = .ok (.aload_n 0, 1) := by decide +kernel
theorem dX4_spread_16 : decode cX4_spread 16 = .ok (.getfield 24, 3) := by decide +kernel
theorem dX4_spread_19 : decode cX4_spread 19 = .ok (.invokevirtual 194, 3) := by decide +kernel
theorem dX4_spread_22 : decode cX4_spread 22 = .ok (.aload_n 0, 1) := by decide +kernel
theorem dX4_spread_23 : decode cX4_spread 23 = .ok (.getfield 50, 3) := by decide +kernel
theorem dX4_spread_26 : decode cX4_spread 26 = .ok (.invokevirtual 197, 3) := by decide +kernel
theorem dX4_spread_29 : decode cX4_spread 29 = .ok (.invokevirtual 316, 3) := by decide +kernel
theorem dX4_spread_32 : decode cX4_spread 32 = .ok (.return_, 1) := by decide +kernel
set_option maxRecDepth 20000 in
theorem ggX4_fewestGoes_X4_spread : GoodIn wsX4_fewestGoes wsX4_spread := goodIn_r _ [9, 1, 10, 11, 12, 13, 14, 8, 15, 16, 17, 18, 19, 20, 21, 22, 23, 24, 25, 26, 27, 28, 29, 30, 31, 32, 33, 34, 35, 36, 37, 38, 39, 40, 41, 42, 43, 44, 45, 46, 47, 48, 49, 50, 51, 52, 53, 54, 55, 56, 57, 58, 59, 60, 61, 62, 63, 64, 65, 66, 67, 68, 69, 70, 71, 72, 73, 74, 75, 76, 77, 78, 79, 80, 81, 82, 83, 84, 85, 86, 87, 88, 89, 90, 91, 92, 93, 94, 95, 96, 97, 98, 99, 100, 101, 106, 107, 108, 109, 110, 111, 112, 113, 114, 115, 116, 117, 118, 127, 128, 129, 130, 131, 132, 133, 134, 135, 119, 120, 121, 122, 123, 124, 125, 126, 136, 137, 138, 139, 140] (by rfl) (by decide +kernel)
set_option maxRecDepth 20000 in
theorem gX4_fewestGoes_X4_spread : GoodIn wsX4_fewestGoes (wsV RX4 223 RX4 yX4_spread wsX4_spread) := goodIn_app (goodIn_of _ (by decide +kernel)) ggX4_fewestGoes_X4_spread
set_option maxRecDepth 20000 in
theorem ggX4_fewestGoes_X3_nearest : GoodIn wsX4_fewestGoes wsX3_nearest := goodIn_r _ [105, 77, 76, 119, 120, 121, 122, 123, 124, 125, 126] (by rfl) (by decide +kernel)
set_option maxRecDepth 20000 in
theorem gX4_fewestGoes_X3_nearest : GoodIn wsX4_fewestGoes (wsV RX4 318 RX3 yX3_nearest wsX3_nearest) := goodIn_app (goodIn_of _ (by decide +kernel)) ggX4_fewestGoes_X3_nearest
theorem dX4_fewestGoes_0 : decode cX4_fewestGoes 0 = .ok (.aload_n 0, 1) := by decide +kernel
theorem dX4_fewestGoes_1 : decode cX4_fewestGoes 1 = .ok (.invokevirtual 223, 3) := by decide +kernel
theorem dX4_fewestGoes_4 : decode cX4_fewestGoes 4 = .ok (.aload_n 0, 1) := by decide +kernel
theorem dX4_fewestGoes_5 : decode cX4_fewestGoes 5 = .ok (.getfield 39, 3) := by decide +kernel
theorem dX4_fewestGoes_8 : decode cX4_fewestGoes 8 = .ok (.iload_n 1, 1) := by decide +kernel
theorem dX4_fewestGoes_9 : decode cX4_fewestGoes 9 = .ok (.iload_n 2, 1) := by decide +kernel
theorem dX4_fewestGoes_10 : decode cX4_fewestGoes 10 = .ok (.invokevirtual 318, 3) := by decide +kernel
theorem dX4_fewestGoes_13 : decode cX4_fewestGoes 13 = .ok (.istore_n 3, 1) := by decide +kernel
theorem dX4_fewestGoes_14 : decode cX4_fewestGoes 14 = .ok (.iload_n 3, 1) := by decide +kernel
theorem dX4_fewestGoes_15 : decode cX4_fewestGoes 15 = .ok (.bipush (-9), 2) := by decide +kernel
theorem dX4_fewestGoes_17 : decode cX4_fewestGoes 17 = .ok (.if_icmp .ne 6, 3) := by decide +kernel
theorem dX4_fewestGoes_20 : decode cX4_fewestGoes 20 = .ok (.bipush (-9), 2) := by decide +kernel
theorem dX4_fewestGoes_22 : decode cX4_fewestGoes 22 = .ok (.ireturn, 1) := by decide +kernel
theorem dX4_fewestGoes_23 : decode cX4_fewestGoes 23 = .ok (.aload_n 0, 1) := by decide +kernel
theorem dX4_fewestGoes_24 : decode cX4_fewestGoes 24 = .ok (.aload_n 0, 1) := by decide +kernel
theorem dX4_fewestGoes_25 : decode cX4_fewestGoes 25 = .ok (.getfield 39, 3) := by decide +kernel
theorem dX4_fewestGoes_28 : decode cX4_fewestGoes 28 = .ok (.getfield 321, 3) := by decide +kernel
theorem dX4_fewestGoes_31 : decode cX4_fewestGoes 31 = .ok (.iload_n 3, 1) := by decide +kernel
theorem dX4_fewestGoes_32 : decode cX4_fewestGoes 32 = .ok (.iaload, 1) := by decide +kernel
theorem dX4_fewestGoes_33 : decode cX4_fewestGoes 33 = .ok (.ifCond .ne 8, 3) := by decide +kernel
theorem dX4_fewestGoes_36 : decode cX4_fewestGoes 36 = .ok (.bipush (-9), 2) := by decide +kernel
theorem dX4_fewestGoes_38 : decode cX4_fewestGoes 38 = .ok (.goto 12, 3) := by decide +kernel
theorem dX4_fewestGoes_41 : decode cX4_fewestGoes 41 = .ok (.aload_n 0, 1) := by decide +kernel
theorem dX4_fewestGoes_42 : decode cX4_fewestGoes 42 = .ok (.getfield 39, 3) := by decide +kernel
theorem dX4_fewestGoes_45 : decode cX4_fewestGoes 45 = .ok (.getfield 324, 3) := by decide +kernel
theorem dX4_fewestGoes_48 : decode cX4_fewestGoes 48 = .ok (.iload_n 3, 1) := by decide +kernel
theorem dX4_fewestGoes_49 : decode cX4_fewestGoes 49 = .ok (.iaload, 1) := by decide +kernel
theorem dX4_fewestGoes_50 : decode cX4_fewestGoes 50 = .ok (.putfield 72, 3) := by decide +kernel
theorem dX4_fewestGoes_53 : decode cX4_fewestGoes 53 = .ok (.aload_n 0, 1) := by decide +kernel
theorem dX4_fewestGoes_54 : decode cX4_fewestGoes 54 = .ok (.getfield 39, 3) := by decide +kernel
theorem dX4_fewestGoes_57 : decode cX4_fewestGoes 57 = .ok (.getfield 321, 3) := by decide +kernel
theorem dX4_fewestGoes_60 : decode cX4_fewestGoes 60 = .ok (.iload_n 3, 1) := by decide +kernel
theorem dX4_fewestGoes_61 : decode cX4_fewestGoes 61 = .ok (.iaload, 1) := by decide +kernel
theorem dX4_fewestGoes_62 : decode cX4_fewestGoes 62 = .ok (.ireturn, 1) := by decide +kernel
set_option maxRecDepth 20000 in
theorem ggX4_refusedWeighing_X4_isNobody : GoodIn wsX4_refusedWeighing wsX4_isNobody := goodIn_r _ [8, 9, 10, 32, 33, 34, 35, 36, 37, 38, 39, 40, 41, 42, 43, 44, 50, 51, 52, 53, 54, 55, 56, 57, 58] (by rfl) (by decide +kernel)
set_option maxRecDepth 20000 in
theorem gX4_refusedWeighing_X4_isNobody : GoodIn wsX4_refusedWeighing (wsV RX4 118 RX4 yX4_isNobody wsX4_isNobody) := goodIn_app (goodIn_of _ (by decide +kernel)) ggX4_refusedWeighing_X4_isNobody
set_option maxRecDepth 20000 in
theorem ggX4_refusedWeighing_X4_refusedRow : GoodIn wsX4_refusedWeighing wsX4_refusedRow := goodIn_r _ [14, 15, 16, 17, 18, 19, 20, 21, 22, 23, 24, 25, 26, 27, 28, 7, 29, 30, 31, 45, 46, 47, 48, 49, 32, 33, 34, 35, 36, 37, 38, 39, 40, 41, 42, 43, 44] (by rfl) (by decide +kernel)
set_option maxRecDepth 20000 in
theorem gX4_refusedWeighing_X4_refusedRow : GoodIn wsX4_refusedWeighing (wsV RX4 76 RX4 yX4_refusedRow wsX4_refusedRow) := goodIn_app (goodIn_of _ (by decide +kernel)) ggX4_refusedWeighing_X4_refusedRow
set_option maxRecDepth 20000 in
theorem ggX4_refusedWeighing_X4_found : GoodIn wsX4_refusedWeighing wsX4_found := goodIn_r _ [29, 30, 31, 32, 33, 34, 35, 36, 37, 38, 39, 40, 41, 42, 43, 44] (by rfl) (by decide +kernel)
set_option maxRecDepth 20000 in
theorem gX4_refusedWeighing_X4_found : GoodIn wsX4_refusedWeighing (wsV RX4 87 RX4 yX4_found wsX4_found) := goodIn_app (goodIn_of _ (by decide +kernel)) ggX4_refusedWeighing_X4_found
theorem dX4_refusedWeighing_0 : decode cX4_refusedWeighing 0 = .ok (.aload_n 0, 1) := by decide +kernel
theorem dX4_refusedWeighing_1 : decode cX4_refusedWeighing 1 = .ok (.iload_n 1, 1) := by decide +kernel
theorem dX4_refusedWeighing_2 : decode cX4_refusedWeighing 2 = .ok (.invokevirtual 118, 3) := by decide +kernel
theorem dX4_refusedWeighing_5 : decode cX4_refusedWeighing 5 = .ok (.ifCond .eq 5, 3) := by decide +kernel
theorem dX4_refusedWeighing_8 : decode cX4_refusedWeighing 8 = .ok (.iconst (-1), 1) := by decide +kernel
theorem dX4_refusedWeighing_9 : decode cX4_refusedWeighing 9 = .ok (.ireturn, 1) := by decide +kernel
theorem dX4_refusedWeighing_10 : decode cX4_refusedWeighing 10 = .ok (.aload_n 0, 1) := by decide +kernel
theorem dX4_refusedWeighing_11 : decode cX4_refusedWeighing 11 = .ok (.aload_n 0, 1) := by decide +kernel
theorem dX4_refusedWeighing_12 : decode cX4_refusedWeighing 12 = .ok (.getfield 12, 3) := by decide +kernel
theorem dX4_refusedWeighing_15 : decode cX4_refusedWeighing 15 = .ok (.iload_n 2, 1) := by decide +kernel
theorem dX4_refusedWeighing_16 : decode cX4_refusedWeighing 16 = .ok (.invokevirtual 76, 3) := by decide +kernel
theorem dX4_refusedWeighing_19 : decode cX4_refusedWeighing 19 = .ok (.istore_n 3, 1) := by decide +kernel
theorem dX4_refusedWeighing_20 : decode cX4_refusedWeighing 20 = .ok (.iload_n 3, 1) := by decide +kernel
theorem dX4_refusedWeighing_21 : decode cX4_refusedWeighing 21 = .ok (.ifCond .eq 5, 3) := by decide +kernel
theorem dX4_refusedWeighing_24 : decode cX4_refusedWeighing 24 = .ok (.iload_n 3, 1) := by decide +kernel
theorem dX4_refusedWeighing_25 : decode cX4_refusedWeighing 25 = .ok (.ireturn, 1) := by decide +kernel
theorem dX4_refusedWeighing_26 : decode cX4_refusedWeighing 26 = .ok (.aload_n 0, 1) := by decide +kernel
theorem dX4_refusedWeighing_27 : decode cX4_refusedWeighing 27 = .ok (.getfield 12, 3) := by decide +kernel
theorem dX4_refusedWeighing_30 : decode cX4_refusedWeighing 30 = .ok (.getfield 80, 3) := by decide +kernel
theorem dX4_refusedWeighing_33 : decode cX4_refusedWeighing 33 = .ok (.iload_n 2, 1) := by decide +kernel
theorem dX4_refusedWeighing_34 : decode cX4_refusedWeighing 34 = .ok (.iaload, 1) := by decide +kernel
theorem dX4_refusedWeighing_35 : decode cX4_refusedWeighing 35 = .ok (.istore 4, 2) := by decide +kernel
theorem dX4_refusedWeighing_37 : decode cX4_refusedWeighing 37 = .ok (.iload 4, 2) := by decide +kernel
theorem dX4_refusedWeighing_39 : decode cX4_refusedWeighing 39 = .ok (.iconst 2, 1) := by decide +kernel
theorem dX4_refusedWeighing_40 : decode cX4_refusedWeighing 40 = .ok (.irem, 1) := by decide +kernel
theorem dX4_refusedWeighing_41 : decode cX4_refusedWeighing 41 = .ok (.ifCond .ne 10, 3) := by decide +kernel
theorem dX4_refusedWeighing_44 : decode cX4_refusedWeighing 44 = .ok (.iload 4, 2) := by decide +kernel
theorem dX4_refusedWeighing_46 : decode cX4_refusedWeighing 46 = .ok (.bipush 16, 2) := by decide +kernel
theorem dX4_refusedWeighing_48 : decode cX4_refusedWeighing 48 = .ok (.if_icmp .le 9, 3) := by decide +kernel
theorem dX4_refusedWeighing_51 : decode cX4_refusedWeighing 51 = .ok (.aload_n 0, 1) := by decide +kernel
theorem dX4_refusedWeighing_52 : decode cX4_refusedWeighing 52 = .ok (.iconst 5, 1) := by decide +kernel
theorem dX4_refusedWeighing_53 : decode cX4_refusedWeighing 53 = .ok (.invokevirtual 87, 3) := by decide +kernel
theorem dX4_refusedWeighing_56 : decode cX4_refusedWeighing 56 = .ok (.ireturn, 1) := by decide +kernel
theorem dX4_refusedWeighing_57 : decode cX4_refusedWeighing 57 = .ok (.iconst 0, 1) := by decide +kernel
theorem dX4_refusedWeighing_58 : decode cX4_refusedWeighing 58 = .ok (.istore 5, 2) := by decide +kernel
theorem dX4_refusedWeighing_60 : decode cX4_refusedWeighing 60 = .ok (.iload 5, 2) := by decide +kernel
theorem dX4_refusedWeighing_62 : decode cX4_refusedWeighing 62 = .ok (.iconst 1, 1) := by decide +kernel
theorem dX4_refusedWeighing_63 : decode cX4_refusedWeighing 63 = .ok (.iadd, 1) := by decide +kernel
theorem dX4_refusedWeighing_64 : decode cX4_refusedWeighing 64 = .ok (.iload 4, 2) := by decide +kernel
theorem dX4_refusedWeighing_66 : decode cX4_refusedWeighing 66 = .ok (.if_icmp .ge 73, 3) := by decide +kernel
theorem dX4_refusedWeighing_69 : decode cX4_refusedWeighing 69 = .ok (.aload_n 0, 1) := by decide +kernel
theorem dX4_refusedWeighing_70 : decode cX4_refusedWeighing 70 = .ok (.getfield 12, 3) := by decide +kernel
theorem dX4_refusedWeighing_73 : decode cX4_refusedWeighing 73 = .ok (.getfield 68, 3) := by decide +kernel
theorem dX4_refusedWeighing_76 : decode cX4_refusedWeighing 76 = .ok (.iload_n 2, 1) := by decide +kernel
theorem dX4_refusedWeighing_77 : decode cX4_refusedWeighing 77 = .ok (.aaload, 1) := by decide +kernel
theorem dX4_refusedWeighing_78 : decode cX4_refusedWeighing 78 = .ok (.iload 5, 2) := by decide +kernel
theorem dX4_refusedWeighing_80 : decode cX4_refusedWeighing 80 = .ok (.iaload, 1) := by decide +kernel
theorem dX4_refusedWeighing_81 : decode cX4_refusedWeighing 81 = .ok (.istore 6, 2) := by decide +kernel
theorem dX4_refusedWeighing_83 : decode cX4_refusedWeighing 83 = .ok (.aload_n 0, 1) := by decide +kernel
theorem dX4_refusedWeighing_84 : decode cX4_refusedWeighing 84 = .ok (.getfield 12, 3) := by decide +kernel
theorem dX4_refusedWeighing_87 : decode cX4_refusedWeighing 87 = .ok (.getfield 68, 3) := by decide +kernel
theorem dX4_refusedWeighing_90 : decode cX4_refusedWeighing 90 = .ok (.iload_n 2, 1) := by decide +kernel
theorem dX4_refusedWeighing_91 : decode cX4_refusedWeighing 91 = .ok (.aaload, 1) := by decide +kernel
theorem dX4_refusedWeighing_92 : decode cX4_refusedWeighing 92 = .ok (.iload 5, 2) := by decide +kernel
theorem dX4_refusedWeighing_94 : decode cX4_refusedWeighing 94 = .ok (.iconst 1, 1) := by decide +kernel
theorem dX4_refusedWeighing_95 : decode cX4_refusedWeighing 95 = .ok (.iadd, 1) := by decide +kernel
theorem dX4_refusedWeighing_96 : decode cX4_refusedWeighing 96 = .ok (.iaload, 1) := by decide +kernel
theorem dX4_refusedWeighing_97 : decode cX4_refusedWeighing 97 = .ok (.istore 7, 2) := by decide +kernel
theorem dX4_refusedWeighing_99 : decode cX4_refusedWeighing 99 = .ok (.aload_n 0, 1) := by decide +kernel
theorem dX4_refusedWeighing_100 : decode cX4_refusedWeighing 100 = .ok (.iload 6, 2) := by decide +kernel
theorem dX4_refusedWeighing_102 : decode cX4_refusedWeighing 102 = .ok (.invokevirtual 118, 3) := by decide +kernel
theorem dX4_refusedWeighing_105 : decode cX4_refusedWeighing 105 = .ok (.ifCond .ne 22, 3) := by decide +kernel
theorem dX4_refusedWeighing_108 : decode cX4_refusedWeighing 108 = .ok (.iload 6, 2) := by decide +kernel
theorem dX4_refusedWeighing_110 : decode cX4_refusedWeighing 110 = .ok (.iload_n 1, 1) := by decide +kernel
theorem dX4_refusedWeighing_111 : decode cX4_refusedWeighing 111 = .ok (.if_icmp .eq 16, 3) := by decide +kernel
theorem dX4_refusedWeighing_114 : decode cX4_refusedWeighing 114 = .ok (.iload 7, 2) := by decide +kernel
theorem dX4_refusedWeighing_116 : decode cX4_refusedWeighing 116 = .ok (.ifCond .lt 11, 3) := by decide +kernel
theorem dX4_refusedWeighing_119 : decode cX4_refusedWeighing 119 = .ok (.iload 7, 2) := by decide +kernel
theorem dX4_refusedWeighing_121 : decode cX4_refusedWeighing 121 = .ok (.sipush 200, 3) := by decide +kernel
theorem dX4_refusedWeighing_124 : decode cX4_refusedWeighing 124 = .ok (.if_icmp .le 9, 3) := by decide +kernel
theorem dX4_refusedWeighing_127 : decode cX4_refusedWeighing 127 = .ok (.aload_n 0, 1) := by decide +kernel
theorem dX4_refusedWeighing_128 : decode cX4_refusedWeighing 128 = .ok (.iconst 3, 1) := by decide +kernel
theorem dX4_refusedWeighing_129 : decode cX4_refusedWeighing 129 = .ok (.invokevirtual 87, 3) := by decide +kernel
theorem dX4_refusedWeighing_132 : decode cX4_refusedWeighing 132 = .ok (.ireturn, 1) := by decide +kernel
theorem dX4_refusedWeighing_133 : decode cX4_refusedWeighing 133 = .ok (.iinc 5 2, 3) := by decide +kernel
theorem dX4_refusedWeighing_136 : decode cX4_refusedWeighing 136 = .ok (.goto (-76), 3) := by decide +kernel
theorem dX4_refusedWeighing_139 : decode cX4_refusedWeighing 139 = .ok (.iconst 0, 1) := by decide +kernel
theorem dX4_refusedWeighing_140 : decode cX4_refusedWeighing 140 = .ok (.ireturn, 1) := by decide +kernel
set_option maxRecDepth 20000 in
theorem ggX4_fits_X4_stepsAs : GoodIn wsX4_fits wsX4_stepsAs := goodIn_r _ [8, 9, 10, 11, 12, 13, 14, 15, 16, 17, 18, 19, 20, 7, 21, 22, 23, 24, 25, 26, 27, 28, 29, 30, 31, 32, 33, 34, 35, 36, 37, 38, 39, 40, 41, 42, 43, 44, 45, 46, 52, 53, 54, 55, 56, 57, 58, 59, 60, 61, 62, 63, 64, 65] (by rfl) (by decide +kernel)
set_option maxRecDepth 20000 in
theorem gX4_fits_X4_stepsAs : GoodIn wsX4_fits (wsV RX4 327 RX4 yX4_stepsAs wsX4_stepsAs) := goodIn_app (goodIn_of _ (by decide +kernel)) ggX4_fits_X4_stepsAs
theorem dX4_fits_0 : decode cX4_fits 0 = .ok (.iconst 0, 1) := by decide +kernel
theorem dX4_fits_1 : decode cX4_fits 1 = .ok (.istore 4, 2) := by decide +kernel
theorem dX4_fits_3 : decode cX4_fits 3 = .ok (.iload 4, 2) := by decide +kernel
theorem dX4_fits_5 : decode cX4_fits 5 = .ok (.iconst 1, 1) := by decide +kernel
theorem dX4_fits_6 : decode cX4_fits 6 = .ok (.iadd, 1) := by decide +kernel
theorem dX4_fits_7 : decode cX4_fits 7 = .ok (.aload_n 0, 1) := by decide +kernel
theorem dX4_fits_8 : decode cX4_fits 8 = .ok (.getfield 12, 3) := by decide +kernel
theorem dX4_fits_11 : decode cX4_fits 11 = .ok (.getfield 80, 3) := by decide +kernel
theorem dX4_fits_14 : decode cX4_fits 14 = .ok (.iload_n 3, 1) := by decide +kernel
theorem dX4_fits_15 : decode cX4_fits 15 = .ok (.iaload, 1) := by decide +kernel
theorem dX4_fits_16 : decode cX4_fits 16 = .ok (.if_icmp .ge 46, 3) := by decide +kernel
theorem dX4_fits_19 : decode cX4_fits 19 = .ok (.aload_n 0, 1) := by decide +kernel
theorem dX4_fits_20 : decode cX4_fits 20 = .ok (.iload_n 1, 1) := by decide +kernel
theorem dX4_fits_21 : decode cX4_fits 21 = .ok (.iload_n 2, 1) := by decide +kernel
theorem dX4_fits_22 : decode cX4_fits 22 = .ok (.aload_n 0, 1) := by decide +kernel
theorem dX4_fits_23 : decode cX4_fits 23 = .ok (.getfield 12, 3) := by decide +kernel
theorem dX4_fits_26 : decode cX4_fits 26 = .ok (.getfield 68, 3) := by decide +kernel
theorem dX4_fits_29 : decode cX4_fits 29 = .ok (.iload_n 3, 1) := by decide +kernel
theorem dX4_fits_30 : decode cX4_fits 30 = .ok (.aaload, 1) := by decide +kernel
theorem dX4_fits_31 : decode cX4_fits 31 = .ok (.iload 4, 2) := by decide +kernel
theorem dX4_fits_33 : decode cX4_fits 33 = .ok (.iaload, 1) := by decide +kernel
theorem dX4_fits_34 : decode cX4_fits 34 = .ok (.invokevirtual 327, 3) := by decide +kernel
theorem dX4_fits_37 : decode cX4_fits 37 = .ok (.aload_n 0, 1) := by decide +kernel
theorem dX4_fits_38 : decode cX4_fits 38 = .ok (.getfield 12, 3) := by decide +kernel
theorem dX4_fits_41 : decode cX4_fits 41 = .ok (.getfield 68, 3) := by decide +kernel
theorem dX4_fits_44 : decode cX4_fits 44 = .ok (.iload_n 3, 1) := by decide +kernel
theorem dX4_fits_45 : decode cX4_fits 45 = .ok (.aaload, 1) := by decide +kernel
theorem dX4_fits_46 : decode cX4_fits 46 = .ok (.iload 4, 2) := by decide +kernel
theorem dX4_fits_48 : decode cX4_fits 48 = .ok (.iconst 1, 1) := by decide +kernel
theorem dX4_fits_49 : decode cX4_fits 49 = .ok (.iadd, 1) := by decide +kernel
theorem dX4_fits_50 : decode cX4_fits 50 = .ok (.iaload, 1) := by decide +kernel
theorem dX4_fits_51 : decode cX4_fits 51 = .ok (.if_icmp .eq 5, 3) := by decide +kernel
theorem dX4_fits_54 : decode cX4_fits 54 = .ok (.iconst 0, 1) := by decide +kernel
theorem dX4_fits_55 : decode cX4_fits 55 = .ok (.ireturn, 1) := by decide +kernel
theorem dX4_fits_56 : decode cX4_fits 56 = .ok (.iinc 4 2, 3) := by decide +kernel
theorem dX4_fits_59 : decode cX4_fits 59 = .ok (.goto (-56), 3) := by decide +kernel
theorem dX4_fits_62 : decode cX4_fits 62 = .ok (.iconst 1, 1) := by decide +kernel
theorem dX4_fits_63 : decode cX4_fits 63 = .ok (.ireturn, 1) := by decide +kernel
set_option maxRecDepth 20000 in
theorem ggX4_stepsAs_X0_eaten : GoodIn wsX4_stepsAs wsX0_eaten := goodIn_r _ [8, 9, 10, 49, 50, 51, 52, 53] (by rfl) (by decide +kernel)
set_option maxRecDepth 20000 in
theorem gX4_stepsAs_X0_eaten : GoodIn wsX4_stepsAs (wsV RX4 143 RX0 yX0_eaten wsX0_eaten) := goodIn_app (goodIn_of _ (by decide +kernel)) ggX4_stepsAs_X0_eaten
set_option maxRecDepth 20000 in
theorem ggX4_stepsAs_X4_counted : GoodIn wsX4_stepsAs wsX4_counted := goodIn_r _ [14] (by rfl) (by decide +kernel)
set_option maxRecDepth 20000 in
theorem gX4_stepsAs_X4_counted : GoodIn wsX4_stepsAs (va_wsS RX4 147 yX4_counted wsX4_counted) := goodIn_app (goodIn_of _ (by decide +kernel)) ggX4_stepsAs_X4_counted
set_option maxRecDepth 20000 in
theorem ggX4_stepsAs_X4_counts : GoodIn wsX4_stepsAs wsX4_counts := goodIn_r _ [18, 2, 3, 19, 1, 4, 5, 6, 7, 8, 9, 10, 11, 12, 13, 14, 27, 28, 29, 30, 31, 32, 33, 34, 35, 36, 37, 38, 39, 40, 41, 42, 43, 44, 45, 46, 47, 48, 49, 50, 51, 52, 53] (by rfl) (by decide +kernel)
set_option maxRecDepth 20000 in
theorem gX4_stepsAs_X4_counts : GoodIn wsX4_stepsAs (wsV RX4 137 RX4 yX4_counts wsX4_counts) := goodIn_app (goodIn_of _ (by decide +kernel)) ggX4_stepsAs_X4_counts
set_option maxRecDepth 20000 in
theorem ggX4_stepsAs_X4_sunk : GoodIn wsX4_stepsAs wsX4_sunk := goodIn_r _ [22, 23, 24, 25, 26] (by rfl) (by decide +kernel)
set_option maxRecDepth 20000 in
theorem gX4_stepsAs_X4_sunk : GoodIn wsX4_stepsAs (va_wsS RX4 330 yX4_sunk wsX4_sunk) := goodIn_app (goodIn_of _ (by decide +kernel)) ggX4_stepsAs_X4_sunk
theorem dX4_stepsAs_0 : decode cX4_stepsAs 0 = .ok (.iload_n 1, 1) := by decide +kernel
theorem dX4_stepsAs_1 : decode cX4_stepsAs 1 = .ok (.iload_n 2, 1) := by decide +kernel
theorem dX4_stepsAs_2 : decode cX4_stepsAs 2 = .ok (.aload_n 0, 1) := by decide +kernel
theorem dX4_stepsAs_3 : decode cX4_stepsAs 3 = .ok (.getfield 24, 3) := by decide +kernel
theorem dX4_stepsAs_6 : decode cX4_stepsAs 6 = .ok (.invokevirtual 143, 3) := by decide +kernel
theorem dX4_stepsAs_9 : decode cX4_stepsAs 9 = .ok (.invokestatic 147, 3) := by decide +kernel
theorem dX4_stepsAs_12 : decode cX4_stepsAs 12 = .ok (.aload_n 0, 1) := by decide +kernel
theorem dX4_stepsAs_13 : decode cX4_stepsAs 13 = .ok (.iload_n 3, 1) := by decide +kernel
theorem dX4_stepsAs_14 : decode cX4_stepsAs 14 = .ok (.invokevirtual 137, 3) := by decide +kernel
theorem dX4_stepsAs_17 : decode cX4_stepsAs 17 = .ok (.isub, 1) := by decide +kernel
theorem dX4_stepsAs_18 : decode cX4_stepsAs 18 = .ok (.istore 4, 2) := by decide +kernel
theorem dX4_stepsAs_20 : decode cX4_stepsAs 20 = .ok (.iload 4, 2) := by decide +kernel
theorem dX4_stepsAs_22 : decode cX4_stepsAs 22 = .ok (.iload_n 1, 1) := by decide +kernel
theorem dX4_stepsAs_23 : decode cX4_stepsAs 23 = .ok (.iconst 1, 1) := by decide +kernel
theorem dX4_stepsAs_24 : decode cX4_stepsAs 24 = .ok (.if_icmp .ne 20, 3) := by decide +kernel
theorem dX4_stepsAs_27 : decode cX4_stepsAs 27 = .ok (.aload_n 0, 1) := by decide +kernel
theorem dX4_stepsAs_28 : decode cX4_stepsAs 28 = .ok (.getfield 50, 3) := by decide +kernel
theorem dX4_stepsAs_31 : decode cX4_stepsAs 31 = .ok (.getfield 128, 3) := by decide +kernel
theorem dX4_stepsAs_34 : decode cX4_stepsAs 34 = .ok (.iload_n 3, 1) := by decide +kernel
theorem dX4_stepsAs_35 : decode cX4_stepsAs 35 = .ok (.iaload, 1) := by decide +kernel
theorem dX4_stepsAs_36 : decode cX4_stepsAs 36 = .ok (.iconst 1, 1) := by decide +kernel
theorem dX4_stepsAs_37 : decode cX4_stepsAs 37 = .ok (.if_icmp .ne 7, 3) := by decide +kernel
theorem dX4_stepsAs_40 : decode cX4_stepsAs 40 = .ok (.iconst 1, 1) := by decide +kernel
theorem dX4_stepsAs_41 : decode cX4_stepsAs 41 = .ok (.goto 4, 3) := by decide +kernel
theorem dX4_stepsAs_44 : decode cX4_stepsAs 44 = .ok (.iconst 0, 1) := by decide +kernel
theorem dX4_stepsAs_45 : decode cX4_stepsAs 45 = .ok (.invokestatic 330, 3) := by decide +kernel
theorem dX4_stepsAs_48 : decode cX4_stepsAs 48 = .ok (.ireturn, 1) := by decide +kernel
set_option maxRecDepth 20000 in
theorem ggX4_fittingKinds_X4_fits : GoodIn wsX4_fittingKinds wsX4_fits := goodIn_r _ [7, 8, 9, 10, 11, 12, 13, 6, 14, 15, 1, 16, 17, 18, 19, 20, 21, 22, 23, 24, 25, 26, 27, 28, 29, 30, 2, 31, 32, 33, 34, 35, 36, 37, 38, 39, 40, 41, 42, 43, 44, 45, 46, 47, 48, 49, 50, 60, 61, 62, 63, 64, 51, 52, 53, 54, 55, 56, 57, 58, 59, 65, 66, 67, 68, 69] (by rfl) (by decide +kernel)
set_option maxRecDepth 20000 in
theorem gX4_fittingKinds_X4_fits : GoodIn wsX4_fittingKinds (wsV RX4 232 RX4 yX4_fits wsX4_fits) := goodIn_app (goodIn_of _ (by decide +kernel)) ggX4_fittingKinds_X4_fits
theorem dX4_fittingKinds_0 : decode cX4_fittingKinds 0 = .ok (.iconst 0, 1) := by decide +kernel
theorem dX4_fittingKinds_1 : decode cX4_fittingKinds 1 = .ok (.istore_n 3, 1) := by decide +kernel
theorem dX4_fittingKinds_2 : decode cX4_fittingKinds 2 = .ok (.iconst 0, 1) := by decide +kernel
theorem dX4_fittingKinds_3 : decode cX4_fittingKinds 3 = .ok (.istore 4, 2) := by decide +kernel
theorem dX4_fittingKinds_5 : decode cX4_fittingKinds 5 = .ok (.iload 4, 2) := by decide +kernel
theorem dX4_fittingKinds_7 : decode cX4_fittingKinds 7 = .ok (.bipush 6, 2) := by decide +kernel
theorem dX4_fittingKinds_9 : decode cX4_fittingKinds 9 = .ok (.if_icmp .ge 35, 3) := by decide +kernel
theorem dX4_fittingKinds_12 : decode cX4_fittingKinds 12 = .ok (.aload_n 0, 1) := by decide +kernel
theorem dX4_fittingKinds_13 : decode cX4_fittingKinds 13 = .ok (.iload 4, 2) := by decide +kernel
theorem dX4_fittingKinds_15 : decode cX4_fittingKinds 15 = .ok (.aload_n 0, 1) := by decide +kernel
theorem dX4_fittingKinds_16 : decode cX4_fittingKinds 16 = .ok (.getfield 50, 3) := by decide +kernel
theorem dX4_fittingKinds_19 : decode cX4_fittingKinds 19 = .ok (.getfield 134, 3) := by decide +kernel
theorem dX4_fittingKinds_22 : decode cX4_fittingKinds 22 = .ok (.iload_n 1, 1) := by decide +kernel
theorem dX4_fittingKinds_23 : decode cX4_fittingKinds 23 = .ok (.iaload, 1) := by decide +kernel
theorem dX4_fittingKinds_24 : decode cX4_fittingKinds 24 = .ok (.iload_n 2, 1) := by decide +kernel
theorem dX4_fittingKinds_25 : decode cX4_fittingKinds 25 = .ok (.invokevirtual 232, 3) := by decide +kernel
theorem dX4_fittingKinds_28 : decode cX4_fittingKinds 28 = .ok (.ifCond .eq 10, 3) := by decide +kernel
theorem dX4_fittingKinds_31 : decode cX4_fittingKinds 31 = .ok (.iload_n 3, 1) := by decide +kernel
theorem dX4_fittingKinds_32 : decode cX4_fittingKinds 32 = .ok (.iconst 1, 1) := by decide +kernel
theorem dX4_fittingKinds_33 : decode cX4_fittingKinds 33 = .ok (.iload 4, 2) := by decide +kernel
theorem dX4_fittingKinds_35 : decode cX4_fittingKinds 35 = .ok (.ishl, 1) := by decide +kernel
theorem dX4_fittingKinds_36 : decode cX4_fittingKinds 36 = .ok (.ior, 1) := by decide +kernel
theorem dX4_fittingKinds_37 : decode cX4_fittingKinds 37 = .ok (.istore_n 3, 1) := by decide +kernel
theorem dX4_fittingKinds_38 : decode cX4_fittingKinds 38 = .ok (.iinc 4 1, 3) := by decide +kernel
theorem dX4_fittingKinds_41 : decode cX4_fittingKinds 41 = .ok (.goto (-36), 3) := by decide +kernel
theorem dX4_fittingKinds_44 : decode cX4_fittingKinds 44 = .ok (.iload_n 3, 1) := by decide +kernel
theorem dX4_fittingKinds_45 : decode cX4_fittingKinds 45 = .ok (.ireturn, 1) := by decide +kernel
set_option maxRecDepth 20000 in
theorem ggX4_greatestPart_X4_stepsAs : GoodIn wsX4_greatestPart wsX4_stepsAs := goodIn_r _ [9, 10, 11, 12, 13, 14, 15, 16, 17, 18, 19, 20, 21, 8, 22, 23, 24, 25, 26, 27, 28, 29, 30, 31, 32, 3, 33, 34, 35, 36, 37, 38, 39, 40, 41, 42, 43, 44, 45, 46, 47, 48, 49, 50, 51, 52, 53, 54, 55, 56, 57, 58, 59, 60] (by rfl) (by decide +kernel)
set_option maxRecDepth 20000 in
theorem gX4_greatestPart_X4_stepsAs : GoodIn wsX4_greatestPart (wsV RX4 327 RX4 yX4_stepsAs wsX4_stepsAs) := goodIn_app (goodIn_of _ (by decide +kernel)) ggX4_greatestPart_X4_stepsAs
theorem dX4_greatestPart_0 : decode cX4_greatestPart 0 = .ok (.iconst 0, 1) := by decide +kernel
theorem dX4_greatestPart_1 : decode cX4_greatestPart 1 = .ok (.istore 4, 2) := by decide +kernel
theorem dX4_greatestPart_3 : decode cX4_greatestPart 3 = .ok (.iconst 0, 1) := by decide +kernel
theorem dX4_greatestPart_4 : decode cX4_greatestPart 4 = .ok (.istore 5, 2) := by decide +kernel
theorem dX4_greatestPart_6 : decode cX4_greatestPart 6 = .ok (.iload 5, 2) := by decide +kernel
theorem dX4_greatestPart_8 : decode cX4_greatestPart 8 = .ok (.bipush 6, 2) := by decide +kernel
theorem dX4_greatestPart_10 : decode cX4_greatestPart 10 = .ok (.if_icmp .ge 91, 3) := by decide +kernel
theorem dX4_greatestPart_13 : decode cX4_greatestPart 13 = .ok (.iconst 0, 1) := by decide +kernel
theorem dX4_greatestPart_14 : decode cX4_greatestPart 14 = .ok (.istore 6, 2) := by decide +kernel
theorem dX4_greatestPart_16 : decode cX4_greatestPart 16 = .ok (.iconst 0, 1) := by decide +kernel
theorem dX4_greatestPart_17 : decode cX4_greatestPart 17 = .ok (.istore 7, 2) := by decide +kernel
theorem dX4_greatestPart_19 : decode cX4_greatestPart 19 = .ok (.iload 7, 2) := by decide +kernel
theorem dX4_greatestPart_21 : decode cX4_greatestPart 21 = .ok (.bipush 6, 2) := by decide +kernel
theorem dX4_greatestPart_23 : decode cX4_greatestPart 23 = .ok (.if_icmp .ge 63, 3) := by decide +kernel
theorem dX4_greatestPart_26 : decode cX4_greatestPart 26 = .ok (.iload_n 2, 1) := by decide +kernel
theorem dX4_greatestPart_27 : decode cX4_greatestPart 27 = .ok (.iload 5, 2) := by decide +kernel
theorem dX4_greatestPart_29 : decode cX4_greatestPart 29 = .ok (.ishr, 1) := by decide +kernel
theorem dX4_greatestPart_30 : decode cX4_greatestPart 30 = .ok (.iconst 1, 1) := by decide +kernel
theorem dX4_greatestPart_31 : decode cX4_greatestPart 31 = .ok (.iand, 1) := by decide +kernel
theorem dX4_greatestPart_32 : decode cX4_greatestPart 32 = .ok (.iconst 1, 1) := by decide +kernel
theorem dX4_greatestPart_33 : decode cX4_greatestPart 33 = .ok (.if_icmp .ne 17, 3) := by decide +kernel
theorem dX4_greatestPart_36 : decode cX4_greatestPart 36 = .ok (.iload_n 2, 1) := by decide +kernel
theorem dX4_greatestPart_37 : decode cX4_greatestPart 37 = .ok (.iload 7, 2) := by decide +kernel
theorem dX4_greatestPart_39 : decode cX4_greatestPart 39 = .ok (.ishr, 1) := by decide +kernel
theorem dX4_greatestPart_40 : decode cX4_greatestPart 40 = .ok (.iconst 1, 1) := by decide +kernel
theorem dX4_greatestPart_41 : decode cX4_greatestPart 41 = .ok (.iand, 1) := by decide +kernel
theorem dX4_greatestPart_42 : decode cX4_greatestPart 42 = .ok (.iconst 1, 1) := by decide +kernel
theorem dX4_greatestPart_43 : decode cX4_greatestPart 43 = .ok (.if_icmp .ne 7, 3) := by decide +kernel
theorem dX4_greatestPart_46 : decode cX4_greatestPart 46 = .ok (.iconst 1, 1) := by decide +kernel
theorem dX4_greatestPart_47 : decode cX4_greatestPart 47 = .ok (.goto 4, 3) := by decide +kernel
theorem dX4_greatestPart_50 : decode cX4_greatestPart 50 = .ok (.iconst 0, 1) := by decide +kernel
theorem dX4_greatestPart_51 : decode cX4_greatestPart 51 = .ok (.istore 8, 2) := by decide +kernel
theorem dX4_greatestPart_53 : decode cX4_greatestPart 53 = .ok (.iload 8, 2) := by decide +kernel
theorem dX4_greatestPart_55 : decode cX4_greatestPart 55 = .ok (.ifCond .eq 25, 3) := by decide +kernel
theorem dX4_greatestPart_58 : decode cX4_greatestPart 58 = .ok (.aload_n 0, 1) := by decide +kernel
theorem dX4_greatestPart_59 : decode cX4_greatestPart 59 = .ok (.iload 5, 2) := by decide +kernel
theorem dX4_greatestPart_61 : decode cX4_greatestPart 61 = .ok (.iload_n 1, 1) := by decide +kernel
theorem dX4_greatestPart_62 : decode cX4_greatestPart 62 = .ok (.iload_n 3, 1) := by decide +kernel
theorem dX4_greatestPart_63 : decode cX4_greatestPart 63 = .ok (.invokevirtual 327, 3) := by decide +kernel
theorem dX4_greatestPart_66 : decode cX4_greatestPart 66 = .ok (.aload_n 0, 1) := by decide +kernel
theorem dX4_greatestPart_67 : decode cX4_greatestPart 67 = .ok (.iload 7, 2) := by decide +kernel
theorem dX4_greatestPart_69 : decode cX4_greatestPart 69 = .ok (.iload_n 1, 1) := by decide +kernel
theorem dX4_greatestPart_70 : decode cX4_greatestPart 70 = .ok (.iload_n 3, 1) := by decide +kernel
theorem dX4_greatestPart_71 : decode cX4_greatestPart 71 = .ok (.invokevirtual 327, 3) := by decide +kernel
theorem dX4_greatestPart_74 : decode cX4_greatestPart 74 = .ok (.if_icmp .ne 6, 3) := by decide +kernel
theorem dX4_greatestPart_77 : decode cX4_greatestPart 77 = .ok (.iinc 6 1, 3) := by decide +kernel
theorem dX4_greatestPart_80 : decode cX4_greatestPart 80 = .ok (.iinc 7 1, 3) := by decide +kernel
theorem dX4_greatestPart_83 : decode cX4_greatestPart 83 = .ok (.goto (-64), 3) := by decide +kernel
theorem dX4_greatestPart_86 : decode cX4_greatestPart 86 = .ok (.iload 4, 2) := by decide +kernel
theorem dX4_greatestPart_88 : decode cX4_greatestPart 88 = .ok (.iload 6, 2) := by decide +kernel
theorem dX4_greatestPart_90 : decode cX4_greatestPart 90 = .ok (.invokestatic 333, 3) := by decide +kernel
theorem dX4_greatestPart_93 : decode cX4_greatestPart 93 = .ok (.istore 4, 2) := by decide +kernel
theorem dX4_greatestPart_95 : decode cX4_greatestPart 95 = .ok (.iinc 5 1, 3) := by decide +kernel
theorem dX4_greatestPart_98 : decode cX4_greatestPart 98 = .ok (.goto (-92), 3) := by decide +kernel
theorem dX4_greatestPart_101 : decode cX4_greatestPart 101 = .ok (.iload 4, 2) := by decide +kernel
theorem dX4_greatestPart_103 : decode cX4_greatestPart 103 = .ok (.ireturn, 1) := by decide +kernel
set_option maxRecDepth 20000 in
theorem ggX4_chance_J6_bitCount_0f7a4 : GoodIn wsX4_chance wsJ6_bitCount_0f7a4 := goodIn_r _ [4, 5, 6, 7] (by rfl) (by decide +kernel)
set_option maxRecDepth 20000 in
theorem gX4_chance_J6_bitCount_0f7a4 : GoodIn wsX4_chance (va_wsS RX4 203 yJ6_bitCount_0f7a4 wsJ6_bitCount_0f7a4) := goodIn_app (goodIn_of _ (by decide +kernel)) ggX4_chance_J6_bitCount_0f7a4
set_option maxRecDepth 20000 in
theorem ggX4_chance_X4_power : GoodIn wsX4_chance wsX4_power := goodIn_r _ [11] (by rfl) (by decide +kernel)
set_option maxRecDepth 20000 in
theorem gX4_chance_X4_power : GoodIn wsX4_chance (va_wsS RX4 248 yX4_power wsX4_power) := goodIn_app (goodIn_of _ (by decide +kernel)) ggX4_chance_X4_power
theorem dX4_chance_0 : decode cX4_chance 0 = .ok (.iload_n 1, 1) := by decide +kernel
theorem dX4_chance_1 : decode cX4_chance 1 = .ok (.iload_n 0, 1) := by decide +kernel
theorem dX4_chance_2 : decode cX4_chance 2 = .ok (.iconst (-1), 1) := by decide +kernel
theorem dX4_chance_3 : decode cX4_chance 3 = .ok (.ixor, 1) := by decide +kernel
theorem dX4_chance_4 : decode cX4_chance 4 = .ok (.iand, 1) := by decide +kernel
theorem dX4_chance_5 : decode cX4_chance 5 = .ok (.ifCond .eq 5, 3) := by decide +kernel
theorem dX4_chance_8 : decode cX4_chance 8 = .ok (.lconst 0, 1) := by decide +kernel
theorem dX4_chance_9 : decode cX4_chance 9 = .ok (.lreturn, 1) := by decide +kernel
theorem dX4_chance_10 : decode cX4_chance 10 = .ok (.bipush 12, 2) := by decide +kernel
theorem dX4_chance_12 : decode cX4_chance 12 = .ok (.iload_n 2, 1) := by decide +kernel
theorem dX4_chance_13 : decode cX4_chance 13 = .ok (.isub, 1) := by decide +kernel
theorem dX4_chance_14 : decode cX4_chance 14 = .ok (.iload_n 1, 1) := by decide +kernel
theorem dX4_chance_15 : decode cX4_chance 15 = .ok (.invokestatic 203, 3) := by decide +kernel
theorem dX4_chance_18 : decode cX4_chance 18 = .ok (.invokestatic 248, 3) := by decide +kernel
theorem dX4_chance_21 : decode cX4_chance 21 = .ok (.iload_n 2, 1) := by decide +kernel
theorem dX4_chance_22 : decode cX4_chance 22 = .ok (.iload_n 0, 1) := by decide +kernel
theorem dX4_chance_23 : decode cX4_chance 23 = .ok (.iload_n 1, 1) := by decide +kernel
theorem dX4_chance_24 : decode cX4_chance 24 = .ok (.iconst (-1), 1) := by decide +kernel
theorem dX4_chance_25 : decode cX4_chance 25 = .ok (.ixor, 1) := by decide +kernel
theorem dX4_chance_26 : decode cX4_chance 26 = .ok (.iand, 1) := by decide +kernel
theorem dX4_chance_27 : decode cX4_chance 27 = .ok (.invokestatic 203, 3) := by decide +kernel
theorem dX4_chance_30 : decode cX4_chance 30 = .ok (.invokestatic 248, 3) := by decide +kernel
theorem dX4_chance_33 : decode cX4_chance 33 = .ok (.lmul, 1) := by decide +kernel
theorem dX4_chance_34 : decode cX4_chance 34 = .ok (.lreturn, 1) := by decide +kernel
theorem dX4_power_0 : decode cX4_power 0 = .ok (.lconst 1, 1) := by decide +kernel
theorem dX4_power_1 : decode cX4_power 1 = .ok (.lstore_n 2, 1) := by decide +kernel
theorem dX4_power_2 : decode cX4_power 2 = .ok (.iconst 0, 1) := by decide +kernel
theorem dX4_power_3 : decode cX4_power 3 = .ok (.istore 4, 2) := by decide +kernel
theorem dX4_power_5 : decode cX4_power 5 = .ok (.iload 4, 2) := by decide +kernel
theorem dX4_power_7 : decode cX4_power 7 = .ok (.iload_n 1, 1) := by decide +kernel
theorem dX4_power_8 : decode cX4_power 8 = .ok (.if_icmp .ge 14, 3) := by decide +kernel
theorem dX4_power_11 : decode cX4_power 11 = .ok (.lload_n 2, 1) := by decide +kernel
theorem dX4_power_12 : decode cX4_power 12 = .ok (.iload_n 0, 1) := by decide +kernel
theorem dX4_power_13 : decode cX4_power 13 = .ok (.i2l, 1) := by decide +kernel
theorem dX4_power_14 : decode cX4_power 14 = .ok (.lmul, 1) := by decide +kernel
theorem dX4_power_15 : decode cX4_power 15 = .ok (.lstore_n 2, 1) := by decide +kernel
theorem dX4_power_16 : decode cX4_power 16 = .ok (.iinc 4 1, 3) := by decide +kernel
theorem dX4_power_19 : decode cX4_power 19 = .ok (.goto (-14), 3) := by decide +kernel
theorem dX4_power_22 : decode cX4_power 22 = .ok (.lload_n 2, 1) := by decide +kernel
theorem dX4_power_23 : decode cX4_power 23 = .ok (.lreturn, 1) := by decide +kernel
theorem dX4_tell_0 : decode cX4_tell 0 = .ok (.lload_n 1, 1) := by decide +kernel
theorem dX4_tell_1 : decode cX4_tell 1 = .ok (.lstore 5, 2) := by decide +kernel
theorem dX4_tell_3 : decode cX4_tell 3 = .ok (.lload_n 3, 1) := by decide +kernel
theorem dX4_tell_4 : decode cX4_tell 4 = .ok (.lstore 7, 2) := by decide +kernel
theorem dX4_tell_6 : decode cX4_tell 6 = .ok (.iconst 0, 1) := by decide +kernel
theorem dX4_tell_7 : decode cX4_tell 7 = .ok (.istore 9, 2) := by decide +kernel
theorem dX4_tell_9 : decode cX4_tell 9 = .ok (.iload 9, 2) := by decide +kernel
theorem dX4_tell_11 : decode cX4_tell 11 = .ok (.ldc_w 338, 3) := by decide +kernel
theorem dX4_tell_14 : decode cX4_tell 14 = .ok (.if_icmp .ge 31, 3) := by decide +kernel
theorem dX4_tell_17 : decode cX4_tell 17 = .ok (.lload 7, 2) := by decide +kernel
theorem dX4_tell_19 : decode cX4_tell 19 = .ok (.lconst 0, 1) := by decide +kernel
theorem dX4_tell_20 : decode cX4_tell 20 = .ok (.lcmp, 1) := by decide +kernel
theorem dX4_tell_21 : decode cX4_tell 21 = .ok (.ifCond .eq 24, 3) := by decide +kernel
theorem dX4_tell_24 : decode cX4_tell 24 = .ok (.lload 5, 2) := by decide +kernel
theorem dX4_tell_26 : decode cX4_tell 26 = .ok (.lload 7, 2) := by decide +kernel
theorem dX4_tell_28 : decode cX4_tell 28 = .ok (.lrem, 1) := by decide +kernel
theorem dX4_tell_29 : decode cX4_tell 29 = .ok (.lstore 10, 2) := by decide +kernel
theorem dX4_tell_31 : decode cX4_tell 31 = .ok (.lload 7, 2) := by decide +kernel
theorem dX4_tell_33 : decode cX4_tell 33 = .ok (.lstore 5, 2) := by decide +kernel
theorem dX4_tell_35 : decode cX4_tell 35 = .ok (.lload 10, 2) := by decide +kernel
theorem dX4_tell_37 : decode cX4_tell 37 = .ok (.lstore 7, 2) := by decide +kernel
theorem dX4_tell_39 : decode cX4_tell 39 = .ok (.iinc 9 1, 3) := by decide +kernel
theorem dX4_tell_42 : decode cX4_tell 42 = .ok (.goto (-33), 3) := by decide +kernel
theorem dX4_tell_45 : decode cX4_tell 45 = .ok (.lload 5, 2) := by decide +kernel
theorem dX4_tell_47 : decode cX4_tell 47 = .ok (.lconst 0, 1) := by decide +kernel
theorem dX4_tell_48 : decode cX4_tell 48 = .ok (.lcmp, 1) := by decide +kernel
theorem dX4_tell_49 : decode cX4_tell 49 = .ok (.ifCond .ne 4, 3) := by decide +kernel
theorem dX4_tell_52 : decode cX4_tell 52 = .ok (.return_, 1) := by decide +kernel
theorem dX4_tell_53 : decode cX4_tell 53 = .ok (.aload_n 0, 1) := by decide +kernel
theorem dX4_tell_54 : decode cX4_tell 54 = .ok (.lload_n 1, 1) := by decide +kernel
theorem dX4_tell_55 : decode cX4_tell 55 = .ok (.lload 5, 2) := by decide +kernel
theorem dX4_tell_57 : decode cX4_tell 57 = .ok (.ldiv, 1) := by decide +kernel
theorem dX4_tell_58 : decode cX4_tell 58 = .ok (.putfield 264, 3) := by decide +kernel
theorem dX4_tell_61 : decode cX4_tell 61 = .ok (.aload_n 0, 1) := by decide +kernel
theorem dX4_tell_62 : decode cX4_tell 62 = .ok (.lload_n 3, 1) := by decide +kernel
theorem dX4_tell_63 : decode cX4_tell 63 = .ok (.lload 5, 2) := by decide +kernel
theorem dX4_tell_65 : decode cX4_tell 65 = .ok (.ldiv, 1) := by decide +kernel
theorem dX4_tell_66 : decode cX4_tell 66 = .ok (.putfield 57, 3) := by decide +kernel
theorem dX4_tell_69 : decode cX4_tell 69 = .ok (.return_, 1) := by decide +kernel
set_option maxRecDepth 20000 in
theorem ggX4_doByLot_X0_eaten : GoodIn wsX4_doByLot wsX0_eaten := goodIn_r _ [13, 14, 15, 102, 103, 104, 105, 106] (by rfl) (by decide +kernel)
set_option maxRecDepth 20000 in
theorem gX4_doByLot_X0_eaten : GoodIn wsX4_doByLot (wsV RX4 143 RX0 yX0_eaten wsX0_eaten) := goodIn_app (goodIn_of _ (by decide +kernel)) ggX4_doByLot_X0_eaten
set_option maxRecDepth 20000 in
theorem ggX4_doByLot_X0_add : GoodIn wsX4_doByLot wsX0_add := goodIn_r _ [19, 15, 20, 21, 14, 22, 102, 103, 104, 105, 106] (by rfl) (by decide +kernel)
set_option maxRecDepth 20000 in
theorem gX4_doByLot_X0_add : GoodIn wsX4_doByLot (wsV RX4 171 RX0 yX0_add wsX0_add) := goodIn_app (goodIn_of _ (by decide +kernel)) ggX4_doByLot_X0_add
set_option maxRecDepth 20000 in
theorem ggX4_doByLot_X4_areApart : GoodIn wsX4_doByLot wsX4_areApart := goodIn_r _ [27, 3, 28, 29, 30, 12, 31, 20, 15, 80, 81, 82, 83, 84, 85, 86, 87, 88, 89, 90, 91, 92, 102, 103, 104, 105, 106] (by rfl) (by decide +kernel)
set_option maxRecDepth 20000 in
theorem gX4_doByLot_X4_areApart : GoodIn wsX4_doByLot (wsV RX4 158 RX4 yX4_areApart wsX4_areApart) := goodIn_app (goodIn_of _ (by decide +kernel)) ggX4_doByLot_X4_areApart
set_option maxRecDepth 20000 in
theorem ggX4_doByLot_X4_stonesWith : GoodIn wsX4_doByLot wsX4_stonesWith := goodIn_r _ [35, 3, 4, 36, 37, 38, 12, 39, 21, 15, 28, 29, 30, 31, 20, 40, 41, 42, 43, 44, 45, 80, 81, 82, 83, 84, 85, 86, 87, 88, 89, 90, 91, 92, 102, 103, 104, 105, 106, 93, 94, 95, 96, 97, 98, 99, 100, 101] (by rfl) (by decide +kernel)
set_option maxRecDepth 20000 in
theorem gX4_doByLot_X4_stonesWith : GoodIn wsX4_doByLot (wsV RX4 161 RX4 yX4_stonesWith wsX4_stonesWith) := goodIn_app (goodIn_of _ (by decide +kernel)) ggX4_doByLot_X4_stonesWith
set_option maxRecDepth 20000 in
theorem ggX4_doByLot_X4_least : GoodIn wsX4_doByLot wsX4_least := goodIn_r _ [49, 4, 50, 51, 52, 26, 53, 54, 55, 3, 9, 10, 11, 12, 13, 14, 15, 56, 57, 58, 59, 60, 61, 43, 62, 63, 64, 65, 66, 67, 68, 69, 70, 71, 72, 73, 74, 41, 42, 44, 45, 75, 76, 77, 78, 79, 80, 81, 82, 83, 84, 85, 86, 87, 88, 89, 90, 91, 92, 93, 94, 95, 96, 97, 98, 99, 100, 101, 102, 103, 104, 105, 106] (by rfl) (by decide +kernel)
set_option maxRecDepth 20000 in
theorem gX4_doByLot_X4_least : GoodIn wsX4_doByLot (wsV RX4 179 RX4 yX4_least wsX4_least) := goodIn_app (goodIn_of _ (by decide +kernel)) ggX4_doByLot_X4_least
theorem dX4_doByLot_0 : decode cX4_doByLot 0 = .ok (.lload_n 1, 1) := by decide +kernel
theorem dX4_doByLot_1 : decode cX4_doByLot 1 = .ok (.ldc2_w 339, 3) := by decide +kernel
theorem dX4_doByLot_4 : decode cX4_doByLot 4 = .ok (.ldiv, 1) := by decide +kernel
theorem dX4_doByLot_5 : decode cX4_doByLot 5 = .ok (.ldc2_w 341, 3) := by decide +kernel
theorem dX4_doByLot_8 : decode cX4_doByLot 8 = .ok (.lrem, 1) := by decide +kernel
theorem dX4_doByLot_9 : decode cX4_doByLot 9 = .ok (.lconst 0, 1) := by decide +kernel
theorem dX4_doByLot_10 : decode cX4_doByLot 10 = .ok (.lcmp, 1) := by decide +kernel
theorem dX4_doByLot_11 : decode cX4_doByLot 11 = .ok (.ifCond .ne 31, 3) := by decide +kernel
theorem dX4_doByLot_14 : decode cX4_doByLot 14 = .ok (.aload_n 0, 1) := by decide +kernel
theorem dX4_doByLot_15 : decode cX4_doByLot 15 = .ok (.getfield 24, 3) := by decide +kernel
theorem dX4_doByLot_18 : decode cX4_doByLot 18 = .ok (.iconst 0, 1) := by decide +kernel
theorem dX4_doByLot_19 : decode cX4_doByLot 19 = .ok (.iconst 0, 1) := by decide +kernel
theorem dX4_doByLot_20 : decode cX4_doByLot 20 = .ok (.aload_n 0, 1) := by decide +kernel
theorem dX4_doByLot_21 : decode cX4_doByLot 21 = .ok (.getfield 24, 3) := by decide +kernel
theorem dX4_doByLot_24 : decode cX4_doByLot 24 = .ok (.invokevirtual 143, 3) := by decide +kernel
theorem dX4_doByLot_27 : decode cX4_doByLot 27 = .ok (.bipush 9, 2) := by decide +kernel
theorem dX4_doByLot_29 : decode cX4_doByLot 29 = .ok (.if_icmp .ge 7, 3) := by decide +kernel
theorem dX4_doByLot_32 : decode cX4_doByLot 32 = .ok (.iconst 1, 1) := by decide +kernel
theorem dX4_doByLot_33 : decode cX4_doByLot 33 = .ok (.goto 4, 3) := by decide +kernel
theorem dX4_doByLot_36 : decode cX4_doByLot 36 = .ok (.iconst 0, 1) := by decide +kernel
theorem dX4_doByLot_37 : decode cX4_doByLot 37 = .ok (.iconst 0, 1) := by decide +kernel
theorem dX4_doByLot_38 : decode cX4_doByLot 38 = .ok (.invokevirtual 171, 3) := by decide +kernel
theorem dX4_doByLot_41 : decode cX4_doByLot 41 = .ok (.return_, 1) := by decide +kernel
theorem dX4_doByLot_42 : decode cX4_doByLot 42 = .ok (.lload_n 1, 1) := by decide +kernel
theorem dX4_doByLot_43 : decode cX4_doByLot 43 = .ok (.aload_n 0, 1) := by decide +kernel
theorem dX4_doByLot_44 : decode cX4_doByLot 44 = .ok (.getfield 50, 3) := by decide +kernel
theorem dX4_doByLot_47 : decode cX4_doByLot 47 = .ok (.getfield 115, 3) := by decide +kernel
theorem dX4_doByLot_50 : decode cX4_doByLot 50 = .ok (.i2l, 1) := by decide +kernel
theorem dX4_doByLot_51 : decode cX4_doByLot 51 = .ok (.lrem, 1) := by decide +kernel
theorem dX4_doByLot_52 : decode cX4_doByLot 52 = .ok (.l2i, 1) := by decide +kernel
theorem dX4_doByLot_53 : decode cX4_doByLot 53 = .ok (.istore_n 3, 1) := by decide +kernel
theorem dX4_doByLot_54 : decode cX4_doByLot 54 = .ok (.lload_n 1, 1) := by decide +kernel
theorem dX4_doByLot_55 : decode cX4_doByLot 55 = .ok (.ldc2_w 343, 3) := by decide +kernel
theorem dX4_doByLot_58 : decode cX4_doByLot 58 = .ok (.ldiv, 1) := by decide +kernel
theorem dX4_doByLot_59 : decode cX4_doByLot 59 = .ok (.aload_n 0, 1) := by decide +kernel
theorem dX4_doByLot_60 : decode cX4_doByLot 60 = .ok (.getfield 50, 3) := by decide +kernel
theorem dX4_doByLot_63 : decode cX4_doByLot 63 = .ok (.getfield 115, 3) := by decide +kernel
theorem dX4_doByLot_66 : decode cX4_doByLot 66 = .ok (.i2l, 1) := by decide +kernel
theorem dX4_doByLot_67 : decode cX4_doByLot 67 = .ok (.lrem, 1) := by decide +kernel
theorem dX4_doByLot_68 : decode cX4_doByLot 68 = .ok (.l2i, 1) := by decide +kernel
theorem dX4_doByLot_69 : decode cX4_doByLot 69 = .ok (.istore 4, 2) := by decide +kernel
theorem dX4_doByLot_71 : decode cX4_doByLot 71 = .ok (.iload_n 3, 1) := by decide +kernel
theorem dX4_doByLot_72 : decode cX4_doByLot 72 = .ok (.iload 4, 2) := by decide +kernel
theorem dX4_doByLot_74 : decode cX4_doByLot 74 = .ok (.if_icmp .eq 13, 3) := by decide +kernel
theorem dX4_doByLot_77 : decode cX4_doByLot 77 = .ok (.aload_n 0, 1) := by decide +kernel
theorem dX4_doByLot_78 : decode cX4_doByLot 78 = .ok (.iload_n 3, 1) := by decide +kernel
theorem dX4_doByLot_79 : decode cX4_doByLot 79 = .ok (.iload 4, 2) := by decide +kernel
theorem dX4_doByLot_81 : decode cX4_doByLot 81 = .ok (.invokevirtual 158, 3) := by decide +kernel
theorem dX4_doByLot_84 : decode cX4_doByLot 84 = .ok (.ifCond .eq 9, 3) := by decide +kernel
theorem dX4_doByLot_87 : decode cX4_doByLot 87 = .ok (.ldc_w 345, 3) := by decide +kernel
theorem dX4_doByLot_90 : decode cX4_doByLot 90 = .ok (.goto 15, 3) := by decide +kernel
theorem dX4_doByLot_93 : decode cX4_doByLot 93 = .ok (.aload_n 0, 1) := by decide +kernel
theorem dX4_doByLot_94 : decode cX4_doByLot 94 = .ok (.iload_n 3, 1) := by decide +kernel
theorem dX4_doByLot_95 : decode cX4_doByLot 95 = .ok (.iload 4, 2) := by decide +kernel
theorem dX4_doByLot_97 : decode cX4_doByLot 97 = .ok (.aload_n 0, 1) := by decide +kernel
theorem dX4_doByLot_98 : decode cX4_doByLot 98 = .ok (.iload_n 3, 1) := by decide +kernel
theorem dX4_doByLot_99 : decode cX4_doByLot 99 = .ok (.invokevirtual 161, 3) := by decide +kernel
theorem dX4_doByLot_102 : decode cX4_doByLot 102 = .ok (.invokevirtual 179, 3) := by decide +kernel
theorem dX4_doByLot_105 : decode cX4_doByLot 105 = .ok (.istore 5, 2) := by decide +kernel
theorem dX4_doByLot_107 : decode cX4_doByLot 107 = .ok (.iload 5, 2) := by decide +kernel
theorem dX4_doByLot_109 : decode cX4_doByLot 109 = .ok (.sipush 256, 3) := by decide +kernel
theorem dX4_doByLot_112 : decode cX4_doByLot 112 = .ok (.idiv, 1) := by decide +kernel
theorem dX4_doByLot_113 : decode cX4_doByLot 113 = .ok (.aload_n 0, 1) := by decide +kernel
theorem dX4_doByLot_114 : decode cX4_doByLot 114 = .ok (.getfield 50, 3) := by decide +kernel
theorem dX4_doByLot_117 : decode cX4_doByLot 117 = .ok (.getfield 168, 3) := by decide +kernel
theorem dX4_doByLot_120 : decode cX4_doByLot 120 = .ok (.if_icmp .le 15, 3) := by decide +kernel
theorem dX4_doByLot_123 : decode cX4_doByLot 123 = .ok (.aload_n 0, 1) := by decide +kernel
theorem dX4_doByLot_124 : decode cX4_doByLot 124 = .ok (.getfield 24, 3) := by decide +kernel
theorem dX4_doByLot_127 : decode cX4_doByLot 127 = .ok (.iconst 0, 1) := by decide +kernel
theorem dX4_doByLot_128 : decode cX4_doByLot 128 = .ok (.iconst 0, 1) := by decide +kernel
theorem dX4_doByLot_129 : decode cX4_doByLot 129 = .ok (.iconst 0, 1) := by decide +kernel
theorem dX4_doByLot_130 : decode cX4_doByLot 130 = .ok (.iconst 0, 1) := by decide +kernel
theorem dX4_doByLot_131 : decode cX4_doByLot 131 = .ok (.invokevirtual 171, 3) := by decide +kernel
theorem dX4_doByLot_134 : decode cX4_doByLot 134 = .ok (.return_, 1) := by decide +kernel
theorem dX4_doByLot_135 : decode cX4_doByLot 135 = .ok (.iload 5, 2) := by decide +kernel
theorem dX4_doByLot_137 : decode cX4_doByLot 137 = .ok (.sipush 256, 3) := by decide +kernel
theorem dX4_doByLot_140 : decode cX4_doByLot 140 = .ok (.irem, 1) := by decide +kernel
theorem dX4_doByLot_141 : decode cX4_doByLot 141 = .ok (.bipush 16, 2) := by decide +kernel
theorem dX4_doByLot_143 : decode cX4_doByLot 143 = .ok (.idiv, 1) := by decide +kernel
theorem dX4_doByLot_144 : decode cX4_doByLot 144 = .ok (.iload 5, 2) := by decide +kernel
theorem dX4_doByLot_146 : decode cX4_doByLot 146 = .ok (.bipush 16, 2) := by decide +kernel
theorem dX4_doByLot_148 : decode cX4_doByLot 148 = .ok (.irem, 1) := by decide +kernel
theorem dX4_doByLot_149 : decode cX4_doByLot 149 = .ok (.ior, 1) := by decide +kernel
theorem dX4_doByLot_150 : decode cX4_doByLot 150 = .ok (.istore 6, 2) := by decide +kernel
theorem dX4_doByLot_152 : decode cX4_doByLot 152 = .ok (.aload_n 0, 1) := by decide +kernel
theorem dX4_doByLot_153 : decode cX4_doByLot 153 = .ok (.getfield 24, 3) := by decide +kernel
theorem dX4_doByLot_156 : decode cX4_doByLot 156 = .ok (.iconst 1, 1) := by decide +kernel
theorem dX4_doByLot_157 : decode cX4_doByLot 157 = .ok (.iload_n 3, 1) := by decide +kernel
theorem dX4_doByLot_158 : decode cX4_doByLot 158 = .ok (.ishl, 1) := by decide +kernel
theorem dX4_doByLot_159 : decode cX4_doByLot 159 = .ok (.iconst 1, 1) := by decide +kernel
theorem dX4_doByLot_160 : decode cX4_doByLot 160 = .ok (.iload 4, 2) := by decide +kernel
theorem dX4_doByLot_162 : decode cX4_doByLot 162 = .ok (.ishl, 1) := by decide +kernel
theorem dX4_doByLot_163 : decode cX4_doByLot 163 = .ok (.ior, 1) := by decide +kernel
theorem dX4_doByLot_164 : decode cX4_doByLot 164 = .ok (.iload 6, 2) := by decide +kernel
theorem dX4_doByLot_166 : decode cX4_doByLot 166 = .ok (.iconst 0, 1) := by decide +kernel
theorem dX4_doByLot_167 : decode cX4_doByLot 167 = .ok (.iload 5, 2) := by decide +kernel
theorem dX4_doByLot_169 : decode cX4_doByLot 169 = .ok (.sipush 256, 3) := by decide +kernel
theorem dX4_doByLot_172 : decode cX4_doByLot 172 = .ok (.idiv, 1) := by decide +kernel
theorem dX4_doByLot_173 : decode cX4_doByLot 173 = .ok (.invokevirtual 171, 3) := by decide +kernel
theorem dX4_doByLot_176 : decode cX4_doByLot 176 = .ok (.return_, 1) := by decide +kernel
theorem dX4_counted_0 : decode cX4_counted 0 = .ok (.iload_n 0, 1) := by decide +kernel
theorem dX4_counted_1 : decode cX4_counted 1 = .ok (.tableswitch 51 2 5 #[31, 35, 39, 45], 31) := by decide +kernel
theorem dX4_counted_32 : decode cX4_counted 32 = .ok (.iload_n 1, 1) := by decide +kernel
theorem dX4_counted_33 : decode cX4_counted 33 = .ok (.iconst 2, 1) := by decide +kernel
theorem dX4_counted_34 : decode cX4_counted 34 = .ok (.idiv, 1) := by decide +kernel
theorem dX4_counted_35 : decode cX4_counted 35 = .ok (.ireturn, 1) := by decide +kernel
theorem dX4_counted_36 : decode cX4_counted 36 = .ok (.iload_n 1, 1) := by decide +kernel
theorem dX4_counted_37 : decode cX4_counted 37 = .ok (.iconst 5, 1) := by decide +kernel
theorem dX4_counted_38 : decode cX4_counted 38 = .ok (.iadd, 1) := by decide +kernel
theorem dX4_counted_39 : decode cX4_counted 39 = .ok (.ireturn, 1) := by decide +kernel
theorem dX4_counted_40 : decode cX4_counted 40 = .ok (.iload_n 1, 1) := by decide +kernel
theorem dX4_counted_41 : decode cX4_counted 41 = .ok (.iconst 5, 1) := by decide +kernel
theorem dX4_counted_42 : decode cX4_counted 42 = .ok (.iadd, 1) := by decide +kernel
theorem dX4_counted_43 : decode cX4_counted 43 = .ok (.iload_n 2, 1) := by decide +kernel
theorem dX4_counted_44 : decode cX4_counted 44 = .ok (.iadd, 1) := by decide +kernel
theorem dX4_counted_45 : decode cX4_counted 45 = .ok (.ireturn, 1) := by decide +kernel
theorem dX4_counted_46 : decode cX4_counted 46 = .ok (.iload_n 1, 1) := by decide +kernel
theorem dX4_counted_47 : decode cX4_counted 47 = .ok (.iconst 2, 1) := by decide +kernel
theorem dX4_counted_48 : decode cX4_counted 48 = .ok (.idiv, 1) := by decide +kernel
theorem dX4_counted_49 : decode cX4_counted 49 = .ok (.iconst 2, 1) := by decide +kernel
theorem dX4_counted_50 : decode cX4_counted 50 = .ok (.idiv, 1) := by decide +kernel
theorem dX4_counted_51 : decode cX4_counted 51 = .ok (.ireturn, 1) := by decide +kernel
theorem dX4_counted_52 : decode cX4_counted 52 = .ok (.iload_n 1, 1) := by decide +kernel
theorem dX4_counted_53 : decode cX4_counted 53 = .ok (.ireturn, 1) := by decide +kernel
theorem dX4_sunk_0 : decode cX4_sunk 0 = .ok (.iload_n 0, 1) := by decide +kernel
theorem dX4_sunk_1 : decode cX4_sunk 1 = .ok (.invokestatic 346, 3) := by decide +kernel
theorem dX4_sunk_4 : decode cX4_sunk 4 = .ok (.istore_n 2, 1) := by decide +kernel
theorem dX4_sunk_5 : decode cX4_sunk 5 = .ok (.iload_n 1, 1) := by decide +kernel
theorem dX4_sunk_6 : decode cX4_sunk 6 = .ok (.ifCond .eq 9, 3) := by decide +kernel
theorem dX4_sunk_9 : decode cX4_sunk 9 = .ok (.iload_n 2, 1) := by decide +kernel
theorem dX4_sunk_10 : decode cX4_sunk 10 = .ok (.iconst 2, 1) := by decide +kernel
theorem dX4_sunk_11 : decode cX4_sunk 11 = .ok (.idiv, 1) := by decide +kernel
theorem dX4_sunk_12 : decode cX4_sunk 12 = .ok (.goto 4, 3) := by decide +kernel
theorem dX4_sunk_15 : decode cX4_sunk 15 = .ok (.iload_n 2, 1) := by decide +kernel
theorem dX4_sunk_16 : decode cX4_sunk 16 = .ok (.ireturn, 1) := by decide +kernel
