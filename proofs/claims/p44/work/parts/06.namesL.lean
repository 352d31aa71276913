theorem dL_cell_0 : decode cL_cell 0 = .ok (.iload_n 1, 1) := by decide +kernel
theorem dL_cell_1 : decode cL_cell 1 = .ok (.aload_n 0, 1) := by decide +kernel
theorem dL_cell_2 : decode cL_cell 2 = .ok (.arraylength, 1) := by decide +kernel
theorem dL_cell_3 : decode cL_cell 3 = .ok (.if_icmp .ge 9, 3) := by decide +kernel
theorem dL_cell_6 : decode cL_cell 6 = .ok (.aload_n 0, 1) := by decide +kernel
theorem dL_cell_7 : decode cL_cell 7 = .ok (.iload_n 1, 1) := by decide +kernel
theorem dL_cell_8 : decode cL_cell 8 = .ok (.iaload, 1) := by decide +kernel
theorem dL_cell_9 : decode cL_cell 9 = .ok (.goto 10, 3) := by decide +kernel
theorem dL_cell_12 : decode cL_cell 12 = .ok (.ldc 7, 2) := by decide +kernel
theorem dL_cell_14 : decode cL_cell 14 = .ok (.iload_n 1, 1) := by decide +kernel
theorem dL_cell_15 : decode cL_cell 15 = .ok (.bipush 7, 2) := by decide +kernel
theorem dL_cell_17 : decode cL_cell 17 = .ok (.iadd, 1) := by decide +kernel
theorem dL_cell_18 : decode cL_cell 18 = .ok (.imul, 1) := by decide +kernel
theorem dL_cell_19 : decode cL_cell 19 = .ok (.ireturn, 1) := by decide +kernel
theorem dL_low_0 : decode cL_low 0 = .ok (.iload_n 0, 1) := by decide +kernel
theorem dL_low_1 : decode cL_low 1 = .ok (.ldc 8, 2) := by decide +kernel
theorem dL_low_3 : decode cL_low 3 = .ok (.iand, 1) := by decide +kernel
theorem dL_low_4 : decode cL_low 4 = .ok (.iload_n 1, 1) := by decide +kernel
theorem dL_low_5 : decode cL_low 5 = .ok (.irem, 1) := by decide +kernel
theorem dL_low_6 : decode cL_low 6 = .ok (.ireturn, 1) := by decide +kernel
theorem dL_letter_0 : decode cL_letter 0 = .ok (.iload_n 0, 1) := by decide +kernel
theorem dL_letter_1 : decode cL_letter 1 = .ok (.ifCond .ne 8, 3) := by decide +kernel
theorem dL_letter_4 : decode cL_letter 4 = .ok (.bipush 103, 2) := by decide +kernel
theorem dL_letter_6 : decode cL_letter 6 = .ok (.goto 45, 3) := by decide +kernel
theorem dL_letter_9 : decode cL_letter 9 = .ok (.iload_n 0, 1) := by decide +kernel
theorem dL_letter_10 : decode cL_letter 10 = .ok (.iconst 1, 1) := by decide +kernel
theorem dL_letter_11 : decode cL_letter 11 = .ok (.if_icmp .ne 8, 3) := by decide +kernel
theorem dL_letter_14 : decode cL_letter 14 = .ok (.bipush 116, 2) := by decide +kernel
theorem dL_letter_16 : decode cL_letter 16 = .ok (.goto 35, 3) := by decide +kernel
theorem dL_letter_19 : decode cL_letter 19 = .ok (.iload_n 0, 1) := by decide +kernel
theorem dL_letter_20 : decode cL_letter 20 = .ok (.iconst 2, 1) := by decide +kernel
theorem dL_letter_21 : decode cL_letter 21 = .ok (.if_icmp .ne 8, 3) := by decide +kernel
theorem dL_letter_24 : decode cL_letter 24 = .ok (.bipush 99, 2) := by decide +kernel
theorem dL_letter_26 : decode cL_letter 26 = .ok (.goto 25, 3) := by decide +kernel
theorem dL_letter_29 : decode cL_letter 29 = .ok (.iload_n 0, 1) := by decide +kernel
theorem dL_letter_30 : decode cL_letter 30 = .ok (.iconst 3, 1) := by decide +kernel
theorem dL_letter_31 : decode cL_letter 31 = .ok (.if_icmp .ne 8, 3) := by decide +kernel
theorem dL_letter_34 : decode cL_letter 34 = .ok (.bipush 108, 2) := by decide +kernel
theorem dL_letter_36 : decode cL_letter 36 = .ok (.goto 15, 3) := by decide +kernel
theorem dL_letter_39 : decode cL_letter 39 = .ok (.iload_n 0, 1) := by decide +kernel
theorem dL_letter_40 : decode cL_letter 40 = .ok (.iconst 4, 1) := by decide +kernel
theorem dL_letter_41 : decode cL_letter 41 = .ok (.if_icmp .ne 8, 3) := by decide +kernel
theorem dL_letter_44 : decode cL_letter 44 = .ok (.bipush 110, 2) := by decide +kernel
theorem dL_letter_46 : decode cL_letter 46 = .ok (.goto 5, 3) := by decide +kernel
theorem dL_letter_49 : decode cL_letter 49 = .ok (.bipush 98, 2) := by decide +kernel
theorem dL_letter_51 : decode cL_letter 51 = .ok (.ireturn, 1) := by decide +kernel
set_option maxRecDepth 20000 in
theorem ggL_tower_L_cell : GoodIn wsL_tower wsL_cell := goodIn_r _ [4, 5] (by rfl) (by decide +kernel)
set_option maxRecDepth 20000 in
theorem gL_tower_L_cell : GoodIn wsL_tower (va_wsS RL 9 yL_cell wsL_cell) := goodIn_app (goodIn_of _ (by decide +kernel)) ggL_tower_L_cell
set_option maxRecDepth 20000 in
theorem ggL_tower_L_low : GoodIn wsL_tower wsL_low := goodIn_r _ [8, 9] (by rfl) (by decide +kernel)
set_option maxRecDepth 20000 in
theorem gL_tower_L_low : GoodIn wsL_tower (va_wsS RL 15 yL_low wsL_low) := goodIn_app (goodIn_of _ (by decide +kernel)) ggL_tower_L_low
set_option maxRecDepth 20000 in
theorem ggL_tower_X4_text : GoodIn wsL_tower wsX4_text := goodIn_r _ [14, 15, 16, 17, 18, 13, 19, 20, 21, 22, 23, 24, 25, 26, 27, 28, 29, 30, 31, 32, 33, 34, 35, 36, 37, 38, 39, 40, 41, 42, 43, 136, 137, 138, 139, 140, 141, 142, 143, 144, 145, 146, 147, 148, 149, 150, 151, 152, 153] (by rfl) (by decide +kernel)
set_option maxRecDepth 20000 in
theorem gL_tower_X4_text : GoodIn wsL_tower (wsV RL 19 RX4 yX4_text wsX4_text) := goodIn_app (goodIn_of _ (by decide +kernel)) ggL_tower_X4_text
set_option maxRecDepth 20000 in
theorem ggL_tower_X4_put : GoodIn wsL_tower wsX4_put := goodIn_r _ [47, 15, 48, 49, 50, 51, 13, 52, 53, 54, 55, 56, 21, 22, 23, 24, 25, 26, 57, 58, 59, 60, 37, 27, 28, 29, 30, 31, 32, 61, 62, 63, 64, 136, 137, 138, 139, 140, 141, 142, 143, 144, 145, 146, 147, 148, 149, 150, 151, 152, 153] (by rfl) (by decide +kernel)
set_option maxRecDepth 20000 in
theorem gL_tower_X4_put : GoodIn wsL_tower (wsV RL 24 RX4 yX4_put wsX4_put) := goodIn_app (goodIn_of _ (by decide +kernel)) ggL_tower_X4_put
set_option maxRecDepth 20000 in
theorem ggL_tower_L_letter : GoodIn wsL_tower wsL_letter := goodIn_r _ [67] (by rfl) (by decide +kernel)
set_option maxRecDepth 20000 in
theorem gL_tower_L_letter : GoodIn wsL_tower (va_wsS RL 28 yL_letter wsL_letter) := goodIn_app (goodIn_of _ (by decide +kernel)) ggL_tower_L_letter
set_option maxRecDepth 20000 in
theorem ggL_tower_X4_fault : GoodIn wsL_tower wsX4_fault := goodIn_r _ [71, 15, 72, 48, 73, 53, 54, 55, 13, 56, 21, 22, 23, 24, 25, 26, 57, 58, 59, 60, 37, 27, 28, 29, 30, 31, 32, 74, 75, 76, 77, 78, 79, 80, 81, 82, 83, 84, 85, 86, 87, 88, 89, 90, 91, 92, 93, 94, 95, 96, 97, 98, 99, 100, 101, 102, 103, 104, 105, 106, 107, 108, 109, 110, 111, 112, 113, 114, 115, 116, 117, 118, 119, 120, 121, 122, 123, 124, 125, 126, 136, 137, 138, 139, 140, 141, 142, 143, 144, 145, 146, 147, 148, 149, 150, 151, 152, 153, 154, 155, 156, 157, 158, 159, 160, 161, 162] (by rfl) (by decide +kernel)
set_option maxRecDepth 20000 in
theorem gL_tower_X4_fault : GoodIn wsL_tower (wsV RL 32 RX4 yX4_fault wsX4_fault) := goodIn_app (goodIn_of _ (by decide +kernel)) ggL_tower_X4_fault
set_option maxRecDepth 20000 in
theorem ggL_tower_X4_tower : GoodIn wsL_tower wsX4_tower := goodIn_r _ [130, 15, 72, 48, 73, 131, 132, 133, 134, 135, 53, 54, 55, 13, 56, 21, 22, 23, 24, 25, 26, 57, 58, 59, 60, 37, 27, 28, 29, 30, 31, 32, 74, 75, 76, 77, 78, 79, 80, 81, 82, 83, 84, 85, 86, 87, 88, 89, 90, 91, 92, 93, 94, 95, 96, 97, 98, 99, 100, 101, 102, 103, 104, 105, 106, 107, 108, 109, 110, 111, 112, 113, 114, 115, 116, 117, 118, 119, 120, 121, 122, 123, 124, 125, 126, 136, 137, 138, 139, 140, 141, 142, 143, 144, 145, 146, 147, 148, 149, 150, 151, 152, 153, 163, 164, 165, 166, 167, 154, 155, 156, 157, 158, 159, 160, 161, 162] (by rfl) (by decide +kernel)
set_option maxRecDepth 20000 in
theorem gL_tower_X4_tower : GoodIn wsL_tower (wsV RL 35 RX4 yX4_tower wsX4_tower) := goodIn_app (goodIn_of _ (by decide +kernel)) ggL_tower_X4_tower
theorem dL_tower_0 : decode cL_tower 0 = .ok (.aload_n 1, 1) := by decide +kernel
theorem dL_tower_1 : decode cL_tower 1 = .ok (.iconst 0, 1) := by decide +kernel
theorem dL_tower_2 : decode cL_tower 2 = .ok (.invokestatic 9, 3) := by decide +kernel
theorem dL_tower_5 : decode cL_tower 5 = .ok (.istore 4, 2) := by decide +kernel
theorem dL_tower_7 : decode cL_tower 7 = .ok (.aload_n 2, 1) := by decide +kernel
theorem dL_tower_8 : decode cL_tower 8 = .ok (.iconst 0, 1) := by decide +kernel
theorem dL_tower_9 : decode cL_tower 9 = .ok (.iconst 2, 1) := by decide +kernel
theorem dL_tower_10 : decode cL_tower 10 = .ok (.iload 4, 2) := by decide +kernel
theorem dL_tower_12 : decode cL_tower 12 = .ok (.iconst 5, 1) := by decide +kernel
theorem dL_tower_13 : decode cL_tower 13 = .ok (.invokestatic 15, 3) := by decide +kernel
theorem dL_tower_16 : decode cL_tower 16 = .ok (.iadd, 1) := by decide +kernel
theorem dL_tower_17 : decode cL_tower 17 = .ok (.iastore, 1) := by decide +kernel
theorem dL_tower_18 : decode cL_tower 18 = .ok (.aload_n 2, 1) := by decide +kernel
theorem dL_tower_19 : decode cL_tower 19 = .ok (.iconst 1, 1) := by decide +kernel
theorem dL_tower_20 : decode cL_tower 20 = .ok (.iload 4, 2) := by decide +kernel
theorem dL_tower_22 : decode cL_tower 22 = .ok (.iconst 3, 1) := by decide +kernel
theorem dL_tower_23 : decode cL_tower 23 = .ok (.ishr, 1) := by decide +kernel
theorem dL_tower_24 : decode cL_tower 24 = .ok (.iconst 5, 1) := by decide +kernel
theorem dL_tower_25 : decode cL_tower 25 = .ok (.invokestatic 15, 3) := by decide +kernel
theorem dL_tower_28 : decode cL_tower 28 = .ok (.iastore, 1) := by decide +kernel
theorem dL_tower_29 : decode cL_tower 29 = .ok (.aload_n 2, 1) := by decide +kernel
theorem dL_tower_30 : decode cL_tower 30 = .ok (.iconst 2, 1) := by decide +kernel
theorem dL_tower_31 : decode cL_tower 31 = .ok (.iload 4, 2) := by decide +kernel
theorem dL_tower_33 : decode cL_tower 33 = .ok (.bipush 6, 2) := by decide +kernel
theorem dL_tower_35 : decode cL_tower 35 = .ok (.ishr, 1) := by decide +kernel
theorem dL_tower_36 : decode cL_tower 36 = .ok (.bipush 10, 2) := by decide +kernel
theorem dL_tower_38 : decode cL_tower 38 = .ok (.invokestatic 15, 3) := by decide +kernel
theorem dL_tower_41 : decode cL_tower 41 = .ok (.iastore, 1) := by decide +kernel
theorem dL_tower_42 : decode cL_tower 42 = .ok (.iconst 0, 1) := by decide +kernel
theorem dL_tower_43 : decode cL_tower 43 = .ok (.istore 5, 2) := by decide +kernel
theorem dL_tower_45 : decode cL_tower 45 = .ok (.iload 5, 2) := by decide +kernel
theorem dL_tower_47 : decode cL_tower 47 = .ok (.iconst 4, 1) := by decide +kernel
theorem dL_tower_48 : decode cL_tower 48 = .ok (.if_icmp .ge 14, 3) := by decide +kernel
theorem dL_tower_51 : decode cL_tower 51 = .ok (.aload_n 3, 1) := by decide +kernel
theorem dL_tower_52 : decode cL_tower 52 = .ok (.iload 5, 2) := by decide +kernel
theorem dL_tower_54 : decode cL_tower 54 = .ok (.iconst 0, 1) := by decide +kernel
theorem dL_tower_55 : decode cL_tower 55 = .ok (.iastore, 1) := by decide +kernel
theorem dL_tower_56 : decode cL_tower 56 = .ok (.iinc 5 1, 3) := by decide +kernel
theorem dL_tower_59 : decode cL_tower 59 = .ok (.goto (-14), 3) := by decide +kernel
theorem dL_tower_62 : decode cL_tower 62 = .ok (.aload_n 0, 1) := by decide +kernel
theorem dL_tower_63 : decode cL_tower 63 = .ok (.iconst 0, 1) := by decide +kernel
theorem dL_tower_64 : decode cL_tower 64 = .ok (.bipush 40, 2) := by decide +kernel
theorem dL_tower_66 : decode cL_tower 66 = .ok (.invokevirtual 19, 3) := by decide +kernel
theorem dL_tower_69 : decode cL_tower 69 = .ok (.bipush 40, 2) := by decide +kernel
theorem dL_tower_71 : decode cL_tower 71 = .ok (.if_icmp .ne 39, 3) := by decide +kernel
theorem dL_tower_74 : decode cL_tower 74 = .ok (.aload_n 0, 1) := by decide +kernel
theorem dL_tower_75 : decode cL_tower 75 = .ok (.iconst 0, 1) := by decide +kernel
theorem dL_tower_76 : decode cL_tower 76 = .ok (.iconst 0, 1) := by decide +kernel
theorem dL_tower_77 : decode cL_tower 77 = .ok (.bipush 120, 2) := by decide +kernel
theorem dL_tower_79 : decode cL_tower 79 = .ok (.invokevirtual 24, 3) := by decide +kernel
theorem dL_tower_82 : decode cL_tower 82 = .ok (.sipush 1032, 3) := by decide +kernel
theorem dL_tower_85 : decode cL_tower 85 = .ok (.if_icmp .ne 25, 3) := by decide +kernel
theorem dL_tower_88 : decode cL_tower 88 = .ok (.aload_n 0, 1) := by decide +kernel
theorem dL_tower_89 : decode cL_tower 89 = .ok (.iconst 0, 1) := by decide +kernel
theorem dL_tower_90 : decode cL_tower 90 = .ok (.iconst 1, 1) := by decide +kernel
theorem dL_tower_91 : decode cL_tower 91 = .ok (.bipush 48, 2) := by decide +kernel
theorem dL_tower_93 : decode cL_tower 93 = .ok (.aload_n 2, 1) := by decide +kernel
theorem dL_tower_94 : decode cL_tower 94 = .ok (.iconst 2, 1) := by decide +kernel
theorem dL_tower_95 : decode cL_tower 95 = .ok (.iaload, 1) := by decide +kernel
theorem dL_tower_96 : decode cL_tower 96 = .ok (.iadd, 1) := by decide +kernel
theorem dL_tower_97 : decode cL_tower 97 = .ok (.invokevirtual 24, 3) := by decide +kernel
theorem dL_tower_100 : decode cL_tower 100 = .ok (.sipush 1032, 3) := by decide +kernel
theorem dL_tower_103 : decode cL_tower 103 = .ok (.if_icmp .ne 7, 3) := by decide +kernel
theorem dL_tower_106 : decode cL_tower 106 = .ok (.iconst 1, 1) := by decide +kernel
theorem dL_tower_107 : decode cL_tower 107 = .ok (.goto 4, 3) := by decide +kernel
theorem dL_tower_110 : decode cL_tower 110 = .ok (.iconst 0, 1) := by decide +kernel
theorem dL_tower_111 : decode cL_tower 111 = .ok (.istore 5, 2) := by decide +kernel
theorem dL_tower_113 : decode cL_tower 113 = .ok (.iconst 0, 1) := by decide +kernel
theorem dL_tower_114 : decode cL_tower 114 = .ok (.istore 6, 2) := by decide +kernel
theorem dL_tower_116 : decode cL_tower 116 = .ok (.iload 6, 2) := by decide +kernel
theorem dL_tower_118 : decode cL_tower 118 = .ok (.aload_n 2, 1) := by decide +kernel
theorem dL_tower_119 : decode cL_tower 119 = .ok (.iconst 1, 1) := by decide +kernel
theorem dL_tower_120 : decode cL_tower 120 = .ok (.iaload, 1) := by decide +kernel
theorem dL_tower_121 : decode cL_tower 121 = .ok (.if_icmp .ge 89, 3) := by decide +kernel
theorem dL_tower_124 : decode cL_tower 124 = .ok (.aload_n 2, 1) := by decide +kernel
theorem dL_tower_125 : decode cL_tower 125 = .ok (.iconst 3, 1) := by decide +kernel
theorem dL_tower_126 : decode cL_tower 126 = .ok (.iload 6, 2) := by decide +kernel
theorem dL_tower_128 : decode cL_tower 128 = .ok (.iadd, 1) := by decide +kernel
theorem dL_tower_129 : decode cL_tower 129 = .ok (.iconst 1, 1) := by decide +kernel
theorem dL_tower_130 : decode cL_tower 130 = .ok (.aload_n 1, 1) := by decide +kernel
theorem dL_tower_131 : decode cL_tower 131 = .ok (.iconst 1, 1) := by decide +kernel
theorem dL_tower_132 : decode cL_tower 132 = .ok (.invokestatic 9, 3) := by decide +kernel
theorem dL_tower_135 : decode cL_tower 135 = .ok (.iconst 5, 1) := by decide +kernel
theorem dL_tower_136 : decode cL_tower 136 = .ok (.iload 6, 2) := by decide +kernel
theorem dL_tower_138 : decode cL_tower 138 = .ok (.imul, 1) := by decide +kernel
theorem dL_tower_139 : decode cL_tower 139 = .ok (.ishr, 1) := by decide +kernel
theorem dL_tower_140 : decode cL_tower 140 = .ok (.bipush 9, 2) := by decide +kernel
theorem dL_tower_142 : decode cL_tower 142 = .ok (.invokestatic 15, 3) := by decide +kernel
theorem dL_tower_145 : decode cL_tower 145 = .ok (.iadd, 1) := by decide +kernel
theorem dL_tower_146 : decode cL_tower 146 = .ok (.iastore, 1) := by decide +kernel
theorem dL_tower_147 : decode cL_tower 147 = .ok (.iload 5, 2) := by decide +kernel
theorem dL_tower_149 : decode cL_tower 149 = .ok (.ifCond .eq 52, 3) := by decide +kernel
theorem dL_tower_152 : decode cL_tower 152 = .ok (.aload_n 0, 1) := by decide +kernel
theorem dL_tower_153 : decode cL_tower 153 = .ok (.iconst 0, 1) := by decide +kernel
theorem dL_tower_154 : decode cL_tower 154 = .ok (.iconst 3, 1) := by decide +kernel
theorem dL_tower_155 : decode cL_tower 155 = .ok (.iconst 2, 1) := by decide +kernel
theorem dL_tower_156 : decode cL_tower 156 = .ok (.iload 6, 2) := by decide +kernel
theorem dL_tower_158 : decode cL_tower 158 = .ok (.imul, 1) := by decide +kernel
theorem dL_tower_159 : decode cL_tower 159 = .ok (.iadd, 1) := by decide +kernel
theorem dL_tower_160 : decode cL_tower 160 = .ok (.bipush 111, 2) := by decide +kernel
theorem dL_tower_162 : decode cL_tower 162 = .ok (.invokevirtual 24, 3) := by decide +kernel
theorem dL_tower_165 : decode cL_tower 165 = .ok (.sipush 1032, 3) := by decide +kernel
theorem dL_tower_168 : decode cL_tower 168 = .ok (.if_icmp .ne 33, 3) := by decide +kernel
theorem dL_tower_171 : decode cL_tower 171 = .ok (.aload_n 0, 1) := by decide +kernel
theorem dL_tower_172 : decode cL_tower 172 = .ok (.iconst 0, 1) := by decide +kernel
theorem dL_tower_173 : decode cL_tower 173 = .ok (.iconst 4, 1) := by decide +kernel
theorem dL_tower_174 : decode cL_tower 174 = .ok (.iconst 2, 1) := by decide +kernel
theorem dL_tower_175 : decode cL_tower 175 = .ok (.iload 6, 2) := by decide +kernel
theorem dL_tower_177 : decode cL_tower 177 = .ok (.imul, 1) := by decide +kernel
theorem dL_tower_178 : decode cL_tower 178 = .ok (.iadd, 1) := by decide +kernel
theorem dL_tower_179 : decode cL_tower 179 = .ok (.bipush 48, 2) := by decide +kernel
theorem dL_tower_181 : decode cL_tower 181 = .ok (.aload_n 2, 1) := by decide +kernel
theorem dL_tower_182 : decode cL_tower 182 = .ok (.iconst 3, 1) := by decide +kernel
theorem dL_tower_183 : decode cL_tower 183 = .ok (.iload 6, 2) := by decide +kernel
theorem dL_tower_185 : decode cL_tower 185 = .ok (.iadd, 1) := by decide +kernel
theorem dL_tower_186 : decode cL_tower 186 = .ok (.iaload, 1) := by decide +kernel
theorem dL_tower_187 : decode cL_tower 187 = .ok (.iadd, 1) := by decide +kernel
theorem dL_tower_188 : decode cL_tower 188 = .ok (.invokevirtual 24, 3) := by decide +kernel
theorem dL_tower_191 : decode cL_tower 191 = .ok (.sipush 1032, 3) := by decide +kernel
theorem dL_tower_194 : decode cL_tower 194 = .ok (.if_icmp .ne 7, 3) := by decide +kernel
theorem dL_tower_197 : decode cL_tower 197 = .ok (.iconst 1, 1) := by decide +kernel
theorem dL_tower_198 : decode cL_tower 198 = .ok (.goto 4, 3) := by decide +kernel
theorem dL_tower_201 : decode cL_tower 201 = .ok (.iconst 0, 1) := by decide +kernel
theorem dL_tower_202 : decode cL_tower 202 = .ok (.istore 5, 2) := by decide +kernel
theorem dL_tower_204 : decode cL_tower 204 = .ok (.iinc 6 1, 3) := by decide +kernel
theorem dL_tower_207 : decode cL_tower 207 = .ok (.goto (-91), 3) := by decide +kernel
theorem dL_tower_210 : decode cL_tower 210 = .ok (.iconst 0, 1) := by decide +kernel
theorem dL_tower_211 : decode cL_tower 211 = .ok (.istore 6, 2) := by decide +kernel
theorem dL_tower_213 : decode cL_tower 213 = .ok (.iload 6, 2) := by decide +kernel
theorem dL_tower_215 : decode cL_tower 215 = .ok (.aload_n 2, 1) := by decide +kernel
theorem dL_tower_216 : decode cL_tower 216 = .ok (.iconst 0, 1) := by decide +kernel
theorem dL_tower_217 : decode cL_tower 217 = .ok (.iaload, 1) := by decide +kernel
theorem dL_tower_218 : decode cL_tower 218 = .ok (.if_icmp .ge 175, 3) := by decide +kernel
theorem dL_tower_221 : decode cL_tower 221 = .ok (.aload_n 1, 1) := by decide +kernel
theorem dL_tower_222 : decode cL_tower 222 = .ok (.iconst 2, 1) := by decide +kernel
theorem dL_tower_223 : decode cL_tower 223 = .ok (.iload 6, 2) := by decide +kernel
theorem dL_tower_225 : decode cL_tower 225 = .ok (.iadd, 1) := by decide +kernel
theorem dL_tower_226 : decode cL_tower 226 = .ok (.invokestatic 9, 3) := by decide +kernel
theorem dL_tower_229 : decode cL_tower 229 = .ok (.istore 7, 2) := by decide +kernel
theorem dL_tower_231 : decode cL_tower 231 = .ok (.bipush 12, 2) := by decide +kernel
theorem dL_tower_233 : decode cL_tower 233 = .ok (.iconst 4, 1) := by decide +kernel
theorem dL_tower_234 : decode cL_tower 234 = .ok (.iload 6, 2) := by decide +kernel
theorem dL_tower_236 : decode cL_tower 236 = .ok (.imul, 1) := by decide +kernel
theorem dL_tower_237 : decode cL_tower 237 = .ok (.iadd, 1) := by decide +kernel
theorem dL_tower_238 : decode cL_tower 238 = .ok (.istore 8, 2) := by decide +kernel
theorem dL_tower_240 : decode cL_tower 240 = .ok (.aload_n 2, 1) := by decide +kernel
theorem dL_tower_241 : decode cL_tower 241 = .ok (.bipush 7, 2) := by decide +kernel
theorem dL_tower_243 : decode cL_tower 243 = .ok (.iload 6, 2) := by decide +kernel
theorem dL_tower_245 : decode cL_tower 245 = .ok (.iadd, 1) := by decide +kernel
theorem dL_tower_246 : decode cL_tower 246 = .ok (.iload 7, 2) := by decide +kernel
theorem dL_tower_248 : decode cL_tower 248 = .ok (.bipush 6, 2) := by decide +kernel
theorem dL_tower_250 : decode cL_tower 250 = .ok (.invokestatic 15, 3) := by decide +kernel
theorem dL_tower_253 : decode cL_tower 253 = .ok (.iastore, 1) := by decide +kernel
theorem dL_tower_254 : decode cL_tower 254 = .ok (.aload_n 2, 1) := by decide +kernel
theorem dL_tower_255 : decode cL_tower 255 = .ok (.bipush 13, 2) := by decide +kernel
theorem dL_tower_257 : decode cL_tower 257 = .ok (.iload 6, 2) := by decide +kernel
theorem dL_tower_259 : decode cL_tower 259 = .ok (.iadd, 1) := by decide +kernel
theorem dL_tower_260 : decode cL_tower 260 = .ok (.iload 4, 2) := by decide +kernel
theorem dL_tower_262 : decode cL_tower 262 = .ok (.bipush 20, 2) := by decide +kernel
theorem dL_tower_264 : decode cL_tower 264 = .ok (.ishr, 1) := by decide +kernel
theorem dL_tower_265 : decode cL_tower 265 = .ok (.iconst 1, 1) := by decide +kernel
theorem dL_tower_266 : decode cL_tower 266 = .ok (.iand, 1) := by decide +kernel
theorem dL_tower_267 : decode cL_tower 267 = .ok (.ifCond .ne 17, 3) := by decide +kernel
theorem dL_tower_270 : decode cL_tower 270 = .ok (.iconst 1, 1) := by decide +kernel
theorem dL_tower_271 : decode cL_tower 271 = .ok (.iload 7, 2) := by decide +kernel
theorem dL_tower_273 : decode cL_tower 273 = .ok (.iconst 3, 1) := by decide +kernel
theorem dL_tower_274 : decode cL_tower 274 = .ok (.ishr, 1) := by decide +kernel
theorem dL_tower_275 : decode cL_tower 275 = .ok (.bipush 30, 2) := by decide +kernel
theorem dL_tower_277 : decode cL_tower 277 = .ok (.invokestatic 15, 3) := by decide +kernel
theorem dL_tower_280 : decode cL_tower 280 = .ok (.iadd, 1) := by decide +kernel
theorem dL_tower_281 : decode cL_tower 281 = .ok (.goto 14, 3) := by decide +kernel
theorem dL_tower_284 : decode cL_tower 284 = .ok (.iconst 1, 1) := by decide +kernel
theorem dL_tower_285 : decode cL_tower 285 = .ok (.iload 7, 2) := by decide +kernel
theorem dL_tower_287 : decode cL_tower 287 = .ok (.iconst 3, 1) := by decide +kernel
theorem dL_tower_288 : decode cL_tower 288 = .ok (.ishr, 1) := by decide +kernel
theorem dL_tower_289 : decode cL_tower 289 = .ok (.bipush 99, 2) := by decide +kernel
theorem dL_tower_291 : decode cL_tower 291 = .ok (.invokestatic 15, 3) := by decide +kernel
theorem dL_tower_294 : decode cL_tower 294 = .ok (.iadd, 1) := by decide +kernel
theorem dL_tower_295 : decode cL_tower 295 = .ok (.iastore, 1) := by decide +kernel
theorem dL_tower_296 : decode cL_tower 296 = .ok (.iload 5, 2) := by decide +kernel
theorem dL_tower_298 : decode cL_tower 298 = .ok (.ifCond .eq 86, 3) := by decide +kernel
theorem dL_tower_301 : decode cL_tower 301 = .ok (.aload_n 0, 1) := by decide +kernel
theorem dL_tower_302 : decode cL_tower 302 = .ok (.iconst 0, 1) := by decide +kernel
theorem dL_tower_303 : decode cL_tower 303 = .ok (.iload 8, 2) := by decide +kernel
theorem dL_tower_305 : decode cL_tower 305 = .ok (.aload_n 2, 1) := by decide +kernel
theorem dL_tower_306 : decode cL_tower 306 = .ok (.bipush 7, 2) := by decide +kernel
theorem dL_tower_308 : decode cL_tower 308 = .ok (.iload 6, 2) := by decide +kernel
theorem dL_tower_310 : decode cL_tower 310 = .ok (.iadd, 1) := by decide +kernel
theorem dL_tower_311 : decode cL_tower 311 = .ok (.iaload, 1) := by decide +kernel
theorem dL_tower_312 : decode cL_tower 312 = .ok (.invokestatic 28, 3) := by decide +kernel
theorem dL_tower_315 : decode cL_tower 315 = .ok (.invokevirtual 24, 3) := by decide +kernel
theorem dL_tower_318 : decode cL_tower 318 = .ok (.sipush 1032, 3) := by decide +kernel
theorem dL_tower_321 : decode cL_tower 321 = .ok (.if_icmp .ne 63, 3) := by decide +kernel
theorem dL_tower_324 : decode cL_tower 324 = .ok (.aload_n 0, 1) := by decide +kernel
theorem dL_tower_325 : decode cL_tower 325 = .ok (.iconst 0, 1) := by decide +kernel
theorem dL_tower_326 : decode cL_tower 326 = .ok (.iload 8, 2) := by decide +kernel
theorem dL_tower_328 : decode cL_tower 328 = .ok (.iconst 1, 1) := by decide +kernel
theorem dL_tower_329 : decode cL_tower 329 = .ok (.iadd, 1) := by decide +kernel
theorem dL_tower_330 : decode cL_tower 330 = .ok (.bipush 48, 2) := by decide +kernel
theorem dL_tower_332 : decode cL_tower 332 = .ok (.aload_n 2, 1) := by decide +kernel
theorem dL_tower_333 : decode cL_tower 333 = .ok (.bipush 13, 2) := by decide +kernel
theorem dL_tower_335 : decode cL_tower 335 = .ok (.iload 6, 2) := by decide +kernel
theorem dL_tower_337 : decode cL_tower 337 = .ok (.iadd, 1) := by decide +kernel
theorem dL_tower_338 : decode cL_tower 338 = .ok (.iaload, 1) := by decide +kernel
theorem dL_tower_339 : decode cL_tower 339 = .ok (.bipush 10, 2) := by decide +kernel
theorem dL_tower_341 : decode cL_tower 341 = .ok (.idiv, 1) := by decide +kernel
theorem dL_tower_342 : decode cL_tower 342 = .ok (.iadd, 1) := by decide +kernel
theorem dL_tower_343 : decode cL_tower 343 = .ok (.invokevirtual 24, 3) := by decide +kernel
theorem dL_tower_346 : decode cL_tower 346 = .ok (.sipush 1032, 3) := by decide +kernel
theorem dL_tower_349 : decode cL_tower 349 = .ok (.if_icmp .ne 35, 3) := by decide +kernel
theorem dL_tower_352 : decode cL_tower 352 = .ok (.aload_n 0, 1) := by decide +kernel
theorem dL_tower_353 : decode cL_tower 353 = .ok (.iconst 0, 1) := by decide +kernel
theorem dL_tower_354 : decode cL_tower 354 = .ok (.iload 8, 2) := by decide +kernel
theorem dL_tower_356 : decode cL_tower 356 = .ok (.iconst 2, 1) := by decide +kernel
theorem dL_tower_357 : decode cL_tower 357 = .ok (.iadd, 1) := by decide +kernel
theorem dL_tower_358 : decode cL_tower 358 = .ok (.bipush 48, 2) := by decide +kernel
theorem dL_tower_360 : decode cL_tower 360 = .ok (.aload_n 2, 1) := by decide +kernel
theorem dL_tower_361 : decode cL_tower 361 = .ok (.bipush 13, 2) := by decide +kernel
theorem dL_tower_363 : decode cL_tower 363 = .ok (.iload 6, 2) := by decide +kernel
theorem dL_tower_365 : decode cL_tower 365 = .ok (.iadd, 1) := by decide +kernel
theorem dL_tower_366 : decode cL_tower 366 = .ok (.iaload, 1) := by decide +kernel
theorem dL_tower_367 : decode cL_tower 367 = .ok (.bipush 10, 2) := by decide +kernel
theorem dL_tower_369 : decode cL_tower 369 = .ok (.irem, 1) := by decide +kernel
theorem dL_tower_370 : decode cL_tower 370 = .ok (.iadd, 1) := by decide +kernel
theorem dL_tower_371 : decode cL_tower 371 = .ok (.invokevirtual 24, 3) := by decide +kernel
theorem dL_tower_374 : decode cL_tower 374 = .ok (.sipush 1032, 3) := by decide +kernel
theorem dL_tower_377 : decode cL_tower 377 = .ok (.if_icmp .ne 7, 3) := by decide +kernel
theorem dL_tower_380 : decode cL_tower 380 = .ok (.iconst 1, 1) := by decide +kernel
theorem dL_tower_381 : decode cL_tower 381 = .ok (.goto 4, 3) := by decide +kernel
theorem dL_tower_384 : decode cL_tower 384 = .ok (.iconst 0, 1) := by decide +kernel
theorem dL_tower_385 : decode cL_tower 385 = .ok (.istore 5, 2) := by decide +kernel
theorem dL_tower_387 : decode cL_tower 387 = .ok (.iinc 6 1, 3) := by decide +kernel
theorem dL_tower_390 : decode cL_tower 390 = .ok (.goto (-177), 3) := by decide +kernel
theorem dL_tower_393 : decode cL_tower 393 = .ok (.iload 5, 2) := by decide +kernel
theorem dL_tower_395 : decode cL_tower 395 = .ok (.ifCond .eq 28, 3) := by decide +kernel
theorem dL_tower_398 : decode cL_tower 398 = .ok (.aload_n 0, 1) := by decide +kernel
theorem dL_tower_399 : decode cL_tower 399 = .ok (.iconst 0, 1) := by decide +kernel
theorem dL_tower_400 : decode cL_tower 400 = .ok (.invokevirtual 32, 3) := by decide +kernel
theorem dL_tower_403 : decode cL_tower 403 = .ok (.bipush (-9), 2) := by decide +kernel
theorem dL_tower_405 : decode cL_tower 405 = .ok (.if_icmp .ne 18, 3) := by decide +kernel
theorem dL_tower_408 : decode cL_tower 408 = .ok (.aload_n 0, 1) := by decide +kernel
theorem dL_tower_409 : decode cL_tower 409 = .ok (.iconst 0, 1) := by decide +kernel
theorem dL_tower_410 : decode cL_tower 410 = .ok (.invokevirtual 35, 3) := by decide +kernel
theorem dL_tower_413 : decode cL_tower 413 = .ok (.aload_n 2, 1) := by decide +kernel
theorem dL_tower_414 : decode cL_tower 414 = .ok (.iconst 0, 1) := by decide +kernel
theorem dL_tower_415 : decode cL_tower 415 = .ok (.iaload, 1) := by decide +kernel
theorem dL_tower_416 : decode cL_tower 416 = .ok (.if_icmp .ne 7, 3) := by decide +kernel
theorem dL_tower_419 : decode cL_tower 419 = .ok (.iconst 1, 1) := by decide +kernel
theorem dL_tower_420 : decode cL_tower 420 = .ok (.goto 4, 3) := by decide +kernel
theorem dL_tower_423 : decode cL_tower 423 = .ok (.iconst 0, 1) := by decide +kernel
theorem dL_tower_424 : decode cL_tower 424 = .ok (.ireturn, 1) := by decide +kernel
theorem dL_counts_0 : decode cL_counts 0 = .ok (.iload_n 0, 1) := by decide +kernel
theorem dL_counts_1 : decode cL_counts 1 = .ok (.iconst 2, 1) := by decide +kernel
theorem dL_counts_2 : decode cL_counts 2 = .ok (.if_icmp .ne 9, 3) := by decide +kernel
theorem dL_counts_5 : decode cL_counts 5 = .ok (.iload_n 1, 1) := by decide +kernel
theorem dL_counts_6 : decode cL_counts 6 = .ok (.iconst 1, 1) := by decide +kernel
theorem dL_counts_7 : decode cL_counts 7 = .ok (.ishr, 1) := by decide +kernel
theorem dL_counts_8 : decode cL_counts 8 = .ok (.goto 39, 3) := by decide +kernel
theorem dL_counts_11 : decode cL_counts 11 = .ok (.iload_n 0, 1) := by decide +kernel
theorem dL_counts_12 : decode cL_counts 12 = .ok (.iconst 5, 1) := by decide +kernel
theorem dL_counts_13 : decode cL_counts 13 = .ok (.if_icmp .ne 9, 3) := by decide +kernel
theorem dL_counts_16 : decode cL_counts 16 = .ok (.iload_n 1, 1) := by decide +kernel
theorem dL_counts_17 : decode cL_counts 17 = .ok (.iconst 2, 1) := by decide +kernel
theorem dL_counts_18 : decode cL_counts 18 = .ok (.ishr, 1) := by decide +kernel
theorem dL_counts_19 : decode cL_counts 19 = .ok (.goto 28, 3) := by decide +kernel
theorem dL_counts_22 : decode cL_counts 22 = .ok (.iload_n 0, 1) := by decide +kernel
theorem dL_counts_23 : decode cL_counts 23 = .ok (.iconst 3, 1) := by decide +kernel
theorem dL_counts_24 : decode cL_counts 24 = .ok (.if_icmp .ne 9, 3) := by decide +kernel
theorem dL_counts_27 : decode cL_counts 27 = .ok (.iload_n 1, 1) := by decide +kernel
theorem dL_counts_28 : decode cL_counts 28 = .ok (.iconst 5, 1) := by decide +kernel
theorem dL_counts_29 : decode cL_counts 29 = .ok (.iadd, 1) := by decide +kernel
theorem dL_counts_30 : decode cL_counts 30 = .ok (.goto 17, 3) := by decide +kernel
theorem dL_counts_33 : decode cL_counts 33 = .ok (.iload_n 0, 1) := by decide +kernel
theorem dL_counts_34 : decode cL_counts 34 = .ok (.iconst 4, 1) := by decide +kernel
theorem dL_counts_35 : decode cL_counts 35 = .ok (.if_icmp .ne 11, 3) := by decide +kernel
theorem dL_counts_38 : decode cL_counts 38 = .ok (.iload_n 1, 1) := by decide +kernel
theorem dL_counts_39 : decode cL_counts 39 = .ok (.iconst 5, 1) := by decide +kernel
theorem dL_counts_40 : decode cL_counts 40 = .ok (.iadd, 1) := by decide +kernel
theorem dL_counts_41 : decode cL_counts 41 = .ok (.iload_n 2, 1) := by decide +kernel
theorem dL_counts_42 : decode cL_counts 42 = .ok (.iadd, 1) := by decide +kernel
theorem dL_counts_43 : decode cL_counts 43 = .ok (.goto 4, 3) := by decide +kernel
theorem dL_counts_46 : decode cL_counts 46 = .ok (.iload_n 1, 1) := by decide +kernel
theorem dL_counts_47 : decode cL_counts 47 = .ok (.ireturn, 1) := by decide +kernel
set_option maxRecDepth 20000 in
theorem ggL_count_L_counts : GoodIn wsL_count wsL_counts := goodIn_r _ [4] (by rfl) (by decide +kernel)
set_option maxRecDepth 20000 in
theorem gL_count_L_counts : GoodIn wsL_count (va_wsS RL 38 yL_counts wsL_counts) := goodIn_app (goodIn_of _ (by decide +kernel)) ggL_count_L_counts
theorem dL_count_0 : decode cL_count 0 = .ok (.aload_n 0, 1) := by decide +kernel
theorem dL_count_1 : decode cL_count 1 = .ok (.bipush 7, 2) := by decide +kernel
theorem dL_count_3 : decode cL_count 3 = .ok (.iload_n 2, 1) := by decide +kernel
theorem dL_count_4 : decode cL_count 4 = .ok (.iadd, 1) := by decide +kernel
theorem dL_count_5 : decode cL_count 5 = .ok (.iaload, 1) := by decide +kernel
theorem dL_count_6 : decode cL_count 6 = .ok (.aload_n 0, 1) := by decide +kernel
theorem dL_count_7 : decode cL_count 7 = .ok (.bipush 13, 2) := by decide +kernel
theorem dL_count_9 : decode cL_count 9 = .ok (.iload_n 2, 1) := by decide +kernel
theorem dL_count_10 : decode cL_count 10 = .ok (.iadd, 1) := by decide +kernel
theorem dL_count_11 : decode cL_count 11 = .ok (.iaload, 1) := by decide +kernel
theorem dL_count_12 : decode cL_count 12 = .ok (.aload_n 1, 1) := by decide +kernel
theorem dL_count_13 : decode cL_count 13 = .ok (.iconst 0, 1) := by decide +kernel
theorem dL_count_14 : decode cL_count 14 = .ok (.iaload, 1) := by decide +kernel
theorem dL_count_15 : decode cL_count 15 = .ok (.invokestatic 38, 3) := by decide +kernel
theorem dL_count_18 : decode cL_count 18 = .ok (.ireturn, 1) := by decide +kernel
theorem dL_off_0 : decode cL_off 0 = .ok (.iload_n 0, 1) := by decide +kernel
theorem dL_off_1 : decode cL_off 1 = .ok (.iload_n 1, 1) := by decide +kernel
theorem dL_off_2 : decode cL_off 2 = .ok (.if_icmp .le 9, 3) := by decide +kernel
theorem dL_off_5 : decode cL_off 5 = .ok (.iload_n 0, 1) := by decide +kernel
theorem dL_off_6 : decode cL_off 6 = .ok (.iload_n 1, 1) := by decide +kernel
theorem dL_off_7 : decode cL_off 7 = .ok (.isub, 1) := by decide +kernel
theorem dL_off_8 : decode cL_off 8 = .ok (.goto 6, 3) := by decide +kernel
theorem dL_off_11 : decode cL_off 11 = .ok (.iload_n 1, 1) := by decide +kernel
theorem dL_off_12 : decode cL_off 12 = .ok (.iload_n 0, 1) := by decide +kernel
theorem dL_off_13 : decode cL_off 13 = .ok (.isub, 1) := by decide +kernel
theorem dL_off_14 : decode cL_off 14 = .ok (.ireturn, 1) := by decide +kernel
theorem dL_weight_0 : decode cL_weight 0 = .ok (.iconst 0, 1) := by decide +kernel
theorem dL_weight_1 : decode cL_weight 1 = .ok (.istore_n 2, 1) := by decide +kernel
theorem dL_weight_2 : decode cL_weight 2 = .ok (.iconst 0, 1) := by decide +kernel
theorem dL_weight_3 : decode cL_weight 3 = .ok (.istore_n 3, 1) := by decide +kernel
theorem dL_weight_4 : decode cL_weight 4 = .ok (.iload_n 3, 1) := by decide +kernel
theorem dL_weight_5 : decode cL_weight 5 = .ok (.aload_n 0, 1) := by decide +kernel
theorem dL_weight_6 : decode cL_weight 6 = .ok (.iconst 1, 1) := by decide +kernel
theorem dL_weight_7 : decode cL_weight 7 = .ok (.iaload, 1) := by decide +kernel
theorem dL_weight_8 : decode cL_weight 8 = .ok (.if_icmp .ge 23, 3) := by decide +kernel
theorem dL_weight_11 : decode cL_weight 11 = .ok (.iload_n 2, 1) := by decide +kernel
theorem dL_weight_12 : decode cL_weight 12 = .ok (.iload_n 1, 1) := by decide +kernel
theorem dL_weight_13 : decode cL_weight 13 = .ok (.iload_n 3, 1) := by decide +kernel
theorem dL_weight_14 : decode cL_weight 14 = .ok (.ishr, 1) := by decide +kernel
theorem dL_weight_15 : decode cL_weight 15 = .ok (.iconst 1, 1) := by decide +kernel
theorem dL_weight_16 : decode cL_weight 16 = .ok (.iand, 1) := by decide +kernel
theorem dL_weight_17 : decode cL_weight 17 = .ok (.aload_n 0, 1) := by decide +kernel
theorem dL_weight_18 : decode cL_weight 18 = .ok (.iconst 3, 1) := by decide +kernel
theorem dL_weight_19 : decode cL_weight 19 = .ok (.iload_n 3, 1) := by decide +kernel
theorem dL_weight_20 : decode cL_weight 20 = .ok (.iadd, 1) := by decide +kernel
theorem dL_weight_21 : decode cL_weight 21 = .ok (.iaload, 1) := by decide +kernel
theorem dL_weight_22 : decode cL_weight 22 = .ok (.imul, 1) := by decide +kernel
theorem dL_weight_23 : decode cL_weight 23 = .ok (.iadd, 1) := by decide +kernel
theorem dL_weight_24 : decode cL_weight 24 = .ok (.istore_n 2, 1) := by decide +kernel
theorem dL_weight_25 : decode cL_weight 25 = .ok (.iinc 3 1, 3) := by decide +kernel
theorem dL_weight_28 : decode cL_weight 28 = .ok (.goto (-24), 3) := by decide +kernel
theorem dL_weight_31 : decode cL_weight 31 = .ok (.iload_n 2, 1) := by decide +kernel
theorem dL_weight_32 : decode cL_weight 32 = .ok (.ireturn, 1) := by decide +kernel
set_option maxRecDepth 20000 in
theorem ggL_sink_L_count : GoodIn wsL_sink wsL_count := goodIn_r _ [4, 5, 6, 3, 7] (by rfl) (by decide +kernel)
set_option maxRecDepth 20000 in
theorem gL_sink_L_count : GoodIn wsL_sink (va_wsS RL 41 yL_count wsL_count) := goodIn_app (goodIn_of _ (by decide +kernel)) ggL_sink_L_count
set_option maxRecDepth 20000 in
theorem ggL_sink_L_weight : GoodIn wsL_sink wsL_weight := goodIn_r _ [10] (by rfl) (by decide +kernel)
set_option maxRecDepth 20000 in
theorem gL_sink_L_weight : GoodIn wsL_sink (va_wsS RL 45 yL_weight wsL_weight) := goodIn_app (goodIn_of _ (by decide +kernel)) ggL_sink_L_weight
set_option maxRecDepth 20000 in
theorem ggL_sink_L_off : GoodIn wsL_sink wsL_off := goodIn_r _ [13] (by rfl) (by decide +kernel)
set_option maxRecDepth 20000 in
theorem gL_sink_L_off : GoodIn wsL_sink (va_wsS RL 48 yL_off wsL_off) := goodIn_app (goodIn_of _ (by decide +kernel)) ggL_sink_L_off
theorem dL_sink_0 : decode cL_sink 0 = .ok (.aload_n 0, 1) := by decide +kernel
theorem dL_sink_1 : decode cL_sink 1 = .ok (.aload_n 1, 1) := by decide +kernel
theorem dL_sink_2 : decode cL_sink 2 = .ok (.iload_n 2, 1) := by decide +kernel
theorem dL_sink_3 : decode cL_sink 3 = .ok (.invokestatic 41, 3) := by decide +kernel
theorem dL_sink_6 : decode cL_sink 6 = .ok (.aload_n 0, 1) := by decide +kernel
theorem dL_sink_7 : decode cL_sink 7 = .ok (.iload 4, 2) := by decide +kernel
theorem dL_sink_9 : decode cL_sink 9 = .ok (.invokestatic 45, 3) := by decide +kernel
theorem dL_sink_12 : decode cL_sink 12 = .ok (.iadd, 1) := by decide +kernel
theorem dL_sink_13 : decode cL_sink 13 = .ok (.aload_n 0, 1) := by decide +kernel
theorem dL_sink_14 : decode cL_sink 14 = .ok (.aload_n 1, 1) := by decide +kernel
theorem dL_sink_15 : decode cL_sink 15 = .ok (.iload_n 3, 1) := by decide +kernel
theorem dL_sink_16 : decode cL_sink 16 = .ok (.invokestatic 41, 3) := by decide +kernel
theorem dL_sink_19 : decode cL_sink 19 = .ok (.aload_n 0, 1) := by decide +kernel
theorem dL_sink_20 : decode cL_sink 20 = .ok (.iload 5, 2) := by decide +kernel
theorem dL_sink_22 : decode cL_sink 22 = .ok (.invokestatic 45, 3) := by decide +kernel
theorem dL_sink_25 : decode cL_sink 25 = .ok (.iadd, 1) := by decide +kernel
theorem dL_sink_26 : decode cL_sink 26 = .ok (.invokestatic 48, 3) := by decide +kernel
theorem dL_sink_29 : decode cL_sink 29 = .ok (.istore 6, 2) := by decide +kernel
theorem dL_sink_31 : decode cL_sink 31 = .ok (.aload_n 0, 1) := by decide +kernel
theorem dL_sink_32 : decode cL_sink 32 = .ok (.bipush 7, 2) := by decide +kernel
theorem dL_sink_34 : decode cL_sink 34 = .ok (.iload_n 2, 1) := by decide +kernel
theorem dL_sink_35 : decode cL_sink 35 = .ok (.iadd, 1) := by decide +kernel
theorem dL_sink_36 : decode cL_sink 36 = .ok (.iaload, 1) := by decide +kernel
theorem dL_sink_37 : decode cL_sink 37 = .ok (.iconst 1, 1) := by decide +kernel
theorem dL_sink_38 : decode cL_sink 38 = .ok (.if_icmp .ne 20, 3) := by decide +kernel
theorem dL_sink_41 : decode cL_sink 41 = .ok (.aload_n 0, 1) := by decide +kernel
theorem dL_sink_42 : decode cL_sink 42 = .ok (.bipush 7, 2) := by decide +kernel
theorem dL_sink_44 : decode cL_sink 44 = .ok (.iload_n 3, 1) := by decide +kernel
theorem dL_sink_45 : decode cL_sink 45 = .ok (.iadd, 1) := by decide +kernel
theorem dL_sink_46 : decode cL_sink 46 = .ok (.iaload, 1) := by decide +kernel
theorem dL_sink_47 : decode cL_sink 47 = .ok (.iconst 1, 1) := by decide +kernel
theorem dL_sink_48 : decode cL_sink 48 = .ok (.if_icmp .ne 10, 3) := by decide +kernel
theorem dL_sink_51 : decode cL_sink 51 = .ok (.iload 6, 2) := by decide +kernel
theorem dL_sink_53 : decode cL_sink 53 = .ok (.iconst 1, 1) := by decide +kernel
theorem dL_sink_54 : decode cL_sink 54 = .ok (.ishr, 1) := by decide +kernel
theorem dL_sink_55 : decode cL_sink 55 = .ok (.goto 5, 3) := by decide +kernel
theorem dL_sink_58 : decode cL_sink 58 = .ok (.iload 6, 2) := by decide +kernel
theorem dL_sink_60 : decode cL_sink 60 = .ok (.ireturn, 1) := by decide +kernel
theorem dL_there_0 : decode cL_there 0 = .ok (.aload_n 1, 1) := by decide +kernel
theorem dL_there_1 : decode cL_there 1 = .ok (.iconst 1, 1) := by decide +kernel
theorem dL_there_2 : decode cL_there 2 = .ok (.iaload, 1) := by decide +kernel
theorem dL_there_3 : decode cL_there 3 = .ok (.iload_n 2, 1) := by decide +kernel
theorem dL_there_4 : decode cL_there 4 = .ok (.ishr, 1) := by decide +kernel
theorem dL_there_5 : decode cL_there 5 = .ok (.iconst 1, 1) := by decide +kernel
theorem dL_there_6 : decode cL_there 6 = .ok (.iand, 1) := by decide +kernel
theorem dL_there_7 : decode cL_there 7 = .ok (.iconst 1, 1) := by decide +kernel
theorem dL_there_8 : decode cL_there 8 = .ok (.if_icmp .ne 9, 3) := by decide +kernel
theorem dL_there_11 : decode cL_there 11 = .ok (.aload_n 1, 1) := by decide +kernel
theorem dL_there_12 : decode cL_there 12 = .ok (.iconst 2, 1) := by decide +kernel
theorem dL_there_13 : decode cL_there 13 = .ok (.iaload, 1) := by decide +kernel
theorem dL_there_14 : decode cL_there 14 = .ok (.goto 14, 3) := by decide +kernel
theorem dL_there_17 : decode cL_there 17 = .ok (.iconst 1, 1) := by decide +kernel
theorem dL_there_18 : decode cL_there 18 = .ok (.aload_n 0, 1) := by decide +kernel
theorem dL_there_19 : decode cL_there 19 = .ok (.iconst 1, 1) := by decide +kernel
theorem dL_there_20 : decode cL_there 20 = .ok (.iaload, 1) := by decide +kernel
theorem dL_there_21 : decode cL_there 21 = .ok (.ishl, 1) := by decide +kernel
theorem dL_there_22 : decode cL_there 22 = .ok (.iconst 1, 1) := by decide +kernel
theorem dL_there_23 : decode cL_there 23 = .ok (.isub, 1) := by decide +kernel
theorem dL_there_24 : decode cL_there 24 = .ok (.aload_n 1, 1) := by decide +kernel
theorem dL_there_25 : decode cL_there 25 = .ok (.iconst 2, 1) := by decide +kernel
theorem dL_there_26 : decode cL_there 26 = .ok (.iaload, 1) := by decide +kernel
theorem dL_there_27 : decode cL_there 27 = .ok (.ixor, 1) := by decide +kernel
theorem dL_there_28 : decode cL_there 28 = .ok (.ireturn, 1) := by decide +kernel
theorem dL_together_0 : decode cL_together 0 = .ok (.aload_n 0, 1) := by decide +kernel
theorem dL_together_1 : decode cL_together 1 = .ok (.iconst 1, 1) := by decide +kernel
theorem dL_together_2 : decode cL_together 2 = .ok (.iaload, 1) := by decide +kernel
theorem dL_together_3 : decode cL_together 3 = .ok (.iload_n 1, 1) := by decide +kernel
theorem dL_together_4 : decode cL_together 4 = .ok (.ishr, 1) := by decide +kernel
theorem dL_together_5 : decode cL_together 5 = .ok (.iconst 1, 1) := by decide +kernel
theorem dL_together_6 : decode cL_together 6 = .ok (.iand, 1) := by decide +kernel
theorem dL_together_7 : decode cL_together 7 = .ok (.aload_n 0, 1) := by decide +kernel
theorem dL_together_8 : decode cL_together 8 = .ok (.iconst 1, 1) := by decide +kernel
theorem dL_together_9 : decode cL_together 9 = .ok (.iaload, 1) := by decide +kernel
theorem dL_together_10 : decode cL_together 10 = .ok (.iload_n 2, 1) := by decide +kernel
theorem dL_together_11 : decode cL_together 11 = .ok (.ishr, 1) := by decide +kernel
theorem dL_together_12 : decode cL_together 12 = .ok (.iconst 1, 1) := by decide +kernel
theorem dL_together_13 : decode cL_together 13 = .ok (.iand, 1) := by decide +kernel
theorem dL_together_14 : decode cL_together 14 = .ok (.if_icmp .ne 7, 3) := by decide +kernel
theorem dL_together_17 : decode cL_together 17 = .ok (.iconst 1, 1) := by decide +kernel
theorem dL_together_18 : decode cL_together 18 = .ok (.goto 4, 3) := by decide +kernel
theorem dL_together_21 : decode cL_together 21 = .ok (.iconst 0, 1) := by decide +kernel
theorem dL_together_22 : decode cL_together 22 = .ok (.ireturn, 1) := by decide +kernel
set_option maxRecDepth 20000 in
theorem ggL_least_L_sink : GoodIn wsL_least wsL_sink := goodIn_r _ [5, 6, 7, 4, 8, 9, 10, 11, 12, 13, 14, 15, 16, 17] (by rfl) (by decide +kernel)
set_option maxRecDepth 20000 in
theorem gL_least_L_sink : GoodIn wsL_least (va_wsS RL 52 yL_sink wsL_sink) := goodIn_app (goodIn_of _ (by decide +kernel)) ggL_least_L_sink
theorem dL_least_0 : decode cL_least 0 = .ok (.ldc 51, 2) := by decide +kernel
theorem dL_least_2 : decode cL_least 2 = .ok (.istore 5, 2) := by decide +kernel
theorem dL_least_4 : decode cL_least 4 = .ok (.iconst 0, 1) := by decide +kernel
theorem dL_least_5 : decode cL_least 5 = .ok (.istore 6, 2) := by decide +kernel
theorem dL_least_7 : decode cL_least 7 = .ok (.iload 6, 2) := by decide +kernel
theorem dL_least_9 : decode cL_least 9 = .ok (.sipush 256, 3) := by decide +kernel
theorem dL_least_12 : decode cL_least 12 = .ok (.if_icmp .ge 81, 3) := by decide +kernel
theorem dL_least_15 : decode cL_least 15 = .ok (.iload 6, 2) := by decide +kernel
theorem dL_least_17 : decode cL_least 17 = .ok (.iconst 4, 1) := by decide +kernel
theorem dL_least_18 : decode cL_least 18 = .ok (.ishr, 1) := by decide +kernel
theorem dL_least_19 : decode cL_least 19 = .ok (.istore 7, 2) := by decide +kernel
theorem dL_least_21 : decode cL_least 21 = .ok (.iload 6, 2) := by decide +kernel
theorem dL_least_23 : decode cL_least 23 = .ok (.bipush 15, 2) := by decide +kernel
theorem dL_least_25 : decode cL_least 25 = .ok (.iand, 1) := by decide +kernel
theorem dL_least_26 : decode cL_least 26 = .ok (.istore 8, 2) := by decide +kernel
theorem dL_least_28 : decode cL_least 28 = .ok (.iload 7, 2) := by decide +kernel
theorem dL_least_30 : decode cL_least 30 = .ok (.iload 8, 2) := by decide +kernel
theorem dL_least_32 : decode cL_least 32 = .ok (.iand, 1) := by decide +kernel
theorem dL_least_33 : decode cL_least 33 = .ok (.ifCond .ne 54, 3) := by decide +kernel
theorem dL_least_36 : decode cL_least 36 = .ok (.iload 7, 2) := by decide +kernel
theorem dL_least_38 : decode cL_least 38 = .ok (.iload 8, 2) := by decide +kernel
theorem dL_least_40 : decode cL_least 40 = .ok (.ior, 1) := by decide +kernel
theorem dL_least_41 : decode cL_least 41 = .ok (.iload 4, 2) := by decide +kernel
theorem dL_least_43 : decode cL_least 43 = .ok (.iand, 1) := by decide +kernel
theorem dL_least_44 : decode cL_least 44 = .ok (.iload 7, 2) := by decide +kernel
theorem dL_least_46 : decode cL_least 46 = .ok (.iload 8, 2) := by decide +kernel
theorem dL_least_48 : decode cL_least 48 = .ok (.ior, 1) := by decide +kernel
theorem dL_least_49 : decode cL_least 49 = .ok (.if_icmp .ne 38, 3) := by decide +kernel
theorem dL_least_52 : decode cL_least 52 = .ok (.aload_n 0, 1) := by decide +kernel
theorem dL_least_53 : decode cL_least 53 = .ok (.aload_n 1, 1) := by decide +kernel
theorem dL_least_54 : decode cL_least 54 = .ok (.iload_n 2, 1) := by decide +kernel
theorem dL_least_55 : decode cL_least 55 = .ok (.iload_n 3, 1) := by decide +kernel
theorem dL_least_56 : decode cL_least 56 = .ok (.iload 7, 2) := by decide +kernel
theorem dL_least_58 : decode cL_least 58 = .ok (.iload 8, 2) := by decide +kernel
theorem dL_least_60 : decode cL_least 60 = .ok (.invokestatic 52, 3) := by decide +kernel
theorem dL_least_63 : decode cL_least 63 = .ok (.bipush 8, 2) := by decide +kernel
theorem dL_least_65 : decode cL_least 65 = .ok (.ishl, 1) := by decide +kernel
theorem dL_least_66 : decode cL_least 66 = .ok (.iload 6, 2) := by decide +kernel
theorem dL_least_68 : decode cL_least 68 = .ok (.ior, 1) := by decide +kernel
theorem dL_least_69 : decode cL_least 69 = .ok (.istore 9, 2) := by decide +kernel
theorem dL_least_71 : decode cL_least 71 = .ok (.iload 9, 2) := by decide +kernel
theorem dL_least_73 : decode cL_least 73 = .ok (.iload 5, 2) := by decide +kernel
theorem dL_least_75 : decode cL_least 75 = .ok (.if_icmp .ge 8, 3) := by decide +kernel
theorem dL_least_78 : decode cL_least 78 = .ok (.iload 9, 2) := by decide +kernel
theorem dL_least_80 : decode cL_least 80 = .ok (.goto 5, 3) := by decide +kernel
theorem dL_least_83 : decode cL_least 83 = .ok (.iload 5, 2) := by decide +kernel
theorem dL_least_85 : decode cL_least 85 = .ok (.istore 5, 2) := by decide +kernel
theorem dL_least_87 : decode cL_least 87 = .ok (.iinc 6 1, 3) := by decide +kernel
theorem dL_least_90 : decode cL_least 90 = .ok (.goto (-83), 3) := by decide +kernel
theorem dL_least_93 : decode cL_least 93 = .ok (.iload 5, 2) := by decide +kernel
theorem dL_least_95 : decode cL_least 95 = .ok (.ireturn, 1) := by decide +kernel
set_option maxRecDepth 20000 in
theorem ggL_can_L_together : GoodIn wsL_can wsL_together := goodIn_r _ [4] (by rfl) (by decide +kernel)
set_option maxRecDepth 20000 in
theorem gL_can_L_together : GoodIn wsL_can (va_wsS RL 56 yL_together wsL_together) := goodIn_app (goodIn_of _ (by decide +kernel)) ggL_can_L_together
set_option maxRecDepth 20000 in
theorem ggL_can_L_there : GoodIn wsL_can wsL_there := goodIn_r _ [7] (by rfl) (by decide +kernel)
set_option maxRecDepth 20000 in
theorem gL_can_L_there : GoodIn wsL_can (va_wsS RL 60 yL_there wsL_there) := goodIn_app (goodIn_of _ (by decide +kernel)) ggL_can_L_there
set_option maxRecDepth 20000 in
theorem ggL_can_L_least : GoodIn wsL_can wsL_least := goodIn_r _ [10, 11, 12, 13, 3, 14, 15, 16, 17, 18, 19, 20, 21, 22, 23, 24, 25, 26] (by rfl) (by decide +kernel)
set_option maxRecDepth 20000 in
theorem gL_can_L_least : GoodIn wsL_can (va_wsS RL 63 yL_least wsL_least) := goodIn_app (goodIn_of _ (by decide +kernel)) ggL_can_L_least
theorem dL_can_0 : decode cL_can 0 = .ok (.iload_n 2, 1) := by decide +kernel
theorem dL_can_1 : decode cL_can 1 = .ok (.iload_n 3, 1) := by decide +kernel
theorem dL_can_2 : decode cL_can 2 = .ok (.if_icmp .eq 38, 3) := by decide +kernel
theorem dL_can_5 : decode cL_can 5 = .ok (.aload_n 1, 1) := by decide +kernel
theorem dL_can_6 : decode cL_can 6 = .ok (.iload_n 2, 1) := by decide +kernel
theorem dL_can_7 : decode cL_can 7 = .ok (.iload_n 3, 1) := by decide +kernel
theorem dL_can_8 : decode cL_can 8 = .ok (.invokestatic 56, 3) := by decide +kernel
theorem dL_can_11 : decode cL_can 11 = .ok (.ifCond .eq 29, 3) := by decide +kernel
theorem dL_can_14 : decode cL_can 14 = .ok (.aload_n 0, 1) := by decide +kernel
theorem dL_can_15 : decode cL_can 15 = .ok (.aload_n 1, 1) := by decide +kernel
theorem dL_can_16 : decode cL_can 16 = .ok (.iload_n 2, 1) := by decide +kernel
theorem dL_can_17 : decode cL_can 17 = .ok (.iload_n 3, 1) := by decide +kernel
theorem dL_can_18 : decode cL_can 18 = .ok (.aload_n 0, 1) := by decide +kernel
theorem dL_can_19 : decode cL_can 19 = .ok (.aload_n 1, 1) := by decide +kernel
theorem dL_can_20 : decode cL_can 20 = .ok (.iload_n 2, 1) := by decide +kernel
theorem dL_can_21 : decode cL_can 21 = .ok (.invokestatic 60, 3) := by decide +kernel
theorem dL_can_24 : decode cL_can 24 = .ok (.invokestatic 63, 3) := by decide +kernel
theorem dL_can_27 : decode cL_can 27 = .ok (.bipush 8, 2) := by decide +kernel
theorem dL_can_29 : decode cL_can 29 = .ok (.ishr, 1) := by decide +kernel
theorem dL_can_30 : decode cL_can 30 = .ok (.aload_n 0, 1) := by decide +kernel
theorem dL_can_31 : decode cL_can 31 = .ok (.iconst 2, 1) := by decide +kernel
theorem dL_can_32 : decode cL_can 32 = .ok (.iaload, 1) := by decide +kernel
theorem dL_can_33 : decode cL_can 33 = .ok (.if_icmp .gt 7, 3) := by decide +kernel
theorem dL_can_36 : decode cL_can 36 = .ok (.iconst 1, 1) := by decide +kernel
theorem dL_can_37 : decode cL_can 37 = .ok (.goto 4, 3) := by decide +kernel
theorem dL_can_40 : decode cL_can 40 = .ok (.iconst 0, 1) := by decide +kernel
theorem dL_can_41 : decode cL_can 41 = .ok (.ireturn, 1) := by decide +kernel
theorem dL_bits_0 : decode cL_bits 0 = .ok (.iconst 0, 1) := by decide +kernel
theorem dL_bits_1 : decode cL_bits 1 = .ok (.istore_n 1, 1) := by decide +kernel
theorem dL_bits_2 : decode cL_bits 2 = .ok (.iconst 0, 1) := by decide +kernel
theorem dL_bits_3 : decode cL_bits 3 = .ok (.istore_n 2, 1) := by decide +kernel
theorem dL_bits_4 : decode cL_bits 4 = .ok (.iload_n 2, 1) := by decide +kernel
theorem dL_bits_5 : decode cL_bits 5 = .ok (.bipush 6, 2) := by decide +kernel
theorem dL_bits_7 : decode cL_bits 7 = .ok (.if_icmp .ge 17, 3) := by decide +kernel
theorem dL_bits_10 : decode cL_bits 10 = .ok (.iload_n 1, 1) := by decide +kernel
theorem dL_bits_11 : decode cL_bits 11 = .ok (.iload_n 0, 1) := by decide +kernel
theorem dL_bits_12 : decode cL_bits 12 = .ok (.iload_n 2, 1) := by decide +kernel
theorem dL_bits_13 : decode cL_bits 13 = .ok (.ishr, 1) := by decide +kernel
theorem dL_bits_14 : decode cL_bits 14 = .ok (.iconst 1, 1) := by decide +kernel
theorem dL_bits_15 : decode cL_bits 15 = .ok (.iand, 1) := by decide +kernel
theorem dL_bits_16 : decode cL_bits 16 = .ok (.iadd, 1) := by decide +kernel
theorem dL_bits_17 : decode cL_bits 17 = .ok (.istore_n 1, 1) := by decide +kernel
theorem dL_bits_18 : decode cL_bits 18 = .ok (.iinc 2 1, 3) := by decide +kernel
theorem dL_bits_21 : decode cL_bits 21 = .ok (.goto (-17), 3) := by decide +kernel
theorem dL_bits_24 : decode cL_bits 24 = .ok (.iload_n 1, 1) := by decide +kernel
theorem dL_bits_25 : decode cL_bits 25 = .ok (.ireturn, 1) := by decide +kernel
set_option maxRecDepth 20000 in
theorem ggL_go_L_sink : GoodIn wsL_go wsL_sink := goodIn_r _ [4, 5, 6, 3, 7, 8, 9, 10, 11, 12, 13, 14, 15, 16] (by rfl) (by decide +kernel)
set_option maxRecDepth 20000 in
theorem gL_go_L_sink : GoodIn wsL_go (va_wsS RL 52 yL_sink wsL_sink) := goodIn_app (goodIn_of _ (by decide +kernel)) ggL_go_L_sink
theorem dL_go_0 : decode cL_go 0 = .ok (.aload_n 0, 1) := by decide +kernel
theorem dL_go_1 : decode cL_go 1 = .ok (.aload_n 1, 1) := by decide +kernel
theorem dL_go_2 : decode cL_go 2 = .ok (.iload_n 2, 1) := by decide +kernel
theorem dL_go_3 : decode cL_go 3 = .ok (.iload_n 3, 1) := by decide +kernel
theorem dL_go_4 : decode cL_go 4 = .ok (.iload 4, 2) := by decide +kernel
theorem dL_go_6 : decode cL_go 6 = .ok (.iload 5, 2) := by decide +kernel
theorem dL_go_8 : decode cL_go 8 = .ok (.invokestatic 52, 3) := by decide +kernel
theorem dL_go_11 : decode cL_go 11 = .ok (.istore 6, 2) := by decide +kernel
theorem dL_go_13 : decode cL_go 13 = .ok (.aload_n 1, 1) := by decide +kernel
theorem dL_go_14 : decode cL_go 14 = .ok (.iconst 3, 1) := by decide +kernel
theorem dL_go_15 : decode cL_go 15 = .ok (.dup2, 1) := by decide +kernel
theorem dL_go_16 : decode cL_go 16 = .ok (.iaload, 1) := by decide +kernel
theorem dL_go_17 : decode cL_go 17 = .ok (.iload 6, 2) := by decide +kernel
theorem dL_go_19 : decode cL_go 19 = .ok (.iadd, 1) := by decide +kernel
theorem dL_go_20 : decode cL_go 20 = .ok (.iastore, 1) := by decide +kernel
theorem dL_go_21 : decode cL_go 21 = .ok (.aload_n 1, 1) := by decide +kernel
theorem dL_go_22 : decode cL_go 22 = .ok (.iconst 1, 1) := by decide +kernel
theorem dL_go_23 : decode cL_go 23 = .ok (.dup2, 1) := by decide +kernel
theorem dL_go_24 : decode cL_go 24 = .ok (.iaload, 1) := by decide +kernel
theorem dL_go_25 : decode cL_go 25 = .ok (.iconst 1, 1) := by decide +kernel
theorem dL_go_26 : decode cL_go 26 = .ok (.iload_n 2, 1) := by decide +kernel
theorem dL_go_27 : decode cL_go 27 = .ok (.ishl, 1) := by decide +kernel
theorem dL_go_28 : decode cL_go 28 = .ok (.ixor, 1) := by decide +kernel
theorem dL_go_29 : decode cL_go 29 = .ok (.iastore, 1) := by decide +kernel
theorem dL_go_30 : decode cL_go 30 = .ok (.aload_n 1, 1) := by decide +kernel
theorem dL_go_31 : decode cL_go 31 = .ok (.iconst 1, 1) := by decide +kernel
theorem dL_go_32 : decode cL_go 32 = .ok (.dup2, 1) := by decide +kernel
theorem dL_go_33 : decode cL_go 33 = .ok (.iaload, 1) := by decide +kernel
theorem dL_go_34 : decode cL_go 34 = .ok (.iconst 1, 1) := by decide +kernel
theorem dL_go_35 : decode cL_go 35 = .ok (.iload_n 3, 1) := by decide +kernel
theorem dL_go_36 : decode cL_go 36 = .ok (.ishl, 1) := by decide +kernel
theorem dL_go_37 : decode cL_go 37 = .ok (.ixor, 1) := by decide +kernel
theorem dL_go_38 : decode cL_go 38 = .ok (.iastore, 1) := by decide +kernel
theorem dL_go_39 : decode cL_go 39 = .ok (.aload_n 1, 1) := by decide +kernel
theorem dL_go_40 : decode cL_go 40 = .ok (.iconst 2, 1) := by decide +kernel
theorem dL_go_41 : decode cL_go 41 = .ok (.dup2, 1) := by decide +kernel
theorem dL_go_42 : decode cL_go 42 = .ok (.iaload, 1) := by decide +kernel
theorem dL_go_43 : decode cL_go 43 = .ok (.iload 4, 2) := by decide +kernel
theorem dL_go_45 : decode cL_go 45 = .ok (.iload 5, 2) := by decide +kernel
theorem dL_go_47 : decode cL_go 47 = .ok (.ior, 1) := by decide +kernel
theorem dL_go_48 : decode cL_go 48 = .ok (.ixor, 1) := by decide +kernel
theorem dL_go_49 : decode cL_go 49 = .ok (.iastore, 1) := by decide +kernel
theorem dL_go_50 : decode cL_go 50 = .ok (.iload 6, 2) := by decide +kernel
theorem dL_go_52 : decode cL_go 52 = .ok (.ireturn, 1) := by decide +kernel
set_option maxRecDepth 20000 in
theorem ggL_stir_L_low : GoodIn wsL_stir wsL_low := goodIn_r _ [4, 5] (by rfl) (by decide +kernel)
set_option maxRecDepth 20000 in
theorem gL_stir_L_low : GoodIn wsL_stir (va_wsS RL 15 yL_low wsL_low) := goodIn_app (goodIn_of _ (by decide +kernel)) ggL_stir_L_low
set_option maxRecDepth 20000 in
theorem ggL_stir_X4_loaf : GoodIn wsL_stir wsX4_loaf := goodIn_r _ [10, 11, 12, 13, 14, 15, 16, 17, 18, 19, 20, 21, 22, 23, 24, 25, 26, 27, 28, 122, 123, 124, 125, 126, 127, 128, 129, 130, 131, 132, 133, 134, 135, 136, 137, 138, 139, 140, 141, 142, 143, 144, 145, 146, 147, 148] (by rfl) (by decide +kernel)
set_option maxRecDepth 20000 in
theorem gL_stir_X4_loaf : GoodIn wsL_stir (wsV RL 67 RX4 yX4_loaf wsX4_loaf) := goodIn_app (goodIn_of _ (by decide +kernel)) ggL_stir_X4_loaf
set_option maxRecDepth 20000 in
theorem ggL_stir_L_can : GoodIn wsL_stir wsL_can := goodIn_r _ [31, 32, 33, 3, 34, 35, 36, 37, 38, 39, 40, 41, 42, 43, 44, 45, 46, 47, 48, 49, 50, 51, 52, 53, 54, 55, 56] (by rfl) (by decide +kernel)
set_option maxRecDepth 20000 in
theorem gL_stir_L_can : GoodIn wsL_stir (va_wsS RL 71 yL_can wsL_can) := goodIn_app (goodIn_of _ (by decide +kernel)) ggL_stir_L_can
set_option maxRecDepth 20000 in
theorem ggL_stir_L_there : GoodIn wsL_stir wsL_there := goodIn_r _ [37] (by rfl) (by decide +kernel)
set_option maxRecDepth 20000 in
theorem gL_stir_L_there : GoodIn wsL_stir (va_wsS RL 60 yL_there wsL_there) := goodIn_app (goodIn_of _ (by decide +kernel)) ggL_stir_L_there
set_option maxRecDepth 20000 in
theorem ggL_stir_L_least : GoodIn wsL_stir wsL_least := goodIn_r _ [40, 41, 42, 43, 3, 44, 45, 46, 47, 48, 49, 50, 51, 52, 53, 54, 55, 56] (by rfl) (by decide +kernel)
set_option maxRecDepth 20000 in
theorem gL_stir_L_least : GoodIn wsL_stir (va_wsS RL 63 yL_least wsL_least) := goodIn_app (goodIn_of _ (by decide +kernel)) ggL_stir_L_least
set_option maxRecDepth 20000 in
theorem ggL_stir_L_go : GoodIn wsL_stir wsL_go := goodIn_r _ [59, 42, 43, 3, 44, 45, 46, 47, 48, 49, 50, 51, 52, 53, 54, 55, 56] (by rfl) (by decide +kernel)
set_option maxRecDepth 20000 in
theorem gL_stir_L_go : GoodIn wsL_stir (va_wsS RL 75 yL_go wsL_go) := goodIn_app (goodIn_of _ (by decide +kernel)) ggL_stir_L_go
set_option maxRecDepth 20000 in
theorem ggL_stir_X4_go : GoodIn wsL_stir wsX4_go := goodIn_r _ [63, 11, 64, 13, 14, 65, 66, 67, 9, 68, 69, 70, 71, 72, 12, 73, 74, 75, 76, 77, 78, 79, 80, 81, 82, 83, 84, 85, 86, 87, 88, 89, 18, 90, 26, 21, 91, 92, 93, 94, 95, 96, 97, 98, 27, 99, 100, 101, 102, 15, 16, 17, 19, 20, 103, 104, 105, 106, 107, 108, 109, 110, 111, 112, 113, 114, 115, 116, 117, 118, 119, 120, 121, 22, 23, 24, 25, 28, 122, 123, 124, 125, 126, 127, 128, 129, 130, 131, 132, 133, 134, 135, 136, 137, 138, 139, 140, 141, 142, 143, 144, 145, 146, 147, 148] (by rfl) (by decide +kernel)
set_option maxRecDepth 20000 in
theorem gL_stir_X4_go : GoodIn wsL_stir (wsV RL 78 RX4 yX4_go wsX4_go) := goodIn_app (goodIn_of _ (by decide +kernel)) ggL_stir_X4_go
theorem dL_stir_0 : decode cL_stir 0 = .ok (.iconst 1, 1) := by decide +kernel
theorem dL_stir_1 : decode cL_stir 1 = .ok (.istore 5, 2) := by decide +kernel
theorem dL_stir_3 : decode cL_stir 3 = .ok (.iconst 0, 1) := by decide +kernel
theorem dL_stir_4 : decode cL_stir 4 = .ok (.istore 6, 2) := by decide +kernel
theorem dL_stir_6 : decode cL_stir 6 = .ok (.iload 6, 2) := by decide +kernel
theorem dL_stir_8 : decode cL_stir 8 = .ok (.iload 4, 2) := by decide +kernel
theorem dL_stir_10 : decode cL_stir 10 = .ok (.if_icmp .ge 195, 3) := by decide +kernel
theorem dL_stir_13 : decode cL_stir 13 = .ok (.iload_n 3, 1) := by decide +kernel
theorem dL_stir_14 : decode cL_stir 14 = .ok (.iconst 3, 1) := by decide +kernel
theorem dL_stir_15 : decode cL_stir 15 = .ok (.iload 6, 2) := by decide +kernel
theorem dL_stir_17 : decode cL_stir 17 = .ok (.imul, 1) := by decide +kernel
theorem dL_stir_18 : decode cL_stir 18 = .ok (.ishr, 1) := by decide +kernel
theorem dL_stir_19 : decode cL_stir 19 = .ok (.bipush 7, 2) := by decide +kernel
theorem dL_stir_21 : decode cL_stir 21 = .ok (.iload 6, 2) := by decide +kernel
theorem dL_stir_23 : decode cL_stir 23 = .ok (.imul, 1) := by decide +kernel
theorem dL_stir_24 : decode cL_stir 24 = .ok (.iadd, 1) := by decide +kernel
theorem dL_stir_25 : decode cL_stir 25 = .ok (.istore 7, 2) := by decide +kernel
theorem dL_stir_27 : decode cL_stir 27 = .ok (.iload 7, 2) := by decide +kernel
theorem dL_stir_29 : decode cL_stir 29 = .ok (.iconst 2, 1) := by decide +kernel
theorem dL_stir_30 : decode cL_stir 30 = .ok (.ishr, 1) := by decide +kernel
theorem dL_stir_31 : decode cL_stir 31 = .ok (.aload_n 1, 1) := by decide +kernel
theorem dL_stir_32 : decode cL_stir 32 = .ok (.iconst 0, 1) := by decide +kernel
theorem dL_stir_33 : decode cL_stir 33 = .ok (.iaload, 1) := by decide +kernel
theorem dL_stir_34 : decode cL_stir 34 = .ok (.invokestatic 15, 3) := by decide +kernel
theorem dL_stir_37 : decode cL_stir 37 = .ok (.istore 8, 2) := by decide +kernel
theorem dL_stir_39 : decode cL_stir 39 = .ok (.iload 8, 2) := by decide +kernel
theorem dL_stir_41 : decode cL_stir 41 = .ok (.iconst 1, 1) := by decide +kernel
theorem dL_stir_42 : decode cL_stir 42 = .ok (.iadd, 1) := by decide +kernel
theorem dL_stir_43 : decode cL_stir 43 = .ok (.iload 7, 2) := by decide +kernel
theorem dL_stir_45 : decode cL_stir 45 = .ok (.iconst 5, 1) := by decide +kernel
theorem dL_stir_46 : decode cL_stir 46 = .ok (.ishr, 1) := by decide +kernel
theorem dL_stir_47 : decode cL_stir 47 = .ok (.aload_n 1, 1) := by decide +kernel
theorem dL_stir_48 : decode cL_stir 48 = .ok (.iconst 0, 1) := by decide +kernel
theorem dL_stir_49 : decode cL_stir 49 = .ok (.iaload, 1) := by decide +kernel
theorem dL_stir_50 : decode cL_stir 50 = .ok (.iconst 1, 1) := by decide +kernel
theorem dL_stir_51 : decode cL_stir 51 = .ok (.isub, 1) := by decide +kernel
theorem dL_stir_52 : decode cL_stir 52 = .ok (.invokestatic 15, 3) := by decide +kernel
theorem dL_stir_55 : decode cL_stir 55 = .ok (.iadd, 1) := by decide +kernel
theorem dL_stir_56 : decode cL_stir 56 = .ok (.aload_n 1, 1) := by decide +kernel
theorem dL_stir_57 : decode cL_stir 57 = .ok (.iconst 0, 1) := by decide +kernel
theorem dL_stir_58 : decode cL_stir 58 = .ok (.iaload, 1) := by decide +kernel
theorem dL_stir_59 : decode cL_stir 59 = .ok (.irem, 1) := by decide +kernel
theorem dL_stir_60 : decode cL_stir 60 = .ok (.istore 9, 2) := by decide +kernel
theorem dL_stir_62 : decode cL_stir 62 = .ok (.iload 7, 2) := by decide +kernel
theorem dL_stir_64 : decode cL_stir 64 = .ok (.iconst 3, 1) := by decide +kernel
theorem dL_stir_65 : decode cL_stir 65 = .ok (.iand, 1) := by decide +kernel
theorem dL_stir_66 : decode cL_stir 66 = .ok (.ifCond .ne 43, 3) := by decide +kernel
theorem dL_stir_69 : decode cL_stir 69 = .ok (.aload_n 2, 1) := by decide +kernel
theorem dL_stir_70 : decode cL_stir 70 = .ok (.iconst 0, 1) := by decide +kernel
theorem dL_stir_71 : decode cL_stir 71 = .ok (.iaload, 1) := by decide +kernel
theorem dL_stir_72 : decode cL_stir 72 = .ok (.bipush 9, 2) := by decide +kernel
theorem dL_stir_74 : decode cL_stir 74 = .ok (.if_icmp .ge 35, 3) := by decide +kernel
theorem dL_stir_77 : decode cL_stir 77 = .ok (.aload_n 2, 1) := by decide +kernel
theorem dL_stir_78 : decode cL_stir 78 = .ok (.iconst 0, 1) := by decide +kernel
theorem dL_stir_79 : decode cL_stir 79 = .ok (.dup2, 1) := by decide +kernel
theorem dL_stir_80 : decode cL_stir 80 = .ok (.iaload, 1) := by decide +kernel
theorem dL_stir_81 : decode cL_stir 81 = .ok (.iconst 1, 1) := by decide +kernel
theorem dL_stir_82 : decode cL_stir 82 = .ok (.iadd, 1) := by decide +kernel
theorem dL_stir_83 : decode cL_stir 83 = .ok (.iastore, 1) := by decide +kernel
theorem dL_stir_84 : decode cL_stir 84 = .ok (.iload 5, 2) := by decide +kernel
theorem dL_stir_86 : decode cL_stir 86 = .ok (.ifCond .eq 17, 3) := by decide +kernel
theorem dL_stir_89 : decode cL_stir 89 = .ok (.aload_n 0, 1) := by decide +kernel
theorem dL_stir_90 : decode cL_stir 90 = .ok (.invokevirtual 67, 3) := by decide +kernel
theorem dL_stir_93 : decode cL_stir 93 = .ok (.aload_n 2, 1) := by decide +kernel
theorem dL_stir_94 : decode cL_stir 94 = .ok (.iconst 0, 1) := by decide +kernel
theorem dL_stir_95 : decode cL_stir 95 = .ok (.iaload, 1) := by decide +kernel
theorem dL_stir_96 : decode cL_stir 96 = .ok (.if_icmp .ne 7, 3) := by decide +kernel
theorem dL_stir_99 : decode cL_stir 99 = .ok (.iconst 1, 1) := by decide +kernel
theorem dL_stir_100 : decode cL_stir 100 = .ok (.goto 4, 3) := by decide +kernel
theorem dL_stir_103 : decode cL_stir 103 = .ok (.iconst 0, 1) := by decide +kernel
theorem dL_stir_104 : decode cL_stir 104 = .ok (.istore 5, 2) := by decide +kernel
theorem dL_stir_106 : decode cL_stir 106 = .ok (.goto 93, 3) := by decide +kernel
theorem dL_stir_109 : decode cL_stir 109 = .ok (.aload_n 1, 1) := by decide +kernel
theorem dL_stir_110 : decode cL_stir 110 = .ok (.aload_n 2, 1) := by decide +kernel
theorem dL_stir_111 : decode cL_stir 111 = .ok (.iload 8, 2) := by decide +kernel
theorem dL_stir_113 : decode cL_stir 113 = .ok (.iload 9, 2) := by decide +kernel
theorem dL_stir_115 : decode cL_stir 115 = .ok (.invokestatic 71, 3) := by decide +kernel
theorem dL_stir_118 : decode cL_stir 118 = .ok (.ifCond .eq 81, 3) := by decide +kernel
theorem dL_stir_121 : decode cL_stir 121 = .ok (.aload_n 1, 1) := by decide +kernel
theorem dL_stir_122 : decode cL_stir 122 = .ok (.aload_n 2, 1) := by decide +kernel
theorem dL_stir_123 : decode cL_stir 123 = .ok (.iload 8, 2) := by decide +kernel
theorem dL_stir_125 : decode cL_stir 125 = .ok (.iload 9, 2) := by decide +kernel
theorem dL_stir_127 : decode cL_stir 127 = .ok (.aload_n 1, 1) := by decide +kernel
theorem dL_stir_128 : decode cL_stir 128 = .ok (.aload_n 2, 1) := by decide +kernel
theorem dL_stir_129 : decode cL_stir 129 = .ok (.iload 8, 2) := by decide +kernel
theorem dL_stir_131 : decode cL_stir 131 = .ok (.invokestatic 60, 3) := by decide +kernel
theorem dL_stir_134 : decode cL_stir 134 = .ok (.invokestatic 63, 3) := by decide +kernel
theorem dL_stir_137 : decode cL_stir 137 = .ok (.istore 10, 2) := by decide +kernel
theorem dL_stir_139 : decode cL_stir 139 = .ok (.aload_n 1, 1) := by decide +kernel
theorem dL_stir_140 : decode cL_stir 140 = .ok (.aload_n 2, 1) := by decide +kernel
theorem dL_stir_141 : decode cL_stir 141 = .ok (.iload 8, 2) := by decide +kernel
theorem dL_stir_143 : decode cL_stir 143 = .ok (.iload 9, 2) := by decide +kernel
theorem dL_stir_145 : decode cL_stir 145 = .ok (.iload 10, 2) := by decide +kernel
theorem dL_stir_147 : decode cL_stir 147 = .ok (.iconst 4, 1) := by decide +kernel
theorem dL_stir_148 : decode cL_stir 148 = .ok (.ishr, 1) := by decide +kernel
theorem dL_stir_149 : decode cL_stir 149 = .ok (.bipush 15, 2) := by decide +kernel
theorem dL_stir_151 : decode cL_stir 151 = .ok (.iand, 1) := by decide +kernel
theorem dL_stir_152 : decode cL_stir 152 = .ok (.iload 10, 2) := by decide +kernel
theorem dL_stir_154 : decode cL_stir 154 = .ok (.bipush 15, 2) := by decide +kernel
theorem dL_stir_156 : decode cL_stir 156 = .ok (.iand, 1) := by decide +kernel
theorem dL_stir_157 : decode cL_stir 157 = .ok (.invokestatic 75, 3) := by decide +kernel
theorem dL_stir_160 : decode cL_stir 160 = .ok (.istore 11, 2) := by decide +kernel
theorem dL_stir_162 : decode cL_stir 162 = .ok (.iload 5, 2) := by decide +kernel
theorem dL_stir_164 : decode cL_stir 164 = .ok (.ifCond .eq 32, 3) := by decide +kernel
theorem dL_stir_167 : decode cL_stir 167 = .ok (.aload_n 0, 1) := by decide +kernel
theorem dL_stir_168 : decode cL_stir 168 = .ok (.iload 8, 2) := by decide +kernel
theorem dL_stir_170 : decode cL_stir 170 = .ok (.iload 9, 2) := by decide +kernel
theorem dL_stir_172 : decode cL_stir 172 = .ok (.iload 10, 2) := by decide +kernel
theorem dL_stir_174 : decode cL_stir 174 = .ok (.iconst 4, 1) := by decide +kernel
theorem dL_stir_175 : decode cL_stir 175 = .ok (.ishr, 1) := by decide +kernel
theorem dL_stir_176 : decode cL_stir 176 = .ok (.bipush 15, 2) := by decide +kernel
theorem dL_stir_178 : decode cL_stir 178 = .ok (.iand, 1) := by decide +kernel
theorem dL_stir_179 : decode cL_stir 179 = .ok (.iload 10, 2) := by decide +kernel
theorem dL_stir_181 : decode cL_stir 181 = .ok (.bipush 15, 2) := by decide +kernel
theorem dL_stir_183 : decode cL_stir 183 = .ok (.iand, 1) := by decide +kernel
theorem dL_stir_184 : decode cL_stir 184 = .ok (.invokevirtual 78, 3) := by decide +kernel
theorem dL_stir_187 : decode cL_stir 187 = .ok (.iload 11, 2) := by decide +kernel
theorem dL_stir_189 : decode cL_stir 189 = .ok (.if_icmp .ne 7, 3) := by decide +kernel
theorem dL_stir_192 : decode cL_stir 192 = .ok (.iconst 1, 1) := by decide +kernel
theorem dL_stir_193 : decode cL_stir 193 = .ok (.goto 4, 3) := by decide +kernel
theorem dL_stir_196 : decode cL_stir 196 = .ok (.iconst 0, 1) := by decide +kernel
theorem dL_stir_197 : decode cL_stir 197 = .ok (.istore 5, 2) := by decide +kernel
theorem dL_stir_199 : decode cL_stir 199 = .ok (.iinc 6 1, 3) := by decide +kernel
theorem dL_stir_202 : decode cL_stir 202 = .ok (.goto (-196), 3) := by decide +kernel
theorem dL_stir_205 : decode cL_stir 205 = .ok (.iload 5, 2) := by decide +kernel
theorem dL_stir_207 : decode cL_stir 207 = .ok (.ireturn, 1) := by decide +kernel
set_option maxRecDepth 20000 in
theorem ggL_told_X4_one : GoodIn wsL_told wsX4_one := goodIn_r _ [5, 6, 7, 8, 9, 4, 10, 11, 12, 13, 14, 15, 16, 17, 18, 19, 20, 21, 22, 23, 24, 25, 26, 27, 28, 29, 30, 31, 32, 33, 34, 35, 36, 37, 38, 39, 40, 41, 42, 43, 44, 45, 46, 47, 48, 49, 50, 51, 52, 53, 54, 55, 56, 57, 58, 59, 60, 61, 62, 63, 64, 65, 66, 67, 68, 69, 70, 71, 72, 73, 74, 75, 76, 77, 78, 79, 80, 81, 82, 83, 84, 85, 86, 87, 88, 89, 90, 91, 96, 97, 98, 99, 100, 101, 102, 103, 104, 105, 106, 107, 108, 109, 110, 111, 112, 113, 114, 115, 116, 117, 118, 119, 120, 121, 122] (by rfl) (by decide +kernel)
set_option maxRecDepth 20000 in
theorem gL_told_X4_one : GoodIn wsL_told (wsV RL 81 RX4 yX4_one wsX4_one) := goodIn_app (goodIn_of _ (by decide +kernel)) ggL_told_X4_one
set_option maxRecDepth 20000 in
theorem ggL_told_X4_asked : GoodIn wsL_told wsX4_asked := goodIn_r _ [95, 6, 96, 97, 98, 99, 100, 101, 102, 103, 104, 105, 106, 107, 108] (by rfl) (by decide +kernel)
set_option maxRecDepth 20000 in
theorem gL_told_X4_asked : GoodIn wsL_told (wsV RL 84 RX4 yX4_asked wsX4_asked) := goodIn_app (goodIn_of _ (by decide +kernel)) ggL_told_X4_asked
theorem dL_told_0 : decode cL_told 0 = .ok (.aload_n 0, 1) := by decide +kernel
theorem dL_told_1 : decode cL_told 1 = .ok (.iload_n 1, 1) := by decide +kernel
theorem dL_told_2 : decode cL_told 2 = .ok (.iload_n 2, 1) := by decide +kernel
theorem dL_told_3 : decode cL_told 3 = .ok (.invokevirtual 81, 3) := by decide +kernel
theorem dL_told_6 : decode cL_told 6 = .ok (.iconst 1, 1) := by decide +kernel
theorem dL_told_7 : decode cL_told 7 = .ok (.if_icmp .ne 10, 3) := by decide +kernel
theorem dL_told_10 : decode cL_told 10 = .ok (.aload_n 0, 1) := by decide +kernel
theorem dL_told_11 : decode cL_told 11 = .ok (.invokevirtual 84, 3) := by decide +kernel
theorem dL_told_14 : decode cL_told 14 = .ok (.goto 5, 3) := by decide +kernel
theorem dL_told_17 : decode cL_told 17 = .ok (.bipush (-99), 2) := by decide +kernel
theorem dL_told_19 : decode cL_told 19 = .ok (.ireturn, 1) := by decide +kernel
