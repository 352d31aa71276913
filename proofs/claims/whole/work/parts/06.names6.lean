theorem dX5_init_0 : decode cX5_init 0 = .ok (.aload_n 0, 1) := by decide +kernel
theorem dX5_init_1 : decode cX5_init 1 = .ok (.invokespecial 1, 3) := by decide +kernel
theorem dX5_init_4 : decode cX5_init 4 = .ok (.aload_n 0, 1) := by decide +kernel
theorem dX5_init_5 : decode cX5_init 5 = .ok (.sipush 660, 3) := by decide +kernel
theorem dX5_init_8 : decode cX5_init 8 = .ok (.newarray .int, 2) := by decide +kernel
theorem dX5_init_10 : decode cX5_init 10 = .ok (.putfield 7, 3) := by decide +kernel
theorem dX5_init_13 : decode cX5_init 13 = .ok (.aload_n 0, 1) := by decide +kernel
theorem dX5_init_14 : decode cX5_init 14 = .ok (.iconst 4, 1) := by decide +kernel
theorem dX5_init_15 : decode cX5_init 15 = .ok (.newarray .int, 2) := by decide +kernel
theorem dX5_init_17 : decode cX5_init 17 = .ok (.putfield 13, 3) := by decide +kernel
theorem dX5_init_20 : decode cX5_init 20 = .ok (.aload_n 0, 1) := by decide +kernel
theorem dX5_init_21 : decode cX5_init 21 = .ok (.bipush 6, 2) := by decide +kernel
theorem dX5_init_23 : decode cX5_init 23 = .ok (.newarray .int, 2) := by decide +kernel
theorem dX5_init_25 : decode cX5_init 25 = .ok (.putfield 16, 3) := by decide +kernel
theorem dX5_init_28 : decode cX5_init 28 = .ok (.aload_n 0, 1) := by decide +kernel
theorem dX5_init_29 : decode cX5_init 29 = .ok (.bipush 6, 2) := by decide +kernel
theorem dX5_init_31 : decode cX5_init 31 = .ok (.newarray .int, 2) := by decide +kernel
theorem dX5_init_33 : decode cX5_init 33 = .ok (.putfield 19, 3) := by decide +kernel
theorem dX5_init_36 : decode cX5_init 36 = .ok (.aload_n 0, 1) := by decide +kernel
theorem dX5_init_37 : decode cX5_init 37 = .ok (.bipush 6, 2) := by decide +kernel
theorem dX5_init_39 : decode cX5_init 39 = .ok (.newarray .int, 2) := by decide +kernel
theorem dX5_init_41 : decode cX5_init 41 = .ok (.dup, 1) := by decide +kernel
theorem dX5_init_42 : decode cX5_init 42 = .ok (.iconst 0, 1) := by decide +kernel
theorem dX5_init_43 : decode cX5_init 43 = .ok (.iconst (-1), 1) := by decide +kernel
theorem dX5_init_44 : decode cX5_init 44 = .ok (.iastore, 1) := by decide +kernel
theorem dX5_init_45 : decode cX5_init 45 = .ok (.dup, 1) := by decide +kernel
theorem dX5_init_46 : decode cX5_init 46 = .ok (.iconst 1, 1) := by decide +kernel
theorem dX5_init_47 : decode cX5_init 47 = .ok (.iconst (-1), 1) := by decide +kernel
theorem dX5_init_48 : decode cX5_init 48 = .ok (.iastore, 1) := by decide +kernel
theorem dX5_init_49 : decode cX5_init 49 = .ok (.dup, 1) := by decide +kernel
theorem dX5_init_50 : decode cX5_init 50 = .ok (.iconst 2, 1) := by decide +kernel
theorem dX5_init_51 : decode cX5_init 51 = .ok (.iconst (-1), 1) := by decide +kernel
theorem dX5_init_52 : decode cX5_init 52 = .ok (.iastore, 1) := by decide +kernel
theorem dX5_init_53 : decode cX5_init 53 = .ok (.dup, 1) := by decide +kernel
theorem dX5_init_54 : decode cX5_init 54 = .ok (.iconst 3, 1) := by decide +kernel
theorem dX5_init_55 : decode cX5_init 55 = .ok (.iconst (-1), 1) := by decide +kernel
theorem dX5_init_56 : decode cX5_init 56 = .ok (.iastore, 1) := by decide +kernel
theorem dX5_init_57 : decode cX5_init 57 = .ok (.dup, 1) := by decide +kernel
theorem dX5_init_58 : decode cX5_init 58 = .ok (.iconst 4, 1) := by decide +kernel
theorem dX5_init_59 : decode cX5_init 59 = .ok (.iconst (-1), 1) := by decide +kernel
theorem dX5_init_60 : decode cX5_init 60 = .ok (.iastore, 1) := by decide +kernel
theorem dX5_init_61 : decode cX5_init 61 = .ok (.dup, 1) := by decide +kernel
theorem dX5_init_62 : decode cX5_init 62 = .ok (.iconst 5, 1) := by decide +kernel
theorem dX5_init_63 : decode cX5_init 63 = .ok (.iconst (-1), 1) := by decide +kernel
theorem dX5_init_64 : decode cX5_init 64 = .ok (.iastore, 1) := by decide +kernel
theorem dX5_init_65 : decode cX5_init 65 = .ok (.putfield 22, 3) := by decide +kernel
theorem dX5_init_68 : decode cX5_init 68 = .ok (.aload_n 0, 1) := by decide +kernel
theorem dX5_init_69 : decode cX5_init 69 = .ok (.sipush 240, 3) := by decide +kernel
theorem dX5_init_72 : decode cX5_init 72 = .ok (.newarray .int, 2) := by decide +kernel
theorem dX5_init_74 : decode cX5_init 74 = .ok (.putfield 25, 3) := by decide +kernel
theorem dX5_init_77 : decode cX5_init 77 = .ok (.aload_n 0, 1) := by decide +kernel
theorem dX5_init_78 : decode cX5_init 78 = .ok (.iconst 4, 1) := by decide +kernel
theorem dX5_init_79 : decode cX5_init 79 = .ok (.newarray .int, 2) := by decide +kernel
theorem dX5_init_81 : decode cX5_init 81 = .ok (.dup, 1) := by decide +kernel
theorem dX5_init_82 : decode cX5_init 82 = .ok (.iconst 0, 1) := by decide +kernel
theorem dX5_init_83 : decode cX5_init 83 = .ok (.iconst (-1), 1) := by decide +kernel
theorem dX5_init_84 : decode cX5_init 84 = .ok (.iastore, 1) := by decide +kernel
theorem dX5_init_85 : decode cX5_init 85 = .ok (.dup, 1) := by decide +kernel
theorem dX5_init_86 : decode cX5_init 86 = .ok (.iconst 1, 1) := by decide +kernel
theorem dX5_init_87 : decode cX5_init 87 = .ok (.iconst (-1), 1) := by decide +kernel
theorem dX5_init_88 : decode cX5_init 88 = .ok (.iastore, 1) := by decide +kernel
theorem dX5_init_89 : decode cX5_init 89 = .ok (.dup, 1) := by decide +kernel
theorem dX5_init_90 : decode cX5_init 90 = .ok (.iconst 2, 1) := by decide +kernel
theorem dX5_init_91 : decode cX5_init 91 = .ok (.iconst (-1), 1) := by decide +kernel
theorem dX5_init_92 : decode cX5_init 92 = .ok (.iastore, 1) := by decide +kernel
theorem dX5_init_93 : decode cX5_init 93 = .ok (.dup, 1) := by decide +kernel
theorem dX5_init_94 : decode cX5_init 94 = .ok (.iconst 3, 1) := by decide +kernel
theorem dX5_init_95 : decode cX5_init 95 = .ok (.iconst (-1), 1) := by decide +kernel
theorem dX5_init_96 : decode cX5_init 96 = .ok (.iastore, 1) := by decide +kernel
theorem dX5_init_97 : decode cX5_init 97 = .ok (.putfield 28, 3) := by decide +kernel
theorem dX5_init_100 : decode cX5_init 100 = .ok (.aload_n 0, 1) := by decide +kernel
theorem dX5_init_101 : decode cX5_init 101 = .ok (.sipush 240, 3) := by decide +kernel
theorem dX5_init_104 : decode cX5_init 104 = .ok (.newarray .int, 2) := by decide +kernel
theorem dX5_init_106 : decode cX5_init 106 = .ok (.putfield 31, 3) := by decide +kernel
theorem dX5_init_109 : decode cX5_init 109 = .ok (.aload_n 0, 1) := by decide +kernel
theorem dX5_init_110 : decode cX5_init 110 = .ok (.lconst 1, 1) := by decide +kernel
theorem dX5_init_111 : decode cX5_init 111 = .ok (.putfield 34, 3) := by decide +kernel
theorem dX5_init_114 : decode cX5_init 114 = .ok (.aload_n 0, 1) := by decide +kernel
theorem dX5_init_115 : decode cX5_init 115 = .ok (.bipush 6, 2) := by decide +kernel
theorem dX5_init_117 : decode cX5_init 117 = .ok (.newarray .int, 2) := by decide +kernel
theorem dX5_init_119 : decode cX5_init 119 = .ok (.putfield 38, 3) := by decide +kernel
theorem dX5_init_122 : decode cX5_init 122 = .ok (.aload_n 0, 1) := by decide +kernel
theorem dX5_init_123 : decode cX5_init 123 = .ok (.iconst 4, 1) := by decide +kernel
theorem dX5_init_124 : decode cX5_init 124 = .ok (.newarray .int, 2) := by decide +kernel
theorem dX5_init_126 : decode cX5_init 126 = .ok (.putfield 41, 3) := by decide +kernel
theorem dX5_init_129 : decode cX5_init 129 = .ok (.aload_n 0, 1) := by decide +kernel
theorem dX5_init_130 : decode cX5_init 130 = .ok (.bipush 12, 2) := by decide +kernel
theorem dX5_init_132 : decode cX5_init 132 = .ok (.newarray .int, 2) := by decide +kernel
theorem dX5_init_134 : decode cX5_init 134 = .ok (.putfield 44, 3) := by decide +kernel
theorem dX5_init_137 : decode cX5_init 137 = .ok (.aload_n 0, 1) := by decide +kernel
theorem dX5_init_138 : decode cX5_init 138 = .ok (.sipush 1024, 3) := by decide +kernel
theorem dX5_init_141 : decode cX5_init 141 = .ok (.newarray .boolean, 2) := by decide +kernel
theorem dX5_init_143 : decode cX5_init 143 = .ok (.putfield 47, 3) := by decide +kernel
theorem dX5_init_146 : decode cX5_init 146 = .ok (.aload_n 0, 1) := by decide +kernel
theorem dX5_init_147 : decode cX5_init 147 = .ok (.sipush 1024, 3) := by decide +kernel
theorem dX5_init_150 : decode cX5_init 150 = .ok (.newarray .int, 2) := by decide +kernel
theorem dX5_init_152 : decode cX5_init 152 = .ok (.putfield 51, 3) := by decide +kernel
theorem dX5_init_155 : decode cX5_init 155 = .ok (.aload_n 0, 1) := by decide +kernel
theorem dX5_init_156 : decode cX5_init 156 = .ok (.sipush 1024, 3) := by decide +kernel
theorem dX5_init_159 : decode cX5_init 159 = .ok (.newarray .int, 2) := by decide +kernel
theorem dX5_init_161 : decode cX5_init 161 = .ok (.putfield 54, 3) := by decide +kernel
theorem dX5_init_164 : decode cX5_init 164 = .ok (.aload_n 0, 1) := by decide +kernel
theorem dX5_init_165 : decode cX5_init 165 = .ok (.bipush 36, 2) := by decide +kernel
theorem dX5_init_167 : decode cX5_init 167 = .ok (.newarray .int, 2) := by decide +kernel
theorem dX5_init_169 : decode cX5_init 169 = .ok (.putfield 57, 3) := by decide +kernel
theorem dX5_init_172 : decode cX5_init 172 = .ok (.aload_n 0, 1) := by decide +kernel
theorem dX5_init_173 : decode cX5_init 173 = .ok (.bipush 64, 2) := by decide +kernel
theorem dX5_init_175 : decode cX5_init 175 = .ok (.newarray .int, 2) := by decide +kernel
theorem dX5_init_177 : decode cX5_init 177 = .ok (.putfield 60, 3) := by decide +kernel
theorem dX5_init_180 : decode cX5_init 180 = .ok (.aload_n 0, 1) := by decide +kernel
theorem dX5_init_181 : decode cX5_init 181 = .ok (.bipush 64, 2) := by decide +kernel
theorem dX5_init_183 : decode cX5_init 183 = .ok (.newarray .int, 2) := by decide +kernel
theorem dX5_init_185 : decode cX5_init 185 = .ok (.putfield 63, 3) := by decide +kernel
theorem dX5_init_188 : decode cX5_init 188 = .ok (.iconst 1, 1) := by decide +kernel
theorem dX5_init_189 : decode cX5_init 189 = .ok (.istore_n 1, 1) := by decide +kernel
theorem dX5_init_190 : decode cX5_init 190 = .ok (.iload_n 1, 1) := by decide +kernel
theorem dX5_init_191 : decode cX5_init 191 = .ok (.iconst 4, 1) := by decide +kernel
theorem dX5_init_192 : decode cX5_init 192 = .ok (.if_icmp .ge 22, 3) := by decide +kernel
theorem dX5_init_195 : decode cX5_init 195 = .ok (.aload_n 0, 1) := by decide +kernel
theorem dX5_init_196 : decode cX5_init 196 = .ok (.getfield 7, 3) := by decide +kernel
theorem dX5_init_199 : decode cX5_init 199 = .ok (.sipush 165, 3) := by decide +kernel
theorem dX5_init_202 : decode cX5_init 202 = .ok (.iload_n 1, 1) := by decide +kernel
theorem dX5_init_203 : decode cX5_init 203 = .ok (.imul, 1) := by decide +kernel
theorem dX5_init_204 : decode cX5_init 204 = .ok (.iconst 0, 1) := by decide +kernel
theorem dX5_init_205 : decode cX5_init 205 = .ok (.iadd, 1) := by decide +kernel
theorem dX5_init_206 : decode cX5_init 206 = .ok (.iconst (-1), 1) := by decide +kernel
theorem dX5_init_207 : decode cX5_init 207 = .ok (.iastore, 1) := by decide +kernel
theorem dX5_init_208 : decode cX5_init 208 = .ok (.iinc 1 1, 3) := by decide +kernel
theorem dX5_init_211 : decode cX5_init 211 = .ok (.goto (-21), 3) := by decide +kernel
theorem dX5_init_214 : decode cX5_init 214 = .ok (.return_, 1) := by decide +kernel
theorem dX5_bits_0 : decode cX5_bits 0 = .ok (.iconst 0, 1) := by decide +kernel
theorem dX5_bits_1 : decode cX5_bits 1 = .ok (.istore_n 1, 1) := by decide +kernel
theorem dX5_bits_2 : decode cX5_bits 2 = .ok (.iconst 0, 1) := by decide +kernel
theorem dX5_bits_3 : decode cX5_bits 3 = .ok (.istore_n 2, 1) := by decide +kernel
theorem dX5_bits_4 : decode cX5_bits 4 = .ok (.iload_n 2, 1) := by decide +kernel
theorem dX5_bits_5 : decode cX5_bits 5 = .ok (.bipush 6, 2) := by decide +kernel
theorem dX5_bits_7 : decode cX5_bits 7 = .ok (.if_icmp .ge 17, 3) := by decide +kernel
theorem dX5_bits_10 : decode cX5_bits 10 = .ok (.iload_n 1, 1) := by decide +kernel
theorem dX5_bits_11 : decode cX5_bits 11 = .ok (.iload_n 0, 1) := by decide +kernel
theorem dX5_bits_12 : decode cX5_bits 12 = .ok (.iload_n 2, 1) := by decide +kernel
theorem dX5_bits_13 : decode cX5_bits 13 = .ok (.ishr, 1) := by decide +kernel
theorem dX5_bits_14 : decode cX5_bits 14 = .ok (.iconst 1, 1) := by decide +kernel
theorem dX5_bits_15 : decode cX5_bits 15 = .ok (.iand, 1) := by decide +kernel
theorem dX5_bits_16 : decode cX5_bits 16 = .ok (.iadd, 1) := by decide +kernel
theorem dX5_bits_17 : decode cX5_bits 17 = .ok (.istore_n 1, 1) := by decide +kernel
theorem dX5_bits_18 : decode cX5_bits 18 = .ok (.iinc 2 1, 3) := by decide +kernel
theorem dX5_bits_21 : decode cX5_bits 21 = .ok (.goto (-17), 3) := by decide +kernel
theorem dX5_bits_24 : decode cX5_bits 24 = .ok (.iload_n 1, 1) := by decide +kernel
theorem dX5_bits_25 : decode cX5_bits 25 = .ok (.ireturn, 1) := by decide +kernel
theorem dX5_apart_0 : decode cX5_apart 0 = .ok (.iload_n 0, 1) := by decide +kernel
theorem dX5_apart_1 : decode cX5_apart 1 = .ok (.iload_n 1, 1) := by decide +kernel
theorem dX5_apart_2 : decode cX5_apart 2 = .ok (.if_icmp .ge 9, 3) := by decide +kernel
theorem dX5_apart_5 : decode cX5_apart 5 = .ok (.iload_n 1, 1) := by decide +kernel
theorem dX5_apart_6 : decode cX5_apart 6 = .ok (.iload_n 0, 1) := by decide +kernel
theorem dX5_apart_7 : decode cX5_apart 7 = .ok (.isub, 1) := by decide +kernel
theorem dX5_apart_8 : decode cX5_apart 8 = .ok (.goto 6, 3) := by decide +kernel
theorem dX5_apart_11 : decode cX5_apart 11 = .ok (.iload_n 0, 1) := by decide +kernel
theorem dX5_apart_12 : decode cX5_apart 12 = .ok (.iload_n 1, 1) := by decide +kernel
theorem dX5_apart_13 : decode cX5_apart 13 = .ok (.isub, 1) := by decide +kernel
theorem dX5_apart_14 : decode cX5_apart 14 = .ok (.ireturn, 1) := by decide +kernel
theorem dX5_in_0 : decode cX5_in 0 = .ok (.lload_n 0, 1) := by decide +kernel
theorem dX5_in_1 : decode cX5_in 1 = .ok (.lload_n 2, 1) := by decide +kernel
theorem dX5_in_2 : decode cX5_in 2 = .ok (.lcmp, 1) := by decide +kernel
theorem dX5_in_3 : decode cX5_in 3 = .ok (.ifCond .lt 14, 3) := by decide +kernel
theorem dX5_in_6 : decode cX5_in 6 = .ok (.lload_n 0, 1) := by decide +kernel
theorem dX5_in_7 : decode cX5_in 7 = .ok (.lload 4, 2) := by decide +kernel
theorem dX5_in_9 : decode cX5_in 9 = .ok (.lcmp, 1) := by decide +kernel
theorem dX5_in_10 : decode cX5_in 10 = .ok (.ifCond .gt 7, 3) := by decide +kernel
theorem dX5_in_13 : decode cX5_in 13 = .ok (.iconst 1, 1) := by decide +kernel
theorem dX5_in_14 : decode cX5_in 14 = .ok (.goto 4, 3) := by decide +kernel
theorem dX5_in_17 : decode cX5_in 17 = .ok (.iconst 0, 1) := by decide +kernel
theorem dX5_in_18 : decode cX5_in 18 = .ok (.ireturn, 1) := by decide +kernel
theorem dX5_has_0 : decode cX5_has 0 = .ok (.iload_n 0, 1) := by decide +kernel
theorem dX5_has_1 : decode cX5_has 1 = .ok (.iload_n 1, 1) := by decide +kernel
theorem dX5_has_2 : decode cX5_has 2 = .ok (.ishr, 1) := by decide +kernel
theorem dX5_has_3 : decode cX5_has 3 = .ok (.iconst 1, 1) := by decide +kernel
theorem dX5_has_4 : decode cX5_has 4 = .ok (.iand, 1) := by decide +kernel
theorem dX5_has_5 : decode cX5_has 5 = .ok (.iconst 1, 1) := by decide +kernel
theorem dX5_has_6 : decode cX5_has 6 = .ok (.if_icmp .ne 7, 3) := by decide +kernel
theorem dX5_has_9 : decode cX5_has 9 = .ok (.iconst 1, 1) := by decide +kernel
theorem dX5_has_10 : decode cX5_has 10 = .ok (.goto 4, 3) := by decide +kernel
theorem dX5_has_13 : decode cX5_has 13 = .ok (.iconst 0, 1) := by decide +kernel
theorem dX5_has_14 : decode cX5_has 14 = .ok (.ireturn, 1) := by decide +kernel
theorem dX5_find_0 : decode cX5_find 0 = .ok (.aload_n 0, 1) := by decide +kernel
theorem dX5_find_1 : decode cX5_find 1 = .ok (.iload_n 1, 1) := by decide +kernel
theorem dX5_find_2 : decode cX5_find 2 = .ok (.putfield 66, 3) := by decide +kernel
theorem dX5_find_5 : decode cX5_find 5 = .ok (.aload_n 0, 1) := by decide +kernel
theorem dX5_find_6 : decode cX5_find 6 = .ok (.getfield 38, 3) := by decide +kernel
theorem dX5_find_9 : decode cX5_find 9 = .ok (.iload_n 1, 1) := by decide +kernel
theorem dX5_find_10 : decode cX5_find 10 = .ok (.dup2, 1) := by decide +kernel
theorem dX5_find_11 : decode cX5_find 11 = .ok (.iaload, 1) := by decide +kernel
theorem dX5_find_12 : decode cX5_find 12 = .ok (.iconst 1, 1) := by decide +kernel
theorem dX5_find_13 : decode cX5_find 13 = .ok (.iadd, 1) := by decide +kernel
theorem dX5_find_14 : decode cX5_find 14 = .ok (.iastore, 1) := by decide +kernel
theorem dX5_find_15 : decode cX5_find 15 = .ok (.bipush (-3), 2) := by decide +kernel
theorem dX5_find_17 : decode cX5_find 17 = .ok (.ireturn, 1) := by decide +kernel
theorem dX5_tell_0 : decode cX5_tell 0 = .ok (.aload_n 0, 1) := by decide +kernel
theorem dX5_tell_1 : decode cX5_tell 1 = .ok (.iload_n 1, 1) := by decide +kernel
theorem dX5_tell_2 : decode cX5_tell 2 = .ok (.putfield 70, 3) := by decide +kernel
theorem dX5_tell_5 : decode cX5_tell 5 = .ok (.iconst 1, 1) := by decide +kernel
theorem dX5_tell_6 : decode cX5_tell 6 = .ok (.ireturn, 1) := by decide +kernel
set_option maxRecDepth 20000 in
theorem ggX5_isRow_X5_in : GoodIn wsX5_isRow wsX5_in := goodIn_r _ [5] (by rfl) (by decide +kernel)
set_option maxRecDepth 20000 in
theorem gX5_isRow_X5_in : GoodIn wsX5_isRow (va_wsS RX5 75 yX5_in wsX5_in) := goodIn_app (goodIn_of _ (by decide +kernel)) ggX5_isRow_X5_in
theorem dX5_isRow_0 : decode cX5_isRow 0 = .ok (.iload_n 0, 1) := by decide +kernel
theorem dX5_isRow_1 : decode cX5_isRow 1 = .ok (.i2l, 1) := by decide +kernel
theorem dX5_isRow_2 : decode cX5_isRow 2 = .ok (.lconst 0, 1) := by decide +kernel
theorem dX5_isRow_3 : decode cX5_isRow 3 = .ok (.ldc2_w 73, 3) := by decide +kernel
theorem dX5_isRow_6 : decode cX5_isRow 6 = .ok (.invokestatic 75, 3) := by decide +kernel
theorem dX5_isRow_9 : decode cX5_isRow 9 = .ok (.ireturn, 1) := by decide +kernel
set_option maxRecDepth 20000 in
theorem ggX5_isText_X5_in : GoodIn wsX5_isText wsX5_in := goodIn_r _ [5] (by rfl) (by decide +kernel)
set_option maxRecDepth 20000 in
theorem gX5_isText_X5_in : GoodIn wsX5_isText (va_wsS RX5 75 yX5_in wsX5_in) := goodIn_app (goodIn_of _ (by decide +kernel)) ggX5_isText_X5_in
theorem dX5_isText_0 : decode cX5_isText 0 = .ok (.iload_n 0, 1) := by decide +kernel
theorem dX5_isText_1 : decode cX5_isText 1 = .ok (.i2l, 1) := by decide +kernel
theorem dX5_isText_2 : decode cX5_isText 2 = .ok (.lconst 0, 1) := by decide +kernel
theorem dX5_isText_3 : decode cX5_isText 3 = .ok (.ldc2_w 79, 3) := by decide +kernel
theorem dX5_isText_6 : decode cX5_isText 6 = .ok (.invokestatic 75, 3) := by decide +kernel
theorem dX5_isText_9 : decode cX5_isText 9 = .ok (.ireturn, 1) := by decide +kernel
set_option maxRecDepth 20000 in
theorem ggX5_row_X5_isRow : GoodIn wsX5_row wsX5_isRow := goodIn_r _ [4, 5, 6, 7, 3, 8] (by rfl) (by decide +kernel)
set_option maxRecDepth 20000 in
theorem gX5_row_X5_isRow : GoodIn wsX5_row (va_wsS RX5 81 yX5_isRow wsX5_isRow) := goodIn_app (goodIn_of _ (by decide +kernel)) ggX5_row_X5_isRow
set_option maxRecDepth 20000 in
theorem ggX5_row_X5_find : GoodIn wsX5_row wsX5_find := goodIn_r _ [12, 13, 14, 21, 22, 23, 24, 25, 26, 27, 28, 29, 30, 31, 32, 33, 34, 35, 36, 37, 38, 39, 40, 41, 42, 43, 44, 45, 46, 47, 48, 49, 50, 51, 52] (by rfl) (by decide +kernel)
set_option maxRecDepth 20000 in
theorem gX5_row_X5_find : GoodIn wsX5_row (wsV RX5 85 RX5 yX5_find wsX5_find) := goodIn_app (goodIn_of _ (by decide +kernel)) ggX5_row_X5_find
set_option maxRecDepth 20000 in
theorem ggX5_row_X5_makeRow : GoodIn wsX5_row wsX5_makeRow := goodIn_r _ [18, 19, 20, 21, 22, 23, 24, 25, 26, 27, 28, 29, 30, 31, 32, 33, 34, 35, 36, 37, 38, 39, 40, 41, 42, 43, 44, 45, 46, 47, 48, 49, 50, 51, 52] (by rfl) (by decide +kernel)
set_option maxRecDepth 20000 in
theorem gX5_row_X5_makeRow : GoodIn wsX5_row (wsV RX5 89 RX5 yX5_makeRow wsX5_makeRow) := goodIn_app (goodIn_of _ (by decide +kernel)) ggX5_row_X5_makeRow
theorem dX5_row_0 : decode cX5_row 0 = .ok (.iload_n 1, 1) := by decide +kernel
theorem dX5_row_1 : decode cX5_row 1 = .ok (.invokestatic 81, 3) := by decide +kernel
theorem dX5_row_4 : decode cX5_row 4 = .ok (.ifCond .eq 9, 3) := by decide +kernel
theorem dX5_row_7 : decode cX5_row 7 = .ok (.iload_n 2, 1) := by decide +kernel
theorem dX5_row_8 : decode cX5_row 8 = .ok (.bipush 40, 2) := by decide +kernel
theorem dX5_row_10 : decode cX5_row 10 = .ok (.if_icmp .le 5, 3) := by decide +kernel
theorem dX5_row_13 : decode cX5_row 13 = .ok (.iconst (-1), 1) := by decide +kernel
theorem dX5_row_14 : decode cX5_row 14 = .ok (.ireturn, 1) := by decide +kernel
theorem dX5_row_15 : decode cX5_row 15 = .ok (.iload_n 2, 1) := by decide +kernel
theorem dX5_row_16 : decode cX5_row 16 = .ok (.ifCond .ge 9, 3) := by decide +kernel
theorem dX5_row_19 : decode cX5_row 19 = .ok (.aload_n 0, 1) := by decide +kernel
theorem dX5_row_20 : decode cX5_row 20 = .ok (.iconst 5, 1) := by decide +kernel
theorem dX5_row_21 : decode cX5_row 21 = .ok (.invokevirtual 85, 3) := by decide +kernel
theorem dX5_row_24 : decode cX5_row 24 = .ok (.ireturn, 1) := by decide +kernel
theorem dX5_row_25 : decode cX5_row 25 = .ok (.aload_n 0, 1) := by decide +kernel
theorem dX5_row_26 : decode cX5_row 26 = .ok (.iload_n 1, 1) := by decide +kernel
theorem dX5_row_27 : decode cX5_row 27 = .ok (.iload_n 2, 1) := by decide +kernel
theorem dX5_row_28 : decode cX5_row 28 = .ok (.invokevirtual 89, 3) := by decide +kernel
theorem dX5_row_31 : decode cX5_row 31 = .ok (.iload_n 2, 1) := by decide +kernel
theorem dX5_row_32 : decode cX5_row 32 = .ok (.ireturn, 1) := by decide +kernel
theorem dX5_makeRow_0 : decode cX5_makeRow 0 = .ok (.aload_n 0, 1) := by decide +kernel
theorem dX5_makeRow_1 : decode cX5_makeRow 1 = .ok (.getfield 22, 3) := by decide +kernel
theorem dX5_makeRow_4 : decode cX5_makeRow 4 = .ok (.iload_n 1, 1) := by decide +kernel
theorem dX5_makeRow_5 : decode cX5_makeRow 5 = .ok (.iload_n 2, 1) := by decide +kernel
theorem dX5_makeRow_6 : decode cX5_makeRow 6 = .ok (.iastore, 1) := by decide +kernel
theorem dX5_makeRow_7 : decode cX5_makeRow 7 = .ok (.iconst 0, 1) := by decide +kernel
theorem dX5_makeRow_8 : decode cX5_makeRow 8 = .ok (.istore_n 3, 1) := by decide +kernel
theorem dX5_makeRow_9 : decode cX5_makeRow 9 = .ok (.iload_n 3, 1) := by decide +kernel
theorem dX5_makeRow_10 : decode cX5_makeRow 10 = .ok (.bipush 40, 2) := by decide +kernel
theorem dX5_makeRow_12 : decode cX5_makeRow 12 = .ok (.if_icmp .ge 21, 3) := by decide +kernel
theorem dX5_makeRow_15 : decode cX5_makeRow 15 = .ok (.aload_n 0, 1) := by decide +kernel
theorem dX5_makeRow_16 : decode cX5_makeRow 16 = .ok (.getfield 25, 3) := by decide +kernel
theorem dX5_makeRow_19 : decode cX5_makeRow 19 = .ok (.bipush 40, 2) := by decide +kernel
theorem dX5_makeRow_21 : decode cX5_makeRow 21 = .ok (.iload_n 1, 1) := by decide +kernel
theorem dX5_makeRow_22 : decode cX5_makeRow 22 = .ok (.imul, 1) := by decide +kernel
theorem dX5_makeRow_23 : decode cX5_makeRow 23 = .ok (.iload_n 3, 1) := by decide +kernel
theorem dX5_makeRow_24 : decode cX5_makeRow 24 = .ok (.iadd, 1) := by decide +kernel
theorem dX5_makeRow_25 : decode cX5_makeRow 25 = .ok (.iconst 0, 1) := by decide +kernel
theorem dX5_makeRow_26 : decode cX5_makeRow 26 = .ok (.iastore, 1) := by decide +kernel
theorem dX5_makeRow_27 : decode cX5_makeRow 27 = .ok (.iinc 3 1, 3) := by decide +kernel
theorem dX5_makeRow_30 : decode cX5_makeRow 30 = .ok (.goto (-21), 3) := by decide +kernel
theorem dX5_makeRow_33 : decode cX5_makeRow 33 = .ok (.return_, 1) := by decide +kernel
set_option maxRecDepth 20000 in
theorem ggX5_refused_X5_isRow : GoodIn wsX5_refused wsX5_isRow := goodIn_r _ [5, 6, 7, 8, 4, 9] (by rfl) (by decide +kernel)
set_option maxRecDepth 20000 in
theorem gX5_refused_X5_isRow : GoodIn wsX5_refused (va_wsS RX5 81 yX5_isRow wsX5_isRow) := goodIn_app (goodIn_of _ (by decide +kernel)) ggX5_refused_X5_isRow
set_option maxRecDepth 20000 in
theorem ggX5_refused_X5_find : GoodIn wsX5_refused wsX5_find := goodIn_r _ [13, 14, 15, 16, 17, 18, 19, 20, 21, 22, 23, 24, 25, 26, 27, 28, 29, 30, 31, 32, 33, 34, 35, 36, 37, 38, 39, 40, 41, 42, 43, 44, 45, 46, 47] (by rfl) (by decide +kernel)
set_option maxRecDepth 20000 in
theorem gX5_refused_X5_find : GoodIn wsX5_refused (wsV RX5 85 RX5 yX5_find wsX5_find) := goodIn_app (goodIn_of _ (by decide +kernel)) ggX5_refused_X5_find
set_option maxRecDepth 20000 in
theorem ggX5_refused_X5_in : GoodIn wsX5_refused wsX5_in := goodIn_r _ [9] (by rfl) (by decide +kernel)
set_option maxRecDepth 20000 in
theorem gX5_refused_X5_in : GoodIn wsX5_refused (va_wsS RX5 75 yX5_in wsX5_in) := goodIn_app (goodIn_of _ (by decide +kernel)) ggX5_refused_X5_in
theorem dX5_refused_0 : decode cX5_refused 0 = .ok (.iload_n 1, 1) := by decide +kernel
theorem dX5_refused_1 : decode cX5_refused 1 = .ok (.invokestatic 81, 3) := by decide +kernel
theorem dX5_refused_4 : decode cX5_refused 4 = .ok (.ifCond .ne 7, 3) := by decide +kernel
theorem dX5_refused_7 : decode cX5_refused 7 = .ok (.iconst (-1), 1) := by decide +kernel
theorem dX5_refused_8 : decode cX5_refused 8 = .ok (.goto 47, 3) := by decide +kernel
theorem dX5_refused_11 : decode cX5_refused 11 = .ok (.aload_n 0, 1) := by decide +kernel
theorem dX5_refused_12 : decode cX5_refused 12 = .ok (.getfield 22, 3) := by decide +kernel
theorem dX5_refused_15 : decode cX5_refused 15 = .ok (.iload_n 1, 1) := by decide +kernel
theorem dX5_refused_16 : decode cX5_refused 16 = .ok (.iaload, 1) := by decide +kernel
theorem dX5_refused_17 : decode cX5_refused 17 = .ok (.ifCond .ge 11, 3) := by decide +kernel
theorem dX5_refused_20 : decode cX5_refused 20 = .ok (.aload_n 0, 1) := by decide +kernel
theorem dX5_refused_21 : decode cX5_refused 21 = .ok (.iconst 1, 1) := by decide +kernel
theorem dX5_refused_22 : decode cX5_refused 22 = .ok (.invokevirtual 85, 3) := by decide +kernel
theorem dX5_refused_25 : decode cX5_refused 25 = .ok (.goto 30, 3) := by decide +kernel
theorem dX5_refused_28 : decode cX5_refused 28 = .ok (.iload_n 2, 1) := by decide +kernel
theorem dX5_refused_29 : decode cX5_refused 29 = .ok (.i2l, 1) := by decide +kernel
theorem dX5_refused_30 : decode cX5_refused 30 = .ok (.lconst 0, 1) := by decide +kernel
theorem dX5_refused_31 : decode cX5_refused 31 = .ok (.aload_n 0, 1) := by decide +kernel
theorem dX5_refused_32 : decode cX5_refused 32 = .ok (.getfield 22, 3) := by decide +kernel
theorem dX5_refused_35 : decode cX5_refused 35 = .ok (.iload_n 1, 1) := by decide +kernel
theorem dX5_refused_36 : decode cX5_refused 36 = .ok (.iaload, 1) := by decide +kernel
theorem dX5_refused_37 : decode cX5_refused 37 = .ok (.iconst 1, 1) := by decide +kernel
theorem dX5_refused_38 : decode cX5_refused 38 = .ok (.isub, 1) := by decide +kernel
theorem dX5_refused_39 : decode cX5_refused 39 = .ok (.i2l, 1) := by decide +kernel
theorem dX5_refused_40 : decode cX5_refused 40 = .ok (.invokestatic 75, 3) := by decide +kernel
theorem dX5_refused_43 : decode cX5_refused 43 = .ok (.ifCond .eq 7, 3) := by decide +kernel
theorem dX5_refused_46 : decode cX5_refused 46 = .ok (.iconst 0, 1) := by decide +kernel
theorem dX5_refused_47 : decode cX5_refused 47 = .ok (.goto 8, 3) := by decide +kernel
theorem dX5_refused_50 : decode cX5_refused 50 = .ok (.aload_n 0, 1) := by decide +kernel
theorem dX5_refused_51 : decode cX5_refused 51 = .ok (.iconst 2, 1) := by decide +kernel
theorem dX5_refused_52 : decode cX5_refused 52 = .ok (.invokevirtual 85, 3) := by decide +kernel
theorem dX5_refused_55 : decode cX5_refused 55 = .ok (.ireturn, 1) := by decide +kernel
set_option maxRecDepth 20000 in
theorem ggX5_lay_X5_refused : GoodIn wsX5_lay wsX5_refused := goodIn_r _ [6, 7, 8, 9, 5, 10, 11, 12, 13, 14, 15, 16, 17, 18, 19, 20, 26, 27, 28, 29, 30, 31, 32, 33, 34, 35, 36, 37, 38, 39, 40, 41, 42, 43, 44, 45, 46, 47, 48, 49, 50, 51, 52, 53, 54, 55, 56, 57] (by rfl) (by decide +kernel)
set_option maxRecDepth 20000 in
theorem gX5_lay_X5_refused : GoodIn wsX5_lay (wsV RX5 93 RX5 yX5_refused wsX5_refused) := goodIn_app (goodIn_of _ (by decide +kernel)) ggX5_lay_X5_refused
set_option maxRecDepth 20000 in
theorem ggX5_lay_X5_tell : GoodIn wsX5_lay wsX5_tell := goodIn_r _ [24, 25, 26, 27, 28, 29, 30, 31, 32, 33, 34, 35, 36, 37, 38, 39, 40, 41, 42, 43, 44, 45, 46, 47, 48, 49, 50, 51, 52, 53, 54, 55, 56, 57] (by rfl) (by decide +kernel)
set_option maxRecDepth 20000 in
theorem gX5_lay_X5_tell : GoodIn wsX5_lay (wsV RX5 97 RX5 yX5_tell wsX5_tell) := goodIn_app (goodIn_of _ (by decide +kernel)) ggX5_lay_X5_tell
theorem dX5_lay_0 : decode cX5_lay 0 = .ok (.aload_n 0, 1) := by decide +kernel
theorem dX5_lay_1 : decode cX5_lay 1 = .ok (.iload_n 1, 1) := by decide +kernel
theorem dX5_lay_2 : decode cX5_lay 2 = .ok (.iload_n 2, 1) := by decide +kernel
theorem dX5_lay_3 : decode cX5_lay 3 = .ok (.invokevirtual 93, 3) := by decide +kernel
theorem dX5_lay_6 : decode cX5_lay 6 = .ok (.istore 4, 2) := by decide +kernel
theorem dX5_lay_8 : decode cX5_lay 8 = .ok (.iload 4, 2) := by decide +kernel
theorem dX5_lay_10 : decode cX5_lay 10 = .ok (.ifCond .eq 6, 3) := by decide +kernel
theorem dX5_lay_13 : decode cX5_lay 13 = .ok (.iload 4, 2) := by decide +kernel
theorem dX5_lay_15 : decode cX5_lay 15 = .ok (.ireturn, 1) := by decide +kernel
theorem dX5_lay_16 : decode cX5_lay 16 = .ok (.aload_n 0, 1) := by decide +kernel
theorem dX5_lay_17 : decode cX5_lay 17 = .ok (.getfield 25, 3) := by decide +kernel
theorem dX5_lay_20 : decode cX5_lay 20 = .ok (.bipush 40, 2) := by decide +kernel
theorem dX5_lay_22 : decode cX5_lay 22 = .ok (.iload_n 1, 1) := by decide +kernel
theorem dX5_lay_23 : decode cX5_lay 23 = .ok (.imul, 1) := by decide +kernel
theorem dX5_lay_24 : decode cX5_lay 24 = .ok (.iload_n 2, 1) := by decide +kernel
theorem dX5_lay_25 : decode cX5_lay 25 = .ok (.iadd, 1) := by decide +kernel
theorem dX5_lay_26 : decode cX5_lay 26 = .ok (.iaload, 1) := by decide +kernel
theorem dX5_lay_27 : decode cX5_lay 27 = .ok (.istore 5, 2) := by decide +kernel
theorem dX5_lay_29 : decode cX5_lay 29 = .ok (.aload_n 0, 1) := by decide +kernel
theorem dX5_lay_30 : decode cX5_lay 30 = .ok (.getfield 25, 3) := by decide +kernel
theorem dX5_lay_33 : decode cX5_lay 33 = .ok (.bipush 40, 2) := by decide +kernel
theorem dX5_lay_35 : decode cX5_lay 35 = .ok (.iload_n 1, 1) := by decide +kernel
theorem dX5_lay_36 : decode cX5_lay 36 = .ok (.imul, 1) := by decide +kernel
theorem dX5_lay_37 : decode cX5_lay 37 = .ok (.iload_n 2, 1) := by decide +kernel
theorem dX5_lay_38 : decode cX5_lay 38 = .ok (.iadd, 1) := by decide +kernel
theorem dX5_lay_39 : decode cX5_lay 39 = .ok (.iload_n 3, 1) := by decide +kernel
theorem dX5_lay_40 : decode cX5_lay 40 = .ok (.iastore, 1) := by decide +kernel
theorem dX5_lay_41 : decode cX5_lay 41 = .ok (.aload_n 0, 1) := by decide +kernel
theorem dX5_lay_42 : decode cX5_lay 42 = .ok (.iload 5, 2) := by decide +kernel
theorem dX5_lay_44 : decode cX5_lay 44 = .ok (.invokevirtual 97, 3) := by decide +kernel
theorem dX5_lay_47 : decode cX5_lay 47 = .ok (.ireturn, 1) := by decide +kernel
set_option maxRecDepth 20000 in
theorem ggX5_at_X5_refused : GoodIn wsX5_at wsX5_refused := goodIn_r _ [6, 7, 8, 9, 5, 10, 11, 12, 13, 14, 15, 16, 17, 18, 19, 20, 26, 27, 28, 29, 30, 31, 32, 33, 34, 35, 36, 37, 38, 39, 40, 41, 42, 43, 44, 45, 46, 47, 48, 49, 50, 51, 52, 53, 54, 55, 56, 57] (by rfl) (by decide +kernel)
set_option maxRecDepth 20000 in
theorem gX5_at_X5_refused : GoodIn wsX5_at (wsV RX5 93 RX5 yX5_refused wsX5_refused) := goodIn_app (goodIn_of _ (by decide +kernel)) ggX5_at_X5_refused
set_option maxRecDepth 20000 in
theorem ggX5_at_X5_tell : GoodIn wsX5_at wsX5_tell := goodIn_r _ [24, 25, 26, 27, 28, 29, 30, 31, 32, 33, 34, 35, 36, 37, 38, 39, 40, 41, 42, 43, 44, 45, 46, 47, 48, 49, 50, 51, 52, 53, 54, 55, 56, 57] (by rfl) (by decide +kernel)
set_option maxRecDepth 20000 in
theorem gX5_at_X5_tell : GoodIn wsX5_at (wsV RX5 97 RX5 yX5_tell wsX5_tell) := goodIn_app (goodIn_of _ (by decide +kernel)) ggX5_at_X5_tell
theorem dX5_at_0 : decode cX5_at 0 = .ok (.aload_n 0, 1) := by decide +kernel
theorem dX5_at_1 : decode cX5_at 1 = .ok (.iload_n 1, 1) := by decide +kernel
theorem dX5_at_2 : decode cX5_at 2 = .ok (.iload_n 2, 1) := by decide +kernel
theorem dX5_at_3 : decode cX5_at 3 = .ok (.invokevirtual 93, 3) := by decide +kernel
theorem dX5_at_6 : decode cX5_at 6 = .ok (.istore_n 3, 1) := by decide +kernel
theorem dX5_at_7 : decode cX5_at 7 = .ok (.iload_n 3, 1) := by decide +kernel
theorem dX5_at_8 : decode cX5_at 8 = .ok (.ifCond .eq 7, 3) := by decide +kernel
theorem dX5_at_11 : decode cX5_at 11 = .ok (.iload_n 3, 1) := by decide +kernel
theorem dX5_at_12 : decode cX5_at 12 = .ok (.goto 18, 3) := by decide +kernel
theorem dX5_at_15 : decode cX5_at 15 = .ok (.aload_n 0, 1) := by decide +kernel
theorem dX5_at_16 : decode cX5_at 16 = .ok (.aload_n 0, 1) := by decide +kernel
theorem dX5_at_17 : decode cX5_at 17 = .ok (.getfield 25, 3) := by decide +kernel
theorem dX5_at_20 : decode cX5_at 20 = .ok (.bipush 40, 2) := by decide +kernel
theorem dX5_at_22 : decode cX5_at 22 = .ok (.iload_n 1, 1) := by decide +kernel
theorem dX5_at_23 : decode cX5_at 23 = .ok (.imul, 1) := by decide +kernel
theorem dX5_at_24 : decode cX5_at 24 = .ok (.iload_n 2, 1) := by decide +kernel
theorem dX5_at_25 : decode cX5_at 25 = .ok (.iadd, 1) := by decide +kernel
theorem dX5_at_26 : decode cX5_at 26 = .ok (.iaload, 1) := by decide +kernel
theorem dX5_at_27 : decode cX5_at 27 = .ok (.invokevirtual 97, 3) := by decide +kernel
theorem dX5_at_30 : decode cX5_at 30 = .ok (.ireturn, 1) := by decide +kernel
set_option maxRecDepth 20000 in
theorem ggX5_tear_X5_isRow : GoodIn wsX5_tear wsX5_isRow := goodIn_r _ [5, 6, 7, 8, 4, 9] (by rfl) (by decide +kernel)
set_option maxRecDepth 20000 in
theorem gX5_tear_X5_isRow : GoodIn wsX5_tear (va_wsS RX5 81 yX5_isRow wsX5_isRow) := goodIn_app (goodIn_of _ (by decide +kernel)) ggX5_tear_X5_isRow
set_option maxRecDepth 20000 in
theorem ggX5_tear_X5_find : GoodIn wsX5_tear wsX5_find := goodIn_r _ [13, 14, 15, 16, 17, 18, 19, 20, 21, 22, 23, 24, 25, 26, 27, 28, 29, 30, 31, 32, 33, 34, 35, 36, 37, 38, 39, 40, 41, 42, 43, 44, 45, 46, 47] (by rfl) (by decide +kernel)
set_option maxRecDepth 20000 in
theorem gX5_tear_X5_find : GoodIn wsX5_tear (wsV RX5 85 RX5 yX5_find wsX5_find) := goodIn_app (goodIn_of _ (by decide +kernel)) ggX5_tear_X5_find
theorem dX5_tear_0 : decode cX5_tear 0 = .ok (.iload_n 1, 1) := by decide +kernel
theorem dX5_tear_1 : decode cX5_tear 1 = .ok (.invokestatic 81, 3) := by decide +kernel
theorem dX5_tear_4 : decode cX5_tear 4 = .ok (.ifCond .ne 5, 3) := by decide +kernel
theorem dX5_tear_7 : decode cX5_tear 7 = .ok (.iconst (-1), 1) := by decide +kernel
theorem dX5_tear_8 : decode cX5_tear 8 = .ok (.ireturn, 1) := by decide +kernel
theorem dX5_tear_9 : decode cX5_tear 9 = .ok (.aload_n 0, 1) := by decide +kernel
theorem dX5_tear_10 : decode cX5_tear 10 = .ok (.getfield 22, 3) := by decide +kernel
theorem dX5_tear_13 : decode cX5_tear 13 = .ok (.iload_n 1, 1) := by decide +kernel
theorem dX5_tear_14 : decode cX5_tear 14 = .ok (.iaload, 1) := by decide +kernel
theorem dX5_tear_15 : decode cX5_tear 15 = .ok (.ifCond .ge 9, 3) := by decide +kernel
theorem dX5_tear_18 : decode cX5_tear 18 = .ok (.aload_n 0, 1) := by decide +kernel
theorem dX5_tear_19 : decode cX5_tear 19 = .ok (.iconst 1, 1) := by decide +kernel
theorem dX5_tear_20 : decode cX5_tear 20 = .ok (.invokevirtual 85, 3) := by decide +kernel
theorem dX5_tear_23 : decode cX5_tear 23 = .ok (.ireturn, 1) := by decide +kernel
theorem dX5_tear_24 : decode cX5_tear 24 = .ok (.aload_n 0, 1) := by decide +kernel
theorem dX5_tear_25 : decode cX5_tear 25 = .ok (.getfield 22, 3) := by decide +kernel
theorem dX5_tear_28 : decode cX5_tear 28 = .ok (.iload_n 1, 1) := by decide +kernel
theorem dX5_tear_29 : decode cX5_tear 29 = .ok (.iconst (-1), 1) := by decide +kernel
theorem dX5_tear_30 : decode cX5_tear 30 = .ok (.iastore, 1) := by decide +kernel
theorem dX5_tear_31 : decode cX5_tear 31 = .ok (.iconst 1, 1) := by decide +kernel
theorem dX5_tear_32 : decode cX5_tear 32 = .ok (.ireturn, 1) := by decide +kernel
theorem dX5_isSpan_0 : decode cX5_isSpan 0 = .ok (.iload_n 2, 1) := by decide +kernel
theorem dX5_isSpan_1 : decode cX5_isSpan 1 = .ok (.ifCond .lt 23, 3) := by decide +kernel
theorem dX5_isSpan_4 : decode cX5_isSpan 4 = .ok (.iload_n 2, 1) := by decide +kernel
theorem dX5_isSpan_5 : decode cX5_isSpan 5 = .ok (.i2l, 1) := by decide +kernel
theorem dX5_isSpan_6 : decode cX5_isSpan 6 = .ok (.iload_n 3, 1) := by decide +kernel
theorem dX5_isSpan_7 : decode cX5_isSpan 7 = .ok (.i2l, 1) := by decide +kernel
theorem dX5_isSpan_8 : decode cX5_isSpan 8 = .ok (.ladd, 1) := by decide +kernel
theorem dX5_isSpan_9 : decode cX5_isSpan 9 = .ok (.aload_n 0, 1) := by decide +kernel
theorem dX5_isSpan_10 : decode cX5_isSpan 10 = .ok (.getfield 22, 3) := by decide +kernel
theorem dX5_isSpan_13 : decode cX5_isSpan 13 = .ok (.iload_n 1, 1) := by decide +kernel
theorem dX5_isSpan_14 : decode cX5_isSpan 14 = .ok (.iaload, 1) := by decide +kernel
theorem dX5_isSpan_15 : decode cX5_isSpan 15 = .ok (.i2l, 1) := by decide +kernel
theorem dX5_isSpan_16 : decode cX5_isSpan 16 = .ok (.lcmp, 1) := by decide +kernel
theorem dX5_isSpan_17 : decode cX5_isSpan 17 = .ok (.ifCond .gt 7, 3) := by decide +kernel
theorem dX5_isSpan_20 : decode cX5_isSpan 20 = .ok (.iconst 1, 1) := by decide +kernel
theorem dX5_isSpan_21 : decode cX5_isSpan 21 = .ok (.goto 4, 3) := by decide +kernel
theorem dX5_isSpan_24 : decode cX5_isSpan 24 = .ok (.iconst 0, 1) := by decide +kernel
theorem dX5_isSpan_25 : decode cX5_isSpan 25 = .ok (.ireturn, 1) := by decide +kernel
set_option maxRecDepth 20000 in
theorem ggX5_copy_X5_isRow : GoodIn wsX5_copy wsX5_isRow := goodIn_r _ [6, 7, 8, 9, 5, 10] (by rfl) (by decide +kernel)
set_option maxRecDepth 20000 in
theorem gX5_copy_X5_isRow : GoodIn wsX5_copy (va_wsS RX5 81 yX5_isRow wsX5_isRow) := goodIn_app (goodIn_of _ (by decide +kernel)) ggX5_copy_X5_isRow
set_option maxRecDepth 20000 in
theorem ggX5_copy_X5_find : GoodIn wsX5_copy wsX5_find := goodIn_r _ [14, 15, 16, 21, 22, 23, 24, 25, 26, 27, 28, 29, 30, 31, 32, 33, 34, 35, 36, 37, 38, 39, 40, 41, 42, 43, 44, 45, 46, 47, 48, 49, 50, 51, 52] (by rfl) (by decide +kernel)
set_option maxRecDepth 20000 in
theorem gX5_copy_X5_find : GoodIn wsX5_copy (wsV RX5 85 RX5 yX5_find wsX5_find) := goodIn_app (goodIn_of _ (by decide +kernel)) ggX5_copy_X5_find
set_option maxRecDepth 20000 in
theorem ggX5_copy_X5_isSpan : GoodIn wsX5_copy wsX5_isSpan := goodIn_r _ [20, 1, 21, 22, 23, 24, 25, 26, 27, 28, 29, 30, 31, 32, 33, 34, 35, 36, 37, 38, 39, 40, 41, 42, 43, 44, 45, 46, 47, 48, 49, 50, 51, 52] (by rfl) (by decide +kernel)
set_option maxRecDepth 20000 in
theorem gX5_copy_X5_isSpan : GoodIn wsX5_copy (wsV RX5 100 RX5 yX5_isSpan wsX5_isSpan) := goodIn_app (goodIn_of _ (by decide +kernel)) ggX5_copy_X5_isSpan
theorem dX5_copy_0 : decode cX5_copy 0 = .ok (.iload_n 1, 1) := by decide +kernel
theorem dX5_copy_1 : decode cX5_copy 1 = .ok (.invokestatic 81, 3) := by decide +kernel
theorem dX5_copy_4 : decode cX5_copy 4 = .ok (.ifCond .eq 10, 3) := by decide +kernel
theorem dX5_copy_7 : decode cX5_copy 7 = .ok (.iload_n 3, 1) := by decide +kernel
theorem dX5_copy_8 : decode cX5_copy 8 = .ok (.invokestatic 81, 3) := by decide +kernel
theorem dX5_copy_11 : decode cX5_copy 11 = .ok (.ifCond .ne 5, 3) := by decide +kernel
theorem dX5_copy_14 : decode cX5_copy 14 = .ok (.iconst (-1), 1) := by decide +kernel
theorem dX5_copy_15 : decode cX5_copy 15 = .ok (.ireturn, 1) := by decide +kernel
theorem dX5_copy_16 : decode cX5_copy 16 = .ok (.iload 5, 2) := by decide +kernel
theorem dX5_copy_18 : decode cX5_copy 18 = .ok (.ifCond .ge 9, 3) := by decide +kernel
theorem dX5_copy_21 : decode cX5_copy 21 = .ok (.aload_n 0, 1) := by decide +kernel
theorem dX5_copy_22 : decode cX5_copy 22 = .ok (.iconst 5, 1) := by decide +kernel
theorem dX5_copy_23 : decode cX5_copy 23 = .ok (.invokevirtual 85, 3) := by decide +kernel
theorem dX5_copy_26 : decode cX5_copy 26 = .ok (.ireturn, 1) := by decide +kernel
theorem dX5_copy_27 : decode cX5_copy 27 = .ok (.aload_n 0, 1) := by decide +kernel
theorem dX5_copy_28 : decode cX5_copy 28 = .ok (.getfield 22, 3) := by decide +kernel
theorem dX5_copy_31 : decode cX5_copy 31 = .ok (.iload_n 1, 1) := by decide +kernel
theorem dX5_copy_32 : decode cX5_copy 32 = .ok (.iaload, 1) := by decide +kernel
theorem dX5_copy_33 : decode cX5_copy 33 = .ok (.ifCond .lt 12, 3) := by decide +kernel
theorem dX5_copy_36 : decode cX5_copy 36 = .ok (.aload_n 0, 1) := by decide +kernel
theorem dX5_copy_37 : decode cX5_copy 37 = .ok (.getfield 22, 3) := by decide +kernel
theorem dX5_copy_40 : decode cX5_copy 40 = .ok (.iload_n 3, 1) := by decide +kernel
theorem dX5_copy_41 : decode cX5_copy 41 = .ok (.iaload, 1) := by decide +kernel
theorem dX5_copy_42 : decode cX5_copy 42 = .ok (.ifCond .ge 9, 3) := by decide +kernel
theorem dX5_copy_45 : decode cX5_copy 45 = .ok (.aload_n 0, 1) := by decide +kernel
theorem dX5_copy_46 : decode cX5_copy 46 = .ok (.iconst 1, 1) := by decide +kernel
theorem dX5_copy_47 : decode cX5_copy 47 = .ok (.invokevirtual 85, 3) := by decide +kernel
theorem dX5_copy_50 : decode cX5_copy 50 = .ok (.ireturn, 1) := by decide +kernel
theorem dX5_copy_51 : decode cX5_copy 51 = .ok (.aload_n 0, 1) := by decide +kernel
theorem dX5_copy_52 : decode cX5_copy 52 = .ok (.iload_n 1, 1) := by decide +kernel
theorem dX5_copy_53 : decode cX5_copy 53 = .ok (.iload_n 2, 1) := by decide +kernel
theorem dX5_copy_54 : decode cX5_copy 54 = .ok (.iload 5, 2) := by decide +kernel
theorem dX5_copy_56 : decode cX5_copy 56 = .ok (.invokevirtual 100, 3) := by decide +kernel
theorem dX5_copy_59 : decode cX5_copy 59 = .ok (.ifCond .eq 15, 3) := by decide +kernel
theorem dX5_copy_62 : decode cX5_copy 62 = .ok (.aload_n 0, 1) := by decide +kernel
theorem dX5_copy_63 : decode cX5_copy 63 = .ok (.iload_n 3, 1) := by decide +kernel
theorem dX5_copy_64 : decode cX5_copy 64 = .ok (.iload 4, 2) := by decide +kernel
theorem dX5_copy_66 : decode cX5_copy 66 = .ok (.iload 5, 2) := by decide +kernel
theorem dX5_copy_68 : decode cX5_copy 68 = .ok (.invokevirtual 100, 3) := by decide +kernel
theorem dX5_copy_71 : decode cX5_copy 71 = .ok (.ifCond .ne 9, 3) := by decide +kernel
theorem dX5_copy_74 : decode cX5_copy 74 = .ok (.aload_n 0, 1) := by decide +kernel
theorem dX5_copy_75 : decode cX5_copy 75 = .ok (.iconst 2, 1) := by decide +kernel
theorem dX5_copy_76 : decode cX5_copy 76 = .ok (.invokevirtual 85, 3) := by decide +kernel
theorem dX5_copy_79 : decode cX5_copy 79 = .ok (.ireturn, 1) := by decide +kernel
theorem dX5_copy_80 : decode cX5_copy 80 = .ok (.iload_n 2, 1) := by decide +kernel
theorem dX5_copy_81 : decode cX5_copy 81 = .ok (.iload 4, 2) := by decide +kernel
theorem dX5_copy_83 : decode cX5_copy 83 = .ok (.if_icmp .ge 7, 3) := by decide +kernel
theorem dX5_copy_86 : decode cX5_copy 86 = .ok (.iconst 1, 1) := by decide +kernel
theorem dX5_copy_87 : decode cX5_copy 87 = .ok (.goto 4, 3) := by decide +kernel
theorem dX5_copy_90 : decode cX5_copy 90 = .ok (.iconst 0, 1) := by decide +kernel
theorem dX5_copy_91 : decode cX5_copy 91 = .ok (.istore 6, 2) := by decide +kernel
theorem dX5_copy_93 : decode cX5_copy 93 = .ok (.iconst 0, 1) := by decide +kernel
theorem dX5_copy_94 : decode cX5_copy 94 = .ok (.istore 7, 2) := by decide +kernel
theorem dX5_copy_96 : decode cX5_copy 96 = .ok (.iload 7, 2) := by decide +kernel
theorem dX5_copy_98 : decode cX5_copy 98 = .ok (.iload 5, 2) := by decide +kernel
theorem dX5_copy_100 : decode cX5_copy 100 = .ok (.if_icmp .ge 57, 3) := by decide +kernel
theorem dX5_copy_103 : decode cX5_copy 103 = .ok (.iload 6, 2) := by decide +kernel
theorem dX5_copy_105 : decode cX5_copy 105 = .ok (.ifCond .eq 13, 3) := by decide +kernel
theorem dX5_copy_108 : decode cX5_copy 108 = .ok (.iload 5, 2) := by decide +kernel
theorem dX5_copy_110 : decode cX5_copy 110 = .ok (.iconst 1, 1) := by decide +kernel
theorem dX5_copy_111 : decode cX5_copy 111 = .ok (.isub, 1) := by decide +kernel
theorem dX5_copy_112 : decode cX5_copy 112 = .ok (.iload 7, 2) := by decide +kernel
theorem dX5_copy_114 : decode cX5_copy 114 = .ok (.isub, 1) := by decide +kernel
theorem dX5_copy_115 : decode cX5_copy 115 = .ok (.goto 5, 3) := by decide +kernel
theorem dX5_copy_118 : decode cX5_copy 118 = .ok (.iload 7, 2) := by decide +kernel
theorem dX5_copy_120 : decode cX5_copy 120 = .ok (.istore 8, 2) := by decide +kernel
theorem dX5_copy_122 : decode cX5_copy 122 = .ok (.aload_n 0, 1) := by decide +kernel
theorem dX5_copy_123 : decode cX5_copy 123 = .ok (.getfield 25, 3) := by decide +kernel
theorem dX5_copy_126 : decode cX5_copy 126 = .ok (.bipush 40, 2) := by decide +kernel
theorem dX5_copy_128 : decode cX5_copy 128 = .ok (.iload_n 3, 1) := by decide +kernel
theorem dX5_copy_129 : decode cX5_copy 129 = .ok (.imul, 1) := by decide +kernel
theorem dX5_copy_130 : decode cX5_copy 130 = .ok (.iload 4, 2) := by decide +kernel
theorem dX5_copy_132 : decode cX5_copy 132 = .ok (.iadd, 1) := by decide +kernel
theorem dX5_copy_133 : decode cX5_copy 133 = .ok (.iload 8, 2) := by decide +kernel
theorem dX5_copy_135 : decode cX5_copy 135 = .ok (.iadd, 1) := by decide +kernel
theorem dX5_copy_136 : decode cX5_copy 136 = .ok (.aload_n 0, 1) := by decide +kernel
theorem dX5_copy_137 : decode cX5_copy 137 = .ok (.getfield 25, 3) := by decide +kernel
theorem dX5_copy_140 : decode cX5_copy 140 = .ok (.bipush 40, 2) := by decide +kernel
theorem dX5_copy_142 : decode cX5_copy 142 = .ok (.iload_n 1, 1) := by decide +kernel
theorem dX5_copy_143 : decode cX5_copy 143 = .ok (.imul, 1) := by decide +kernel
theorem dX5_copy_144 : decode cX5_copy 144 = .ok (.iload_n 2, 1) := by decide +kernel
theorem dX5_copy_145 : decode cX5_copy 145 = .ok (.iadd, 1) := by decide +kernel
theorem dX5_copy_146 : decode cX5_copy 146 = .ok (.iload 8, 2) := by decide +kernel
theorem dX5_copy_148 : decode cX5_copy 148 = .ok (.iadd, 1) := by decide +kernel
theorem dX5_copy_149 : decode cX5_copy 149 = .ok (.iaload, 1) := by decide +kernel
theorem dX5_copy_150 : decode cX5_copy 150 = .ok (.iastore, 1) := by decide +kernel
theorem dX5_copy_151 : decode cX5_copy 151 = .ok (.iinc 7 1, 3) := by decide +kernel
theorem dX5_copy_154 : decode cX5_copy 154 = .ok (.goto (-58), 3) := by decide +kernel
theorem dX5_copy_157 : decode cX5_copy 157 = .ok (.iconst 1, 1) := by decide +kernel
theorem dX5_copy_158 : decode cX5_copy 158 = .ok (.ireturn, 1) := by decide +kernel
set_option maxRecDepth 20000 in
theorem ggX5_mean_X5_isRow : GoodIn wsX5_mean wsX5_isRow := goodIn_r _ [6, 7, 8, 9, 5, 10] (by rfl) (by decide +kernel)
set_option maxRecDepth 20000 in
theorem gX5_mean_X5_isRow : GoodIn wsX5_mean (va_wsS RX5 81 yX5_isRow wsX5_isRow) := goodIn_app (goodIn_of _ (by decide +kernel)) ggX5_mean_X5_isRow
set_option maxRecDepth 20000 in
theorem ggX5_mean_X5_find : GoodIn wsX5_mean wsX5_find := goodIn_r _ [14, 15, 16, 22, 23, 24, 25, 26, 27, 28, 29, 30, 31, 32, 33, 34, 35, 36, 37, 38, 39, 40, 41, 42, 43, 44, 45, 46, 47, 48, 49, 50, 51, 52, 53] (by rfl) (by decide +kernel)
set_option maxRecDepth 20000 in
theorem gX5_mean_X5_find : GoodIn wsX5_mean (wsV RX5 85 RX5 yX5_find wsX5_find) := goodIn_app (goodIn_of _ (by decide +kernel)) ggX5_mean_X5_find
set_option maxRecDepth 20000 in
theorem ggX5_mean_X5_tell : GoodIn wsX5_mean wsX5_tell := goodIn_r _ [20, 21, 22, 23, 24, 25, 26, 27, 28, 29, 30, 31, 32, 33, 34, 35, 36, 37, 38, 39, 40, 41, 42, 43, 44, 45, 46, 47, 48, 49, 50, 51, 52, 53] (by rfl) (by decide +kernel)
set_option maxRecDepth 20000 in
theorem gX5_mean_X5_tell : GoodIn wsX5_mean (wsV RX5 97 RX5 yX5_tell wsX5_tell) := goodIn_app (goodIn_of _ (by decide +kernel)) ggX5_mean_X5_tell
theorem dX5_mean_0 : decode cX5_mean 0 = .ok (.iload_n 1, 1) := by decide +kernel
theorem dX5_mean_1 : decode cX5_mean 1 = .ok (.invokestatic 81, 3) := by decide +kernel
theorem dX5_mean_4 : decode cX5_mean 4 = .ok (.ifCond .ne 5, 3) := by decide +kernel
theorem dX5_mean_7 : decode cX5_mean 7 = .ok (.iconst (-1), 1) := by decide +kernel
theorem dX5_mean_8 : decode cX5_mean 8 = .ok (.ireturn, 1) := by decide +kernel
theorem dX5_mean_9 : decode cX5_mean 9 = .ok (.aload_n 0, 1) := by decide +kernel
theorem dX5_mean_10 : decode cX5_mean 10 = .ok (.getfield 22, 3) := by decide +kernel
theorem dX5_mean_13 : decode cX5_mean 13 = .ok (.iload_n 1, 1) := by decide +kernel
theorem dX5_mean_14 : decode cX5_mean 14 = .ok (.iaload, 1) := by decide +kernel
theorem dX5_mean_15 : decode cX5_mean 15 = .ok (.ifCond .ge 9, 3) := by decide +kernel
theorem dX5_mean_18 : decode cX5_mean 18 = .ok (.aload_n 0, 1) := by decide +kernel
theorem dX5_mean_19 : decode cX5_mean 19 = .ok (.iconst 1, 1) := by decide +kernel
theorem dX5_mean_20 : decode cX5_mean 20 = .ok (.invokevirtual 85, 3) := by decide +kernel
theorem dX5_mean_23 : decode cX5_mean 23 = .ok (.ireturn, 1) := by decide +kernel
theorem dX5_mean_24 : decode cX5_mean 24 = .ok (.aload_n 0, 1) := by decide +kernel
theorem dX5_mean_25 : decode cX5_mean 25 = .ok (.getfield 22, 3) := by decide +kernel
theorem dX5_mean_28 : decode cX5_mean 28 = .ok (.iload_n 1, 1) := by decide +kernel
theorem dX5_mean_29 : decode cX5_mean 29 = .ok (.iaload, 1) := by decide +kernel
theorem dX5_mean_30 : decode cX5_mean 30 = .ok (.ifCond .ne 9, 3) := by decide +kernel
theorem dX5_mean_33 : decode cX5_mean 33 = .ok (.aload_n 0, 1) := by decide +kernel
theorem dX5_mean_34 : decode cX5_mean 34 = .ok (.iconst 4, 1) := by decide +kernel
theorem dX5_mean_35 : decode cX5_mean 35 = .ok (.invokevirtual 85, 3) := by decide +kernel
theorem dX5_mean_38 : decode cX5_mean 38 = .ok (.ireturn, 1) := by decide +kernel
theorem dX5_mean_39 : decode cX5_mean 39 = .ok (.lconst 0, 1) := by decide +kernel
theorem dX5_mean_40 : decode cX5_mean 40 = .ok (.lstore_n 2, 1) := by decide +kernel
theorem dX5_mean_41 : decode cX5_mean 41 = .ok (.iconst 0, 1) := by decide +kernel
theorem dX5_mean_42 : decode cX5_mean 42 = .ok (.istore 4, 2) := by decide +kernel
theorem dX5_mean_44 : decode cX5_mean 44 = .ok (.iload 4, 2) := by decide +kernel
theorem dX5_mean_46 : decode cX5_mean 46 = .ok (.aload_n 0, 1) := by decide +kernel
theorem dX5_mean_47 : decode cX5_mean 47 = .ok (.getfield 22, 3) := by decide +kernel
theorem dX5_mean_50 : decode cX5_mean 50 = .ok (.iload_n 1, 1) := by decide +kernel
theorem dX5_mean_51 : decode cX5_mean 51 = .ok (.iaload, 1) := by decide +kernel
theorem dX5_mean_52 : decode cX5_mean 52 = .ok (.if_icmp .ge 25, 3) := by decide +kernel
theorem dX5_mean_55 : decode cX5_mean 55 = .ok (.lload_n 2, 1) := by decide +kernel
theorem dX5_mean_56 : decode cX5_mean 56 = .ok (.aload_n 0, 1) := by decide +kernel
theorem dX5_mean_57 : decode cX5_mean 57 = .ok (.getfield 25, 3) := by decide +kernel
theorem dX5_mean_60 : decode cX5_mean 60 = .ok (.bipush 40, 2) := by decide +kernel
theorem dX5_mean_62 : decode cX5_mean 62 = .ok (.iload_n 1, 1) := by decide +kernel
theorem dX5_mean_63 : decode cX5_mean 63 = .ok (.imul, 1) := by decide +kernel
theorem dX5_mean_64 : decode cX5_mean 64 = .ok (.iload 4, 2) := by decide +kernel
theorem dX5_mean_66 : decode cX5_mean 66 = .ok (.iadd, 1) := by decide +kernel
theorem dX5_mean_67 : decode cX5_mean 67 = .ok (.iaload, 1) := by decide +kernel
theorem dX5_mean_68 : decode cX5_mean 68 = .ok (.i2l, 1) := by decide +kernel
theorem dX5_mean_69 : decode cX5_mean 69 = .ok (.ladd, 1) := by decide +kernel
theorem dX5_mean_70 : decode cX5_mean 70 = .ok (.lstore_n 2, 1) := by decide +kernel
theorem dX5_mean_71 : decode cX5_mean 71 = .ok (.iinc 4 1, 3) := by decide +kernel
theorem dX5_mean_74 : decode cX5_mean 74 = .ok (.goto (-30), 3) := by decide +kernel
theorem dX5_mean_77 : decode cX5_mean 77 = .ok (.aload_n 0, 1) := by decide +kernel
theorem dX5_mean_78 : decode cX5_mean 78 = .ok (.lload_n 2, 1) := by decide +kernel
theorem dX5_mean_79 : decode cX5_mean 79 = .ok (.aload_n 0, 1) := by decide +kernel
theorem dX5_mean_80 : decode cX5_mean 80 = .ok (.getfield 22, 3) := by decide +kernel
theorem dX5_mean_83 : decode cX5_mean 83 = .ok (.iload_n 1, 1) := by decide +kernel
theorem dX5_mean_84 : decode cX5_mean 84 = .ok (.iaload, 1) := by decide +kernel
theorem dX5_mean_85 : decode cX5_mean 85 = .ok (.i2l, 1) := by decide +kernel
theorem dX5_mean_86 : decode cX5_mean 86 = .ok (.ldiv, 1) := by decide +kernel
theorem dX5_mean_87 : decode cX5_mean 87 = .ok (.l2i, 1) := by decide +kernel
theorem dX5_mean_88 : decode cX5_mean 88 = .ok (.invokevirtual 97, 3) := by decide +kernel
theorem dX5_mean_91 : decode cX5_mean 91 = .ok (.ireturn, 1) := by decide +kernel
set_option maxRecDepth 20000 in
theorem ggX5_text_X5_isText : GoodIn wsX5_text wsX5_isText := goodIn_r _ [6, 7, 8, 9, 5, 10] (by rfl) (by decide +kernel)
set_option maxRecDepth 20000 in
theorem gX5_text_X5_isText : GoodIn wsX5_text (va_wsS RX5 104 yX5_isText wsX5_isText) := goodIn_app (goodIn_of _ (by decide +kernel)) ggX5_text_X5_isText
set_option maxRecDepth 20000 in
theorem ggX5_text_X5_find : GoodIn wsX5_text wsX5_find := goodIn_r _ [14, 15, 16, 17, 18, 19, 20, 21, 22, 23, 24, 25, 26, 27, 28, 29, 30, 31, 32, 33, 34, 35, 36, 37, 38, 39, 40, 41, 42, 43, 44, 45, 46, 47, 48] (by rfl) (by decide +kernel)
set_option maxRecDepth 20000 in
theorem gX5_text_X5_find : GoodIn wsX5_text (wsV RX5 85 RX5 yX5_find wsX5_find) := goodIn_app (goodIn_of _ (by decide +kernel)) ggX5_text_X5_find
theorem dX5_text_0 : decode cX5_text 0 = .ok (.iload_n 1, 1) := by decide +kernel
theorem dX5_text_1 : decode cX5_text 1 = .ok (.invokestatic 104, 3) := by decide +kernel
theorem dX5_text_4 : decode cX5_text 4 = .ok (.ifCond .eq 9, 3) := by decide +kernel
theorem dX5_text_7 : decode cX5_text 7 = .ok (.iload_n 2, 1) := by decide +kernel
theorem dX5_text_8 : decode cX5_text 8 = .ok (.bipush 60, 2) := by decide +kernel
theorem dX5_text_10 : decode cX5_text 10 = .ok (.if_icmp .le 5, 3) := by decide +kernel
theorem dX5_text_13 : decode cX5_text 13 = .ok (.iconst (-1), 1) := by decide +kernel
theorem dX5_text_14 : decode cX5_text 14 = .ok (.ireturn, 1) := by decide +kernel
theorem dX5_text_15 : decode cX5_text 15 = .ok (.iload_n 2, 1) := by decide +kernel
theorem dX5_text_16 : decode cX5_text 16 = .ok (.ifCond .ge 9, 3) := by decide +kernel
theorem dX5_text_19 : decode cX5_text 19 = .ok (.aload_n 0, 1) := by decide +kernel
theorem dX5_text_20 : decode cX5_text 20 = .ok (.iconst 5, 1) := by decide +kernel
theorem dX5_text_21 : decode cX5_text 21 = .ok (.invokevirtual 85, 3) := by decide +kernel
theorem dX5_text_24 : decode cX5_text 24 = .ok (.ireturn, 1) := by decide +kernel
theorem dX5_text_25 : decode cX5_text 25 = .ok (.aload_n 0, 1) := by decide +kernel
theorem dX5_text_26 : decode cX5_text 26 = .ok (.getfield 28, 3) := by decide +kernel
theorem dX5_text_29 : decode cX5_text 29 = .ok (.iload_n 1, 1) := by decide +kernel
theorem dX5_text_30 : decode cX5_text 30 = .ok (.iload_n 2, 1) := by decide +kernel
theorem dX5_text_31 : decode cX5_text 31 = .ok (.iastore, 1) := by decide +kernel
theorem dX5_text_32 : decode cX5_text 32 = .ok (.iconst 0, 1) := by decide +kernel
theorem dX5_text_33 : decode cX5_text 33 = .ok (.istore_n 3, 1) := by decide +kernel
theorem dX5_text_34 : decode cX5_text 34 = .ok (.iload_n 3, 1) := by decide +kernel
theorem dX5_text_35 : decode cX5_text 35 = .ok (.bipush 60, 2) := by decide +kernel
theorem dX5_text_37 : decode cX5_text 37 = .ok (.if_icmp .ge 22, 3) := by decide +kernel
theorem dX5_text_40 : decode cX5_text 40 = .ok (.aload_n 0, 1) := by decide +kernel
theorem dX5_text_41 : decode cX5_text 41 = .ok (.getfield 31, 3) := by decide +kernel
theorem dX5_text_44 : decode cX5_text 44 = .ok (.bipush 60, 2) := by decide +kernel
theorem dX5_text_46 : decode cX5_text 46 = .ok (.iload_n 1, 1) := by decide +kernel
theorem dX5_text_47 : decode cX5_text 47 = .ok (.imul, 1) := by decide +kernel
theorem dX5_text_48 : decode cX5_text 48 = .ok (.iload_n 3, 1) := by decide +kernel
theorem dX5_text_49 : decode cX5_text 49 = .ok (.iadd, 1) := by decide +kernel
theorem dX5_text_50 : decode cX5_text 50 = .ok (.bipush 32, 2) := by decide +kernel
theorem dX5_text_52 : decode cX5_text 52 = .ok (.iastore, 1) := by decide +kernel
theorem dX5_text_53 : decode cX5_text 53 = .ok (.iinc 3 1, 3) := by decide +kernel
theorem dX5_text_56 : decode cX5_text 56 = .ok (.goto (-22), 3) := by decide +kernel
theorem dX5_text_59 : decode cX5_text 59 = .ok (.iload_n 2, 1) := by decide +kernel
theorem dX5_text_60 : decode cX5_text 60 = .ok (.ireturn, 1) := by decide +kernel
set_option maxRecDepth 20000 in
theorem ggX5_put_X5_isText : GoodIn wsX5_put wsX5_isText := goodIn_r _ [6, 7, 8, 9, 5, 10] (by rfl) (by decide +kernel)
set_option maxRecDepth 20000 in
theorem gX5_put_X5_isText : GoodIn wsX5_put (va_wsS RX5 104 yX5_isText wsX5_isText) := goodIn_app (goodIn_of _ (by decide +kernel)) ggX5_put_X5_isText
set_option maxRecDepth 20000 in
theorem ggX5_put_X5_find : GoodIn wsX5_put wsX5_find := goodIn_r _ [14, 15, 16, 17, 18, 19, 20, 21, 22, 23, 24, 25, 26, 27, 28, 29, 30, 31, 32, 33, 34, 35, 36, 37, 38, 39, 40, 41, 42, 43, 44, 45, 46, 47, 48] (by rfl) (by decide +kernel)
set_option maxRecDepth 20000 in
theorem gX5_put_X5_find : GoodIn wsX5_put (wsV RX5 85 RX5 yX5_find wsX5_find) := goodIn_app (goodIn_of _ (by decide +kernel)) ggX5_put_X5_find
set_option maxRecDepth 20000 in
theorem ggX5_put_X5_in : GoodIn wsX5_put wsX5_in := goodIn_r _ [10] (by rfl) (by decide +kernel)
set_option maxRecDepth 20000 in
theorem gX5_put_X5_in : GoodIn wsX5_put (va_wsS RX5 75 yX5_in wsX5_in) := goodIn_app (goodIn_of _ (by decide +kernel)) ggX5_put_X5_in
theorem dX5_put_0 : decode cX5_put 0 = .ok (.iload_n 1, 1) := by decide +kernel
theorem dX5_put_1 : decode cX5_put 1 = .ok (.invokestatic 104, 3) := by decide +kernel
theorem dX5_put_4 : decode cX5_put 4 = .ok (.ifCond .ne 5, 3) := by decide +kernel
theorem dX5_put_7 : decode cX5_put 7 = .ok (.iconst (-1), 1) := by decide +kernel
theorem dX5_put_8 : decode cX5_put 8 = .ok (.ireturn, 1) := by decide +kernel
theorem dX5_put_9 : decode cX5_put 9 = .ok (.aload_n 0, 1) := by decide +kernel
theorem dX5_put_10 : decode cX5_put 10 = .ok (.getfield 28, 3) := by decide +kernel
theorem dX5_put_13 : decode cX5_put 13 = .ok (.iload_n 1, 1) := by decide +kernel
theorem dX5_put_14 : decode cX5_put 14 = .ok (.iaload, 1) := by decide +kernel
theorem dX5_put_15 : decode cX5_put 15 = .ok (.ifCond .ge 9, 3) := by decide +kernel
theorem dX5_put_18 : decode cX5_put 18 = .ok (.aload_n 0, 1) := by decide +kernel
theorem dX5_put_19 : decode cX5_put 19 = .ok (.iconst 1, 1) := by decide +kernel
theorem dX5_put_20 : decode cX5_put 20 = .ok (.invokevirtual 85, 3) := by decide +kernel
theorem dX5_put_23 : decode cX5_put 23 = .ok (.ireturn, 1) := by decide +kernel
theorem dX5_put_24 : decode cX5_put 24 = .ok (.iload_n 2, 1) := by decide +kernel
theorem dX5_put_25 : decode cX5_put 25 = .ok (.i2l, 1) := by decide +kernel
theorem dX5_put_26 : decode cX5_put 26 = .ok (.lconst 0, 1) := by decide +kernel
theorem dX5_put_27 : decode cX5_put 27 = .ok (.aload_n 0, 1) := by decide +kernel
theorem dX5_put_28 : decode cX5_put 28 = .ok (.getfield 28, 3) := by decide +kernel
theorem dX5_put_31 : decode cX5_put 31 = .ok (.iload_n 1, 1) := by decide +kernel
theorem dX5_put_32 : decode cX5_put 32 = .ok (.iaload, 1) := by decide +kernel
theorem dX5_put_33 : decode cX5_put 33 = .ok (.iconst 1, 1) := by decide +kernel
theorem dX5_put_34 : decode cX5_put 34 = .ok (.isub, 1) := by decide +kernel
theorem dX5_put_35 : decode cX5_put 35 = .ok (.i2l, 1) := by decide +kernel
theorem dX5_put_36 : decode cX5_put 36 = .ok (.invokestatic 75, 3) := by decide +kernel
theorem dX5_put_39 : decode cX5_put 39 = .ok (.ifCond .ne 9, 3) := by decide +kernel
theorem dX5_put_42 : decode cX5_put 42 = .ok (.aload_n 0, 1) := by decide +kernel
theorem dX5_put_43 : decode cX5_put 43 = .ok (.iconst 2, 1) := by decide +kernel
theorem dX5_put_44 : decode cX5_put 44 = .ok (.invokevirtual 85, 3) := by decide +kernel
theorem dX5_put_47 : decode cX5_put 47 = .ok (.ireturn, 1) := by decide +kernel
theorem dX5_put_48 : decode cX5_put 48 = .ok (.aload_n 0, 1) := by decide +kernel
theorem dX5_put_49 : decode cX5_put 49 = .ok (.getfield 31, 3) := by decide +kernel
theorem dX5_put_52 : decode cX5_put 52 = .ok (.bipush 60, 2) := by decide +kernel
theorem dX5_put_54 : decode cX5_put 54 = .ok (.iload_n 1, 1) := by decide +kernel
theorem dX5_put_55 : decode cX5_put 55 = .ok (.imul, 1) := by decide +kernel
theorem dX5_put_56 : decode cX5_put 56 = .ok (.iload_n 2, 1) := by decide +kernel
theorem dX5_put_57 : decode cX5_put 57 = .ok (.iadd, 1) := by decide +kernel
theorem dX5_put_58 : decode cX5_put 58 = .ok (.iaload, 1) := by decide +kernel
theorem dX5_put_59 : decode cX5_put 59 = .ok (.istore 4, 2) := by decide +kernel
theorem dX5_put_61 : decode cX5_put 61 = .ok (.aload_n 0, 1) := by decide +kernel
theorem dX5_put_62 : decode cX5_put 62 = .ok (.getfield 31, 3) := by decide +kernel
theorem dX5_put_65 : decode cX5_put 65 = .ok (.bipush 60, 2) := by decide +kernel
theorem dX5_put_67 : decode cX5_put 67 = .ok (.iload_n 1, 1) := by decide +kernel
theorem dX5_put_68 : decode cX5_put 68 = .ok (.imul, 1) := by decide +kernel
theorem dX5_put_69 : decode cX5_put 69 = .ok (.iload_n 2, 1) := by decide +kernel
theorem dX5_put_70 : decode cX5_put 70 = .ok (.iadd, 1) := by decide +kernel
theorem dX5_put_71 : decode cX5_put 71 = .ok (.iload_n 3, 1) := by decide +kernel
theorem dX5_put_72 : decode cX5_put 72 = .ok (.i2b, 1) := by decide +kernel
theorem dX5_put_73 : decode cX5_put 73 = .ok (.iastore, 1) := by decide +kernel
theorem dX5_put_74 : decode cX5_put 74 = .ok (.iload 4, 2) := by decide +kernel
theorem dX5_put_76 : decode cX5_put 76 = .ok (.sipush 1000, 3) := by decide +kernel
theorem dX5_put_79 : decode cX5_put 79 = .ok (.iadd, 1) := by decide +kernel
theorem dX5_put_80 : decode cX5_put 80 = .ok (.ireturn, 1) := by decide +kernel
theorem dX5_here_0 : decode cX5_here 0 = .ok (.aload_n 0, 1) := by decide +kernel
theorem dX5_here_1 : decode cX5_here 1 = .ok (.getfield 31, 3) := by decide +kernel
theorem dX5_here_4 : decode cX5_here 4 = .ok (.aload_n 0, 1) := by decide +kernel
theorem dX5_here_5 : decode cX5_here 5 = .ok (.getfield 107, 3) := by decide +kernel
theorem dX5_here_8 : decode cX5_here 8 = .ok (.aload_n 0, 1) := by decide +kernel
theorem dX5_here_9 : decode cX5_here 9 = .ok (.getfield 110, 3) := by decide +kernel
theorem dX5_here_12 : decode cX5_here 12 = .ok (.iadd, 1) := by decide +kernel
theorem dX5_here_13 : decode cX5_here 13 = .ok (.iaload, 1) := by decide +kernel
theorem dX5_here_14 : decode cX5_here 14 = .ok (.ireturn, 1) := by decide +kernel
set_option maxRecDepth 20000 in
theorem ggX5_skip_X5_here : GoodIn wsX5_skip wsX5_here := goodIn_r _ [7, 8, 9, 1, 10, 11, 12, 13, 14, 15, 16, 17, 18, 19, 20, 21, 22, 23, 24, 25, 26, 27, 28, 29, 30, 31, 32, 33, 34, 35, 36, 37, 38, 39, 40, 41] (by rfl) (by decide +kernel)
set_option maxRecDepth 20000 in
theorem gX5_skip_X5_here : GoodIn wsX5_skip (wsV RX5 116 RX5 yX5_here wsX5_here) := goodIn_app (goodIn_of _ (by decide +kernel)) ggX5_skip_X5_here
theorem dX5_skip_0 : decode cX5_skip 0 = .ok (.aload_n 0, 1) := by decide +kernel
theorem dX5_skip_1 : decode cX5_skip 1 = .ok (.getfield 110, 3) := by decide +kernel
theorem dX5_skip_4 : decode cX5_skip 4 = .ok (.aload_n 0, 1) := by decide +kernel
theorem dX5_skip_5 : decode cX5_skip 5 = .ok (.getfield 113, 3) := by decide +kernel
theorem dX5_skip_8 : decode cX5_skip 8 = .ok (.if_icmp .ge 25, 3) := by decide +kernel
theorem dX5_skip_11 : decode cX5_skip 11 = .ok (.aload_n 0, 1) := by decide +kernel
theorem dX5_skip_12 : decode cX5_skip 12 = .ok (.invokevirtual 116, 3) := by decide +kernel
theorem dX5_skip_15 : decode cX5_skip 15 = .ok (.bipush 32, 2) := by decide +kernel
theorem dX5_skip_17 : decode cX5_skip 17 = .ok (.if_icmp .ne 16, 3) := by decide +kernel
theorem dX5_skip_20 : decode cX5_skip 20 = .ok (.aload_n 0, 1) := by decide +kernel
theorem dX5_skip_21 : decode cX5_skip 21 = .ok (.dup, 1) := by decide +kernel
theorem dX5_skip_22 : decode cX5_skip 22 = .ok (.getfield 110, 3) := by decide +kernel
theorem dX5_skip_25 : decode cX5_skip 25 = .ok (.iconst 1, 1) := by decide +kernel
theorem dX5_skip_26 : decode cX5_skip 26 = .ok (.iadd, 1) := by decide +kernel
theorem dX5_skip_27 : decode cX5_skip 27 = .ok (.putfield 110, 3) := by decide +kernel
theorem dX5_skip_30 : decode cX5_skip 30 = .ok (.goto (-30), 3) := by decide +kernel
theorem dX5_skip_33 : decode cX5_skip 33 = .ok (.return_, 1) := by decide +kernel
set_option maxRecDepth 20000 in
theorem ggX5_figure_X5_here : GoodIn wsX5_figure wsX5_here := goodIn_r _ [9, 3, 4, 1, 13, 14, 15, 16, 17, 18, 19, 20, 21, 22, 23, 24, 25, 26, 27, 28, 29, 30, 31, 32, 33, 34, 35, 36, 37, 38, 39, 40, 41, 42, 43, 44] (by rfl) (by decide +kernel)
set_option maxRecDepth 20000 in
theorem gX5_figure_X5_here : GoodIn wsX5_figure (wsV RX5 116 RX5 yX5_here wsX5_here) := goodIn_app (goodIn_of _ (by decide +kernel)) ggX5_figure_X5_here
set_option maxRecDepth 20000 in
theorem ggX5_figure_X5_in : GoodIn wsX5_figure wsX5_in := goodIn_r _ [12] (by rfl) (by decide +kernel)
set_option maxRecDepth 20000 in
theorem gX5_figure_X5_in : GoodIn wsX5_figure (va_wsS RX5 75 yX5_in wsX5_in) := goodIn_app (goodIn_of _ (by decide +kernel)) ggX5_figure_X5_in
theorem dX5_figure_0 : decode cX5_figure 0 = .ok (.aload_n 0, 1) := by decide +kernel
theorem dX5_figure_1 : decode cX5_figure 1 = .ok (.getfield 110, 3) := by decide +kernel
theorem dX5_figure_4 : decode cX5_figure 4 = .ok (.aload_n 0, 1) := by decide +kernel
theorem dX5_figure_5 : decode cX5_figure 5 = .ok (.getfield 113, 3) := by decide +kernel
theorem dX5_figure_8 : decode cX5_figure 8 = .ok (.if_icmp .eq 24, 3) := by decide +kernel
theorem dX5_figure_11 : decode cX5_figure 11 = .ok (.aload_n 0, 1) := by decide +kernel
theorem dX5_figure_12 : decode cX5_figure 12 = .ok (.invokevirtual 116, 3) := by decide +kernel
theorem dX5_figure_15 : decode cX5_figure 15 = .ok (.i2l, 1) := by decide +kernel
theorem dX5_figure_16 : decode cX5_figure 16 = .ok (.bipush 48, 2) := by decide +kernel
theorem dX5_figure_18 : decode cX5_figure 18 = .ok (.iload_n 1, 1) := by decide +kernel
theorem dX5_figure_19 : decode cX5_figure 19 = .ok (.iadd, 1) := by decide +kernel
theorem dX5_figure_20 : decode cX5_figure 20 = .ok (.i2l, 1) := by decide +kernel
theorem dX5_figure_21 : decode cX5_figure 21 = .ok (.bipush 48, 2) := by decide +kernel
theorem dX5_figure_23 : decode cX5_figure 23 = .ok (.iload_n 2, 1) := by decide +kernel
theorem dX5_figure_24 : decode cX5_figure 24 = .ok (.iadd, 1) := by decide +kernel
theorem dX5_figure_25 : decode cX5_figure 25 = .ok (.i2l, 1) := by decide +kernel
theorem dX5_figure_26 : decode cX5_figure 26 = .ok (.invokestatic 75, 3) := by decide +kernel
theorem dX5_figure_29 : decode cX5_figure 29 = .ok (.ifCond .ne 6, 3) := by decide +kernel
theorem dX5_figure_32 : decode cX5_figure 32 = .ok (.bipush (-9), 2) := by decide +kernel
theorem dX5_figure_34 : decode cX5_figure 34 = .ok (.ireturn, 1) := by decide +kernel
theorem dX5_figure_35 : decode cX5_figure 35 = .ok (.aload_n 0, 1) := by decide +kernel
theorem dX5_figure_36 : decode cX5_figure 36 = .ok (.dup, 1) := by decide +kernel
theorem dX5_figure_37 : decode cX5_figure 37 = .ok (.getfield 110, 3) := by decide +kernel
theorem dX5_figure_40 : decode cX5_figure 40 = .ok (.iconst 1, 1) := by decide +kernel
theorem dX5_figure_41 : decode cX5_figure 41 = .ok (.iadd, 1) := by decide +kernel
theorem dX5_figure_42 : decode cX5_figure 42 = .ok (.putfield 110, 3) := by decide +kernel
theorem dX5_figure_45 : decode cX5_figure 45 = .ok (.aload_n 0, 1) := by decide +kernel
theorem dX5_figure_46 : decode cX5_figure 46 = .ok (.getfield 31, 3) := by decide +kernel
theorem dX5_figure_49 : decode cX5_figure 49 = .ok (.aload_n 0, 1) := by decide +kernel
theorem dX5_figure_50 : decode cX5_figure 50 = .ok (.getfield 107, 3) := by decide +kernel
theorem dX5_figure_53 : decode cX5_figure 53 = .ok (.aload_n 0, 1) := by decide +kernel
theorem dX5_figure_54 : decode cX5_figure 54 = .ok (.getfield 110, 3) := by decide +kernel
theorem dX5_figure_57 : decode cX5_figure 57 = .ok (.iadd, 1) := by decide +kernel
theorem dX5_figure_58 : decode cX5_figure 58 = .ok (.iconst 1, 1) := by decide +kernel
theorem dX5_figure_59 : decode cX5_figure 59 = .ok (.isub, 1) := by decide +kernel
theorem dX5_figure_60 : decode cX5_figure 60 = .ok (.iaload, 1) := by decide +kernel
theorem dX5_figure_61 : decode cX5_figure 61 = .ok (.bipush 48, 2) := by decide +kernel
theorem dX5_figure_63 : decode cX5_figure 63 = .ok (.isub, 1) := by decide +kernel
theorem dX5_figure_64 : decode cX5_figure 64 = .ok (.ireturn, 1) := by decide +kernel
set_option maxRecDepth 20000 in
theorem ggX5_readsLimit_X5_skip : GoodIn wsX5_readsLimit wsX5_skip := goodIn_r _ [8, 1, 2, 9, 10, 11, 7, 12, 13, 14, 22, 23, 24, 25, 26, 27, 28, 29, 30, 31, 32, 33, 34, 35, 36, 37, 38, 39, 40, 41, 42, 43, 44, 45, 46, 47, 48, 49, 50, 51, 52, 53] (by rfl) (by decide +kernel)
set_option maxRecDepth 20000 in
theorem gX5_readsLimit_X5_skip : GoodIn wsX5_readsLimit (wsV RX5 120 RX5 yX5_skip wsX5_skip) := goodIn_app (goodIn_of _ (by decide +kernel)) ggX5_readsLimit_X5_skip
set_option maxRecDepth 20000 in
theorem ggX5_readsLimit_X5_here : GoodIn wsX5_readsLimit wsX5_here := goodIn_r _ [12, 13, 14, 1, 22, 23, 24, 25, 26, 27, 28, 29, 30, 31, 32, 33, 34, 35, 36, 37, 38, 39, 40, 41, 42, 43, 44, 45, 46, 47, 48, 49, 50, 51, 52, 53] (by rfl) (by decide +kernel)
set_option maxRecDepth 20000 in
theorem gX5_readsLimit_X5_here : GoodIn wsX5_readsLimit (wsV RX5 116 RX5 yX5_here wsX5_here) := goodIn_app (goodIn_of _ (by decide +kernel)) ggX5_readsLimit_X5_here
set_option maxRecDepth 20000 in
theorem ggX5_readsLimit_X5_figure : GoodIn wsX5_readsLimit wsX5_figure := goodIn_r _ [18, 1, 2, 13, 14, 9, 10, 11, 7, 12, 19, 20, 21, 22, 23, 24, 25, 26, 27, 28, 29, 30, 31, 32, 33, 34, 35, 36, 37, 38, 39, 40, 41, 42, 43, 44, 45, 46, 47, 48, 49, 50, 51, 52, 53] (by rfl) (by decide +kernel)
set_option maxRecDepth 20000 in
theorem gX5_readsLimit_X5_figure : GoodIn wsX5_readsLimit (wsV RX5 123 RX5 yX5_figure wsX5_figure) := goodIn_app (goodIn_of _ (by decide +kernel)) ggX5_readsLimit_X5_figure
theorem dX5_readsLimit_0 : decode cX5_readsLimit 0 = .ok (.aload_n 0, 1) := by decide +kernel
theorem dX5_readsLimit_1 : decode cX5_readsLimit 1 = .ok (.invokevirtual 120, 3) := by decide +kernel
theorem dX5_readsLimit_4 : decode cX5_readsLimit 4 = .ok (.aload_n 0, 1) := by decide +kernel
theorem dX5_readsLimit_5 : decode cX5_readsLimit 5 = .ok (.getfield 110, 3) := by decide +kernel
theorem dX5_readsLimit_8 : decode cX5_readsLimit 8 = .ok (.aload_n 0, 1) := by decide +kernel
theorem dX5_readsLimit_9 : decode cX5_readsLimit 9 = .ok (.getfield 113, 3) := by decide +kernel
theorem dX5_readsLimit_12 : decode cX5_readsLimit 12 = .ok (.if_icmp .eq 12, 3) := by decide +kernel
theorem dX5_readsLimit_15 : decode cX5_readsLimit 15 = .ok (.aload_n 0, 1) := by decide +kernel
theorem dX5_readsLimit_16 : decode cX5_readsLimit 16 = .ok (.invokevirtual 116, 3) := by decide +kernel
theorem dX5_readsLimit_19 : decode cX5_readsLimit 19 = .ok (.bipush 120, 2) := by decide +kernel
theorem dX5_readsLimit_21 : decode cX5_readsLimit 21 = .ok (.if_icmp .eq 5, 3) := by decide +kernel
theorem dX5_readsLimit_24 : decode cX5_readsLimit 24 = .ok (.iconst 0, 1) := by decide +kernel
theorem dX5_readsLimit_25 : decode cX5_readsLimit 25 = .ok (.ireturn, 1) := by decide +kernel
theorem dX5_readsLimit_26 : decode cX5_readsLimit 26 = .ok (.aload_n 0, 1) := by decide +kernel
theorem dX5_readsLimit_27 : decode cX5_readsLimit 27 = .ok (.dup, 1) := by decide +kernel
theorem dX5_readsLimit_28 : decode cX5_readsLimit 28 = .ok (.getfield 110, 3) := by decide +kernel
theorem dX5_readsLimit_31 : decode cX5_readsLimit 31 = .ok (.iconst 1, 1) := by decide +kernel
theorem dX5_readsLimit_32 : decode cX5_readsLimit 32 = .ok (.iadd, 1) := by decide +kernel
theorem dX5_readsLimit_33 : decode cX5_readsLimit 33 = .ok (.putfield 110, 3) := by decide +kernel
theorem dX5_readsLimit_36 : decode cX5_readsLimit 36 = .ok (.aload_n 0, 1) := by decide +kernel
theorem dX5_readsLimit_37 : decode cX5_readsLimit 37 = .ok (.aload_n 0, 1) := by decide +kernel
theorem dX5_readsLimit_38 : decode cX5_readsLimit 38 = .ok (.iconst 0, 1) := by decide +kernel
theorem dX5_readsLimit_39 : decode cX5_readsLimit 39 = .ok (.bipush 9, 2) := by decide +kernel
theorem dX5_readsLimit_41 : decode cX5_readsLimit 41 = .ok (.invokevirtual 123, 3) := by decide +kernel
theorem dX5_readsLimit_44 : decode cX5_readsLimit 44 = .ok (.putfield 126, 3) := by decide +kernel
theorem dX5_readsLimit_47 : decode cX5_readsLimit 47 = .ok (.aload_n 0, 1) := by decide +kernel
theorem dX5_readsLimit_48 : decode cX5_readsLimit 48 = .ok (.getfield 126, 3) := by decide +kernel
theorem dX5_readsLimit_51 : decode cX5_readsLimit 51 = .ok (.bipush (-9), 2) := by decide +kernel
theorem dX5_readsLimit_53 : decode cX5_readsLimit 53 = .ok (.if_icmp .eq 7, 3) := by decide +kernel
theorem dX5_readsLimit_56 : decode cX5_readsLimit 56 = .ok (.iconst 1, 1) := by decide +kernel
theorem dX5_readsLimit_57 : decode cX5_readsLimit 57 = .ok (.goto 4, 3) := by decide +kernel
theorem dX5_readsLimit_60 : decode cX5_readsLimit 60 = .ok (.iconst 0, 1) := by decide +kernel
theorem dX5_readsLimit_61 : decode cX5_readsLimit 61 = .ok (.ireturn, 1) := by decide +kernel
set_option maxRecDepth 20000 in
theorem ggX5_readsStone_X5_figure : GoodIn wsX5_readsStone wsX5_figure := goodIn_r _ [9, 3, 10, 11, 12, 13, 14, 15, 8, 16, 17, 18, 19, 20, 21, 22, 23, 24, 25, 26, 27, 28, 29, 30, 31, 32, 33, 34, 35, 36, 37, 38, 39, 40, 41, 42, 43, 44, 45, 46, 47, 48, 49, 50, 51] (by rfl) (by decide +kernel)
set_option maxRecDepth 20000 in
theorem gX5_readsStone_X5_figure : GoodIn wsX5_readsStone (wsV RX5 123 RX5 yX5_figure wsX5_figure) := goodIn_app (goodIn_of _ (by decide +kernel)) ggX5_readsStone_X5_figure
theorem dX5_readsStone_0 : decode cX5_readsStone 0 = .ok (.aload_n 0, 1) := by decide +kernel
theorem dX5_readsStone_1 : decode cX5_readsStone 1 = .ok (.getfield 129, 3) := by decide +kernel
theorem dX5_readsStone_4 : decode cX5_readsStone 4 = .ok (.iconst 4, 1) := by decide +kernel
theorem dX5_readsStone_5 : decode cX5_readsStone 5 = .ok (.if_icmp .eq 10, 3) := by decide +kernel
theorem dX5_readsStone_8 : decode cX5_readsStone 8 = .ok (.aload_n 0, 1) := by decide +kernel
theorem dX5_readsStone_9 : decode cX5_readsStone 9 = .ok (.getfield 132, 3) := by decide +kernel
theorem dX5_readsStone_12 : decode cX5_readsStone 12 = .ok (.ifCond .le 5, 3) := by decide +kernel
theorem dX5_readsStone_15 : decode cX5_readsStone 15 = .ok (.iconst 0, 1) := by decide +kernel
theorem dX5_readsStone_16 : decode cX5_readsStone 16 = .ok (.ireturn, 1) := by decide +kernel
theorem dX5_readsStone_17 : decode cX5_readsStone 17 = .ok (.aload_n 0, 1) := by decide +kernel
theorem dX5_readsStone_18 : decode cX5_readsStone 18 = .ok (.dup, 1) := by decide +kernel
theorem dX5_readsStone_19 : decode cX5_readsStone 19 = .ok (.getfield 110, 3) := by decide +kernel
theorem dX5_readsStone_22 : decode cX5_readsStone 22 = .ok (.iconst 1, 1) := by decide +kernel
theorem dX5_readsStone_23 : decode cX5_readsStone 23 = .ok (.iadd, 1) := by decide +kernel
theorem dX5_readsStone_24 : decode cX5_readsStone 24 = .ok (.putfield 110, 3) := by decide +kernel
theorem dX5_readsStone_27 : decode cX5_readsStone 27 = .ok (.aload_n 0, 1) := by decide +kernel
theorem dX5_readsStone_28 : decode cX5_readsStone 28 = .ok (.iconst 1, 1) := by decide +kernel
theorem dX5_readsStone_29 : decode cX5_readsStone 29 = .ok (.bipush 9, 2) := by decide +kernel
theorem dX5_readsStone_31 : decode cX5_readsStone 31 = .ok (.invokevirtual 123, 3) := by decide +kernel
theorem dX5_readsStone_34 : decode cX5_readsStone 34 = .ok (.istore_n 1, 1) := by decide +kernel
theorem dX5_readsStone_35 : decode cX5_readsStone 35 = .ok (.iload_n 1, 1) := by decide +kernel
theorem dX5_readsStone_36 : decode cX5_readsStone 36 = .ok (.bipush (-9), 2) := by decide +kernel
theorem dX5_readsStone_38 : decode cX5_readsStone 38 = .ok (.if_icmp .ne 5, 3) := by decide +kernel
theorem dX5_readsStone_41 : decode cX5_readsStone 41 = .ok (.iconst 0, 1) := by decide +kernel
theorem dX5_readsStone_42 : decode cX5_readsStone 42 = .ok (.ireturn, 1) := by decide +kernel
theorem dX5_readsStone_43 : decode cX5_readsStone 43 = .ok (.aload_n 0, 1) := by decide +kernel
theorem dX5_readsStone_44 : decode cX5_readsStone 44 = .ok (.getfield 41, 3) := by decide +kernel
theorem dX5_readsStone_47 : decode cX5_readsStone 47 = .ok (.aload_n 0, 1) := by decide +kernel
theorem dX5_readsStone_48 : decode cX5_readsStone 48 = .ok (.getfield 129, 3) := by decide +kernel
theorem dX5_readsStone_51 : decode cX5_readsStone 51 = .ok (.iload_n 1, 1) := by decide +kernel
theorem dX5_readsStone_52 : decode cX5_readsStone 52 = .ok (.iastore, 1) := by decide +kernel
theorem dX5_readsStone_53 : decode cX5_readsStone 53 = .ok (.aload_n 0, 1) := by decide +kernel
theorem dX5_readsStone_54 : decode cX5_readsStone 54 = .ok (.dup, 1) := by decide +kernel
theorem dX5_readsStone_55 : decode cX5_readsStone 55 = .ok (.getfield 129, 3) := by decide +kernel
theorem dX5_readsStone_58 : decode cX5_readsStone 58 = .ok (.iconst 1, 1) := by decide +kernel
theorem dX5_readsStone_59 : decode cX5_readsStone 59 = .ok (.iadd, 1) := by decide +kernel
theorem dX5_readsStone_60 : decode cX5_readsStone 60 = .ok (.putfield 129, 3) := by decide +kernel
theorem dX5_readsStone_63 : decode cX5_readsStone 63 = .ok (.iconst 1, 1) := by decide +kernel
theorem dX5_readsStone_64 : decode cX5_readsStone 64 = .ok (.ireturn, 1) := by decide +kernel
theorem dX5_kindOfLetter_0 : decode cX5_kindOfLetter 0 = .ok (.iload_n 0, 1) := by decide +kernel
theorem dX5_kindOfLetter_1 : decode cX5_kindOfLetter 1 = .ok (.bipush 103, 2) := by decide +kernel
theorem dX5_kindOfLetter_3 : decode cX5_kindOfLetter 3 = .ok (.if_icmp .ne 7, 3) := by decide +kernel
theorem dX5_kindOfLetter_6 : decode cX5_kindOfLetter 6 = .ok (.iconst 0, 1) := by decide +kernel
theorem dX5_kindOfLetter_7 : decode cX5_kindOfLetter 7 = .ok (.goto 55, 3) := by decide +kernel
theorem dX5_kindOfLetter_10 : decode cX5_kindOfLetter 10 = .ok (.iload_n 0, 1) := by decide +kernel
theorem dX5_kindOfLetter_11 : decode cX5_kindOfLetter 11 = .ok (.bipush 116, 2) := by decide +kernel
theorem dX5_kindOfLetter_13 : decode cX5_kindOfLetter 13 = .ok (.if_icmp .ne 7, 3) := by decide +kernel
theorem dX5_kindOfLetter_16 : decode cX5_kindOfLetter 16 = .ok (.iconst 1, 1) := by decide +kernel
theorem dX5_kindOfLetter_17 : decode cX5_kindOfLetter 17 = .ok (.goto 45, 3) := by decide +kernel
theorem dX5_kindOfLetter_20 : decode cX5_kindOfLetter 20 = .ok (.iload_n 0, 1) := by decide +kernel
theorem dX5_kindOfLetter_21 : decode cX5_kindOfLetter 21 = .ok (.bipush 99, 2) := by decide +kernel
theorem dX5_kindOfLetter_23 : decode cX5_kindOfLetter 23 = .ok (.if_icmp .ne 7, 3) := by decide +kernel
theorem dX5_kindOfLetter_26 : decode cX5_kindOfLetter 26 = .ok (.iconst 2, 1) := by decide +kernel
theorem dX5_kindOfLetter_27 : decode cX5_kindOfLetter 27 = .ok (.goto 35, 3) := by decide +kernel
theorem dX5_kindOfLetter_30 : decode cX5_kindOfLetter 30 = .ok (.iload_n 0, 1) := by decide +kernel
theorem dX5_kindOfLetter_31 : decode cX5_kindOfLetter 31 = .ok (.bipush 108, 2) := by decide +kernel
theorem dX5_kindOfLetter_33 : decode cX5_kindOfLetter 33 = .ok (.if_icmp .ne 7, 3) := by decide +kernel
theorem dX5_kindOfLetter_36 : decode cX5_kindOfLetter 36 = .ok (.iconst 3, 1) := by decide +kernel
theorem dX5_kindOfLetter_37 : decode cX5_kindOfLetter 37 = .ok (.goto 25, 3) := by decide +kernel
theorem dX5_kindOfLetter_40 : decode cX5_kindOfLetter 40 = .ok (.iload_n 0, 1) := by decide +kernel
theorem dX5_kindOfLetter_41 : decode cX5_kindOfLetter 41 = .ok (.bipush 110, 2) := by decide +kernel
theorem dX5_kindOfLetter_43 : decode cX5_kindOfLetter 43 = .ok (.if_icmp .ne 7, 3) := by decide +kernel
theorem dX5_kindOfLetter_46 : decode cX5_kindOfLetter 46 = .ok (.iconst 4, 1) := by decide +kernel
theorem dX5_kindOfLetter_47 : decode cX5_kindOfLetter 47 = .ok (.goto 15, 3) := by decide +kernel
theorem dX5_kindOfLetter_50 : decode cX5_kindOfLetter 50 = .ok (.iload_n 0, 1) := by decide +kernel
theorem dX5_kindOfLetter_51 : decode cX5_kindOfLetter 51 = .ok (.bipush 98, 2) := by decide +kernel
theorem dX5_kindOfLetter_53 : decode cX5_kindOfLetter 53 = .ok (.if_icmp .ne 7, 3) := by decide +kernel
theorem dX5_kindOfLetter_56 : decode cX5_kindOfLetter 56 = .ok (.iconst 5, 1) := by decide +kernel
theorem dX5_kindOfLetter_57 : decode cX5_kindOfLetter 57 = .ok (.goto 5, 3) := by decide +kernel
theorem dX5_kindOfLetter_60 : decode cX5_kindOfLetter 60 = .ok (.bipush (-9), 2) := by decide +kernel
theorem dX5_kindOfLetter_62 : decode cX5_kindOfLetter 62 = .ok (.ireturn, 1) := by decide +kernel
set_option maxRecDepth 20000 in
theorem ggX5_readsOne_X5_here : GoodIn wsX5_readsOne wsX5_here := goodIn_r _ [8, 9, 10, 2, 22, 23, 24, 25, 26, 27, 28, 29, 30, 31, 32, 33, 34, 35, 36, 37, 38, 39, 40, 41, 42, 43, 44, 45, 46, 47, 48, 49, 50, 51, 52, 53] (by rfl) (by decide +kernel)
set_option maxRecDepth 20000 in
theorem gX5_readsOne_X5_here : GoodIn wsX5_readsOne (wsV RX5 116 RX5 yX5_here wsX5_here) := goodIn_app (goodIn_of _ (by decide +kernel)) ggX5_readsOne_X5_here
set_option maxRecDepth 20000 in
theorem ggX5_readsOne_X5_kindOfLetter : GoodIn wsX5_readsOne wsX5_kindOfLetter := goodIn_r _ [13] (by rfl) (by decide +kernel)
set_option maxRecDepth 20000 in
theorem gX5_readsOne_X5_kindOfLetter : GoodIn wsX5_readsOne (va_wsS RX5 135 yX5_kindOfLetter wsX5_kindOfLetter) := goodIn_app (goodIn_of _ (by decide +kernel)) ggX5_readsOne_X5_kindOfLetter
set_option maxRecDepth 20000 in
theorem ggX5_readsOne_X5_figure : GoodIn wsX5_readsOne wsX5_figure := goodIn_r _ [17, 2, 18, 9, 10, 4, 5, 6, 7, 8, 19, 20, 21, 22, 23, 24, 25, 26, 27, 28, 29, 30, 31, 32, 33, 34, 35, 36, 37, 38, 39, 40, 41, 42, 43, 44, 45, 46, 47, 48, 49, 50, 51, 52, 53] (by rfl) (by decide +kernel)
set_option maxRecDepth 20000 in
theorem gX5_readsOne_X5_figure : GoodIn wsX5_readsOne (wsV RX5 123 RX5 yX5_figure wsX5_figure) := goodIn_app (goodIn_of _ (by decide +kernel)) ggX5_readsOne_X5_figure
theorem dX5_readsOne_0 : decode cX5_readsOne 0 = .ok (.aload_n 0, 1) := by decide +kernel
theorem dX5_readsOne_1 : decode cX5_readsOne 1 = .ok (.invokevirtual 116, 3) := by decide +kernel
theorem dX5_readsOne_4 : decode cX5_readsOne 4 = .ok (.invokestatic 135, 3) := by decide +kernel
theorem dX5_readsOne_7 : decode cX5_readsOne 7 = .ok (.istore_n 1, 1) := by decide +kernel
theorem dX5_readsOne_8 : decode cX5_readsOne 8 = .ok (.iload_n 1, 1) := by decide +kernel
theorem dX5_readsOne_9 : decode cX5_readsOne 9 = .ok (.bipush (-9), 2) := by decide +kernel
theorem dX5_readsOne_11 : decode cX5_readsOne 11 = .ok (.if_icmp .eq 12, 3) := by decide +kernel
theorem dX5_readsOne_14 : decode cX5_readsOne 14 = .ok (.aload_n 0, 1) := by decide +kernel
theorem dX5_readsOne_15 : decode cX5_readsOne 15 = .ok (.getfield 132, 3) := by decide +kernel
theorem dX5_readsOne_18 : decode cX5_readsOne 18 = .ok (.bipush 6, 2) := by decide +kernel
theorem dX5_readsOne_20 : decode cX5_readsOne 20 = .ok (.if_icmp .ne 5, 3) := by decide +kernel
theorem dX5_readsOne_23 : decode cX5_readsOne 23 = .ok (.iconst 0, 1) := by decide +kernel
theorem dX5_readsOne_24 : decode cX5_readsOne 24 = .ok (.ireturn, 1) := by decide +kernel
theorem dX5_readsOne_25 : decode cX5_readsOne 25 = .ok (.aload_n 0, 1) := by decide +kernel
theorem dX5_readsOne_26 : decode cX5_readsOne 26 = .ok (.dup, 1) := by decide +kernel
theorem dX5_readsOne_27 : decode cX5_readsOne 27 = .ok (.getfield 110, 3) := by decide +kernel
theorem dX5_readsOne_30 : decode cX5_readsOne 30 = .ok (.iconst 1, 1) := by decide +kernel
theorem dX5_readsOne_31 : decode cX5_readsOne 31 = .ok (.iadd, 1) := by decide +kernel
theorem dX5_readsOne_32 : decode cX5_readsOne 32 = .ok (.putfield 110, 3) := by decide +kernel
theorem dX5_readsOne_35 : decode cX5_readsOne 35 = .ok (.aload_n 0, 1) := by decide +kernel
theorem dX5_readsOne_36 : decode cX5_readsOne 36 = .ok (.iconst 0, 1) := by decide +kernel
theorem dX5_readsOne_37 : decode cX5_readsOne 37 = .ok (.bipush 9, 2) := by decide +kernel
theorem dX5_readsOne_39 : decode cX5_readsOne 39 = .ok (.invokevirtual 123, 3) := by decide +kernel
theorem dX5_readsOne_42 : decode cX5_readsOne 42 = .ok (.istore_n 2, 1) := by decide +kernel
theorem dX5_readsOne_43 : decode cX5_readsOne 43 = .ok (.iload_n 2, 1) := by decide +kernel
theorem dX5_readsOne_44 : decode cX5_readsOne 44 = .ok (.bipush (-9), 2) := by decide +kernel
theorem dX5_readsOne_46 : decode cX5_readsOne 46 = .ok (.if_icmp .ne 8, 3) := by decide +kernel
theorem dX5_readsOne_49 : decode cX5_readsOne 49 = .ok (.bipush (-9), 2) := by decide +kernel
theorem dX5_readsOne_51 : decode cX5_readsOne 51 = .ok (.goto 18, 3) := by decide +kernel
theorem dX5_readsOne_54 : decode cX5_readsOne 54 = .ok (.aload_n 0, 1) := by decide +kernel
theorem dX5_readsOne_55 : decode cX5_readsOne 55 = .ok (.iload_n 2, 1) := by decide +kernel
theorem dX5_readsOne_56 : decode cX5_readsOne 56 = .ok (.ifCond .ne 7, 3) := by decide +kernel
theorem dX5_readsOne_59 : decode cX5_readsOne 59 = .ok (.iconst 1, 1) := by decide +kernel
theorem dX5_readsOne_60 : decode cX5_readsOne 60 = .ok (.goto 4, 3) := by decide +kernel
theorem dX5_readsOne_63 : decode cX5_readsOne 63 = .ok (.iconst 0, 1) := by decide +kernel
theorem dX5_readsOne_64 : decode cX5_readsOne 64 = .ok (.bipush 9, 2) := by decide +kernel
theorem dX5_readsOne_66 : decode cX5_readsOne 66 = .ok (.invokevirtual 123, 3) := by decide +kernel
theorem dX5_readsOne_69 : decode cX5_readsOne 69 = .ok (.istore_n 3, 1) := by decide +kernel
theorem dX5_readsOne_70 : decode cX5_readsOne 70 = .ok (.iload_n 3, 1) := by decide +kernel
theorem dX5_readsOne_71 : decode cX5_readsOne 71 = .ok (.bipush (-9), 2) := by decide +kernel
theorem dX5_readsOne_73 : decode cX5_readsOne 73 = .ok (.if_icmp .ne 5, 3) := by decide +kernel
theorem dX5_readsOne_76 : decode cX5_readsOne 76 = .ok (.iconst 0, 1) := by decide +kernel
theorem dX5_readsOne_77 : decode cX5_readsOne 77 = .ok (.ireturn, 1) := by decide +kernel
theorem dX5_readsOne_78 : decode cX5_readsOne 78 = .ok (.aload_n 0, 1) := by decide +kernel
theorem dX5_readsOne_79 : decode cX5_readsOne 79 = .ok (.getfield 44, 3) := by decide +kernel
theorem dX5_readsOne_82 : decode cX5_readsOne 82 = .ok (.iconst 2, 1) := by decide +kernel
theorem dX5_readsOne_83 : decode cX5_readsOne 83 = .ok (.aload_n 0, 1) := by decide +kernel
theorem dX5_readsOne_84 : decode cX5_readsOne 84 = .ok (.getfield 132, 3) := by decide +kernel
theorem dX5_readsOne_87 : decode cX5_readsOne 87 = .ok (.imul, 1) := by decide +kernel
theorem dX5_readsOne_88 : decode cX5_readsOne 88 = .ok (.iload_n 1, 1) := by decide +kernel
theorem dX5_readsOne_89 : decode cX5_readsOne 89 = .ok (.iastore, 1) := by decide +kernel
theorem dX5_readsOne_90 : decode cX5_readsOne 90 = .ok (.aload_n 0, 1) := by decide +kernel
theorem dX5_readsOne_91 : decode cX5_readsOne 91 = .ok (.getfield 44, 3) := by decide +kernel
theorem dX5_readsOne_94 : decode cX5_readsOne 94 = .ok (.iconst 2, 1) := by decide +kernel
theorem dX5_readsOne_95 : decode cX5_readsOne 95 = .ok (.aload_n 0, 1) := by decide +kernel
theorem dX5_readsOne_96 : decode cX5_readsOne 96 = .ok (.getfield 132, 3) := by decide +kernel
theorem dX5_readsOne_99 : decode cX5_readsOne 99 = .ok (.imul, 1) := by decide +kernel
theorem dX5_readsOne_100 : decode cX5_readsOne 100 = .ok (.iconst 1, 1) := by decide +kernel
theorem dX5_readsOne_101 : decode cX5_readsOne 101 = .ok (.iadd, 1) := by decide +kernel
theorem dX5_readsOne_102 : decode cX5_readsOne 102 = .ok (.bipush 10, 2) := by decide +kernel
theorem dX5_readsOne_104 : decode cX5_readsOne 104 = .ok (.iload_n 2, 1) := by decide +kernel
theorem dX5_readsOne_105 : decode cX5_readsOne 105 = .ok (.imul, 1) := by decide +kernel
theorem dX5_readsOne_106 : decode cX5_readsOne 106 = .ok (.iload_n 3, 1) := by decide +kernel
theorem dX5_readsOne_107 : decode cX5_readsOne 107 = .ok (.iadd, 1) := by decide +kernel
theorem dX5_readsOne_108 : decode cX5_readsOne 108 = .ok (.iastore, 1) := by decide +kernel
theorem dX5_readsOne_109 : decode cX5_readsOne 109 = .ok (.aload_n 0, 1) := by decide +kernel
theorem dX5_readsOne_110 : decode cX5_readsOne 110 = .ok (.dup, 1) := by decide +kernel
theorem dX5_readsOne_111 : decode cX5_readsOne 111 = .ok (.getfield 132, 3) := by decide +kernel
theorem dX5_readsOne_114 : decode cX5_readsOne 114 = .ok (.iconst 1, 1) := by decide +kernel
theorem dX5_readsOne_115 : decode cX5_readsOne 115 = .ok (.iadd, 1) := by decide +kernel
theorem dX5_readsOne_116 : decode cX5_readsOne 116 = .ok (.putfield 132, 3) := by decide +kernel
theorem dX5_readsOne_119 : decode cX5_readsOne 119 = .ok (.iconst 1, 1) := by decide +kernel
theorem dX5_readsOne_120 : decode cX5_readsOne 120 = .ok (.ireturn, 1) := by decide +kernel
set_option maxRecDepth 20000 in
theorem ggX5_faultOf_X5_readsLimit : GoodIn wsX5_faultOf wsX5_readsLimit := goodIn_r _ [11, 2, 4, 12, 13, 14, 15, 10, 16, 17, 18, 19, 20, 21, 1, 22, 23, 24, 25, 26, 27, 28, 42, 43, 44, 45, 46, 47, 48, 49, 50, 51, 52, 53, 54, 55, 56, 57, 58, 59, 60, 61, 62, 63, 64, 65, 66, 67, 68, 69, 70, 71, 72, 73] (by rfl) (by decide +kernel)
set_option maxRecDepth 20000 in
theorem gX5_faultOf_X5_readsLimit : GoodIn wsX5_faultOf (wsV RX5 138 RX5 yX5_readsLimit wsX5_readsLimit) := goodIn_app (goodIn_of _ (by decide +kernel)) ggX5_faultOf_X5_readsLimit
set_option maxRecDepth 20000 in
theorem ggX5_faultOf_X5_skip : GoodIn wsX5_faultOf wsX5_skip := goodIn_r _ [16, 2, 4, 17, 18, 19, 10, 20, 21, 1, 42, 43, 44, 45, 46, 47, 48, 49, 50, 51, 52, 53, 54, 55, 56, 57, 58, 59, 60, 61, 62, 63, 64, 65, 66, 67, 68, 69, 70, 71, 72, 73] (by rfl) (by decide +kernel)
set_option maxRecDepth 20000 in
theorem gX5_faultOf_X5_skip : GoodIn wsX5_faultOf (wsV RX5 120 RX5 yX5_skip wsX5_skip) := goodIn_app (goodIn_of _ (by decide +kernel)) ggX5_faultOf_X5_skip
set_option maxRecDepth 20000 in
theorem ggX5_faultOf_X5_here : GoodIn wsX5_faultOf wsX5_here := goodIn_r _ [20, 21, 1, 2, 42, 43, 44, 45, 46, 47, 48, 49, 50, 51, 52, 53, 54, 55, 56, 57, 58, 59, 60, 61, 62, 63, 64, 65, 66, 67, 68, 69, 70, 71, 72, 73] (by rfl) (by decide +kernel)
set_option maxRecDepth 20000 in
theorem gX5_faultOf_X5_here : GoodIn wsX5_faultOf (wsV RX5 116 RX5 yX5_here wsX5_here) := goodIn_app (goodIn_of _ (by decide +kernel)) ggX5_faultOf_X5_here
set_option maxRecDepth 20000 in
theorem ggX5_faultOf_X5_readsStone : GoodIn wsX5_faultOf wsX5_readsStone := goodIn_r _ [32, 5, 6, 2, 33, 22, 23, 24, 10, 25, 4, 21, 1, 17, 18, 19, 20, 26, 27, 28, 42, 43, 44, 45, 46, 47, 48, 49, 50, 51, 52, 53, 54, 55, 56, 57, 58, 59, 60, 61, 62, 63, 64, 65, 66, 67, 68, 69, 70, 71, 72, 73] (by rfl) (by decide +kernel)
set_option maxRecDepth 20000 in
theorem gX5_faultOf_X5_readsStone : GoodIn wsX5_faultOf (wsV RX5 142 RX5 yX5_readsStone wsX5_readsStone) := goodIn_app (goodIn_of _ (by decide +kernel)) ggX5_faultOf_X5_readsStone
set_option maxRecDepth 20000 in
theorem ggX5_faultOf_X5_readsOne : GoodIn wsX5_faultOf wsX5_readsOne := goodIn_r _ [37, 6, 2, 38, 17, 18, 19, 10, 20, 21, 1, 39, 40, 41, 22, 23, 24, 25, 4, 26, 27, 28, 42, 43, 44, 45, 46, 47, 48, 49, 50, 51, 52, 53, 54, 55, 56, 57, 58, 59, 60, 61, 62, 63, 64, 65, 66, 67, 68, 69, 70, 71, 72, 73] (by rfl) (by decide +kernel)
set_option maxRecDepth 20000 in
theorem gX5_faultOf_X5_readsOne : GoodIn wsX5_faultOf (wsV RX5 145 RX5 yX5_readsOne wsX5_readsOne) := goodIn_app (goodIn_of _ (by decide +kernel)) ggX5_faultOf_X5_readsOne
theorem dX5_faultOf_0 : decode cX5_faultOf 0 = .ok (.aload_n 0, 1) := by decide +kernel
theorem dX5_faultOf_1 : decode cX5_faultOf 1 = .ok (.bipush 60, 2) := by decide +kernel
theorem dX5_faultOf_3 : decode cX5_faultOf 3 = .ok (.iload_n 1, 1) := by decide +kernel
theorem dX5_faultOf_4 : decode cX5_faultOf 4 = .ok (.imul, 1) := by decide +kernel
theorem dX5_faultOf_5 : decode cX5_faultOf 5 = .ok (.putfield 107, 3) := by decide +kernel
theorem dX5_faultOf_8 : decode cX5_faultOf 8 = .ok (.aload_n 0, 1) := by decide +kernel
theorem dX5_faultOf_9 : decode cX5_faultOf 9 = .ok (.iconst 0, 1) := by decide +kernel
theorem dX5_faultOf_10 : decode cX5_faultOf 10 = .ok (.putfield 110, 3) := by decide +kernel
theorem dX5_faultOf_13 : decode cX5_faultOf 13 = .ok (.aload_n 0, 1) := by decide +kernel
theorem dX5_faultOf_14 : decode cX5_faultOf 14 = .ok (.aload_n 0, 1) := by decide +kernel
theorem dX5_faultOf_15 : decode cX5_faultOf 15 = .ok (.getfield 28, 3) := by decide +kernel
theorem dX5_faultOf_18 : decode cX5_faultOf 18 = .ok (.iload_n 1, 1) := by decide +kernel
theorem dX5_faultOf_19 : decode cX5_faultOf 19 = .ok (.iaload, 1) := by decide +kernel
theorem dX5_faultOf_20 : decode cX5_faultOf 20 = .ok (.putfield 113, 3) := by decide +kernel
theorem dX5_faultOf_23 : decode cX5_faultOf 23 = .ok (.aload_n 0, 1) := by decide +kernel
theorem dX5_faultOf_24 : decode cX5_faultOf 24 = .ok (.iconst 0, 1) := by decide +kernel
theorem dX5_faultOf_25 : decode cX5_faultOf 25 = .ok (.putfield 129, 3) := by decide +kernel
theorem dX5_faultOf_28 : decode cX5_faultOf 28 = .ok (.aload_n 0, 1) := by decide +kernel
theorem dX5_faultOf_29 : decode cX5_faultOf 29 = .ok (.iconst 0, 1) := by decide +kernel
theorem dX5_faultOf_30 : decode cX5_faultOf 30 = .ok (.putfield 132, 3) := by decide +kernel
theorem dX5_faultOf_33 : decode cX5_faultOf 33 = .ok (.aload_n 0, 1) := by decide +kernel
theorem dX5_faultOf_34 : decode cX5_faultOf 34 = .ok (.invokevirtual 138, 3) := by decide +kernel
theorem dX5_faultOf_37 : decode cX5_faultOf 37 = .ok (.istore_n 2, 1) := by decide +kernel
theorem dX5_faultOf_38 : decode cX5_faultOf 38 = .ok (.iload_n 2, 1) := by decide +kernel
theorem dX5_faultOf_39 : decode cX5_faultOf 39 = .ok (.ifCond .eq 7, 3) := by decide +kernel
theorem dX5_faultOf_42 : decode cX5_faultOf 42 = .ok (.aload_n 0, 1) := by decide +kernel
theorem dX5_faultOf_43 : decode cX5_faultOf 43 = .ok (.invokevirtual 120, 3) := by decide +kernel
theorem dX5_faultOf_46 : decode cX5_faultOf 46 = .ok (.iload_n 2, 1) := by decide +kernel
theorem dX5_faultOf_47 : decode cX5_faultOf 47 = .ok (.ifCond .eq 46, 3) := by decide +kernel
theorem dX5_faultOf_50 : decode cX5_faultOf 50 = .ok (.aload_n 0, 1) := by decide +kernel
theorem dX5_faultOf_51 : decode cX5_faultOf 51 = .ok (.getfield 110, 3) := by decide +kernel
theorem dX5_faultOf_54 : decode cX5_faultOf 54 = .ok (.aload_n 0, 1) := by decide +kernel
theorem dX5_faultOf_55 : decode cX5_faultOf 55 = .ok (.getfield 113, 3) := by decide +kernel
theorem dX5_faultOf_58 : decode cX5_faultOf 58 = .ok (.if_icmp .ge 35, 3) := by decide +kernel
theorem dX5_faultOf_61 : decode cX5_faultOf 61 = .ok (.aload_n 0, 1) := by decide +kernel
theorem dX5_faultOf_62 : decode cX5_faultOf 62 = .ok (.invokevirtual 116, 3) := by decide +kernel
theorem dX5_faultOf_65 : decode cX5_faultOf 65 = .ok (.bipush 111, 2) := by decide +kernel
theorem dX5_faultOf_67 : decode cX5_faultOf 67 = .ok (.if_icmp .ne 10, 3) := by decide +kernel
theorem dX5_faultOf_70 : decode cX5_faultOf 70 = .ok (.aload_n 0, 1) := by decide +kernel
theorem dX5_faultOf_71 : decode cX5_faultOf 71 = .ok (.invokevirtual 142, 3) := by decide +kernel
theorem dX5_faultOf_74 : decode cX5_faultOf 74 = .ok (.goto 7, 3) := by decide +kernel
theorem dX5_faultOf_77 : decode cX5_faultOf 77 = .ok (.aload_n 0, 1) := by decide +kernel
theorem dX5_faultOf_78 : decode cX5_faultOf 78 = .ok (.invokevirtual 145, 3) := by decide +kernel
theorem dX5_faultOf_81 : decode cX5_faultOf 81 = .ok (.istore_n 2, 1) := by decide +kernel
theorem dX5_faultOf_82 : decode cX5_faultOf 82 = .ok (.iload_n 2, 1) := by decide +kernel
theorem dX5_faultOf_83 : decode cX5_faultOf 83 = .ok (.ifCond .eq (-37), 3) := by decide +kernel
theorem dX5_faultOf_86 : decode cX5_faultOf 86 = .ok (.aload_n 0, 1) := by decide +kernel
theorem dX5_faultOf_87 : decode cX5_faultOf 87 = .ok (.invokevirtual 120, 3) := by decide +kernel
theorem dX5_faultOf_90 : decode cX5_faultOf 90 = .ok (.goto (-44), 3) := by decide +kernel
theorem dX5_faultOf_93 : decode cX5_faultOf 93 = .ok (.iload_n 2, 1) := by decide +kernel
theorem dX5_faultOf_94 : decode cX5_faultOf 94 = .ok (.ifCond .eq 16, 3) := by decide +kernel
theorem dX5_faultOf_97 : decode cX5_faultOf 97 = .ok (.aload_n 0, 1) := by decide +kernel
theorem dX5_faultOf_98 : decode cX5_faultOf 98 = .ok (.getfield 132, 3) := by decide +kernel
theorem dX5_faultOf_101 : decode cX5_faultOf 101 = .ok (.iconst 1, 1) := by decide +kernel
theorem dX5_faultOf_102 : decode cX5_faultOf 102 = .ok (.if_icmp .le 8, 3) := by decide +kernel
theorem dX5_faultOf_105 : decode cX5_faultOf 105 = .ok (.bipush (-9), 2) := by decide +kernel
theorem dX5_faultOf_107 : decode cX5_faultOf 107 = .ok (.goto 7, 3) := by decide +kernel
theorem dX5_faultOf_110 : decode cX5_faultOf 110 = .ok (.aload_n 0, 1) := by decide +kernel
theorem dX5_faultOf_111 : decode cX5_faultOf 111 = .ok (.getfield 110, 3) := by decide +kernel
theorem dX5_faultOf_114 : decode cX5_faultOf 114 = .ok (.ireturn, 1) := by decide +kernel
set_option maxRecDepth 20000 in
theorem ggX5_fault_X5_isText : GoodIn wsX5_fault wsX5_isText := goodIn_r _ [5, 6, 7, 8, 4, 9] (by rfl) (by decide +kernel)
set_option maxRecDepth 20000 in
theorem gX5_fault_X5_isText : GoodIn wsX5_fault (va_wsS RX5 104 yX5_isText wsX5_isText) := goodIn_app (goodIn_of _ (by decide +kernel)) ggX5_fault_X5_isText
set_option maxRecDepth 20000 in
theorem ggX5_fault_X5_find : GoodIn wsX5_fault wsX5_find := goodIn_r _ [13, 14, 15, 56, 57, 58, 59, 60, 61, 62, 63, 64, 65, 66, 67, 68, 69, 70, 71, 72, 73, 74, 75, 76, 77, 78, 79, 80, 81, 82, 83, 84, 85, 86, 87] (by rfl) (by decide +kernel)
set_option maxRecDepth 20000 in
theorem gX5_fault_X5_find : GoodIn wsX5_fault (wsV RX5 85 RX5 yX5_find wsX5_find) := goodIn_app (goodIn_of _ (by decide +kernel)) ggX5_fault_X5_find
set_option maxRecDepth 20000 in
theorem ggX5_fault_X5_faultOf : GoodIn wsX5_fault wsX5_faultOf := goodIn_r _ [19, 20, 21, 1, 22, 23, 24, 25, 26, 27, 4, 28, 29, 30, 31, 32, 33, 34, 35, 36, 37, 38, 39, 40, 41, 42, 7, 8, 9, 43, 44, 45, 46, 47, 48, 49, 50, 51, 52, 53, 54, 55, 56, 57, 58, 59, 60, 61, 62, 63, 64, 65, 66, 67, 68, 69, 70, 71, 72, 73, 74, 75, 76, 77, 78, 79, 80, 81, 82, 83, 84, 85, 86, 87] (by rfl) (by decide +kernel)
set_option maxRecDepth 20000 in
theorem gX5_fault_X5_faultOf : GoodIn wsX5_fault (wsV RX5 148 RX5 yX5_faultOf wsX5_faultOf) := goodIn_app (goodIn_of _ (by decide +kernel)) ggX5_fault_X5_faultOf
theorem dX5_fault_0 : decode cX5_fault 0 = .ok (.iload_n 1, 1) := by decide +kernel
theorem dX5_fault_1 : decode cX5_fault 1 = .ok (.invokestatic 104, 3) := by decide +kernel
theorem dX5_fault_4 : decode cX5_fault 4 = .ok (.ifCond .ne 5, 3) := by decide +kernel
theorem dX5_fault_7 : decode cX5_fault 7 = .ok (.iconst (-1), 1) := by decide +kernel
theorem dX5_fault_8 : decode cX5_fault 8 = .ok (.ireturn, 1) := by decide +kernel
theorem dX5_fault_9 : decode cX5_fault 9 = .ok (.aload_n 0, 1) := by decide +kernel
theorem dX5_fault_10 : decode cX5_fault 10 = .ok (.getfield 28, 3) := by decide +kernel
theorem dX5_fault_13 : decode cX5_fault 13 = .ok (.iload_n 1, 1) := by decide +kernel
theorem dX5_fault_14 : decode cX5_fault 14 = .ok (.iaload, 1) := by decide +kernel
theorem dX5_fault_15 : decode cX5_fault 15 = .ok (.ifCond .ge 11, 3) := by decide +kernel
theorem dX5_fault_18 : decode cX5_fault 18 = .ok (.aload_n 0, 1) := by decide +kernel
theorem dX5_fault_19 : decode cX5_fault 19 = .ok (.iconst 1, 1) := by decide +kernel
theorem dX5_fault_20 : decode cX5_fault 20 = .ok (.invokevirtual 85, 3) := by decide +kernel
theorem dX5_fault_23 : decode cX5_fault 23 = .ok (.goto 8, 3) := by decide +kernel
theorem dX5_fault_26 : decode cX5_fault 26 = .ok (.aload_n 0, 1) := by decide +kernel
theorem dX5_fault_27 : decode cX5_fault 27 = .ok (.iload_n 1, 1) := by decide +kernel
theorem dX5_fault_28 : decode cX5_fault 28 = .ok (.invokevirtual 148, 3) := by decide +kernel
theorem dX5_fault_31 : decode cX5_fault 31 = .ok (.ireturn, 1) := by decide +kernel
set_option maxRecDepth 20000 in
theorem ggX5_tower_X5_isText : GoodIn wsX5_tower wsX5_isText := goodIn_r _ [17, 18, 19, 20, 16, 21] (by rfl) (by decide +kernel)
set_option maxRecDepth 20000 in
theorem gX5_tower_X5_isText : GoodIn wsX5_tower (va_wsS RX5 104 yX5_isText wsX5_isText) := goodIn_app (goodIn_of _ (by decide +kernel)) ggX5_tower_X5_isText
set_option maxRecDepth 20000 in
theorem ggX5_tower_X5_find : GoodIn wsX5_tower wsX5_find := goodIn_r _ [25, 26, 27, 63, 64, 65, 66, 67, 68, 69, 70, 71, 72, 73, 74, 75, 76, 77, 78, 79, 80, 81, 82, 83, 84, 85, 86, 87, 88, 89, 90, 91, 92, 93, 94] (by rfl) (by decide +kernel)
set_option maxRecDepth 20000 in
theorem gX5_tower_X5_find : GoodIn wsX5_tower (wsV RX5 85 RX5 yX5_find wsX5_find) := goodIn_app (goodIn_of _ (by decide +kernel)) ggX5_tower_X5_find
set_option maxRecDepth 20000 in
theorem ggX5_tower_X5_faultOf : GoodIn wsX5_tower wsX5_faultOf := goodIn_r _ [31, 32, 33, 1, 34, 5, 7, 35, 36, 37, 16, 38, 3, 39, 40, 41, 42, 43, 44, 45, 46, 47, 48, 49, 50, 51, 19, 20, 21, 52, 53, 54, 55, 10, 56, 57, 58, 59, 12, 60, 61, 62, 63, 64, 65, 66, 67, 68, 69, 70, 71, 72, 73, 74, 75, 76, 77, 78, 79, 80, 81, 82, 83, 84, 85, 86, 87, 88, 89, 90, 91, 92, 93, 94] (by rfl) (by decide +kernel)
set_option maxRecDepth 20000 in
theorem gX5_tower_X5_faultOf : GoodIn wsX5_tower (wsV RX5 148 RX5 yX5_faultOf wsX5_faultOf) := goodIn_app (goodIn_of _ (by decide +kernel)) ggX5_tower_X5_faultOf
theorem dX5_tower_0 : decode cX5_tower 0 = .ok (.iload_n 1, 1) := by decide +kernel
theorem dX5_tower_1 : decode cX5_tower 1 = .ok (.invokestatic 104, 3) := by decide +kernel
theorem dX5_tower_4 : decode cX5_tower 4 = .ok (.ifCond .ne 5, 3) := by decide +kernel
theorem dX5_tower_7 : decode cX5_tower 7 = .ok (.iconst (-1), 1) := by decide +kernel
theorem dX5_tower_8 : decode cX5_tower 8 = .ok (.ireturn, 1) := by decide +kernel
theorem dX5_tower_9 : decode cX5_tower 9 = .ok (.aload_n 0, 1) := by decide +kernel
theorem dX5_tower_10 : decode cX5_tower 10 = .ok (.getfield 28, 3) := by decide +kernel
theorem dX5_tower_13 : decode cX5_tower 13 = .ok (.iload_n 1, 1) := by decide +kernel
theorem dX5_tower_14 : decode cX5_tower 14 = .ok (.iaload, 1) := by decide +kernel
theorem dX5_tower_15 : decode cX5_tower 15 = .ok (.ifCond .ge 9, 3) := by decide +kernel
theorem dX5_tower_18 : decode cX5_tower 18 = .ok (.aload_n 0, 1) := by decide +kernel
theorem dX5_tower_19 : decode cX5_tower 19 = .ok (.iconst 1, 1) := by decide +kernel
theorem dX5_tower_20 : decode cX5_tower 20 = .ok (.invokevirtual 85, 3) := by decide +kernel
theorem dX5_tower_23 : decode cX5_tower 23 = .ok (.ireturn, 1) := by decide +kernel
theorem dX5_tower_24 : decode cX5_tower 24 = .ok (.aload_n 0, 1) := by decide +kernel
theorem dX5_tower_25 : decode cX5_tower 25 = .ok (.iload_n 1, 1) := by decide +kernel
theorem dX5_tower_26 : decode cX5_tower 26 = .ok (.invokevirtual 148, 3) := by decide +kernel
theorem dX5_tower_29 : decode cX5_tower 29 = .ok (.bipush (-9), 2) := by decide +kernel
theorem dX5_tower_31 : decode cX5_tower 31 = .ok (.if_icmp .eq 6, 3) := by decide +kernel
theorem dX5_tower_34 : decode cX5_tower 34 = .ok (.bipush (-4), 2) := by decide +kernel
theorem dX5_tower_36 : decode cX5_tower 36 = .ok (.ireturn, 1) := by decide +kernel
theorem dX5_tower_37 : decode cX5_tower 37 = .ok (.iconst 0, 1) := by decide +kernel
theorem dX5_tower_38 : decode cX5_tower 38 = .ok (.istore_n 2, 1) := by decide +kernel
theorem dX5_tower_39 : decode cX5_tower 39 = .ok (.iload_n 2, 1) := by decide +kernel
theorem dX5_tower_40 : decode cX5_tower 40 = .ok (.sipush 165, 3) := by decide +kernel
theorem dX5_tower_43 : decode cX5_tower 43 = .ok (.if_icmp .ge 16, 3) := by decide +kernel
theorem dX5_tower_46 : decode cX5_tower 46 = .ok (.aload_n 0, 1) := by decide +kernel
theorem dX5_tower_47 : decode cX5_tower 47 = .ok (.getfield 7, 3) := by decide +kernel
theorem dX5_tower_50 : decode cX5_tower 50 = .ok (.iload_n 2, 1) := by decide +kernel
theorem dX5_tower_51 : decode cX5_tower 51 = .ok (.iconst 0, 1) := by decide +kernel
theorem dX5_tower_52 : decode cX5_tower 52 = .ok (.iastore, 1) := by decide +kernel
theorem dX5_tower_53 : decode cX5_tower 53 = .ok (.iinc 2 1, 3) := by decide +kernel
theorem dX5_tower_56 : decode cX5_tower 56 = .ok (.goto (-17), 3) := by decide +kernel
theorem dX5_tower_59 : decode cX5_tower 59 = .ok (.aload_n 0, 1) := by decide +kernel
theorem dX5_tower_60 : decode cX5_tower 60 = .ok (.aload_n 0, 1) := by decide +kernel
theorem dX5_tower_61 : decode cX5_tower 61 = .ok (.getfield 126, 3) := by decide +kernel
theorem dX5_tower_64 : decode cX5_tower 64 = .ok (.putfield 151, 3) := by decide +kernel
theorem dX5_tower_67 : decode cX5_tower 67 = .ok (.aload_n 0, 1) := by decide +kernel
theorem dX5_tower_68 : decode cX5_tower 68 = .ok (.aload_n 0, 1) := by decide +kernel
theorem dX5_tower_69 : decode cX5_tower 69 = .ok (.getfield 129, 3) := by decide +kernel
theorem dX5_tower_72 : decode cX5_tower 72 = .ok (.putfield 154, 3) := by decide +kernel
theorem dX5_tower_75 : decode cX5_tower 75 = .ok (.aload_n 0, 1) := by decide +kernel
theorem dX5_tower_76 : decode cX5_tower 76 = .ok (.aload_n 0, 1) := by decide +kernel
theorem dX5_tower_77 : decode cX5_tower 77 = .ok (.getfield 132, 3) := by decide +kernel
theorem dX5_tower_80 : decode cX5_tower 80 = .ok (.putfield 157, 3) := by decide +kernel
theorem dX5_tower_83 : decode cX5_tower 83 = .ok (.iconst 0, 1) := by decide +kernel
theorem dX5_tower_84 : decode cX5_tower 84 = .ok (.istore_n 2, 1) := by decide +kernel
theorem dX5_tower_85 : decode cX5_tower 85 = .ok (.iload_n 2, 1) := by decide +kernel
theorem dX5_tower_86 : decode cX5_tower 86 = .ok (.aload_n 0, 1) := by decide +kernel
theorem dX5_tower_87 : decode cX5_tower 87 = .ok (.getfield 154, 3) := by decide +kernel
theorem dX5_tower_90 : decode cX5_tower 90 = .ok (.if_icmp .ge 21, 3) := by decide +kernel
theorem dX5_tower_93 : decode cX5_tower 93 = .ok (.aload_n 0, 1) := by decide +kernel
theorem dX5_tower_94 : decode cX5_tower 94 = .ok (.getfield 13, 3) := by decide +kernel
theorem dX5_tower_97 : decode cX5_tower 97 = .ok (.iload_n 2, 1) := by decide +kernel
theorem dX5_tower_98 : decode cX5_tower 98 = .ok (.aload_n 0, 1) := by decide +kernel
theorem dX5_tower_99 : decode cX5_tower 99 = .ok (.getfield 41, 3) := by decide +kernel
theorem dX5_tower_102 : decode cX5_tower 102 = .ok (.iload_n 2, 1) := by decide +kernel
theorem dX5_tower_103 : decode cX5_tower 103 = .ok (.iaload, 1) := by decide +kernel
theorem dX5_tower_104 : decode cX5_tower 104 = .ok (.iastore, 1) := by decide +kernel
theorem dX5_tower_105 : decode cX5_tower 105 = .ok (.iinc 2 1, 3) := by decide +kernel
theorem dX5_tower_108 : decode cX5_tower 108 = .ok (.goto (-23), 3) := by decide +kernel
theorem dX5_tower_111 : decode cX5_tower 111 = .ok (.iconst 0, 1) := by decide +kernel
theorem dX5_tower_112 : decode cX5_tower 112 = .ok (.istore_n 2, 1) := by decide +kernel
theorem dX5_tower_113 : decode cX5_tower 113 = .ok (.iload_n 2, 1) := by decide +kernel
theorem dX5_tower_114 : decode cX5_tower 114 = .ok (.aload_n 0, 1) := by decide +kernel
theorem dX5_tower_115 : decode cX5_tower 115 = .ok (.getfield 157, 3) := by decide +kernel
theorem dX5_tower_118 : decode cX5_tower 118 = .ok (.if_icmp .ge 39, 3) := by decide +kernel
theorem dX5_tower_121 : decode cX5_tower 121 = .ok (.aload_n 0, 1) := by decide +kernel
theorem dX5_tower_122 : decode cX5_tower 122 = .ok (.getfield 16, 3) := by decide +kernel
theorem dX5_tower_125 : decode cX5_tower 125 = .ok (.iload_n 2, 1) := by decide +kernel
theorem dX5_tower_126 : decode cX5_tower 126 = .ok (.aload_n 0, 1) := by decide +kernel
theorem dX5_tower_127 : decode cX5_tower 127 = .ok (.getfield 44, 3) := by decide +kernel
theorem dX5_tower_130 : decode cX5_tower 130 = .ok (.iconst 2, 1) := by decide +kernel
theorem dX5_tower_131 : decode cX5_tower 131 = .ok (.iload_n 2, 1) := by decide +kernel
theorem dX5_tower_132 : decode cX5_tower 132 = .ok (.imul, 1) := by decide +kernel
theorem dX5_tower_133 : decode cX5_tower 133 = .ok (.iaload, 1) := by decide +kernel
theorem dX5_tower_134 : decode cX5_tower 134 = .ok (.iastore, 1) := by decide +kernel
theorem dX5_tower_135 : decode cX5_tower 135 = .ok (.aload_n 0, 1) := by decide +kernel
theorem dX5_tower_136 : decode cX5_tower 136 = .ok (.getfield 19, 3) := by decide +kernel
theorem dX5_tower_139 : decode cX5_tower 139 = .ok (.iload_n 2, 1) := by decide +kernel
theorem dX5_tower_140 : decode cX5_tower 140 = .ok (.aload_n 0, 1) := by decide +kernel
theorem dX5_tower_141 : decode cX5_tower 141 = .ok (.getfield 44, 3) := by decide +kernel
theorem dX5_tower_144 : decode cX5_tower 144 = .ok (.iconst 2, 1) := by decide +kernel
theorem dX5_tower_145 : decode cX5_tower 145 = .ok (.iload_n 2, 1) := by decide +kernel
theorem dX5_tower_146 : decode cX5_tower 146 = .ok (.imul, 1) := by decide +kernel
theorem dX5_tower_147 : decode cX5_tower 147 = .ok (.iconst 1, 1) := by decide +kernel
theorem dX5_tower_148 : decode cX5_tower 148 = .ok (.iadd, 1) := by decide +kernel
theorem dX5_tower_149 : decode cX5_tower 149 = .ok (.iaload, 1) := by decide +kernel
theorem dX5_tower_150 : decode cX5_tower 150 = .ok (.iastore, 1) := by decide +kernel
theorem dX5_tower_151 : decode cX5_tower 151 = .ok (.iinc 2 1, 3) := by decide +kernel
theorem dX5_tower_154 : decode cX5_tower 154 = .ok (.goto (-41), 3) := by decide +kernel
theorem dX5_tower_157 : decode cX5_tower 157 = .ok (.iconst 1, 1) := by decide +kernel
theorem dX5_tower_158 : decode cX5_tower 158 = .ok (.istore_n 2, 1) := by decide +kernel
theorem dX5_tower_159 : decode cX5_tower 159 = .ok (.iload_n 2, 1) := by decide +kernel
theorem dX5_tower_160 : decode cX5_tower 160 = .ok (.iconst 4, 1) := by decide +kernel
theorem dX5_tower_161 : decode cX5_tower 161 = .ok (.if_icmp .ge 22, 3) := by decide +kernel
theorem dX5_tower_164 : decode cX5_tower 164 = .ok (.aload_n 0, 1) := by decide +kernel
theorem dX5_tower_165 : decode cX5_tower 165 = .ok (.getfield 7, 3) := by decide +kernel
theorem dX5_tower_168 : decode cX5_tower 168 = .ok (.sipush 165, 3) := by decide +kernel
theorem dX5_tower_171 : decode cX5_tower 171 = .ok (.iload_n 2, 1) := by decide +kernel
theorem dX5_tower_172 : decode cX5_tower 172 = .ok (.imul, 1) := by decide +kernel
theorem dX5_tower_173 : decode cX5_tower 173 = .ok (.iconst 0, 1) := by decide +kernel
theorem dX5_tower_174 : decode cX5_tower 174 = .ok (.iadd, 1) := by decide +kernel
theorem dX5_tower_175 : decode cX5_tower 175 = .ok (.iconst (-1), 1) := by decide +kernel
theorem dX5_tower_176 : decode cX5_tower 176 = .ok (.iastore, 1) := by decide +kernel
theorem dX5_tower_177 : decode cX5_tower 177 = .ok (.iinc 2 1, 3) := by decide +kernel
theorem dX5_tower_180 : decode cX5_tower 180 = .ok (.goto (-21), 3) := by decide +kernel
theorem dX5_tower_183 : decode cX5_tower 183 = .ok (.aload_n 0, 1) := by decide +kernel
theorem dX5_tower_184 : decode cX5_tower 184 = .ok (.getfield 157, 3) := by decide +kernel
theorem dX5_tower_187 : decode cX5_tower 187 = .ok (.ireturn, 1) := by decide +kernel
set_option maxRecDepth 20000 in
theorem ggX5_isOne_X5_in : GoodIn wsX5_isOne wsX5_in := goodIn_r _ [5] (by rfl) (by decide +kernel)
set_option maxRecDepth 20000 in
theorem gX5_isOne_X5_in : GoodIn wsX5_isOne (va_wsS RX5 75 yX5_in wsX5_in) := goodIn_app (goodIn_of _ (by decide +kernel)) ggX5_isOne_X5_in
theorem dX5_isOne_0 : decode cX5_isOne 0 = .ok (.iload_n 1, 1) := by decide +kernel
theorem dX5_isOne_1 : decode cX5_isOne 1 = .ok (.i2l, 1) := by decide +kernel
theorem dX5_isOne_2 : decode cX5_isOne 2 = .ok (.lconst 0, 1) := by decide +kernel
theorem dX5_isOne_3 : decode cX5_isOne 3 = .ok (.aload_n 0, 1) := by decide +kernel
theorem dX5_isOne_4 : decode cX5_isOne 4 = .ok (.getfield 157, 3) := by decide +kernel
theorem dX5_isOne_7 : decode cX5_isOne 7 = .ok (.iconst 1, 1) := by decide +kernel
theorem dX5_isOne_8 : decode cX5_isOne 8 = .ok (.isub, 1) := by decide +kernel
theorem dX5_isOne_9 : decode cX5_isOne 9 = .ok (.i2l, 1) := by decide +kernel
theorem dX5_isOne_10 : decode cX5_isOne 10 = .ok (.invokestatic 75, 3) := by decide +kernel
theorem dX5_isOne_13 : decode cX5_isOne 13 = .ok (.ireturn, 1) := by decide +kernel
set_option maxRecDepth 20000 in
theorem ggX5_areTwo_X5_isOne : GoodIn wsX5_areTwo wsX5_isOne := goodIn_r _ [5, 6, 7, 8, 4, 9, 10, 11, 12, 13, 14, 15, 16, 17, 18, 19, 20, 21, 22, 23, 24, 25, 26, 27, 28, 29, 30, 31, 32, 33, 34, 35, 36, 37, 38, 39, 40, 41] (by rfl) (by decide +kernel)
set_option maxRecDepth 20000 in
theorem gX5_areTwo_X5_isOne : GoodIn wsX5_areTwo (wsV RX5 160 RX5 yX5_isOne wsX5_isOne) := goodIn_app (goodIn_of _ (by decide +kernel)) ggX5_areTwo_X5_isOne
theorem dX5_areTwo_0 : decode cX5_areTwo 0 = .ok (.aload_n 0, 1) := by decide +kernel
theorem dX5_areTwo_1 : decode cX5_areTwo 1 = .ok (.iload_n 1, 1) := by decide +kernel
theorem dX5_areTwo_2 : decode cX5_areTwo 2 = .ok (.invokevirtual 160, 3) := by decide +kernel
theorem dX5_areTwo_5 : decode cX5_areTwo 5 = .ok (.ifCond .eq 20, 3) := by decide +kernel
theorem dX5_areTwo_8 : decode cX5_areTwo 8 = .ok (.aload_n 0, 1) := by decide +kernel
theorem dX5_areTwo_9 : decode cX5_areTwo 9 = .ok (.iload_n 2, 1) := by decide +kernel
theorem dX5_areTwo_10 : decode cX5_areTwo 10 = .ok (.invokevirtual 160, 3) := by decide +kernel
theorem dX5_areTwo_13 : decode cX5_areTwo 13 = .ok (.ifCond .eq 12, 3) := by decide +kernel
theorem dX5_areTwo_16 : decode cX5_areTwo 16 = .ok (.iload_n 1, 1) := by decide +kernel
theorem dX5_areTwo_17 : decode cX5_areTwo 17 = .ok (.iload_n 2, 1) := by decide +kernel
theorem dX5_areTwo_18 : decode cX5_areTwo 18 = .ok (.if_icmp .eq 7, 3) := by decide +kernel
theorem dX5_areTwo_21 : decode cX5_areTwo 21 = .ok (.iconst 1, 1) := by decide +kernel
theorem dX5_areTwo_22 : decode cX5_areTwo 22 = .ok (.goto 4, 3) := by decide +kernel
theorem dX5_areTwo_25 : decode cX5_areTwo 25 = .ok (.iconst 0, 1) := by decide +kernel
theorem dX5_areTwo_26 : decode cX5_areTwo 26 = .ok (.ireturn, 1) := by decide +kernel
theorem dX5_countsBy_0 : decode cX5_countsBy 0 = .ok (.iload_n 0, 1) := by decide +kernel
theorem dX5_countsBy_1 : decode cX5_countsBy 1 = .ok (.tableswitch 51 2 5 #[31, 41, 45, 35], 31) := by decide +kernel
theorem dX5_countsBy_32 : decode cX5_countsBy 32 = .ok (.iload_n 1, 1) := by decide +kernel
theorem dX5_countsBy_33 : decode cX5_countsBy 33 = .ok (.iconst 2, 1) := by decide +kernel
theorem dX5_countsBy_34 : decode cX5_countsBy 34 = .ok (.idiv, 1) := by decide +kernel
theorem dX5_countsBy_35 : decode cX5_countsBy 35 = .ok (.ireturn, 1) := by decide +kernel
theorem dX5_countsBy_36 : decode cX5_countsBy 36 = .ok (.iload_n 1, 1) := by decide +kernel
theorem dX5_countsBy_37 : decode cX5_countsBy 37 = .ok (.iconst 2, 1) := by decide +kernel
theorem dX5_countsBy_38 : decode cX5_countsBy 38 = .ok (.idiv, 1) := by decide +kernel
theorem dX5_countsBy_39 : decode cX5_countsBy 39 = .ok (.iconst 2, 1) := by decide +kernel
theorem dX5_countsBy_40 : decode cX5_countsBy 40 = .ok (.idiv, 1) := by decide +kernel
theorem dX5_countsBy_41 : decode cX5_countsBy 41 = .ok (.ireturn, 1) := by decide +kernel
theorem dX5_countsBy_42 : decode cX5_countsBy 42 = .ok (.iload_n 1, 1) := by decide +kernel
theorem dX5_countsBy_43 : decode cX5_countsBy 43 = .ok (.iconst 5, 1) := by decide +kernel
theorem dX5_countsBy_44 : decode cX5_countsBy 44 = .ok (.iadd, 1) := by decide +kernel
theorem dX5_countsBy_45 : decode cX5_countsBy 45 = .ok (.ireturn, 1) := by decide +kernel
theorem dX5_countsBy_46 : decode cX5_countsBy 46 = .ok (.iload_n 1, 1) := by decide +kernel
theorem dX5_countsBy_47 : decode cX5_countsBy 47 = .ok (.iconst 5, 1) := by decide +kernel
theorem dX5_countsBy_48 : decode cX5_countsBy 48 = .ok (.iadd, 1) := by decide +kernel
theorem dX5_countsBy_49 : decode cX5_countsBy 49 = .ok (.iload_n 2, 1) := by decide +kernel
theorem dX5_countsBy_50 : decode cX5_countsBy 50 = .ok (.iadd, 1) := by decide +kernel
theorem dX5_countsBy_51 : decode cX5_countsBy 51 = .ok (.ireturn, 1) := by decide +kernel
theorem dX5_countsBy_52 : decode cX5_countsBy 52 = .ok (.iload_n 1, 1) := by decide +kernel
theorem dX5_countsBy_53 : decode cX5_countsBy 53 = .ok (.ireturn, 1) := by decide +kernel
set_option maxRecDepth 20000 in
theorem ggX5_counts_X5_countsBy : GoodIn wsX5_counts wsX5_countsBy := goodIn_r _ [7] (by rfl) (by decide +kernel)
set_option maxRecDepth 20000 in
theorem gX5_counts_X5_countsBy : GoodIn wsX5_counts (va_wsS RX5 163 yX5_countsBy wsX5_countsBy) := goodIn_app (goodIn_of _ (by decide +kernel)) ggX5_counts_X5_countsBy
theorem dX5_counts_0 : decode cX5_counts 0 = .ok (.aload_n 0, 1) := by decide +kernel
theorem dX5_counts_1 : decode cX5_counts 1 = .ok (.getfield 16, 3) := by decide +kernel
theorem dX5_counts_4 : decode cX5_counts 4 = .ok (.iload_n 1, 1) := by decide +kernel
theorem dX5_counts_5 : decode cX5_counts 5 = .ok (.iaload, 1) := by decide +kernel
theorem dX5_counts_6 : decode cX5_counts 6 = .ok (.aload_n 0, 1) := by decide +kernel
theorem dX5_counts_7 : decode cX5_counts 7 = .ok (.getfield 19, 3) := by decide +kernel
theorem dX5_counts_10 : decode cX5_counts 10 = .ok (.iload_n 1, 1) := by decide +kernel
theorem dX5_counts_11 : decode cX5_counts 11 = .ok (.iaload, 1) := by decide +kernel
theorem dX5_counts_12 : decode cX5_counts 12 = .ok (.aload_n 0, 1) := by decide +kernel
theorem dX5_counts_13 : decode cX5_counts 13 = .ok (.getfield 7, 3) := by decide +kernel
theorem dX5_counts_16 : decode cX5_counts 16 = .ok (.iconst 1, 1) := by decide +kernel
theorem dX5_counts_17 : decode cX5_counts 17 = .ok (.iaload, 1) := by decide +kernel
theorem dX5_counts_18 : decode cX5_counts 18 = .ok (.invokestatic 163, 3) := by decide +kernel
theorem dX5_counts_21 : decode cX5_counts 21 = .ok (.ireturn, 1) := by decide +kernel
set_option maxRecDepth 20000 in
theorem ggX5_poundsOf_X5_has : GoodIn wsX5_poundsOf wsX5_has := goodIn_r _ [6] (by rfl) (by decide +kernel)
set_option maxRecDepth 20000 in
theorem gX5_poundsOf_X5_has : GoodIn wsX5_poundsOf (va_wsS RX5 167 yX5_has wsX5_has) := goodIn_app (goodIn_of _ (by decide +kernel)) ggX5_poundsOf_X5_has
theorem dX5_poundsOf_0 : decode cX5_poundsOf 0 = .ok (.iconst 0, 1) := by decide +kernel
theorem dX5_poundsOf_1 : decode cX5_poundsOf 1 = .ok (.istore_n 2, 1) := by decide +kernel
theorem dX5_poundsOf_2 : decode cX5_poundsOf 2 = .ok (.iconst 0, 1) := by decide +kernel
theorem dX5_poundsOf_3 : decode cX5_poundsOf 3 = .ok (.istore_n 3, 1) := by decide +kernel
theorem dX5_poundsOf_4 : decode cX5_poundsOf 4 = .ok (.iload_n 3, 1) := by decide +kernel
theorem dX5_poundsOf_5 : decode cX5_poundsOf 5 = .ok (.aload_n 0, 1) := by decide +kernel
theorem dX5_poundsOf_6 : decode cX5_poundsOf 6 = .ok (.getfield 154, 3) := by decide +kernel
theorem dX5_poundsOf_9 : decode cX5_poundsOf 9 = .ok (.if_icmp .ge 30, 3) := by decide +kernel
theorem dX5_poundsOf_12 : decode cX5_poundsOf 12 = .ok (.iload_n 2, 1) := by decide +kernel
theorem dX5_poundsOf_13 : decode cX5_poundsOf 13 = .ok (.iload_n 1, 1) := by decide +kernel
theorem dX5_poundsOf_14 : decode cX5_poundsOf 14 = .ok (.iload_n 3, 1) := by decide +kernel
theorem dX5_poundsOf_15 : decode cX5_poundsOf 15 = .ok (.invokestatic 167, 3) := by decide +kernel
theorem dX5_poundsOf_18 : decode cX5_poundsOf 18 = .ok (.ifCond .eq 12, 3) := by decide +kernel
theorem dX5_poundsOf_21 : decode cX5_poundsOf 21 = .ok (.aload_n 0, 1) := by decide +kernel
theorem dX5_poundsOf_22 : decode cX5_poundsOf 22 = .ok (.getfield 13, 3) := by decide +kernel
theorem dX5_poundsOf_25 : decode cX5_poundsOf 25 = .ok (.iload_n 3, 1) := by decide +kernel
theorem dX5_poundsOf_26 : decode cX5_poundsOf 26 = .ok (.iaload, 1) := by decide +kernel
theorem dX5_poundsOf_27 : decode cX5_poundsOf 27 = .ok (.goto 4, 3) := by decide +kernel
theorem dX5_poundsOf_30 : decode cX5_poundsOf 30 = .ok (.iconst 0, 1) := by decide +kernel
theorem dX5_poundsOf_31 : decode cX5_poundsOf 31 = .ok (.iadd, 1) := by decide +kernel
theorem dX5_poundsOf_32 : decode cX5_poundsOf 32 = .ok (.istore_n 2, 1) := by decide +kernel
theorem dX5_poundsOf_33 : decode cX5_poundsOf 33 = .ok (.iinc 3 1, 3) := by decide +kernel
theorem dX5_poundsOf_36 : decode cX5_poundsOf 36 = .ok (.goto (-32), 3) := by decide +kernel
theorem dX5_poundsOf_39 : decode cX5_poundsOf 39 = .ok (.iload_n 2, 1) := by decide +kernel
theorem dX5_poundsOf_40 : decode cX5_poundsOf 40 = .ok (.ireturn, 1) := by decide +kernel
set_option maxRecDepth 20000 in
theorem ggX5_sinkUnder_X5_apart : GoodIn wsX5_sinkUnder wsX5_apart := goodIn_r _ [5] (by rfl) (by decide +kernel)
set_option maxRecDepth 20000 in
theorem gX5_sinkUnder_X5_apart : GoodIn wsX5_sinkUnder (va_wsS RX5 171 yX5_apart wsX5_apart) := goodIn_app (goodIn_of _ (by decide +kernel)) ggX5_sinkUnder_X5_apart
theorem dX5_sinkUnder_0 : decode cX5_sinkUnder 0 = .ok (.iload_n 2, 1) := by decide +kernel
theorem dX5_sinkUnder_1 : decode cX5_sinkUnder 1 = .ok (.iload 4, 2) := by decide +kernel
theorem dX5_sinkUnder_3 : decode cX5_sinkUnder 3 = .ok (.invokestatic 171, 3) := by decide +kernel
theorem dX5_sinkUnder_6 : decode cX5_sinkUnder 6 = .ok (.istore 5, 2) := by decide +kernel
theorem dX5_sinkUnder_8 : decode cX5_sinkUnder 8 = .ok (.iload_n 1, 1) := by decide +kernel
theorem dX5_sinkUnder_9 : decode cX5_sinkUnder 9 = .ok (.iconst 1, 1) := by decide +kernel
theorem dX5_sinkUnder_10 : decode cX5_sinkUnder 10 = .ok (.if_icmp .ne 20, 3) := by decide +kernel
theorem dX5_sinkUnder_13 : decode cX5_sinkUnder 13 = .ok (.aload_n 0, 1) := by decide +kernel
theorem dX5_sinkUnder_14 : decode cX5_sinkUnder 14 = .ok (.getfield 16, 3) := by decide +kernel
theorem dX5_sinkUnder_17 : decode cX5_sinkUnder 17 = .ok (.iload_n 3, 1) := by decide +kernel
theorem dX5_sinkUnder_18 : decode cX5_sinkUnder 18 = .ok (.iaload, 1) := by decide +kernel
theorem dX5_sinkUnder_19 : decode cX5_sinkUnder 19 = .ok (.iconst 1, 1) := by decide +kernel
theorem dX5_sinkUnder_20 : decode cX5_sinkUnder 20 = .ok (.if_icmp .ne 10, 3) := by decide +kernel
theorem dX5_sinkUnder_23 : decode cX5_sinkUnder 23 = .ok (.iload 5, 2) := by decide +kernel
theorem dX5_sinkUnder_25 : decode cX5_sinkUnder 25 = .ok (.iconst 2, 1) := by decide +kernel
theorem dX5_sinkUnder_26 : decode cX5_sinkUnder 26 = .ok (.idiv, 1) := by decide +kernel
theorem dX5_sinkUnder_27 : decode cX5_sinkUnder 27 = .ok (.goto 5, 3) := by decide +kernel
theorem dX5_sinkUnder_30 : decode cX5_sinkUnder 30 = .ok (.iload 5, 2) := by decide +kernel
theorem dX5_sinkUnder_32 : decode cX5_sinkUnder 32 = .ok (.ireturn, 1) := by decide +kernel
set_option maxRecDepth 20000 in
theorem ggX5_sinkOf_X5_counts : GoodIn wsX5_sinkOf wsX5_counts := goodIn_r _ [6, 1, 7, 8, 9, 10, 5, 11, 28, 29, 30, 31, 32, 33, 34, 35, 36, 37, 38, 39, 40, 41, 42, 43, 44, 45, 46, 47, 48, 49, 50, 51, 52, 53, 54, 55, 56, 57, 58, 59] (by rfl) (by decide +kernel)
set_option maxRecDepth 20000 in
theorem gX5_sinkOf_X5_counts : GoodIn wsX5_sinkOf (wsV RX5 174 RX5 yX5_counts wsX5_counts) := goodIn_app (goodIn_of _ (by decide +kernel)) ggX5_sinkOf_X5_counts
set_option maxRecDepth 20000 in
theorem ggX5_sinkOf_X5_poundsOf : GoodIn wsX5_sinkOf wsX5_poundsOf := goodIn_r _ [15, 16, 17, 18, 19, 5, 20, 28, 29, 30, 31, 32, 33, 34, 35, 36, 37, 38, 39, 40, 41, 42, 43, 44, 45, 46, 47, 48, 49, 50, 51, 52, 53, 54, 55, 56, 57, 58, 59] (by rfl) (by decide +kernel)
set_option maxRecDepth 20000 in
theorem gX5_sinkOf_X5_poundsOf : GoodIn wsX5_sinkOf (wsV RX5 177 RX5 yX5_poundsOf wsX5_poundsOf) := goodIn_app (goodIn_of _ (by decide +kernel)) ggX5_sinkOf_X5_poundsOf
set_option maxRecDepth 20000 in
theorem ggX5_sinkOf_X5_sinkUnder : GoodIn wsX5_sinkOf wsX5_sinkUnder := goodIn_r _ [24, 1, 25, 26, 5, 27, 28, 29, 30, 31, 32, 33, 34, 35, 36, 37, 38, 39, 40, 41, 42, 43, 44, 45, 46, 47, 48, 49, 50, 51, 52, 53, 54, 55, 56, 57, 58, 59] (by rfl) (by decide +kernel)
set_option maxRecDepth 20000 in
theorem gX5_sinkOf_X5_sinkUnder : GoodIn wsX5_sinkOf (wsV RX5 180 RX5 yX5_sinkUnder wsX5_sinkUnder) := goodIn_app (goodIn_of _ (by decide +kernel)) ggX5_sinkOf_X5_sinkUnder
theorem dX5_sinkOf_0 : decode cX5_sinkOf 0 = .ok (.aload_n 0, 1) := by decide +kernel
theorem dX5_sinkOf_1 : decode cX5_sinkOf 1 = .ok (.aload_n 0, 1) := by decide +kernel
theorem dX5_sinkOf_2 : decode cX5_sinkOf 2 = .ok (.getfield 16, 3) := by decide +kernel
theorem dX5_sinkOf_5 : decode cX5_sinkOf 5 = .ok (.iload_n 1, 1) := by decide +kernel
theorem dX5_sinkOf_6 : decode cX5_sinkOf 6 = .ok (.iaload, 1) := by decide +kernel
theorem dX5_sinkOf_7 : decode cX5_sinkOf 7 = .ok (.aload_n 0, 1) := by decide +kernel
theorem dX5_sinkOf_8 : decode cX5_sinkOf 8 = .ok (.iload_n 1, 1) := by decide +kernel
theorem dX5_sinkOf_9 : decode cX5_sinkOf 9 = .ok (.invokevirtual 174, 3) := by decide +kernel
theorem dX5_sinkOf_12 : decode cX5_sinkOf 12 = .ok (.aload_n 0, 1) := by decide +kernel
theorem dX5_sinkOf_13 : decode cX5_sinkOf 13 = .ok (.iload_n 3, 1) := by decide +kernel
theorem dX5_sinkOf_14 : decode cX5_sinkOf 14 = .ok (.invokevirtual 177, 3) := by decide +kernel
theorem dX5_sinkOf_17 : decode cX5_sinkOf 17 = .ok (.iadd, 1) := by decide +kernel
theorem dX5_sinkOf_18 : decode cX5_sinkOf 18 = .ok (.iload_n 2, 1) := by decide +kernel
theorem dX5_sinkOf_19 : decode cX5_sinkOf 19 = .ok (.aload_n 0, 1) := by decide +kernel
theorem dX5_sinkOf_20 : decode cX5_sinkOf 20 = .ok (.iload_n 2, 1) := by decide +kernel
theorem dX5_sinkOf_21 : decode cX5_sinkOf 21 = .ok (.invokevirtual 174, 3) := by decide +kernel
theorem dX5_sinkOf_24 : decode cX5_sinkOf 24 = .ok (.aload_n 0, 1) := by decide +kernel
theorem dX5_sinkOf_25 : decode cX5_sinkOf 25 = .ok (.iload 4, 2) := by decide +kernel
theorem dX5_sinkOf_27 : decode cX5_sinkOf 27 = .ok (.invokevirtual 177, 3) := by decide +kernel
theorem dX5_sinkOf_30 : decode cX5_sinkOf 30 = .ok (.iadd, 1) := by decide +kernel
theorem dX5_sinkOf_31 : decode cX5_sinkOf 31 = .ok (.invokevirtual 180, 3) := by decide +kernel
theorem dX5_sinkOf_34 : decode cX5_sinkOf 34 = .ok (.ireturn, 1) := by decide +kernel
set_option maxRecDepth 20000 in
theorem ggX5_isTop_X5_has : GoodIn wsX5_isTop wsX5_has := goodIn_r _ [5] (by rfl) (by decide +kernel)
set_option maxRecDepth 20000 in
theorem gX5_isTop_X5_has : GoodIn wsX5_isTop (va_wsS RX5 167 yX5_has wsX5_has) := goodIn_app (goodIn_of _ (by decide +kernel)) ggX5_isTop_X5_has
theorem dX5_isTop_0 : decode cX5_isTop 0 = .ok (.aload_n 0, 1) := by decide +kernel
theorem dX5_isTop_1 : decode cX5_isTop 1 = .ok (.getfield 7, 3) := by decide +kernel
theorem dX5_isTop_4 : decode cX5_isTop 4 = .ok (.iconst 2, 1) := by decide +kernel
theorem dX5_isTop_5 : decode cX5_isTop 5 = .ok (.iaload, 1) := by decide +kernel
theorem dX5_isTop_6 : decode cX5_isTop 6 = .ok (.iload_n 1, 1) := by decide +kernel
theorem dX5_isTop_7 : decode cX5_isTop 7 = .ok (.invokestatic 167, 3) := by decide +kernel
theorem dX5_isTop_10 : decode cX5_isTop 10 = .ok (.ireturn, 1) := by decide +kernel
set_option maxRecDepth 20000 in
theorem ggX5_areAtOneEnd_X5_isTop : GoodIn wsX5_areAtOneEnd wsX5_isTop := goodIn_r _ [5, 6, 7, 8, 4, 9, 10, 11, 12, 13, 14, 15, 16, 17, 18, 19, 20, 21, 22, 23, 24, 25, 26, 27, 28, 29, 30, 31, 32, 33, 34, 35, 36, 37, 38, 39, 40, 41] (by rfl) (by decide +kernel)
set_option maxRecDepth 20000 in
theorem gX5_areAtOneEnd_X5_isTop : GoodIn wsX5_areAtOneEnd (wsV RX5 184 RX5 yX5_isTop wsX5_isTop) := goodIn_app (goodIn_of _ (by decide +kernel)) ggX5_areAtOneEnd_X5_isTop
theorem dX5_areAtOneEnd_0 : decode cX5_areAtOneEnd 0 = .ok (.aload_n 0, 1) := by decide +kernel
theorem dX5_areAtOneEnd_1 : decode cX5_areAtOneEnd 1 = .ok (.iload_n 1, 1) := by decide +kernel
theorem dX5_areAtOneEnd_2 : decode cX5_areAtOneEnd 2 = .ok (.invokevirtual 184, 3) := by decide +kernel
theorem dX5_areAtOneEnd_5 : decode cX5_areAtOneEnd 5 = .ok (.aload_n 0, 1) := by decide +kernel
theorem dX5_areAtOneEnd_6 : decode cX5_areAtOneEnd 6 = .ok (.iload_n 2, 1) := by decide +kernel
theorem dX5_areAtOneEnd_7 : decode cX5_areAtOneEnd 7 = .ok (.invokevirtual 184, 3) := by decide +kernel
theorem dX5_areAtOneEnd_10 : decode cX5_areAtOneEnd 10 = .ok (.if_icmp .ne 7, 3) := by decide +kernel
theorem dX5_areAtOneEnd_13 : decode cX5_areAtOneEnd 13 = .ok (.iconst 1, 1) := by decide +kernel
theorem dX5_areAtOneEnd_14 : decode cX5_areAtOneEnd 14 = .ok (.goto 4, 3) := by decide +kernel
theorem dX5_areAtOneEnd_17 : decode cX5_areAtOneEnd 17 = .ok (.iconst 0, 1) := by decide +kernel
theorem dX5_areAtOneEnd_18 : decode cX5_areAtOneEnd 18 = .ok (.ireturn, 1) := by decide +kernel
set_option maxRecDepth 20000 in
theorem ggX5_stonesBy_X5_isTop : GoodIn wsX5_stonesBy wsX5_isTop := goodIn_r _ [7, 2, 8, 9, 6, 10, 11, 12, 13, 14, 15, 16, 17, 18, 19, 20, 21, 22, 23, 24, 25, 26, 27, 28, 29, 30, 31, 32, 33, 34, 35, 36, 37, 38, 39, 40, 41, 42] (by rfl) (by decide +kernel)
set_option maxRecDepth 20000 in
theorem gX5_stonesBy_X5_isTop : GoodIn wsX5_stonesBy (wsV RX5 184 RX5 yX5_isTop wsX5_isTop) := goodIn_app (goodIn_of _ (by decide +kernel)) ggX5_stonesBy_X5_isTop
theorem dX5_stonesBy_0 : decode cX5_stonesBy 0 = .ok (.iconst 1, 1) := by decide +kernel
theorem dX5_stonesBy_1 : decode cX5_stonesBy 1 = .ok (.aload_n 0, 1) := by decide +kernel
theorem dX5_stonesBy_2 : decode cX5_stonesBy 2 = .ok (.getfield 154, 3) := by decide +kernel
theorem dX5_stonesBy_5 : decode cX5_stonesBy 5 = .ok (.ishl, 1) := by decide +kernel
theorem dX5_stonesBy_6 : decode cX5_stonesBy 6 = .ok (.iconst 1, 1) := by decide +kernel
theorem dX5_stonesBy_7 : decode cX5_stonesBy 7 = .ok (.isub, 1) := by decide +kernel
theorem dX5_stonesBy_8 : decode cX5_stonesBy 8 = .ok (.istore_n 2, 1) := by decide +kernel
theorem dX5_stonesBy_9 : decode cX5_stonesBy 9 = .ok (.aload_n 0, 1) := by decide +kernel
theorem dX5_stonesBy_10 : decode cX5_stonesBy 10 = .ok (.iload_n 1, 1) := by decide +kernel
theorem dX5_stonesBy_11 : decode cX5_stonesBy 11 = .ok (.invokevirtual 184, 3) := by decide +kernel
theorem dX5_stonesBy_14 : decode cX5_stonesBy 14 = .ok (.ifCond .eq 12, 3) := by decide +kernel
theorem dX5_stonesBy_17 : decode cX5_stonesBy 17 = .ok (.aload_n 0, 1) := by decide +kernel
theorem dX5_stonesBy_18 : decode cX5_stonesBy 18 = .ok (.getfield 7, 3) := by decide +kernel
theorem dX5_stonesBy_21 : decode cX5_stonesBy 21 = .ok (.iconst 3, 1) := by decide +kernel
theorem dX5_stonesBy_22 : decode cX5_stonesBy 22 = .ok (.iaload, 1) := by decide +kernel
theorem dX5_stonesBy_23 : decode cX5_stonesBy 23 = .ok (.goto 13, 3) := by decide +kernel
theorem dX5_stonesBy_26 : decode cX5_stonesBy 26 = .ok (.iload_n 2, 1) := by decide +kernel
theorem dX5_stonesBy_27 : decode cX5_stonesBy 27 = .ok (.aload_n 0, 1) := by decide +kernel
theorem dX5_stonesBy_28 : decode cX5_stonesBy 28 = .ok (.getfield 7, 3) := by decide +kernel
theorem dX5_stonesBy_31 : decode cX5_stonesBy 31 = .ok (.iconst 3, 1) := by decide +kernel
theorem dX5_stonesBy_32 : decode cX5_stonesBy 32 = .ok (.iaload, 1) := by decide +kernel
theorem dX5_stonesBy_33 : decode cX5_stonesBy 33 = .ok (.iconst (-1), 1) := by decide +kernel
theorem dX5_stonesBy_34 : decode cX5_stonesBy 34 = .ok (.ixor, 1) := by decide +kernel
theorem dX5_stonesBy_35 : decode cX5_stonesBy 35 = .ok (.iand, 1) := by decide +kernel
theorem dX5_stonesBy_36 : decode cX5_stonesBy 36 = .ok (.ireturn, 1) := by decide +kernel
set_option maxRecDepth 20000 in
theorem ggX5_leastSink_X5_sinkOf : GoodIn wsX5_leastSink wsX5_sinkOf := goodIn_r _ [6, 7, 8, 9, 10, 5, 11, 12, 13, 14, 15, 16, 17, 18, 19, 20, 21, 22, 23, 24, 25, 26, 27, 28, 29, 30, 31, 32, 33, 34, 35, 36, 37, 38, 39, 40, 41, 42, 43, 44, 45, 46, 47, 48, 49, 50, 51, 52, 53, 54, 55, 56, 57, 58, 59, 60, 61, 62, 63, 64] (by rfl) (by decide +kernel)
set_option maxRecDepth 20000 in
theorem gX5_leastSink_X5_sinkOf : GoodIn wsX5_leastSink (wsV RX5 187 RX5 yX5_sinkOf wsX5_sinkOf) := goodIn_app (goodIn_of _ (by decide +kernel)) ggX5_leastSink_X5_sinkOf
theorem dX5_leastSink_0 : decode cX5_leastSink 0 = .ok (.sipush 9999, 3) := by decide +kernel
theorem dX5_leastSink_3 : decode cX5_leastSink 3 = .ok (.istore 4, 2) := by decide +kernel
theorem dX5_leastSink_5 : decode cX5_leastSink 5 = .ok (.iconst 0, 1) := by decide +kernel
theorem dX5_leastSink_6 : decode cX5_leastSink 6 = .ok (.istore 5, 2) := by decide +kernel
theorem dX5_leastSink_8 : decode cX5_leastSink 8 = .ok (.iload 5, 2) := by decide +kernel
theorem dX5_leastSink_10 : decode cX5_leastSink 10 = .ok (.sipush 256, 3) := by decide +kernel
theorem dX5_leastSink_13 : decode cX5_leastSink 13 = .ok (.if_icmp .ge 91, 3) := by decide +kernel
theorem dX5_leastSink_16 : decode cX5_leastSink 16 = .ok (.iload 5, 2) := by decide +kernel
theorem dX5_leastSink_18 : decode cX5_leastSink 18 = .ok (.bipush 16, 2) := by decide +kernel
theorem dX5_leastSink_20 : decode cX5_leastSink 20 = .ok (.idiv, 1) := by decide +kernel
theorem dX5_leastSink_21 : decode cX5_leastSink 21 = .ok (.istore 6, 2) := by decide +kernel
theorem dX5_leastSink_23 : decode cX5_leastSink 23 = .ok (.iload 5, 2) := by decide +kernel
theorem dX5_leastSink_25 : decode cX5_leastSink 25 = .ok (.bipush 16, 2) := by decide +kernel
theorem dX5_leastSink_27 : decode cX5_leastSink 27 = .ok (.irem, 1) := by decide +kernel
theorem dX5_leastSink_28 : decode cX5_leastSink 28 = .ok (.istore 7, 2) := by decide +kernel
theorem dX5_leastSink_30 : decode cX5_leastSink 30 = .ok (.iload 6, 2) := by decide +kernel
theorem dX5_leastSink_32 : decode cX5_leastSink 32 = .ok (.iload 7, 2) := by decide +kernel
theorem dX5_leastSink_34 : decode cX5_leastSink 34 = .ok (.iand, 1) := by decide +kernel
theorem dX5_leastSink_35 : decode cX5_leastSink 35 = .ok (.ifCond .ne 63, 3) := by decide +kernel
theorem dX5_leastSink_38 : decode cX5_leastSink 38 = .ok (.iload 6, 2) := by decide +kernel
theorem dX5_leastSink_40 : decode cX5_leastSink 40 = .ok (.iload 7, 2) := by decide +kernel
theorem dX5_leastSink_42 : decode cX5_leastSink 42 = .ok (.ior, 1) := by decide +kernel
theorem dX5_leastSink_43 : decode cX5_leastSink 43 = .ok (.iload_n 3, 1) := by decide +kernel
theorem dX5_leastSink_44 : decode cX5_leastSink 44 = .ok (.iconst (-1), 1) := by decide +kernel
theorem dX5_leastSink_45 : decode cX5_leastSink 45 = .ok (.ixor, 1) := by decide +kernel
theorem dX5_leastSink_46 : decode cX5_leastSink 46 = .ok (.iand, 1) := by decide +kernel
theorem dX5_leastSink_47 : decode cX5_leastSink 47 = .ok (.ifCond .ne 51, 3) := by decide +kernel
theorem dX5_leastSink_50 : decode cX5_leastSink 50 = .ok (.aload_n 0, 1) := by decide +kernel
theorem dX5_leastSink_51 : decode cX5_leastSink 51 = .ok (.iload_n 1, 1) := by decide +kernel
theorem dX5_leastSink_52 : decode cX5_leastSink 52 = .ok (.iload_n 2, 1) := by decide +kernel
theorem dX5_leastSink_53 : decode cX5_leastSink 53 = .ok (.iload 6, 2) := by decide +kernel
theorem dX5_leastSink_55 : decode cX5_leastSink 55 = .ok (.iload 7, 2) := by decide +kernel
theorem dX5_leastSink_57 : decode cX5_leastSink 57 = .ok (.invokevirtual 187, 3) := by decide +kernel
theorem dX5_leastSink_60 : decode cX5_leastSink 60 = .ok (.istore 8, 2) := by decide +kernel
theorem dX5_leastSink_62 : decode cX5_leastSink 62 = .ok (.aload_n 0, 1) := by decide +kernel
theorem dX5_leastSink_63 : decode cX5_leastSink 63 = .ok (.iload 8, 2) := by decide +kernel
theorem dX5_leastSink_65 : decode cX5_leastSink 65 = .ok (.iload 4, 2) := by decide +kernel
theorem dX5_leastSink_67 : decode cX5_leastSink 67 = .ok (.if_icmp .ge 8, 3) := by decide +kernel
theorem dX5_leastSink_70 : decode cX5_leastSink 70 = .ok (.iload 5, 2) := by decide +kernel
theorem dX5_leastSink_72 : decode cX5_leastSink 72 = .ok (.goto 7, 3) := by decide +kernel
theorem dX5_leastSink_75 : decode cX5_leastSink 75 = .ok (.aload_n 0, 1) := by decide +kernel
theorem dX5_leastSink_76 : decode cX5_leastSink 76 = .ok (.getfield 190, 3) := by decide +kernel
theorem dX5_leastSink_79 : decode cX5_leastSink 79 = .ok (.putfield 190, 3) := by decide +kernel
theorem dX5_leastSink_82 : decode cX5_leastSink 82 = .ok (.iload 8, 2) := by decide +kernel
theorem dX5_leastSink_84 : decode cX5_leastSink 84 = .ok (.iload 4, 2) := by decide +kernel
theorem dX5_leastSink_86 : decode cX5_leastSink 86 = .ok (.if_icmp .ge 8, 3) := by decide +kernel
theorem dX5_leastSink_89 : decode cX5_leastSink 89 = .ok (.iload 8, 2) := by decide +kernel
theorem dX5_leastSink_91 : decode cX5_leastSink 91 = .ok (.goto 5, 3) := by decide +kernel
theorem dX5_leastSink_94 : decode cX5_leastSink 94 = .ok (.iload 4, 2) := by decide +kernel
theorem dX5_leastSink_96 : decode cX5_leastSink 96 = .ok (.istore 4, 2) := by decide +kernel
theorem dX5_leastSink_98 : decode cX5_leastSink 98 = .ok (.iinc 5 1, 3) := by decide +kernel
theorem dX5_leastSink_101 : decode cX5_leastSink 101 = .ok (.goto (-93), 3) := by decide +kernel
theorem dX5_leastSink_104 : decode cX5_leastSink 104 = .ok (.iload 4, 2) := by decide +kernel
theorem dX5_leastSink_106 : decode cX5_leastSink 106 = .ok (.ireturn, 1) := by decide +kernel
set_option maxRecDepth 20000 in
theorem ggX5_can_X5_areAtOneEnd : GoodIn wsX5_can wsX5_areAtOneEnd := goodIn_r _ [6, 7, 8, 9, 5, 10, 11, 12, 13, 14, 50, 51, 52, 53, 54, 55, 56, 57, 58, 59, 60, 61, 62, 63, 64, 65, 66, 67, 68, 69, 70, 71, 72, 73, 74, 75, 76, 77, 78, 79, 80, 81] (by rfl) (by decide +kernel)
set_option maxRecDepth 20000 in
theorem gX5_can_X5_areAtOneEnd : GoodIn wsX5_can (wsV RX5 193 RX5 yX5_areAtOneEnd wsX5_areAtOneEnd) := goodIn_app (goodIn_of _ (by decide +kernel)) ggX5_can_X5_areAtOneEnd
set_option maxRecDepth 20000 in
theorem ggX5_can_X5_stonesBy : GoodIn wsX5_can wsX5_stonesBy := goodIn_r _ [18, 19, 11, 7, 8, 9, 5, 10, 12, 13, 14, 50, 51, 52, 53, 54, 55, 56, 57, 58, 59, 60, 61, 62, 63, 64, 65, 66, 67, 68, 69, 70, 71, 72, 73, 74, 75, 76, 77, 78, 79, 80, 81] (by rfl) (by decide +kernel)
set_option maxRecDepth 20000 in
theorem gX5_can_X5_stonesBy : GoodIn wsX5_can (wsV RX5 196 RX5 yX5_stonesBy wsX5_stonesBy) := goodIn_app (goodIn_of _ (by decide +kernel)) ggX5_can_X5_stonesBy
set_option maxRecDepth 20000 in
theorem ggX5_can_X5_leastSink : GoodIn wsX5_can wsX5_leastSink := goodIn_r _ [23, 24, 25, 26, 27, 5, 28, 29, 30, 31, 32, 33, 34, 11, 35, 36, 37, 38, 39, 40, 41, 19, 42, 12, 13, 14, 43, 44, 45, 46, 47, 48, 49, 50, 51, 52, 53, 54, 55, 56, 57, 58, 59, 60, 61, 62, 63, 64, 65, 66, 67, 68, 69, 70, 71, 72, 73, 74, 75, 76, 77, 78, 79, 80, 81] (by rfl) (by decide +kernel)
set_option maxRecDepth 20000 in
theorem gX5_can_X5_leastSink : GoodIn wsX5_can (wsV RX5 199 RX5 yX5_leastSink wsX5_leastSink) := goodIn_app (goodIn_of _ (by decide +kernel)) ggX5_can_X5_leastSink
theorem dX5_can_0 : decode cX5_can 0 = .ok (.iload_n 1, 1) := by decide +kernel
theorem dX5_can_1 : decode cX5_can 1 = .ok (.iload_n 2, 1) := by decide +kernel
theorem dX5_can_2 : decode cX5_can 2 = .ok (.if_icmp .eq 38, 3) := by decide +kernel
theorem dX5_can_5 : decode cX5_can 5 = .ok (.aload_n 0, 1) := by decide +kernel
theorem dX5_can_6 : decode cX5_can 6 = .ok (.iload_n 1, 1) := by decide +kernel
theorem dX5_can_7 : decode cX5_can 7 = .ok (.iload_n 2, 1) := by decide +kernel
theorem dX5_can_8 : decode cX5_can 8 = .ok (.invokevirtual 193, 3) := by decide +kernel
theorem dX5_can_11 : decode cX5_can 11 = .ok (.ifCond .eq 29, 3) := by decide +kernel
theorem dX5_can_14 : decode cX5_can 14 = .ok (.aload_n 0, 1) := by decide +kernel
theorem dX5_can_15 : decode cX5_can 15 = .ok (.iload_n 1, 1) := by decide +kernel
theorem dX5_can_16 : decode cX5_can 16 = .ok (.iload_n 2, 1) := by decide +kernel
theorem dX5_can_17 : decode cX5_can 17 = .ok (.aload_n 0, 1) := by decide +kernel
theorem dX5_can_18 : decode cX5_can 18 = .ok (.iload_n 1, 1) := by decide +kernel
theorem dX5_can_19 : decode cX5_can 19 = .ok (.invokevirtual 196, 3) := by decide +kernel
theorem dX5_can_22 : decode cX5_can 22 = .ok (.iload_n 3, 1) := by decide +kernel
theorem dX5_can_23 : decode cX5_can 23 = .ok (.iconst (-1), 1) := by decide +kernel
theorem dX5_can_24 : decode cX5_can 24 = .ok (.ixor, 1) := by decide +kernel
theorem dX5_can_25 : decode cX5_can 25 = .ok (.iand, 1) := by decide +kernel
theorem dX5_can_26 : decode cX5_can 26 = .ok (.invokevirtual 199, 3) := by decide +kernel
theorem dX5_can_29 : decode cX5_can 29 = .ok (.aload_n 0, 1) := by decide +kernel
theorem dX5_can_30 : decode cX5_can 30 = .ok (.getfield 151, 3) := by decide +kernel
theorem dX5_can_33 : decode cX5_can 33 = .ok (.if_icmp .gt 7, 3) := by decide +kernel
theorem dX5_can_36 : decode cX5_can 36 = .ok (.iconst 1, 1) := by decide +kernel
theorem dX5_can_37 : decode cX5_can 37 = .ok (.goto 4, 3) := by decide +kernel
theorem dX5_can_40 : decode cX5_can 40 = .ok (.iconst 0, 1) := by decide +kernel
theorem dX5_can_41 : decode cX5_can 41 = .ok (.ireturn, 1) := by decide +kernel
set_option maxRecDepth 20000 in
theorem ggX5_toldOf_X5_counts : GoodIn wsX5_toldOf wsX5_counts := goodIn_r _ [8, 1, 2, 9, 10, 11, 7, 12, 55, 56, 57, 58, 59, 60, 61, 62, 63, 64, 65, 66, 67, 68, 69, 70, 71, 72, 73, 74, 75, 76, 77, 78, 79, 80, 81, 82, 83, 84, 85, 86] (by rfl) (by decide +kernel)
set_option maxRecDepth 20000 in
theorem gX5_toldOf_X5_counts : GoodIn wsX5_toldOf (wsV RX5 174 RX5 yX5_counts wsX5_counts) := goodIn_app (goodIn_of _ (by decide +kernel)) ggX5_toldOf_X5_counts
set_option maxRecDepth 20000 in
theorem ggX5_toldOf_X5_isTop : GoodIn wsX5_toldOf wsX5_isTop := goodIn_r _ [16, 9, 17, 18, 7, 19, 55, 56, 57, 58, 59, 60, 61, 62, 63, 64, 65, 66, 67, 68, 69, 70, 71, 72, 73, 74, 75, 76, 77, 78, 79, 80, 81, 82, 83, 84, 85, 86] (by rfl) (by decide +kernel)
set_option maxRecDepth 20000 in
theorem gX5_toldOf_X5_isTop : GoodIn wsX5_toldOf (wsV RX5 184 RX5 yX5_isTop wsX5_isTop) := goodIn_app (goodIn_of _ (by decide +kernel)) ggX5_toldOf_X5_isTop
set_option maxRecDepth 20000 in
theorem ggX5_toldOf_X5_can : GoodIn wsX5_toldOf wsX5_can := goodIn_r _ [23, 24, 25, 26, 27, 7, 28, 13, 14, 15, 16, 9, 17, 18, 19, 29, 30, 31, 32, 33, 34, 35, 36, 37, 38, 39, 40, 41, 42, 1, 4, 5, 6, 8, 2, 10, 11, 12, 43, 44, 45, 46, 47, 48, 49, 50, 51, 52, 53, 54, 55, 56, 57, 58, 59, 60, 61, 62, 63, 64, 65, 66, 67, 68, 69, 70, 71, 72, 73, 74, 75, 76, 77, 78, 79, 80, 81, 82, 83, 84, 85, 86] (by rfl) (by decide +kernel)
set_option maxRecDepth 20000 in
theorem gX5_toldOf_X5_can : GoodIn wsX5_toldOf (wsV RX5 202 RX5 yX5_can wsX5_can) := goodIn_app (goodIn_of _ (by decide +kernel)) ggX5_toldOf_X5_can
theorem dX5_toldOf_0 : decode cX5_toldOf 0 = .ok (.iconst 0, 1) := by decide +kernel
theorem dX5_toldOf_1 : decode cX5_toldOf 1 = .ok (.istore_n 3, 1) := by decide +kernel
theorem dX5_toldOf_2 : decode cX5_toldOf 2 = .ok (.iload_n 2, 1) := by decide +kernel
theorem dX5_toldOf_3 : decode cX5_toldOf 3 = .ok (.tableswitch 63 0 3 #[29, 36, 43, 49], 29) := by decide +kernel
theorem dX5_toldOf_32 : decode cX5_toldOf 32 = .ok (.aload_n 0, 1) := by decide +kernel
theorem dX5_toldOf_33 : decode cX5_toldOf 33 = .ok (.getfield 16, 3) := by decide +kernel
theorem dX5_toldOf_36 : decode cX5_toldOf 36 = .ok (.iload_n 1, 1) := by decide +kernel
theorem dX5_toldOf_37 : decode cX5_toldOf 37 = .ok (.iaload, 1) := by decide +kernel
theorem dX5_toldOf_38 : decode cX5_toldOf 38 = .ok (.ireturn, 1) := by decide +kernel
theorem dX5_toldOf_39 : decode cX5_toldOf 39 = .ok (.aload_n 0, 1) := by decide +kernel
theorem dX5_toldOf_40 : decode cX5_toldOf 40 = .ok (.getfield 19, 3) := by decide +kernel
theorem dX5_toldOf_43 : decode cX5_toldOf 43 = .ok (.iload_n 1, 1) := by decide +kernel
theorem dX5_toldOf_44 : decode cX5_toldOf 44 = .ok (.iaload, 1) := by decide +kernel
theorem dX5_toldOf_45 : decode cX5_toldOf 45 = .ok (.ireturn, 1) := by decide +kernel
theorem dX5_toldOf_46 : decode cX5_toldOf 46 = .ok (.aload_n 0, 1) := by decide +kernel
theorem dX5_toldOf_47 : decode cX5_toldOf 47 = .ok (.iload_n 1, 1) := by decide +kernel
theorem dX5_toldOf_48 : decode cX5_toldOf 48 = .ok (.invokevirtual 174, 3) := by decide +kernel
theorem dX5_toldOf_51 : decode cX5_toldOf 51 = .ok (.ireturn, 1) := by decide +kernel
theorem dX5_toldOf_52 : decode cX5_toldOf 52 = .ok (.aload_n 0, 1) := by decide +kernel
theorem dX5_toldOf_53 : decode cX5_toldOf 53 = .ok (.iload_n 1, 1) := by decide +kernel
theorem dX5_toldOf_54 : decode cX5_toldOf 54 = .ok (.invokevirtual 184, 3) := by decide +kernel
theorem dX5_toldOf_57 : decode cX5_toldOf 57 = .ok (.ifCond .eq 7, 3) := by decide +kernel
theorem dX5_toldOf_60 : decode cX5_toldOf 60 = .ok (.iconst 1, 1) := by decide +kernel
theorem dX5_toldOf_61 : decode cX5_toldOf 61 = .ok (.goto 4, 3) := by decide +kernel
theorem dX5_toldOf_64 : decode cX5_toldOf 64 = .ok (.iconst 0, 1) := by decide +kernel
theorem dX5_toldOf_65 : decode cX5_toldOf 65 = .ok (.ireturn, 1) := by decide +kernel
theorem dX5_toldOf_66 : decode cX5_toldOf 66 = .ok (.iconst 0, 1) := by decide +kernel
theorem dX5_toldOf_67 : decode cX5_toldOf 67 = .ok (.istore 4, 2) := by decide +kernel
theorem dX5_toldOf_69 : decode cX5_toldOf 69 = .ok (.iload 4, 2) := by decide +kernel
theorem dX5_toldOf_71 : decode cX5_toldOf 71 = .ok (.aload_n 0, 1) := by decide +kernel
theorem dX5_toldOf_72 : decode cX5_toldOf 72 = .ok (.getfield 157, 3) := by decide +kernel
theorem dX5_toldOf_75 : decode cX5_toldOf 75 = .ok (.if_icmp .ge 31, 3) := by decide +kernel
theorem dX5_toldOf_78 : decode cX5_toldOf 78 = .ok (.iload_n 3, 1) := by decide +kernel
theorem dX5_toldOf_79 : decode cX5_toldOf 79 = .ok (.aload_n 0, 1) := by decide +kernel
theorem dX5_toldOf_80 : decode cX5_toldOf 80 = .ok (.iload_n 1, 1) := by decide +kernel
theorem dX5_toldOf_81 : decode cX5_toldOf 81 = .ok (.iload 4, 2) := by decide +kernel
theorem dX5_toldOf_83 : decode cX5_toldOf 83 = .ok (.iconst 0, 1) := by decide +kernel
theorem dX5_toldOf_84 : decode cX5_toldOf 84 = .ok (.invokevirtual 202, 3) := by decide +kernel
theorem dX5_toldOf_87 : decode cX5_toldOf 87 = .ok (.ifCond .eq 10, 3) := by decide +kernel
theorem dX5_toldOf_90 : decode cX5_toldOf 90 = .ok (.iconst 1, 1) := by decide +kernel
theorem dX5_toldOf_91 : decode cX5_toldOf 91 = .ok (.iload 4, 2) := by decide +kernel
theorem dX5_toldOf_93 : decode cX5_toldOf 93 = .ok (.ishl, 1) := by decide +kernel
theorem dX5_toldOf_94 : decode cX5_toldOf 94 = .ok (.goto 4, 3) := by decide +kernel
theorem dX5_toldOf_97 : decode cX5_toldOf 97 = .ok (.iconst 0, 1) := by decide +kernel
theorem dX5_toldOf_98 : decode cX5_toldOf 98 = .ok (.ior, 1) := by decide +kernel
theorem dX5_toldOf_99 : decode cX5_toldOf 99 = .ok (.istore_n 3, 1) := by decide +kernel
theorem dX5_toldOf_100 : decode cX5_toldOf 100 = .ok (.iinc 4 1, 3) := by decide +kernel
theorem dX5_toldOf_103 : decode cX5_toldOf 103 = .ok (.goto (-34), 3) := by decide +kernel
theorem dX5_toldOf_106 : decode cX5_toldOf 106 = .ok (.iload_n 3, 1) := by decide +kernel
theorem dX5_toldOf_107 : decode cX5_toldOf 107 = .ok (.ireturn, 1) := by decide +kernel
set_option maxRecDepth 20000 in
theorem ggX5_one_X5_isOne : GoodIn wsX5_one wsX5_isOne := goodIn_r _ [6, 7, 8, 9, 5, 10, 72, 73, 74, 75, 76, 77, 78, 79, 80, 81, 82, 83, 84, 85, 86, 87, 88, 89, 90, 91, 92, 93, 94, 95, 96, 97, 98, 99, 100, 101, 102, 103] (by rfl) (by decide +kernel)
set_option maxRecDepth 20000 in
theorem gX5_one_X5_isOne : GoodIn wsX5_one (wsV RX5 160 RX5 yX5_isOne wsX5_isOne) := goodIn_app (goodIn_of _ (by decide +kernel)) ggX5_one_X5_isOne
set_option maxRecDepth 20000 in
theorem ggX5_one_X5_in : GoodIn wsX5_one wsX5_in := goodIn_r _ [10] (by rfl) (by decide +kernel)
set_option maxRecDepth 20000 in
theorem gX5_one_X5_in : GoodIn wsX5_one (va_wsS RX5 75 yX5_in wsX5_in) := goodIn_app (goodIn_of _ (by decide +kernel)) ggX5_one_X5_in
set_option maxRecDepth 20000 in
theorem ggX5_one_X5_toldOf : GoodIn wsX5_one wsX5_toldOf := goodIn_r _ [14, 15, 16, 7, 17, 18, 19, 5, 20, 21, 22, 23, 24, 25, 26, 27, 28, 29, 30, 31, 32, 33, 34, 35, 36, 37, 38, 39, 40, 41, 42, 43, 44, 45, 46, 47, 48, 49, 50, 51, 52, 53, 54, 55, 56, 57, 58, 59, 60, 61, 62, 63, 64, 65, 66, 72, 73, 74, 75, 76, 77, 78, 79, 80, 81, 82, 83, 84, 85, 86, 87, 88, 89, 90, 91, 92, 93, 94, 95, 96, 97, 98, 99, 100, 101, 102, 103] (by rfl) (by decide +kernel)
set_option maxRecDepth 20000 in
theorem gX5_one_X5_toldOf : GoodIn wsX5_one (wsV RX5 207 RX5 yX5_toldOf wsX5_toldOf) := goodIn_app (goodIn_of _ (by decide +kernel)) ggX5_one_X5_toldOf
set_option maxRecDepth 20000 in
theorem ggX5_one_X5_tell : GoodIn wsX5_one wsX5_tell := goodIn_r _ [70, 71, 72, 73, 74, 75, 76, 77, 78, 79, 80, 81, 82, 83, 84, 85, 86, 87, 88, 89, 90, 91, 92, 93, 94, 95, 96, 97, 98, 99, 100, 101, 102, 103] (by rfl) (by decide +kernel)
set_option maxRecDepth 20000 in
theorem gX5_one_X5_tell : GoodIn wsX5_one (wsV RX5 97 RX5 yX5_tell wsX5_tell) := goodIn_app (goodIn_of _ (by decide +kernel)) ggX5_one_X5_tell
