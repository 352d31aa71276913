/-! THE LAW'S WORDS ARE THE TABLES' -/
set_option maxRecDepth 100000 in
theorem inR1 : ∀ w ∈ wsL_law_r1, w ∈ lw_tbl := fun w h => (goodIn_p wsL_law_r1 [109, 112] (by rfl) (by decide +kernel) w h).1
set_option maxRecDepth 100000 in
theorem inR2 : ∀ w ∈ wsL_law_r2, w ∈ lw_tbl := fun w h => (goodIn_p wsL_law_r2 [117] (by rfl) (by decide +kernel) w h).1
set_option maxRecDepth 100000 in
theorem inR3 : ∀ w ∈ wsL_law_r3, w ∈ lw_tbl := fun w h => (goodIn_p wsL_law_r3 [123, 148, 172, 209] (by rfl) (by decide +kernel) w h).1
set_option maxRecDepth 100000 in
theorem inR4 : ∀ w ∈ wsL_law_r4, w ∈ lw_tbl := fun w h => (goodIn_p wsL_law_r4 [795] (by rfl) (by decide +kernel) w h).1
set_option maxRecDepth 100000 in
theorem inR5 : ∀ w ∈ wsL_law_r5, w ∈ lw_tbl := fun w h => (goodIn_p wsL_law_r5 [288, 292, 296, 300, 304] (by rfl) (by decide +kernel) w h).1
set_option maxRecDepth 100000 in
theorem inR6 : ∀ w ∈ wsL_law_r6, w ∈ lw_tbl := fun w h => (goodIn_p wsL_law_r6 [897, 900, 904, 908, 912, 308] (by rfl) (by decide +kernel) w h).1
set_option maxRecDepth 100000 in
theorem inR7 : ∀ w ∈ wsL_law_r7, w ∈ lw_tbl := fun w h => (goodIn_p wsL_law_r7 [312, 316, 320, 324, 916, 920] (by rfl) (by decide +kernel) w h).1
set_option maxRecDepth 100000 in
theorem inR8 : ∀ w ∈ wsL_law_r8, w ∈ lw_tbl := fun w h => (goodIn_p wsL_law_r8 [924, 328, 928, 332, 932] (by rfl) (by decide +kernel) w h).1
set_option maxRecDepth 100000 in
theorem inR9 : ∀ w ∈ wsL_law_r9, w ∈ lw_tbl := fun w h => (goodIn_p wsL_law_r9 [336, 936, 940, 343, 347] (by rfl) (by decide +kernel) w h).1
set_option maxRecDepth 100000 in
theorem inR10 : ∀ w ∈ wsL_law_r10, w ∈ lw_tbl := fun w h => (goodIn_p wsL_law_r10 [944, 351, 948, 951, 355, 956] (by rfl) (by decide +kernel) w h).1
set_option maxRecDepth 100000 in
theorem inR11 : ∀ w ∈ wsL_law_r11, w ∈ lw_tbl := fun w h => (goodIn_p wsL_law_r11 [359, 363, 367, 371, 375] (by rfl) (by decide +kernel) w h).1
set_option maxRecDepth 100000 in
theorem inR12 : ∀ w ∈ wsL_law_r12, w ∈ lw_tbl := fun w h => (goodIn_p wsL_law_r12 [379, 382, 386, 390, 394, 398] (by rfl) (by decide +kernel) w h).1
set_option maxRecDepth 100000 in
theorem inR13 : ∀ w ∈ wsL_law_r13, w ∈ lw_tbl := fun w h => (goodIn_p wsL_law_r13 [402, 960, 964, 968, 972] (by rfl) (by decide +kernel) w h).1
set_option maxRecDepth 100000 in
theorem inR14 : ∀ w ∈ wsL_law_r14, w ∈ lw_tbl := fun w h => (goodIn_p wsL_law_r14 [976, 980, 984, 988, 991, 406] (by rfl) (by decide +kernel) w h).1
set_option maxRecDepth 100000 in
theorem inR15 : ∀ w ∈ wsL_law_r15, w ∈ lw_tbl := fun w h => (goodIn_p wsL_law_r15 [995, 410, 414, 418] (by rfl) (by decide +kernel) w h).1
set_option maxRecDepth 100000 in
theorem inR16 : ∀ w ∈ wsL_law_r16, w ∈ lw_tbl := fun w h => (goodIn_p wsL_law_r16 [422, 426, 429, 433, 437, 441] (by rfl) (by decide +kernel) w h).1
set_option maxRecDepth 100000 in
theorem inR17 : ∀ w ∈ wsL_law_r17, w ∈ lw_tbl := fun w h => (goodIn_p wsL_law_r17 [445, 449, 453, 458, 462, 466] (by rfl) (by decide +kernel) w h).1
set_option maxRecDepth 100000 in
theorem inR18 : ∀ w ∈ wsL_law_r18, w ∈ lw_tbl := fun w h => (goodIn_p wsL_law_r18 [476, 470, 473, 999, 1003, 1008] (by rfl) (by decide +kernel) w h).1
set_option maxRecDepth 100000 in
theorem inR19 : ∀ w ∈ wsL_law_r19, w ∈ lw_tbl := fun w h => (goodIn_p wsL_law_r19 [1012, 1015, 1019, 1022, 1026, 1030] (by rfl) (by decide +kernel) w h).1
set_option maxRecDepth 100000 in
theorem inR20 : ∀ w ∈ wsL_law_r20, w ∈ lw_tbl := fun w h => (goodIn_p wsL_law_r20 [1034, 1038, 1042, 1046, 1050, 1053] (by rfl) (by decide +kernel) w h).1
set_option maxRecDepth 100000 in
theorem inR21 : ∀ w ∈ wsL_law_r21, w ∈ lw_tbl := fun w h => (goodIn_p wsL_law_r21 [480, 486, 491, 1057, 1061, 1065] (by rfl) (by decide +kernel) w h).1
set_option maxRecDepth 100000 in
theorem inR22 : ∀ w ∈ wsL_law_r22, w ∈ lw_tbl := fun w h => (goodIn_p wsL_law_r22 [495, 499, 503, 507, 511, 517] (by rfl) (by decide +kernel) w h).1
set_option maxRecDepth 100000 in
theorem inR23 : ∀ w ∈ wsL_law_r23, w ∈ lw_tbl := fun w h => (goodIn_p wsL_law_r23 [1069, 1073, 1077, 1081, 1085, 521] (by rfl) (by decide +kernel) w h).1
set_option maxRecDepth 100000 in
theorem inR24 : ∀ w ∈ wsL_law_r24, w ∈ lw_tbl := fun w h => (goodIn_p wsL_law_r24 [1089, 525, 1093, 529, 533, 1097] (by rfl) (by decide +kernel) w h).1
set_option maxRecDepth 100000 in
theorem inR25 : ∀ w ∈ wsL_law_r25, w ∈ lw_tbl := fun w h => (goodIn_p wsL_law_r25 [1102, 538, 1106, 542, 1110] (by rfl) (by decide +kernel) w h).1
set_option maxRecDepth 100000 in
theorem inR26 : ∀ w ∈ wsL_law_r26, w ∈ lw_tbl := fun w h => (goodIn_p wsL_law_r26 [546, 1114, 550, 554, 558, 1118] (by rfl) (by decide +kernel) w h).1
set_option maxRecDepth 100000 in
theorem inR27 : ∀ w ∈ wsL_law_r27, w ∈ lw_tbl := fun w h => (goodIn_p wsL_law_r27 [1122, 562, 566, 570, 574] (by rfl) (by decide +kernel) w h).1
set_option maxRecDepth 100000 in
theorem inR28 : ∀ w ∈ wsL_law_r28, w ∈ lw_tbl := fun w h => (goodIn_p wsL_law_r28 [579, 582, 585, 588, 591, 594] (by rfl) (by decide +kernel) w h).1
set_option maxRecDepth 100000 in
theorem inR29 : ∀ w ∈ wsL_law_r29, w ∈ lw_tbl := fun w h => (goodIn_p wsL_law_r29 [1126, 1129, 1133, 1137, 602, 1141, 606] (by rfl) (by decide +kernel) w h).1
set_option maxRecDepth 100000 in
theorem inR30 : ∀ w ∈ wsL_law_r30, w ∈ lw_tbl := fun w h => (goodIn_p wsL_law_r30 [1145, 610, 1149, 614, 618] (by rfl) (by decide +kernel) w h).1
set_option maxRecDepth 100000 in
theorem inR31 : ∀ w ∈ wsL_law_r31, w ∈ lw_tbl := fun w h => (goodIn_p wsL_law_r31 [622, 626, 630, 634, 638, 642] (by rfl) (by decide +kernel) w h).1
set_option maxRecDepth 100000 in
theorem inR32 : ∀ w ∈ wsL_law_r32, w ∈ lw_tbl := fun w h => (goodIn_p wsL_law_r32 [646, 1153, 1157, 1161, 1165] (by rfl) (by decide +kernel) w h).1
set_option maxRecDepth 100000 in
theorem inR33 : ∀ w ∈ wsL_law_r33, w ∈ lw_tbl := fun w h => (goodIn_p wsL_law_r33 [1169, 1173, 1176, 1180, 650, 1184, 654] (by rfl) (by decide +kernel) w h).1
set_option maxRecDepth 100000 in
theorem inR34 : ∀ w ∈ wsL_law_r34, w ∈ lw_tbl := fun w h => (goodIn_p wsL_law_r34 [658, 1188, 662, 666, 670, 674] (by rfl) (by decide +kernel) w h).1
set_option maxRecDepth 100000 in
theorem inR35 : ∀ w ∈ wsL_law_r35, w ∈ lw_tbl := fun w h => (goodIn_p wsL_law_r35 [1192, 1196, 1201, 1205, 679] (by rfl) (by decide +kernel) w h).1
set_option maxRecDepth 100000 in
theorem inR36 : ∀ w ∈ wsL_law_r36, w ∈ lw_tbl := fun w h => (goodIn_p wsL_law_r36 [683, 1209, 1213, 687, 691, 694] (by rfl) (by decide +kernel) w h).1
set_option maxRecDepth 100000 in
theorem inR37 : ∀ w ∈ wsL_law_r37, w ∈ lw_tbl := fun w h => (goodIn_p wsL_law_r37 [1217, 1221, 698, 702, 706, 1225] (by rfl) (by decide +kernel) w h).1
set_option maxRecDepth 100000 in
theorem inR38 : ∀ w ∈ wsL_law_r38, w ∈ lw_tbl := fun w h => (goodIn_p wsL_law_r38 [1229, 1233, 712, 715, 718, 722] (by rfl) (by decide +kernel) w h).1
set_option maxRecDepth 100000 in
theorem inR39 : ∀ w ∈ wsL_law_r39, w ∈ lw_tbl := fun w h => (goodIn_p wsL_law_r39 [1237, 1241, 1246, 727, 1250] (by rfl) (by decide +kernel) w h).1
set_option maxRecDepth 100000 in
theorem inR40 : ∀ w ∈ wsL_law_r40, w ∈ lw_tbl := fun w h => (goodIn_p wsL_law_r40 [731, 737, 1254] (by rfl) (by decide +kernel) w h).1
set_option maxRecDepth 100000 in
theorem inR41 : ∀ w ∈ wsL_law_r41, w ∈ lw_tbl := fun w h => (goodIn_p wsL_law_r41 [745, 1264, 749, 1268, 753, 1272] (by rfl) (by decide +kernel) w h).1
set_option maxRecDepth 100000 in
theorem inR42 : ∀ w ∈ wsL_law_r42, w ∈ lw_tbl := fun w h => (goodIn_p wsL_law_r42 [757, 761, 765, 770, 1276, 1280] (by rfl) (by decide +kernel) w h).1
set_option maxRecDepth 100000 in
theorem inR43 : ∀ w ∈ wsL_law_r43, w ∈ lw_tbl := fun w h => (goodIn_p wsL_law_r43 [1284, 1288, 774, 1292, 778, 1296] (by rfl) (by decide +kernel) w h).1
set_option maxRecDepth 100000 in
theorem inR44 : ∀ w ∈ wsL_law_r44, w ∈ lw_tbl := fun w h => (goodIn_p wsL_law_r44 [782, 789, 1300] (by rfl) (by decide +kernel) w h).1
set_option maxRecDepth 100000 in
theorem inX4 : ∀ w ∈ wsX40, w ∈ lw_tbl := by decide +kernel
set_option maxRecDepth 100000 in
theorem inX5 : ∀ w ∈ wsX50, w ∈ lw_tbl := by decide +kernel
set_option maxRecDepth 100000 in
theorem inX2 : ∀ w ∈ wsX20, w ∈ lw_tbl := by decide +kernel
set_option maxRecDepth 100000 in
theorem inX0 : ∀ w ∈ wsX00, w ∈ lw_tbl := by decide +kernel
set_option maxRecDepth 100000 in
theorem inX3 : ∀ w ∈ wsX30, w ∈ lw_tbl := by decide +kernel
set_option maxRecDepth 100000 in
theorem inX1 : ∀ w ∈ wsX10, w ∈ lw_tbl := by decide +kernel
theorem mem_or {a b big : List Cond} (ha : ∀ w ∈ a, w ∈ big) (hb : ∀ w ∈ b, w ∈ big) : ∀ w ∈ a ++ b, w ∈ big := fun w h => (List.mem_append.mp h).elim (ha w) (hb w)
theorem wsL_law_in : ∀ w ∈ wsL_law, w ∈ lw_tbl := mem_or (mem_or (mem_or (mem_or (mem_or (mem_or (mem_or (mem_or inR1 (mem_or inR2 (mem_or inR3 (mem_or inR4 (mem_or inR5 (mem_or inR6 (mem_or inR7 (mem_or inR8 (mem_or inR9 (mem_or inR10 (mem_or inR11 (mem_or inR12 (mem_or inR13 (mem_or inR14 (mem_or inR15 (mem_or inR16 (mem_or inR17 (mem_or inR18 (mem_or inR19 (mem_or inR20 (mem_or inR21 (mem_or inR22 (mem_or inR23 (mem_or inR24 (mem_or inR25 (mem_or inR26 (mem_or inR27 (mem_or inR28 (mem_or inR29 (mem_or inR30 (mem_or inR31 (mem_or inR32 (mem_or inR33 (mem_or inR34 (mem_or inR35 (mem_or inR36 (mem_or inR37 (mem_or inR38 (mem_or inR39 (mem_or inR40 (mem_or inR41 (mem_or inR42 (mem_or inR43 (inR44)))))))))))))))))))))))))))))))))))))))))))) inX4) inX5) inX2) inX0) inX3) inX1) (fun w h => absurd h List.not_mem_nil)
theorem goodIn_up {ws : List Cond} (h : GoodIn wsL_law ws) : GoodIn lw_tbl ws := fun w hw => ⟨wsL_law_in w (h w hw).1, (h w hw).2⟩
