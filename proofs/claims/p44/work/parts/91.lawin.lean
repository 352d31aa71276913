/-! THE LAW'S WORDS ARE THE TABLES' -/
set_option maxRecDepth 100000 in
theorem inR1 : ∀ w ∈ wsL_law_r1, w ∈ lw_tbl := fun w h => (goodIn_p wsL_law_r1 [56, 59] (by rfl) (by decide +kernel) w h).1
set_option maxRecDepth 100000 in
theorem inR2 : ∀ w ∈ wsL_law_r2, w ∈ lw_tbl := fun w h => (goodIn_p wsL_law_r2 [64, 70] (by rfl) (by decide +kernel) w h).1
set_option maxRecDepth 100000 in
theorem inR3 : ∀ w ∈ wsL_law_r3, w ∈ lw_tbl := fun w h => (goodIn_p wsL_law_r3 [95, 119, 156] (by rfl) (by decide +kernel) w h).1
set_option maxRecDepth 100000 in
theorem inR4 : ∀ w ∈ wsL_law_r4, w ∈ lw_tbl := fun w h => (goodIn_p wsL_law_r4 [694, 686, 690, 698, 239] (by rfl) (by decide +kernel) w h).1
set_option maxRecDepth 100000 in
theorem inR5 : ∀ w ∈ wsL_law_r5, w ∈ lw_tbl := fun w h => (goodIn_p wsL_law_r5 [243, 247, 251, 702, 259, 263] (by rfl) (by decide +kernel) w h).1
set_option maxRecDepth 100000 in
theorem inR6 : ∀ w ∈ wsL_law_r6, w ∈ lw_tbl := fun w h => (goodIn_p wsL_law_r6 [267, 271, 705, 709, 283] (by rfl) (by decide +kernel) w h).1
set_option maxRecDepth 100000 in
theorem inR7 : ∀ w ∈ wsL_law_r7, w ∈ lw_tbl := fun w h => (goodIn_p wsL_law_r7 [287, 291, 295, 299, 302, 306] (by rfl) (by decide +kernel) w h).1
set_option maxRecDepth 100000 in
theorem inR8 : ∀ w ∈ wsL_law_r8, w ∈ lw_tbl := fun w h => (goodIn_p wsL_law_r8 [310, 314, 318, 322, 279] (by rfl) (by decide +kernel) w h).1
set_option maxRecDepth 100000 in
theorem inR9 : ∀ w ∈ wsL_law_r9, w ∈ lw_tbl := fun w h => (goodIn_p wsL_law_r9 [667, 644, 363, 347, 355] (by rfl) (by decide +kernel) w h).1
set_option maxRecDepth 100000 in
theorem inR10 : ∀ w ∈ wsL_law_r10, w ∈ lw_tbl := fun w h => (goodIn_p wsL_law_r10 [648, 652, 658, 663, 674] (by rfl) (by decide +kernel) w h).1
set_option maxRecDepth 100000 in
theorem inR11 : ∀ w ∈ wsL_law_r11, w ∈ lw_tbl := fun w h => (goodIn_p wsL_law_r11 [419, 370, 678, 441, 343, 351] (by rfl) (by decide +kernel) w h).1
set_option maxRecDepth 100000 in
theorem inR12 : ∀ w ∈ wsL_law_r12, w ∈ lw_tbl := fun w h => (goodIn_p wsL_law_r12 [415, 374, 425, 429, 377, 380, 682] (by rfl) (by decide +kernel) w h).1
set_option maxRecDepth 100000 in
theorem inR13 : ∀ w ∈ wsL_law_r13, w ∈ lw_tbl := fun w h => (goodIn_p wsL_law_r13 [392, 396, 715, 719, 384] (by rfl) (by decide +kernel) w h).1
set_option maxRecDepth 100000 in
theorem inR14 : ∀ w ∈ wsL_law_r14, w ∈ lw_tbl := fun w h => (goodIn_p wsL_law_r14 [722, 725, 728, 731, 735, 738, 741] (by rfl) (by decide +kernel) w h).1
set_option maxRecDepth 100000 in
theorem inR15 : ∀ w ∈ wsL_law_r15, w ∈ lw_tbl := fun w h => (goodIn_p wsL_law_r15 [744, 747, 750, 326, 330, 334, 338] (by rfl) (by decide +kernel) w h).1
set_option maxRecDepth 100000 in
theorem inR16 : ∀ w ∈ wsL_law_r16, w ∈ lw_tbl := fun w h => (goodIn_p wsL_law_r16 [359, 367, 712, 753, 757, 632] (by rfl) (by decide +kernel) w h).1
set_option maxRecDepth 100000 in
theorem inR17 : ∀ w ∈ wsL_law_r17, w ∈ lw_tbl := fun w h => (goodIn_p wsL_law_r17 [407, 388, 411, 497, 489, 433] (by rfl) (by decide +kernel) w h).1
set_option maxRecDepth 100000 in
theorem inR18 : ∀ w ∈ wsL_law_r18, w ∈ lw_tbl := fun w h => (goodIn_p wsL_law_r18 [437, 445, 449, 453, 457] (by rfl) (by decide +kernel) w h).1
set_option maxRecDepth 100000 in
theorem inR19 : ∀ w ∈ wsL_law_r19, w ∈ lw_tbl := fun w h => (goodIn_p wsL_law_r19 [461, 466, 469, 472, 475, 478, 481] (by rfl) (by decide +kernel) w h).1
set_option maxRecDepth 100000 in
theorem inR20 : ∀ w ∈ wsL_law_r20, w ∈ lw_tbl := fun w h => (goodIn_p wsL_law_r20 [493, 501, 505, 509] (by rfl) (by decide +kernel) w h).1
set_option maxRecDepth 100000 in
theorem inR21 : ∀ w ∈ wsL_law_r21, w ∈ lw_tbl := fun w h => (goodIn_p wsL_law_r21 [513, 517, 521, 525, 529, 533] (by rfl) (by decide +kernel) w h).1
set_option maxRecDepth 100000 in
theorem inR22 : ∀ w ∈ wsL_law_r22, w ∈ lw_tbl := fun w h => (goodIn_p wsL_law_r22 [537, 541, 545, 235, 255, 549] (by rfl) (by decide +kernel) w h).1
set_option maxRecDepth 100000 in
theorem inR23 : ∀ w ∈ wsL_law_r23, w ∈ lw_tbl := fun w h => (goodIn_p wsL_law_r23 [553, 557, 561, 566, 570, 574] (by rfl) (by decide +kernel) w h).1
set_option maxRecDepth 100000 in
theorem inR24 : ∀ w ∈ wsL_law_r24, w ∈ lw_tbl := fun w h => (goodIn_p wsL_law_r24 [578, 581, 585, 589, 593] (by rfl) (by decide +kernel) w h).1
set_option maxRecDepth 100000 in
theorem inR25 : ∀ w ∈ wsL_law_r25, w ∈ lw_tbl := fun w h => (goodIn_p wsL_law_r25 [599, 602, 605, 609, 636, 640] (by rfl) (by decide +kernel) w h).1
set_option maxRecDepth 100000 in
theorem inR26 : ∀ w ∈ wsL_law_r26, w ∈ lw_tbl := fun w h => (goodIn_p wsL_law_r26 [614, 618, 624, 403, 275] (by rfl) (by decide +kernel) w h).1
set_option maxRecDepth 100000 in
theorem inX4 : ∀ w ∈ wsX40, w ∈ lw_tbl := by decide +kernel
set_option maxRecDepth 100000 in
theorem inX2 : ∀ w ∈ wsX20, w ∈ lw_tbl := by decide +kernel
set_option maxRecDepth 100000 in
theorem inX0 : ∀ w ∈ wsX00, w ∈ lw_tbl := by decide +kernel
set_option maxRecDepth 100000 in
theorem inX3 : ∀ w ∈ wsX30, w ∈ lw_tbl := by decide +kernel
set_option maxRecDepth 100000 in
theorem inX1 : ∀ w ∈ wsX10, w ∈ lw_tbl := by decide +kernel
theorem mem_or {a b big : List Cond} (ha : ∀ w ∈ a, w ∈ big) (hb : ∀ w ∈ b, w ∈ big) : ∀ w ∈ a ++ b, w ∈ big := fun w h => (List.mem_append.mp h).elim (ha w) (hb w)
theorem wsL_law_in : ∀ w ∈ wsL_law, w ∈ lw_tbl := mem_or (mem_or (mem_or (mem_or (mem_or (mem_or (mem_or inR1 (mem_or inR2 (mem_or inR3 (mem_or inR4 (mem_or inR5 (mem_or inR6 (mem_or inR7 (mem_or inR8 (mem_or inR9 (mem_or inR10 (mem_or inR11 (mem_or inR12 (mem_or inR13 (mem_or inR14 (mem_or inR15 (mem_or inR16 (mem_or inR17 (mem_or inR18 (mem_or inR19 (mem_or inR20 (mem_or inR21 (mem_or inR22 (mem_or inR23 (mem_or inR24 (mem_or inR25 inR26))))))))))))))))))))))))) inX4) inX2) inX0) inX3) inX1) (fun w h => absurd h List.not_mem_nil)
theorem goodIn_up {ws : List Cond} (h : GoodIn wsL_law ws) : GoodIn lw_tbl ws := fun w hw => ⟨wsL_law_in w (h w hw).1, (h w hw).2⟩
