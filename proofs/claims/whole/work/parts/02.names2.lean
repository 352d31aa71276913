set_option maxRecDepth 20000 in
theorem wsL_law_in : ∀ w ∈ wsL_law, w ∈ lw_tbl := fun w h => (goodIn_p wsL_law [109, 112, 117, 123, 148, 172, 209, 794, 288, 292, 296, 300, 304, 896, 899, 903, 907, 911, 308, 312, 316, 320, 324, 915, 919, 923, 328, 927, 332, 931, 336, 935, 939, 343, 347, 943, 351, 947, 950, 355, 955, 359, 363, 367, 371, 375, 379, 382, 386, 390, 394, 398, 402, 959, 963, 967, 971, 975, 979, 983, 987, 990, 406, 994, 410, 414, 418, 422, 426, 429, 433, 437, 441, 445, 449, 453, 458, 462, 466, 476, 470, 473, 998, 1002, 1007, 1011, 1014, 1018, 1021, 1025, 1029, 1033, 1037, 1041, 1045, 1049, 1052, 480, 486, 491, 1056, 1060, 1064, 495, 499, 503, 507, 511, 517, 1068, 1072, 1076, 1080, 1084, 521, 1088, 525, 1092, 529, 533, 1096, 1101, 538, 1105, 542, 1109, 546, 1113, 550, 554, 558, 1117, 1121, 562, 566, 570, 574, 579, 582, 585, 588, 593, 1125, 1128, 1132, 1136, 601, 1140, 605, 1144, 609, 1148, 613, 617, 621, 625, 629, 633, 637, 641, 645, 1152, 1156, 1160, 1164, 1168, 1172, 1175, 1179, 649, 1183, 653, 657, 1187, 661, 665, 669, 673, 1191, 1195, 1200, 1204, 678, 682, 1208, 1212, 686, 690, 693, 1216, 1220, 697, 701, 705, 1224, 1228, 1232, 711, 714, 717, 721, 1236, 1240, 1245, 726, 1249, 730, 736, 1253, 744, 1263, 748, 1267, 752, 1271, 756, 760, 764, 769, 1275, 1279, 1283, 1287, 773, 1291, 777, 1295, 781, 788, 1299] (by decide +kernel) (by decide +kernel) w h).1
theorem inlX0 : ∀ w ∈ wsX00, w ∈ wsL_law := fun _ h => List.mem_append_left _ (List.mem_append_left _ (List.mem_append_left _ (List.mem_append_right _ h)))
theorem inX0 : ∀ w ∈ wsX00, w ∈ lw_tbl := fun w h => wsL_law_in w (inlX0 w h)
theorem inlX1 : ∀ w ∈ wsX10, w ∈ wsL_law := fun _ h => List.mem_append_left _ (List.mem_append_right _ h)
theorem inX1 : ∀ w ∈ wsX10, w ∈ lw_tbl := fun w h => wsL_law_in w (inlX1 w h)
theorem inlX2 : ∀ w ∈ wsX20, w ∈ wsL_law := fun _ h => List.mem_append_left _ (List.mem_append_left _ (List.mem_append_left _ (List.mem_append_left _ (List.mem_append_right _ h))))
theorem inX2 : ∀ w ∈ wsX20, w ∈ lw_tbl := fun w h => wsL_law_in w (inlX2 w h)
theorem inlX3 : ∀ w ∈ wsX30, w ∈ wsL_law := fun _ h => List.mem_append_left _ (List.mem_append_left _ (List.mem_append_right _ h))
theorem inX3 : ∀ w ∈ wsX30, w ∈ lw_tbl := fun w h => wsL_law_in w (inlX3 w h)
theorem inlX4 : ∀ w ∈ wsX40, w ∈ wsL_law := fun _ h => List.mem_append_left _ (List.mem_append_left _ (List.mem_append_left _ (List.mem_append_left _ (List.mem_append_left _ (List.mem_append_left _ (List.mem_append_right _ h))))))
theorem inX4 : ∀ w ∈ wsX40, w ∈ lw_tbl := fun w h => wsL_law_in w (inlX4 w h)
theorem inlX5 : ∀ w ∈ wsX50, w ∈ wsL_law := fun _ h => List.mem_append_left _ (List.mem_append_left _ (List.mem_append_left _ (List.mem_append_left _ (List.mem_append_left _ (List.mem_append_right _ h)))))
theorem inX5 : ∀ w ∈ wsX50, w ∈ lw_tbl := fun w h => wsL_law_in w (inlX5 w h)
theorem inJ6 : ∀ w ∈ wsJ60, w ∈ lw_tbl := by decide +kernel
theorem inJ9 : ∀ w ∈ wsJ90, w ∈ lw_tbl := by decide +kernel
theorem inJ10 : ∀ w ∈ wsJ100, w ∈ lw_tbl := by decide +kernel
theorem inJ7 : ∀ w ∈ wsJ70, w ∈ lw_tbl := by decide +kernel
