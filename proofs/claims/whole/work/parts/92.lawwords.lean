set_option maxRecDepth 20000 in
theorem ggL_law_X4_init : GoodIn wsL_law wsX4_init := goodIn_r _ [8, 9, 10, 11, 12, 13, 14, 15, 16, 17, 18, 19, 20, 21, 22, 23, 24, 25, 26, 27, 28, 29, 30, 31, 32, 33, 34, 35, 36, 37, 38, 39, 40, 41, 42, 43, 44, 45, 46, 47, 48, 49, 50, 51, 52, 53, 54, 55, 56, 57, 58, 59, 60, 61, 62, 63, 64, 65, 66, 67, 68, 69, 70, 71, 72, 73, 1094, 1095, 1096, 1097, 1098, 1049, 1050, 1051, 1052, 1053, 1054, 1055, 1056, 1057, 1058, 1059, 1060, 1061, 1099, 1100, 1101, 1102, 1103, 1104, 1105, 1106, 1107, 1108, 1109, 1110, 1111, 1112, 1113, 1114, 1115, 1116, 1117, 1118, 1119, 1120] (by rfl) (by decide +kernel)
set_option maxRecDepth 20000 in
theorem gL_law_X4_init : GoodIn wsL_law (wsX4_init) := ggL_law_X4_init
set_option maxRecDepth 20000 in
theorem ggL_law_X5_init : GoodIn wsL_law wsX5_init := goodIn_r _ [76, 77, 10, 11, 28, 78, 79, 80, 81, 82, 83, 84, 85, 86, 87, 88, 89, 22, 90, 91, 92, 93, 94, 95, 1062, 1063, 1064, 1065, 1066, 1067, 1068, 1069, 1070, 1071, 1072, 1073, 1074, 1075, 1076, 1077, 1078, 1079, 1080, 1081, 1082, 1083, 1084, 1085, 1086, 1087, 1088, 1089, 1090, 1091, 1092, 1093] (by rfl) (by decide +kernel)
set_option maxRecDepth 20000 in
theorem gL_law_X5_init : GoodIn wsL_law (wsX5_init) := ggL_law_X5_init
set_option maxRecDepth 20000 in
theorem ggL_law_X4_row : GoodIn wsL_law wsX4_row := goodIn_r _ [99, 15, 100, 101, 102, 2, 103, 104, 105, 106, 107, 14, 108, 40, 109, 110, 111, 112, 113, 29, 114, 115, 116, 117, 45, 44, 42, 46, 47, 48, 49, 1049, 1050, 1051, 1052, 1053, 1054, 1055, 1056, 1057, 1058, 1059, 1060, 1061, 1094, 1095, 1096, 1097, 1098] (by rfl) (by decide +kernel)
set_option maxRecDepth 20000 in
theorem gL_law_X4_row : GoodIn wsL_law (wsV RL 13 RX4 yX4_row wsX4_row) := goodIn_app (goodIn_of _ (by decide +kernel)) ggL_law_X4_row
set_option maxRecDepth 20000 in
theorem ggL_law_X5_row : GoodIn wsL_law wsX5_row := goodIn_r _ [121, 122, 123, 5, 124, 125, 126, 127, 128, 129, 130, 131, 132, 133, 87, 134, 135, 136, 137, 82, 83, 1062, 1063, 1064, 1065, 1066, 1067, 1068, 1069, 1070, 1071, 1072, 1073, 1074, 1075, 1076, 1077, 1078, 1079, 1080, 1081, 1082, 1083, 1084, 1085, 1086, 1087, 1088, 1089, 1090, 1091, 1092, 1093] (by rfl) (by decide +kernel)
set_option maxRecDepth 20000 in
theorem gL_law_X5_row : GoodIn wsL_law (wsV RL 17 RX5 yX5_row wsX5_row) := goodIn_app (goodIn_of _ (by decide +kernel)) ggL_law_X5_row
set_option maxRecDepth 20000 in
theorem ggL_law_X4_lay : GoodIn wsL_law wsX4_lay := goodIn_r _ [141, 15, 142, 143, 144, 145, 146, 2, 147, 148, 149, 150, 151, 105, 106, 107, 14, 108, 40, 152, 153, 154, 155, 45, 109, 110, 111, 112, 113, 29, 156, 157, 158, 159, 1049, 1050, 1051, 1052, 1053, 1054, 1055, 1056, 1057, 1058, 1059, 1060, 1061, 1094, 1095, 1096, 1097, 1098] (by rfl) (by decide +kernel)
set_option maxRecDepth 20000 in
theorem gL_law_X4_lay : GoodIn wsL_law (wsV RL 18 RX4 yX4_lay wsX4_lay) := goodIn_app (goodIn_of _ (by decide +kernel)) ggL_law_X4_lay
set_option maxRecDepth 20000 in
theorem ggL_law_X5_lay : GoodIn wsL_law wsX5_lay := goodIn_r _ [163, 83, 164, 165, 166, 5, 167, 82, 122, 123, 124, 125, 126, 127, 128, 129, 130, 131, 132, 133, 87, 168, 169, 170, 171, 172, 1062, 1063, 1064, 1065, 1066, 1067, 1068, 1069, 1070, 1071, 1072, 1073, 1074, 1075, 1076, 1077, 1078, 1079, 1080, 1081, 1082, 1083, 1084, 1085, 1086, 1087, 1088, 1089, 1090, 1091, 1092, 1093] (by rfl) (by decide +kernel)
set_option maxRecDepth 20000 in
theorem gL_law_X5_lay : GoodIn wsL_law (wsV RL 22 RX5 yX5_lay wsX5_lay) := goodIn_app (goodIn_of _ (by decide +kernel)) ggL_law_X5_lay
set_option maxRecDepth 20000 in
theorem ggL_law_X4_at : GoodIn wsL_law wsX4_at := goodIn_r _ [176, 15, 142, 143, 144, 145, 146, 2, 147, 148, 149, 150, 151, 105, 106, 107, 14, 108, 40, 152, 153, 154, 155, 45, 109, 110, 111, 112, 113, 29, 156, 157, 158, 159, 1049, 1050, 1051, 1052, 1053, 1054, 1055, 1056, 1057, 1058, 1059, 1060, 1061, 1094, 1095, 1096, 1097, 1098] (by rfl) (by decide +kernel)
set_option maxRecDepth 20000 in
theorem gL_law_X4_at : GoodIn wsL_law (wsV RL 23 RX4 yX4_at wsX4_at) := goodIn_app (goodIn_of _ (by decide +kernel)) ggL_law_X4_at
set_option maxRecDepth 20000 in
theorem ggL_law_X5_at : GoodIn wsL_law wsX5_at := goodIn_r _ [180, 83, 164, 165, 166, 5, 167, 82, 122, 123, 124, 125, 126, 127, 128, 129, 130, 131, 132, 133, 87, 168, 169, 170, 171, 172, 1062, 1063, 1064, 1065, 1066, 1067, 1068, 1069, 1070, 1071, 1072, 1073, 1074, 1075, 1076, 1077, 1078, 1079, 1080, 1081, 1082, 1083, 1084, 1085, 1086, 1087, 1088, 1089, 1090, 1091, 1092, 1093] (by rfl) (by decide +kernel)
set_option maxRecDepth 20000 in
theorem gL_law_X5_at : GoodIn wsL_law (wsV RL 26 RX5 yX5_at wsX5_at) := goodIn_app (goodIn_of _ (by decide +kernel)) ggL_law_X5_at
set_option maxRecDepth 20000 in
theorem ggL_law_X4_tear : GoodIn wsL_law wsX4_tear := goodIn_r _ [184, 15, 185, 148, 149, 150, 2, 151, 105, 106, 107, 14, 108, 40, 152, 153, 154, 155, 45, 109, 110, 111, 112, 113, 29, 1049, 1050, 1051, 1052, 1053, 1054, 1055, 1056, 1057, 1058, 1059, 1060, 1061, 1094, 1095, 1096, 1097, 1098] (by rfl) (by decide +kernel)
set_option maxRecDepth 20000 in
theorem gL_law_X4_tear : GoodIn wsL_law (wsV RL 27 RX4 yX4_tear wsX4_tear) := goodIn_app (goodIn_of _ (by decide +kernel)) ggL_law_X4_tear
set_option maxRecDepth 20000 in
theorem ggL_law_X5_tear : GoodIn wsL_law wsX5_tear := goodIn_r _ [189, 82, 122, 123, 5, 124, 125, 126, 127, 128, 129, 130, 131, 132, 133, 87, 1062, 1063, 1064, 1065, 1066, 1067, 1068, 1069, 1070, 1071, 1072, 1073, 1074, 1075, 1076, 1077, 1078, 1079, 1080, 1081, 1082, 1083, 1084, 1085, 1086, 1087, 1088, 1089, 1090, 1091, 1092, 1093] (by rfl) (by decide +kernel)
set_option maxRecDepth 20000 in
theorem gL_law_X5_tear : GoodIn wsL_law (wsV RL 31 RX5 yX5_tear wsX5_tear) := goodIn_app (goodIn_of _ (by decide +kernel)) ggL_law_X5_tear
set_option maxRecDepth 20000 in
theorem ggL_law_X4_copy : GoodIn wsL_law wsX4_copy := goodIn_r _ [193, 15, 142, 194, 195, 196, 197, 105, 106, 107, 14, 108, 40, 109, 110, 111, 2, 112, 113, 29, 152, 153, 154, 155, 45, 156, 157, 158, 159, 1049, 1050, 1051, 1052, 1053, 1054, 1055, 1056, 1057, 1058, 1059, 1060, 1061, 1094, 1095, 1096, 1097, 1098] (by rfl) (by decide +kernel)
set_option maxRecDepth 20000 in
theorem gL_law_X4_copy : GoodIn wsL_law (wsV RL 32 RX4 yX4_copy wsX4_copy) := goodIn_app (goodIn_of _ (by decide +kernel)) ggL_law_X4_copy
set_option maxRecDepth 20000 in
theorem ggL_law_X5_copy : GoodIn wsL_law wsX5_copy := goodIn_r _ [201, 82, 83, 122, 123, 5, 124, 125, 126, 127, 128, 129, 130, 131, 132, 133, 87, 202, 203, 204, 205, 1062, 1063, 1064, 1065, 1066, 1067, 1068, 1069, 1070, 1071, 1072, 1073, 1074, 1075, 1076, 1077, 1078, 1079, 1080, 1081, 1082, 1083, 1084, 1085, 1086, 1087, 1088, 1089, 1090, 1091, 1092, 1093] (by rfl) (by decide +kernel)
set_option maxRecDepth 20000 in
theorem gL_law_X5_copy : GoodIn wsL_law (wsV RL 36 RX5 yX5_copy wsX5_copy) := goodIn_app (goodIn_of _ (by decide +kernel)) ggL_law_X5_copy
set_option maxRecDepth 20000 in
theorem ggL_law_X4_mean : GoodIn wsL_law wsX4_mean := goodIn_r _ [209, 15, 185, 143, 148, 149, 150, 2, 151, 105, 106, 107, 14, 108, 40, 152, 153, 154, 155, 45, 109, 110, 111, 112, 113, 29, 210, 211, 212, 213, 44, 1049, 1050, 1051, 1052, 1053, 1054, 1055, 1056, 1057, 1058, 1059, 1060, 1061, 1094, 1095, 1096, 1097, 1098] (by rfl) (by decide +kernel)
set_option maxRecDepth 20000 in
theorem gL_law_X4_mean : GoodIn wsL_law (wsV RL 37 RX4 yX4_mean wsX4_mean) := goodIn_app (goodIn_of _ (by decide +kernel)) ggL_law_X4_mean
set_option maxRecDepth 20000 in
theorem ggL_law_X5_mean : GoodIn wsL_law wsX5_mean := goodIn_r _ [217, 82, 83, 122, 123, 5, 124, 125, 126, 127, 128, 129, 130, 131, 132, 133, 87, 168, 169, 170, 171, 172, 1062, 1063, 1064, 1065, 1066, 1067, 1068, 1069, 1070, 1071, 1072, 1073, 1074, 1075, 1076, 1077, 1078, 1079, 1080, 1081, 1082, 1083, 1084, 1085, 1086, 1087, 1088, 1089, 1090, 1091, 1092, 1093] (by rfl) (by decide +kernel)
set_option maxRecDepth 20000 in
theorem gL_law_X5_mean : GoodIn wsL_law (wsV RL 40 RX5 yX5_mean wsX5_mean) := goodIn_app (goodIn_of _ (by decide +kernel)) ggL_law_X5_mean
set_option maxRecDepth 20000 in
theorem ggL_law_X4_text : GoodIn wsL_law wsX4_text := goodIn_r _ [221, 16, 100, 101, 102, 2, 103, 104, 105, 106, 107, 14, 108, 40, 109, 110, 111, 112, 113, 29, 114, 115, 116, 117, 45, 44, 42, 46, 47, 48, 49, 1049, 1050, 1051, 1052, 1053, 1054, 1055, 1056, 1057, 1058, 1059, 1060, 1061, 1094, 1095, 1096, 1097, 1098] (by rfl) (by decide +kernel)
set_option maxRecDepth 20000 in
theorem gL_law_X4_text : GoodIn wsL_law (wsV RL 41 RX4 yX4_text wsX4_text) := goodIn_app (goodIn_of _ (by decide +kernel)) ggL_law_X4_text
set_option maxRecDepth 20000 in
theorem ggL_law_X5_text : GoodIn wsL_law wsX5_text := goodIn_r _ [225, 84, 85, 226, 227, 5, 228, 229, 126, 127, 128, 129, 130, 131, 132, 133, 87, 1062, 1063, 1064, 1065, 1066, 1067, 1068, 1069, 1070, 1071, 1072, 1073, 1074, 1075, 1076, 1077, 1078, 1079, 1080, 1081, 1082, 1083, 1084, 1085, 1086, 1087, 1088, 1089, 1090, 1091, 1092, 1093] (by rfl) (by decide +kernel)
set_option maxRecDepth 20000 in
theorem gL_law_X5_text : GoodIn wsL_law (wsV RL 44 RX5 yX5_text wsX5_text) := goodIn_app (goodIn_of _ (by decide +kernel)) ggL_law_X5_text
set_option maxRecDepth 20000 in
theorem ggL_law_X4_put : GoodIn wsL_law wsX4_put := goodIn_r _ [233, 16, 142, 144, 145, 146, 2, 147, 148, 149, 150, 151, 105, 106, 107, 14, 108, 40, 152, 153, 154, 155, 45, 109, 110, 111, 112, 113, 29, 156, 157, 158, 159, 1049, 1050, 1051, 1052, 1053, 1054, 1055, 1056, 1057, 1058, 1059, 1060, 1061, 1094, 1095, 1096, 1097, 1098] (by rfl) (by decide +kernel)
set_option maxRecDepth 20000 in
theorem gL_law_X4_put : GoodIn wsL_law (wsV RL 45 RX4 yX4_put wsX4_put) := goodIn_app (goodIn_of _ (by decide +kernel)) ggL_law_X4_put
set_option maxRecDepth 20000 in
theorem ggL_law_X5_put : GoodIn wsL_law wsX5_put := goodIn_r _ [237, 84, 85, 226, 227, 5, 228, 229, 126, 127, 128, 129, 130, 131, 132, 133, 87, 1062, 1063, 1064, 1065, 1066, 1067, 1068, 1069, 1070, 1071, 1072, 1073, 1074, 1075, 1076, 1077, 1078, 1079, 1080, 1081, 1082, 1083, 1084, 1085, 1086, 1087, 1088, 1089, 1090, 1091, 1092, 1093] (by rfl) (by decide +kernel)
set_option maxRecDepth 20000 in
theorem gL_law_X5_put : GoodIn wsL_law (wsV RL 48 RX5 yX5_put wsX5_put) := goodIn_app (goodIn_of _ (by decide +kernel)) ggL_law_X5_put
set_option maxRecDepth 20000 in
theorem ggL_law_X4_fault : GoodIn wsL_law wsX4_fault := goodIn_r _ [241, 16, 34, 142, 185, 148, 149, 150, 2, 151, 105, 106, 107, 14, 108, 40, 152, 153, 154, 155, 45, 109, 110, 111, 112, 113, 29, 242, 243, 244, 32, 245, 246, 247, 248, 249, 250, 251, 252, 253, 254, 255, 256, 257, 258, 259, 260, 261, 262, 263, 264, 265, 266, 72, 267, 268, 269, 270, 271, 272, 273, 70, 274, 275, 276, 277, 278, 279, 280, 281, 73, 282, 283, 284, 285, 71, 286, 287, 288, 289, 1049, 1050, 1051, 1052, 1053, 1054, 1055, 1056, 1057, 1058, 1059, 1060, 1061, 1094, 1095, 1096, 1097, 1098, 1112, 1113, 1114, 1115, 1116, 1117, 1118, 1119, 1120] (by rfl) (by decide +kernel)
set_option maxRecDepth 20000 in
theorem gL_law_X4_fault : GoodIn wsL_law (wsV RL 49 RX4 yX4_fault wsX4_fault) := goodIn_app (goodIn_of _ (by decide +kernel)) ggL_law_X4_fault
set_option maxRecDepth 20000 in
theorem ggL_law_X5_fault : GoodIn wsL_law wsX5_fault := goodIn_r _ [293, 84, 226, 227, 5, 228, 229, 126, 127, 128, 129, 130, 131, 132, 133, 87, 294, 295, 296, 297, 298, 299, 300, 301, 302, 303, 304, 305, 306, 307, 308, 309, 310, 311, 312, 313, 314, 315, 85, 316, 317, 318, 319, 320, 321, 322, 323, 88, 324, 325, 326, 327, 89, 328, 329, 330, 1062, 1063, 1064, 1065, 1066, 1067, 1068, 1069, 1070, 1071, 1072, 1073, 1074, 1075, 1076, 1077, 1078, 1079, 1080, 1081, 1082, 1083, 1084, 1085, 1086, 1087, 1088, 1089, 1090, 1091, 1092, 1093] (by rfl) (by decide +kernel)
set_option maxRecDepth 20000 in
theorem gL_law_X5_fault : GoodIn wsL_law (wsV RL 52 RX5 yX5_fault wsX5_fault) := goodIn_app (goodIn_of _ (by decide +kernel)) ggL_law_X5_fault
set_option maxRecDepth 20000 in
theorem ggL_law_X4_tower : GoodIn wsL_law wsX4_tower := goodIn_r _ [334, 16, 34, 142, 185, 33, 20, 335, 23, 336, 148, 149, 150, 2, 151, 105, 106, 107, 14, 108, 40, 152, 153, 154, 155, 45, 109, 110, 111, 112, 113, 29, 242, 243, 244, 32, 245, 246, 247, 248, 249, 250, 251, 252, 253, 254, 255, 256, 257, 258, 259, 260, 261, 262, 263, 264, 265, 266, 72, 267, 268, 269, 270, 271, 272, 273, 70, 274, 275, 276, 277, 278, 279, 280, 281, 73, 282, 283, 284, 285, 71, 286, 287, 288, 289, 1049, 1050, 1051, 1052, 1053, 1054, 1055, 1056, 1057, 1058, 1059, 1060, 1061, 1094, 1095, 1096, 1097, 1098, 1099, 1100, 1101, 1102, 1103, 1112, 1113, 1114, 1115, 1116, 1117, 1118, 1119, 1120] (by rfl) (by decide +kernel)
set_option maxRecDepth 20000 in
theorem gL_law_X4_tower : GoodIn wsL_law (wsV RL 53 RX4 yX4_tower wsX4_tower) := goodIn_app (goodIn_of _ (by decide +kernel)) ggL_law_X4_tower
set_option maxRecDepth 20000 in
theorem ggL_law_X5_tower : GoodIn wsL_law wsX5_tower := goodIn_r _ [340, 84, 78, 307, 341, 301, 342, 302, 343, 79, 88, 80, 89, 81, 226, 227, 5, 228, 229, 126, 127, 128, 129, 130, 131, 132, 133, 87, 294, 295, 296, 297, 298, 299, 300, 303, 304, 305, 306, 308, 309, 310, 311, 312, 313, 314, 315, 85, 316, 317, 318, 319, 320, 321, 322, 323, 324, 325, 326, 327, 328, 329, 330, 1062, 1063, 1064, 1065, 1066, 1067, 1068, 1069, 1070, 1071, 1072, 1073, 1074, 1075, 1076, 1077, 1078, 1079, 1080, 1081, 1082, 1083, 1084, 1085, 1086, 1087, 1088, 1089, 1090, 1091, 1092, 1093] (by rfl) (by decide +kernel)
set_option maxRecDepth 20000 in
theorem gL_law_X5_tower : GoodIn wsL_law (wsV RL 56 RX5 yX5_tower wsX5_tower) := goodIn_app (goodIn_of _ (by decide +kernel)) ggL_law_X5_tower
set_option maxRecDepth 20000 in
theorem ggL_law_X4_one : GoodIn wsL_law wsX4_one := goodIn_r _ [347, 143, 348, 349, 350, 2, 351, 33, 336, 352, 353, 354, 355, 356, 357, 20, 358, 359, 360, 361, 362, 363, 364, 19, 365, 55, 366, 367, 368, 369, 370, 371, 372, 373, 53, 374, 375, 376, 377, 378, 379, 380, 381, 382, 383, 384, 385, 386, 387, 388, 389, 390, 391, 392, 393, 394, 54, 395, 287, 288, 32, 289, 246, 396, 397, 398, 399, 400, 401, 402, 403, 72, 404, 405, 406, 407, 408, 71, 409, 410, 411, 412, 286, 413, 414, 415, 416, 417, 1049, 1050, 1051, 1052, 1053, 1054, 1055, 1056, 1057, 1058, 1059, 1060, 1061, 1112, 1113, 1114, 1115, 1116, 1117, 1118, 1119, 1120, 1099, 1100, 1101, 1102, 1103] (by rfl) (by decide +kernel)
set_option maxRecDepth 20000 in
theorem gL_law_X4_one : GoodIn wsL_law (wsV RL 57 RX4 yX4_one wsX4_one) := goodIn_app (goodIn_of _ (by decide +kernel)) ggL_law_X4_one
set_option maxRecDepth 20000 in
theorem ggL_law_X5_one : GoodIn wsL_law wsX5_one := goodIn_r _ [421, 422, 423, 424, 425, 5, 426, 343, 126, 127, 128, 427, 428, 429, 430, 80, 81, 431, 432, 433, 434, 78, 435, 436, 437, 438, 439, 440, 441, 442, 443, 444, 445, 446, 447, 448, 341, 449, 450, 451, 452, 453, 454, 455, 456, 342, 457, 458, 459, 460, 461, 462, 463, 464, 465, 466, 467, 468, 469, 79, 470, 471, 472, 473, 474, 475, 476, 168, 169, 170, 171, 172, 1062, 1063, 1064, 1065, 1066, 1067, 1068, 1069, 1070, 1071, 1072, 1073, 1074, 1075, 1076, 1077, 1078, 1079, 1080, 1081, 1082, 1083, 1084, 1085, 1086, 1087, 1088, 1089, 1090, 1091, 1092, 1093] (by rfl) (by decide +kernel)
set_option maxRecDepth 20000 in
theorem gL_law_X5_one : GoodIn wsL_law (wsV RL 60 RX5 yX5_one wsX5_one) := goodIn_app (goodIn_of _ (by decide +kernel)) ggL_law_X5_one
set_option maxRecDepth 20000 in
theorem ggL_law_X4_mark : GoodIn wsL_law wsX4_mark := goodIn_r _ [480, 481, 33, 356, 357, 20, 348, 349, 350, 2, 351, 336, 109, 110, 111, 112, 113, 29, 482, 483, 484, 32, 485, 247, 72, 358, 359, 360, 361, 362, 363, 364, 19, 365, 55, 366, 367, 368, 369, 486, 487, 488, 489, 1049, 1050, 1051, 1052, 1053, 1054, 1055, 1056, 1057, 1058, 1059, 1060, 1061, 1112, 1113, 1114, 1115, 1116, 1117, 1118, 1119, 1120, 1099, 1100, 1101, 1102, 1103] (by rfl) (by decide +kernel)
set_option maxRecDepth 20000 in
theorem gL_law_X4_mark : GoodIn wsL_law (wsV RL 61 RX4 yX4_mark wsX4_mark) := goodIn_app (goodIn_of _ (by decide +kernel)) ggL_law_X4_mark
set_option maxRecDepth 20000 in
theorem ggL_law_X5_mark : GoodIn wsL_law wsX5_mark := goodIn_r _ [493, 125, 81, 78, 423, 424, 425, 5, 426, 343, 126, 127, 128, 494, 495, 496, 497, 80, 129, 130, 131, 132, 133, 87, 498, 499, 500, 501, 431, 432, 433, 434, 435, 436, 437, 1062, 1063, 1064, 1065, 1066, 1067, 1068, 1069, 1070, 1071, 1072, 1073, 1074, 1075, 1076, 1077, 1078, 1079, 1080, 1081, 1082, 1083, 1084, 1085, 1086, 1087, 1088, 1089, 1090, 1091, 1092, 1093] (by rfl) (by decide +kernel)
set_option maxRecDepth 20000 in
theorem gL_law_X5_mark : GoodIn wsL_law (wsV RL 64 RX5 yX5_mark wsX5_mark) := goodIn_app (goodIn_of _ (by decide +kernel)) ggL_law_X5_mark
set_option maxRecDepth 20000 in
theorem ggL_law_X4_go : GoodIn wsL_law wsX4_go := goodIn_r _ [505, 33, 382, 20, 335, 506, 507, 508, 2, 509, 348, 349, 350, 351, 336, 510, 511, 512, 513, 395, 287, 288, 32, 289, 246, 383, 384, 385, 386, 370, 371, 372, 19, 373, 53, 366, 387, 388, 389, 390, 391, 392, 393, 394, 54, 514, 515, 516, 517, 362, 363, 364, 365, 55, 518, 519, 520, 521, 72, 73, 71, 368, 369, 522, 401, 402, 403, 413, 414, 415, 416, 411, 417, 523, 524, 525, 526, 56, 1049, 1050, 1051, 1052, 1053, 1054, 1055, 1056, 1057, 1058, 1059, 1060, 1061, 1112, 1113, 1114, 1115, 1116, 1117, 1118, 1119, 1120, 1099, 1100, 1101, 1102, 1103] (by rfl) (by decide +kernel)
set_option maxRecDepth 20000 in
theorem gL_law_X4_go : GoodIn wsL_law (wsV RL 65 RX4 yX4_go wsX4_go) := goodIn_app (goodIn_of _ (by decide +kernel)) ggL_law_X4_go
set_option maxRecDepth 20000 in
theorem ggL_law_X5_go : GoodIn wsL_law wsX5_go := goodIn_r _ [530, 341, 78, 531, 532, 533, 5, 534, 423, 424, 425, 426, 343, 126, 127, 128, 535, 536, 537, 538, 342, 449, 450, 451, 452, 438, 439, 440, 441, 442, 443, 444, 453, 454, 455, 456, 462, 463, 464, 465, 80, 431, 432, 433, 434, 81, 435, 436, 437, 466, 467, 468, 469, 79, 470, 471, 472, 473, 474, 475, 476, 539, 540, 541, 542, 543, 544, 545, 546, 1062, 1063, 1064, 1065, 1066, 1067, 1068, 1069, 1070, 1071, 1072, 1073, 1074, 1075, 1076, 1077, 1078, 1079, 1080, 1081, 1082, 1083, 1084, 1085, 1086, 1087, 1088, 1089, 1090, 1091, 1092, 1093] (by rfl) (by decide +kernel)
set_option maxRecDepth 20000 in
theorem gL_law_X5_go : GoodIn wsL_law (wsV RL 69 RX5 yX5_go wsX5_go) := goodIn_app (goodIn_of _ (by decide +kernel)) ggL_law_X5_go
set_option maxRecDepth 20000 in
theorem ggL_law_X4_loaf : GoodIn wsL_law wsX4_loaf := goodIn_r _ [550, 33, 336, 20, 335, 362, 363, 364, 19, 365, 55, 366, 523, 524, 525, 526, 53, 54, 56, 1049, 1050, 1051, 1052, 1053, 1054, 1055, 1056, 1057, 1058, 1059, 1060, 1061, 1112, 1113, 1114, 1115, 1116, 1117, 1118, 1119, 1120, 1099, 1100, 1101, 1102, 1103] (by rfl) (by decide +kernel)
set_option maxRecDepth 20000 in
theorem gL_law_X4_loaf : GoodIn wsL_law (wsV RL 70 RX4 yX4_loaf wsX4_loaf) := goodIn_app (goodIn_of _ (by decide +kernel)) ggL_law_X4_loaf
set_option maxRecDepth 20000 in
theorem ggL_law_X5_loaf : GoodIn wsL_law wsX5_loaf := goodIn_r _ [554, 343, 78, 539, 540, 541, 5, 542, 1062, 1063, 1064, 1065, 1066, 1067, 1068, 1069, 1070, 1071, 1072, 1073, 1074, 1075, 1076, 1077, 1078, 1079, 1080, 1081, 1082, 1083, 1084, 1085, 1086, 1087, 1088, 1089, 1090, 1091, 1092, 1093] (by rfl) (by decide +kernel)
set_option maxRecDepth 20000 in
theorem gL_law_X5_loaf : GoodIn wsL_law (wsV RL 74 RX5 yX5_loaf wsX5_loaf) := goodIn_app (goodIn_of _ (by decide +kernel)) ggL_law_X5_loaf
set_option maxRecDepth 20000 in
theorem ggL_law_X4_undo : GoodIn wsL_law wsX4_undo := goodIn_r _ [558, 20, 335, 1049, 1050, 1051, 1052, 1053, 1054, 1055, 1056, 1057, 1058, 1059, 1060, 1061, 1099, 1100, 1101, 1102, 1103] (by rfl) (by decide +kernel)
set_option maxRecDepth 20000 in
theorem gL_law_X4_undo : GoodIn wsL_law (wsV RL 75 RX4 yX4_undo wsX4_undo) := goodIn_app (goodIn_of _ (by decide +kernel)) ggL_law_X4_undo
set_option maxRecDepth 20000 in
theorem ggL_law_X5_undo : GoodIn wsL_law wsX5_undo := goodIn_r _ [562, 78, 126, 127, 5, 128, 1062, 1063, 1064, 1065, 1066, 1067, 1068, 1069, 1070, 1071, 1072, 1073, 1074, 1075, 1076, 1077, 1078, 1079, 1080, 1081, 1082, 1083, 1084, 1085, 1086, 1087, 1088, 1089, 1090, 1091, 1092, 1093] (by rfl) (by decide +kernel)
set_option maxRecDepth 20000 in
theorem gL_law_X5_undo : GoodIn wsL_law (wsV RL 78 RX5 yX5_undo wsX5_undo) := goodIn_app (goodIn_of _ (by decide +kernel)) ggL_law_X5_undo
set_option maxRecDepth 20000 in
theorem ggL_law_X4_keep : GoodIn wsL_law wsX4_keep := goodIn_r _ [566, 33, 336, 21, 20, 23, 335, 567, 568, 569, 19, 570, 366, 53, 571, 195, 196, 197, 54, 55, 56, 1049, 1050, 1051, 1052, 1053, 1054, 1055, 1056, 1057, 1058, 1059, 1060, 1061, 1112, 1113, 1114, 1115, 1116, 1117, 1118, 1119, 1120, 1099, 1100, 1101, 1102, 1103] (by rfl) (by decide +kernel)
set_option maxRecDepth 20000 in
theorem gL_law_X4_keep : GoodIn wsL_law (wsV RL 79 RX4 yX4_keep wsX4_keep) := goodIn_app (goodIn_of _ (by decide +kernel)) ggL_law_X4_keep
set_option maxRecDepth 20000 in
theorem ggL_law_X5_keep : GoodIn wsL_law wsX5_keep := goodIn_r _ [575, 576, 343, 78, 126, 127, 5, 128, 577, 578, 579, 580, 1062, 1063, 1064, 1065, 1066, 1067, 1068, 1069, 1070, 1071, 1072, 1073, 1074, 1075, 1076, 1077, 1078, 1079, 1080, 1081, 1082, 1083, 1084, 1085, 1086, 1087, 1088, 1089, 1090, 1091, 1092, 1093] (by rfl) (by decide +kernel)
set_option maxRecDepth 20000 in
theorem gL_law_X5_keep : GoodIn wsL_law (wsV RL 82 RX5 yX5_keep wsX5_keep) := goodIn_app (goodIn_of _ (by decide +kernel)) ggL_law_X5_keep
set_option maxRecDepth 20000 in
theorem ggL_law_X4_on : GoodIn wsL_law wsX4_on := goodIn_r _ [584, 23, 20, 21, 335, 109, 110, 111, 2, 112, 113, 29, 567, 568, 569, 19, 570, 366, 53, 571, 195, 196, 197, 54, 55, 56, 1049, 1050, 1051, 1052, 1053, 1054, 1055, 1056, 1057, 1058, 1059, 1060, 1061, 1099, 1100, 1101, 1102, 1103] (by rfl) (by decide +kernel)
set_option maxRecDepth 20000 in
theorem gL_law_X4_on : GoodIn wsL_law (wsV RL 83 RX4 yX4_on wsX4_on) := goodIn_app (goodIn_of _ (by decide +kernel)) ggL_law_X4_on
set_option maxRecDepth 20000 in
theorem ggL_law_X5_on : GoodIn wsL_law wsX5_on := goodIn_r _ [588, 576, 78, 126, 127, 5, 128, 129, 130, 131, 132, 133, 87, 577, 578, 579, 580, 1062, 1063, 1064, 1065, 1066, 1067, 1068, 1069, 1070, 1071, 1072, 1073, 1074, 1075, 1076, 1077, 1078, 1079, 1080, 1081, 1082, 1083, 1084, 1085, 1086, 1087, 1088, 1089, 1090, 1091, 1092, 1093] (by rfl) (by decide +kernel)
set_option maxRecDepth 20000 in
theorem gL_law_X5_on : GoodIn wsL_law (wsV RL 86 RX5 yX5_on wsX5_on) := goodIn_app (goodIn_of _ (by decide +kernel)) ggL_law_X5_on
set_option maxRecDepth 20000 in
theorem ggL_law_X4_sink : GoodIn wsL_law wsX4_sink := goodIn_r _ [592, 506, 507, 508, 2, 509, 348, 349, 350, 351, 33, 336, 510, 511, 512, 513, 395, 287, 288, 32, 289, 246, 514, 515, 516, 517, 20, 362, 363, 364, 19, 365, 55, 366, 518, 519, 520, 521, 72, 73, 71, 368, 369, 522, 401, 402, 403, 413, 414, 415, 416, 411, 417, 1049, 1050, 1051, 1052, 1053, 1054, 1055, 1056, 1057, 1058, 1059, 1060, 1061, 1112, 1113, 1114, 1115, 1116, 1117, 1118, 1119, 1120, 1099, 1100, 1101, 1102, 1103] (by rfl) (by decide +kernel)
set_option maxRecDepth 20000 in
theorem gL_law_X4_sink : GoodIn wsL_law (wsV RL 87 RX4 yX4_sink wsX4_sink) := goodIn_app (goodIn_of _ (by decide +kernel)) ggL_law_X4_sink
set_option maxRecDepth 20000 in
theorem ggL_law_X5_sink : GoodIn wsL_law wsX5_sink := goodIn_r _ [596, 531, 532, 533, 5, 534, 423, 424, 425, 426, 343, 126, 127, 128, 535, 536, 537, 538, 342, 462, 463, 464, 465, 80, 431, 432, 433, 434, 81, 78, 435, 436, 437, 466, 467, 468, 469, 79, 442, 443, 444, 470, 471, 472, 473, 474, 475, 476, 1062, 1063, 1064, 1065, 1066, 1067, 1068, 1069, 1070, 1071, 1072, 1073, 1074, 1075, 1076, 1077, 1078, 1079, 1080, 1081, 1082, 1083, 1084, 1085, 1086, 1087, 1088, 1089, 1090, 1091, 1092, 1093] (by rfl) (by decide +kernel)
set_option maxRecDepth 20000 in
theorem gL_law_X5_sink : GoodIn wsL_law (wsV RL 90 RX5 yX5_sink wsX5_sink) := goodIn_app (goodIn_of _ (by decide +kernel)) ggL_law_X5_sink
set_option maxRecDepth 20000 in
theorem ggL_law_X4_best : GoodIn wsL_law wsX4_best := goodIn_r _ [600, 143, 506, 507, 508, 2, 509, 348, 349, 350, 351, 33, 336, 383, 384, 385, 386, 20, 370, 371, 372, 19, 373, 53, 366, 387, 388, 389, 390, 391, 392, 393, 394, 54, 395, 287, 288, 32, 289, 246, 396, 397, 398, 399, 358, 359, 360, 361, 356, 357, 362, 363, 364, 365, 55, 367, 368, 369, 400, 401, 402, 403, 72, 404, 405, 406, 407, 408, 71, 409, 410, 411, 412, 286, 413, 414, 415, 416, 417, 1049, 1050, 1051, 1052, 1053, 1054, 1055, 1056, 1057, 1058, 1059, 1060, 1061, 1112, 1113, 1114, 1115, 1116, 1117, 1118, 1119, 1120, 1099, 1100, 1101, 1102, 1103] (by rfl) (by decide +kernel)
set_option maxRecDepth 20000 in
theorem gL_law_X4_best : GoodIn wsL_law (wsV RL 91 RX4 yX4_best wsX4_best) := goodIn_app (goodIn_of _ (by decide +kernel)) ggL_law_X4_best
set_option maxRecDepth 20000 in
theorem ggL_law_X5_best : GoodIn wsL_law wsX5_best := goodIn_r _ [604, 461, 172, 531, 532, 533, 5, 534, 423, 424, 425, 426, 343, 126, 127, 128, 449, 450, 451, 452, 438, 439, 440, 441, 78, 442, 443, 444, 453, 454, 455, 456, 342, 457, 458, 459, 460, 462, 463, 464, 465, 80, 431, 432, 433, 434, 81, 435, 436, 437, 466, 467, 468, 469, 79, 470, 471, 472, 473, 474, 475, 476, 1062, 1063, 1064, 1065, 1066, 1067, 1068, 1069, 1070, 1071, 1072, 1073, 1074, 1075, 1076, 1077, 1078, 1079, 1080, 1081, 1082, 1083, 1084, 1085, 1086, 1087, 1088, 1089, 1090, 1091, 1092, 1093] (by rfl) (by decide +kernel)
set_option maxRecDepth 20000 in
theorem gL_law_X5_best : GoodIn wsL_law (wsV RL 94 RX5 yX5_best wsX5_best) := goodIn_app (goodIn_of _ (by decide +kernel)) ggL_law_X5_best
set_option maxRecDepth 20000 in
theorem ggL_law_X4_pairs : GoodIn wsL_law wsX4_pairs := goodIn_r _ [608, 143, 609, 610, 611, 2, 612, 33, 336, 378, 379, 380, 381, 382, 383, 384, 385, 386, 20, 370, 371, 372, 19, 373, 53, 366, 387, 388, 389, 390, 391, 392, 393, 394, 54, 395, 287, 288, 32, 289, 246, 396, 397, 398, 399, 358, 359, 360, 361, 356, 357, 362, 363, 364, 365, 55, 367, 368, 369, 400, 401, 402, 403, 72, 404, 405, 406, 407, 408, 71, 409, 410, 411, 412, 286, 413, 414, 415, 416, 417, 613, 614, 615, 616, 1049, 1050, 1051, 1052, 1053, 1054, 1055, 1056, 1057, 1058, 1059, 1060, 1061, 1112, 1113, 1114, 1115, 1116, 1117, 1118, 1119, 1120, 1099, 1100, 1101, 1102, 1103] (by rfl) (by decide +kernel)
set_option maxRecDepth 20000 in
theorem gL_law_X4_pairs : GoodIn wsL_law (wsV RL 95 RX4 yX4_pairs wsX4_pairs) := goodIn_app (goodIn_of _ (by decide +kernel)) ggL_law_X4_pairs
set_option maxRecDepth 20000 in
theorem ggL_law_X5_pairs : GoodIn wsL_law wsX5_pairs := goodIn_r _ [620, 172, 343, 445, 446, 447, 5, 448, 341, 449, 450, 451, 452, 438, 439, 440, 441, 78, 442, 443, 444, 453, 454, 455, 456, 342, 457, 458, 459, 460, 461, 462, 463, 464, 465, 80, 431, 432, 433, 434, 81, 435, 436, 437, 466, 467, 468, 469, 79, 470, 471, 472, 473, 474, 475, 476, 621, 622, 623, 624, 1062, 1063, 1064, 1065, 1066, 1067, 1068, 1069, 1070, 1071, 1072, 1073, 1074, 1075, 1076, 1077, 1078, 1079, 1080, 1081, 1082, 1083, 1084, 1085, 1086, 1087, 1088, 1089, 1090, 1091, 1092, 1093] (by rfl) (by decide +kernel)
set_option maxRecDepth 20000 in
theorem gL_law_X5_pairs : GoodIn wsL_law (wsV RL 98 RX5 yX5_pairs wsX5_pairs) := goodIn_app (goodIn_of _ (by decide +kernel)) ggL_law_X5_pairs
set_option maxRecDepth 20000 in
theorem ggL_law_X4_match : GoodIn wsL_law wsX4_match := goodIn_r _ [628, 33, 336, 27, 20, 143, 629, 630, 631, 2, 632, 633, 634, 358, 359, 360, 361, 356, 357, 362, 363, 364, 19, 365, 55, 366, 367, 368, 369, 400, 401, 402, 32, 403, 72, 635, 636, 637, 638, 71, 262, 286, 287, 288, 289, 246, 413, 414, 415, 416, 411, 417, 370, 371, 372, 373, 53, 391, 392, 393, 394, 54, 395, 639, 640, 641, 26, 642, 64, 643, 644, 47, 48, 49, 645, 646, 647, 648, 60, 649, 650, 651, 652, 653, 654, 655, 656, 657, 658, 659, 660, 661, 662, 663, 664, 665, 666, 667, 668, 1049, 1050, 1051, 1052, 1053, 1054, 1055, 1056, 1057, 1058, 1059, 1060, 1061, 1112, 1113, 1114, 1115, 1116, 1117, 1118, 1119, 1120, 1104, 1105, 1106, 1107, 1108, 1109, 1110, 1111, 1099, 1100, 1101, 1102, 1103] (by rfl) (by decide +kernel)
set_option maxRecDepth 20000 in
theorem gL_law_X4_match : GoodIn wsL_law (wsV RL 99 RX4 yX4_match wsX4_match) := goodIn_app (goodIn_of _ (by decide +kernel)) ggL_law_X4_match
set_option maxRecDepth 20000 in
theorem ggL_law_X5_match : GoodIn wsL_law wsX5_match := goodIn_r _ [672, 343, 342, 90, 172, 673, 674, 5, 675, 676, 677, 678, 679, 442, 443, 444, 449, 450, 451, 452, 438, 439, 440, 441, 78, 680, 681, 682, 683, 341, 453, 454, 455, 456, 462, 463, 464, 465, 80, 431, 432, 433, 434, 81, 435, 436, 437, 466, 467, 468, 469, 79, 470, 471, 472, 473, 474, 475, 476, 1062, 1063, 1064, 1065, 1066, 1067, 1068, 1069, 1070, 1071, 1072, 1073, 1074, 1075, 1076, 1077, 1078, 1079, 1080, 1081, 1082, 1083, 1084, 1085, 1086, 1087, 1088, 1089, 1090, 1091, 1092, 1093] (by rfl) (by decide +kernel)
set_option maxRecDepth 20000 in
theorem gL_law_X5_match : GoodIn wsL_law (wsV RL 102 RX5 yX5_match wsX5_match) := goodIn_app (goodIn_of _ (by decide +kernel)) ggL_law_X5_match
set_option maxRecDepth 20000 in
theorem ggL_law_X4_waits : GoodIn wsL_law wsX4_waits := goodIn_r _ [687, 33, 382, 348, 349, 350, 2, 351, 336, 358, 359, 360, 361, 356, 357, 20, 362, 363, 364, 19, 365, 55, 366, 367, 368, 369, 387, 388, 389, 390, 391, 392, 393, 394, 54, 370, 371, 372, 373, 53, 395, 287, 288, 32, 289, 246, 404, 405, 406, 407, 408, 71, 409, 410, 411, 412, 286, 413, 414, 415, 416, 417, 1049, 1050, 1051, 1052, 1053, 1054, 1055, 1056, 1057, 1058, 1059, 1060, 1061, 1112, 1113, 1114, 1115, 1116, 1117, 1118, 1119, 1120, 1099, 1100, 1101, 1102, 1103] (by rfl) (by decide +kernel)
set_option maxRecDepth 20000 in
theorem gL_law_X4_waits : GoodIn wsL_law (wsV RL 103 RX4 yX4_waits wsX4_waits) := goodIn_app (goodIn_of _ (by decide +kernel)) ggL_law_X4_waits
set_option maxRecDepth 20000 in
theorem ggL_law_X5_waits : GoodIn wsL_law wsX5_waits := goodIn_r _ [691, 341, 423, 424, 425, 5, 426, 343, 126, 127, 128, 453, 454, 455, 456, 342, 78, 438, 439, 440, 441, 442, 443, 444, 431, 432, 433, 434, 80, 81, 435, 436, 437, 466, 467, 468, 469, 79, 474, 475, 476, 1062, 1063, 1064, 1065, 1066, 1067, 1068, 1069, 1070, 1071, 1072, 1073, 1074, 1075, 1076, 1077, 1078, 1079, 1080, 1081, 1082, 1083, 1084, 1085, 1086, 1087, 1088, 1089, 1090, 1091, 1092, 1093] (by rfl) (by decide +kernel)
set_option maxRecDepth 20000 in
theorem gL_law_X5_waits : GoodIn wsL_law (wsV RL 106 RX5 yX5_waits wsX5_waits) := goodIn_app (goodIn_of _ (by decide +kernel)) ggL_law_X5_waits
set_option maxRecDepth 20000 in
theorem ggL_law_X4_worth : GoodIn wsL_law wsX4_worth := goodIn_r _ [695, 33, 336, 696, 143, 613, 614, 615, 2, 616, 378, 379, 380, 381, 382, 383, 384, 385, 386, 20, 370, 371, 372, 19, 373, 53, 366, 387, 388, 389, 390, 391, 392, 393, 394, 54, 395, 287, 288, 32, 289, 246, 396, 397, 398, 399, 358, 359, 360, 361, 356, 357, 362, 363, 364, 365, 55, 367, 368, 369, 400, 401, 402, 403, 72, 404, 405, 406, 407, 408, 71, 409, 410, 411, 412, 286, 413, 414, 415, 416, 417, 1049, 1050, 1051, 1052, 1053, 1054, 1055, 1056, 1057, 1058, 1059, 1060, 1061, 1112, 1113, 1114, 1115, 1116, 1117, 1118, 1119, 1120, 1099, 1100, 1101, 1102, 1103] (by rfl) (by decide +kernel)
set_option maxRecDepth 20000 in
theorem gL_law_X4_worth : GoodIn wsL_law (wsV RL 107 RX4 yX4_worth wsX4_worth) := goodIn_app (goodIn_of _ (by decide +kernel)) ggL_law_X4_worth
set_option maxRecDepth 20000 in
theorem ggL_law_X5_worth : GoodIn wsL_law wsX5_worth := goodIn_r _ [700, 343, 342, 172, 621, 622, 623, 5, 624, 445, 446, 447, 448, 341, 449, 450, 451, 452, 438, 439, 440, 441, 78, 442, 443, 444, 453, 454, 455, 456, 457, 458, 459, 460, 461, 462, 463, 464, 465, 80, 431, 432, 433, 434, 81, 435, 436, 437, 466, 467, 468, 469, 79, 470, 471, 472, 473, 474, 475, 476, 1062, 1063, 1064, 1065, 1066, 1067, 1068, 1069, 1070, 1071, 1072, 1073, 1074, 1075, 1076, 1077, 1078, 1079, 1080, 1081, 1082, 1083, 1084, 1085, 1086, 1087, 1088, 1089, 1090, 1091, 1092, 1093] (by rfl) (by decide +kernel)
set_option maxRecDepth 20000 in
theorem gL_law_X5_worth : GoodIn wsL_law (wsV RL 110 RX5 yX5_worth wsX5_worth) := goodIn_app (goodIn_of _ (by decide +kernel)) ggL_law_X5_worth
set_option maxRecDepth 20000 in
theorem ggL_law_X4_loaves : GoodIn wsL_law wsX4_loaves := goodIn_r _ [704, 20, 33, 382, 506, 507, 508, 2, 509, 348, 349, 350, 351, 336, 383, 384, 385, 386, 370, 371, 372, 19, 373, 53, 366, 362, 363, 364, 365, 55, 518, 519, 520, 32, 521, 72, 73, 71, 368, 369, 522, 401, 402, 403, 413, 414, 415, 416, 411, 417, 1049, 1050, 1051, 1052, 1053, 1054, 1055, 1056, 1057, 1058, 1059, 1060, 1061, 1112, 1113, 1114, 1115, 1116, 1117, 1118, 1119, 1120, 1099, 1100, 1101, 1102, 1103] (by rfl) (by decide +kernel)
set_option maxRecDepth 20000 in
theorem gL_law_X4_loaves : GoodIn wsL_law (wsV RL 111 RX4 yX4_loaves wsX4_loaves) := goodIn_app (goodIn_of _ (by decide +kernel)) ggL_law_X4_loaves
set_option maxRecDepth 20000 in
theorem ggL_law_X5_loaves : GoodIn wsL_law wsX5_loaves := goodIn_r _ [708, 78, 80, 81, 341, 531, 532, 533, 5, 534, 423, 424, 425, 426, 343, 126, 127, 128, 449, 450, 451, 452, 438, 439, 440, 441, 442, 443, 444, 435, 436, 437, 470, 471, 472, 473, 474, 475, 476, 1062, 1063, 1064, 1065, 1066, 1067, 1068, 1069, 1070, 1071, 1072, 1073, 1074, 1075, 1076, 1077, 1078, 1079, 1080, 1081, 1082, 1083, 1084, 1085, 1086, 1087, 1088, 1089, 1090, 1091, 1092, 1093] (by rfl) (by decide +kernel)
set_option maxRecDepth 20000 in
theorem gL_law_X5_loaves : GoodIn wsL_law (wsV RL 114 RX5 yX5_loaves wsX5_loaves) := goodIn_app (goodIn_of _ (by decide +kernel)) ggL_law_X5_loaves
set_option maxRecDepth 20000 in
theorem ggL_law_X4_up : GoodIn wsL_law wsX4_up := goodIn_r _ [712, 713, 714, 715, 2, 716, 33, 336, 717, 718, 719, 720, 27, 721, 722, 143, 723, 724, 725, 726, 20, 629, 630, 631, 632, 633, 634, 358, 359, 360, 361, 356, 357, 362, 363, 364, 19, 365, 55, 366, 367, 368, 369, 400, 401, 402, 32, 403, 72, 635, 636, 637, 638, 71, 262, 286, 287, 288, 289, 246, 413, 414, 415, 416, 411, 417, 370, 371, 372, 373, 53, 391, 392, 393, 394, 54, 395, 727, 728, 729, 26, 730, 61, 62, 63, 731, 644, 47, 48, 49, 732, 733, 734, 735, 643, 649, 650, 651, 652, 653, 654, 736, 737, 738, 739, 60, 740, 741, 742, 743, 744, 745, 746, 747, 1049, 1050, 1051, 1052, 1053, 1054, 1055, 1056, 1057, 1058, 1059, 1060, 1061, 1112, 1113, 1114, 1115, 1116, 1117, 1118, 1119, 1120, 1104, 1105, 1106, 1107, 1108, 1109, 1110, 1111, 1099, 1100, 1101, 1102, 1103] (by rfl) (by decide +kernel)
set_option maxRecDepth 20000 in
theorem gL_law_X4_up : GoodIn wsL_law (wsV RL 115 RX4 yX4_up wsX4_up) := goodIn_app (goodIn_of _ (by decide +kernel)) ggL_law_X4_up
set_option maxRecDepth 20000 in
theorem ggL_law_X5_up : GoodIn wsL_law wsX5_up := goodIn_r _ [751, 752, 753, 754, 5, 755, 343, 126, 127, 128, 756, 757, 758, 759, 78, 91, 172, 760, 761, 762, 763, 764, 342, 92, 765, 766, 767, 768, 93, 341, 462, 463, 464, 465, 80, 431, 432, 433, 434, 81, 435, 436, 437, 466, 467, 468, 469, 79, 442, 443, 444, 470, 471, 472, 473, 474, 475, 476, 769, 770, 771, 772, 773, 774, 775, 776, 777, 778, 779, 1062, 1063, 1064, 1065, 1066, 1067, 1068, 1069, 1070, 1071, 1072, 1073, 1074, 1075, 1076, 1077, 1078, 1079, 1080, 1081, 1082, 1083, 1084, 1085, 1086, 1087, 1088, 1089, 1090, 1091, 1092, 1093] (by rfl) (by decide +kernel)
set_option maxRecDepth 20000 in
theorem gL_law_X5_up : GoodIn wsL_law (wsV RL 118 RX5 yX5_up wsX5_up) := goodIn_app (goodIn_of _ (by decide +kernel)) ggL_law_X5_up
set_option maxRecDepth 20000 in
theorem ggL_law_X4_down : GoodIn wsL_law wsX4_down := goodIn_r _ [783, 713, 714, 715, 2, 716, 33, 336, 717, 718, 719, 720, 27, 721, 722, 143, 723, 724, 725, 726, 20, 629, 630, 631, 632, 633, 634, 358, 359, 360, 361, 356, 357, 362, 363, 364, 19, 365, 55, 366, 367, 368, 369, 400, 401, 402, 32, 403, 72, 635, 636, 637, 638, 71, 262, 286, 287, 288, 289, 246, 413, 414, 415, 416, 411, 417, 370, 371, 372, 373, 53, 391, 392, 393, 394, 54, 395, 727, 728, 729, 26, 730, 61, 62, 63, 731, 644, 47, 48, 49, 732, 733, 734, 735, 643, 649, 650, 651, 652, 653, 654, 736, 737, 738, 739, 60, 740, 741, 742, 743, 744, 745, 746, 747, 1049, 1050, 1051, 1052, 1053, 1054, 1055, 1056, 1057, 1058, 1059, 1060, 1061, 1112, 1113, 1114, 1115, 1116, 1117, 1118, 1119, 1120, 1104, 1105, 1106, 1107, 1108, 1109, 1110, 1111, 1099, 1100, 1101, 1102, 1103] (by rfl) (by decide +kernel)
set_option maxRecDepth 20000 in
theorem gL_law_X4_down : GoodIn wsL_law (wsV RL 119 RX4 yX4_down wsX4_down) := goodIn_app (goodIn_of _ (by decide +kernel)) ggL_law_X4_down
set_option maxRecDepth 20000 in
theorem ggL_law_X5_down : GoodIn wsL_law wsX5_down := goodIn_r _ [787, 752, 753, 754, 5, 755, 343, 126, 127, 128, 756, 757, 758, 759, 78, 91, 172, 760, 761, 762, 763, 764, 342, 92, 765, 766, 767, 768, 93, 341, 462, 463, 464, 465, 80, 431, 432, 433, 434, 81, 435, 436, 437, 466, 467, 468, 469, 79, 442, 443, 444, 470, 471, 472, 473, 474, 475, 476, 769, 770, 771, 772, 773, 774, 775, 776, 777, 778, 779, 1062, 1063, 1064, 1065, 1066, 1067, 1068, 1069, 1070, 1071, 1072, 1073, 1074, 1075, 1076, 1077, 1078, 1079, 1080, 1081, 1082, 1083, 1084, 1085, 1086, 1087, 1088, 1089, 1090, 1091, 1092, 1093] (by rfl) (by decide +kernel)
set_option maxRecDepth 20000 in
theorem gL_law_X5_down : GoodIn wsL_law (wsV RL 122 RX5 yX5_down wsX5_down) := goodIn_app (goodIn_of _ (by decide +kernel)) ggL_law_X5_down
set_option maxRecDepth 20000 in
theorem ggL_law_X4_ever : GoodIn wsL_law wsX4_ever := goodIn_r _ [791, 33, 336, 27, 20, 723, 724, 725, 2, 726, 629, 630, 631, 632, 633, 634, 358, 359, 360, 361, 356, 357, 362, 363, 364, 19, 365, 55, 366, 367, 368, 369, 400, 401, 402, 32, 403, 72, 635, 636, 637, 638, 71, 262, 286, 287, 288, 289, 246, 413, 414, 415, 416, 411, 417, 370, 371, 372, 373, 53, 391, 392, 393, 394, 54, 395, 727, 728, 729, 26, 730, 61, 62, 63, 731, 644, 47, 48, 49, 732, 733, 734, 735, 643, 649, 650, 651, 652, 653, 654, 736, 737, 738, 739, 60, 740, 741, 742, 743, 792, 793, 794, 795, 1049, 1050, 1051, 1052, 1053, 1054, 1055, 1056, 1057, 1058, 1059, 1060, 1061, 1112, 1113, 1114, 1115, 1116, 1117, 1118, 1119, 1120, 1104, 1105, 1106, 1107, 1108, 1109, 1110, 1111, 1099, 1100, 1101, 1102, 1103] (by rfl) (by decide +kernel)
set_option maxRecDepth 20000 in
theorem gL_law_X4_ever : GoodIn wsL_law (wsV RL 123 RX4 yX4_ever wsX4_ever) := goodIn_app (goodIn_of _ (by decide +kernel)) ggL_law_X4_ever
set_option maxRecDepth 20000 in
theorem ggL_law_X5_ever : GoodIn wsL_law wsX5_ever := goodIn_r _ [799, 343, 78, 91, 92, 764, 765, 766, 767, 5, 768, 93, 342, 341, 462, 463, 464, 465, 80, 431, 432, 433, 434, 81, 435, 436, 437, 466, 467, 468, 469, 79, 442, 443, 444, 470, 471, 472, 473, 474, 475, 476, 769, 770, 771, 772, 773, 774, 775, 776, 777, 778, 779, 1062, 1063, 1064, 1065, 1066, 1067, 1068, 1069, 1070, 1071, 1072, 1073, 1074, 1075, 1076, 1077, 1078, 1079, 1080, 1081, 1082, 1083, 1084, 1085, 1086, 1087, 1088, 1089, 1090, 1091, 1092, 1093] (by rfl) (by decide +kernel)
set_option maxRecDepth 20000 in
theorem gL_law_X5_ever : GoodIn wsL_law (wsV RL 126 RX5 yX5_ever wsX5_ever) := goodIn_app (goodIn_of _ (by decide +kernel)) ggL_law_X5_ever
set_option maxRecDepth 20000 in
theorem ggL_law_X4_pounds : GoodIn wsL_law wsX4_pounds := goodIn_r _ [803, 143, 33, 356, 804, 805, 806, 2, 807, 15, 185, 142, 348, 349, 350, 351, 336, 148, 149, 150, 151, 105, 106, 107, 14, 108, 40, 152, 153, 154, 155, 45, 109, 110, 111, 112, 113, 29, 808, 809, 810, 811, 812, 813, 814, 815, 20, 362, 363, 364, 19, 365, 55, 366, 367, 368, 369, 358, 359, 360, 361, 357, 816, 413, 414, 415, 416, 411, 417, 1049, 1050, 1051, 1052, 1053, 1054, 1055, 1056, 1057, 1058, 1059, 1060, 1061, 1112, 1113, 1114, 1115, 1116, 1117, 1118, 1119, 1120, 1094, 1095, 1096, 1097, 1098, 1099, 1100, 1101, 1102, 1103] (by rfl) (by decide +kernel)
set_option maxRecDepth 20000 in
theorem gL_law_X4_pounds : GoodIn wsL_law (wsV RL 127 RX4 yX4_pounds wsX4_pounds) := goodIn_app (goodIn_of _ (by decide +kernel)) ggL_law_X4_pounds
set_option maxRecDepth 20000 in
theorem ggL_law_X5_pounds : GoodIn wsL_law wsX5_pounds := goodIn_r _ [820, 172, 80, 423, 424, 425, 5, 426, 343, 126, 127, 128, 122, 123, 124, 125, 821, 822, 823, 824, 82, 83, 825, 129, 130, 131, 132, 133, 87, 531, 532, 533, 534, 826, 827, 828, 829, 830, 831, 832, 833, 78, 435, 436, 437, 431, 432, 433, 434, 81, 470, 471, 472, 473, 474, 475, 476, 1062, 1063, 1064, 1065, 1066, 1067, 1068, 1069, 1070, 1071, 1072, 1073, 1074, 1075, 1076, 1077, 1078, 1079, 1080, 1081, 1082, 1083, 1084, 1085, 1086, 1087, 1088, 1089, 1090, 1091, 1092, 1093] (by rfl) (by decide +kernel)
set_option maxRecDepth 20000 in
theorem gL_law_X5_pounds : GoodIn wsL_law (wsV RL 130 RX5 yX5_pounds wsX5_pounds) := goodIn_app (goodIn_of _ (by decide +kernel)) ggL_law_X5_pounds
set_option maxRecDepth 20000 in
theorem ggL_law_X4_kinds : GoodIn wsL_law wsX4_kinds := goodIn_r _ [837, 804, 805, 806, 2, 807, 15, 185, 142, 348, 349, 350, 351, 33, 336, 148, 149, 150, 151, 105, 106, 107, 14, 108, 40, 152, 153, 154, 155, 45, 109, 110, 111, 112, 113, 29, 838, 839, 840, 841, 357, 808, 809, 810, 811, 812, 813, 814, 815, 20, 356, 362, 363, 364, 19, 365, 55, 366, 367, 368, 369, 358, 359, 360, 361, 816, 413, 414, 415, 416, 411, 417, 1049, 1050, 1051, 1052, 1053, 1054, 1055, 1056, 1057, 1058, 1059, 1060, 1061, 1094, 1095, 1096, 1097, 1098, 1112, 1113, 1114, 1115, 1116, 1117, 1118, 1119, 1120, 1099, 1100, 1101, 1102, 1103] (by rfl) (by decide +kernel)
set_option maxRecDepth 20000 in
theorem gL_law_X4_kinds : GoodIn wsL_law (wsV RL 131 RX4 yX4_kinds wsX4_kinds) := goodIn_app (goodIn_of _ (by decide +kernel)) ggL_law_X4_kinds
set_option maxRecDepth 20000 in
theorem ggL_law_X5_kinds : GoodIn wsL_law wsX5_kinds := goodIn_r _ [845, 423, 424, 425, 5, 426, 343, 126, 127, 128, 122, 123, 124, 125, 821, 822, 823, 824, 82, 83, 825, 129, 130, 131, 132, 133, 87, 531, 532, 533, 534, 846, 847, 848, 849, 81, 826, 827, 828, 829, 830, 831, 832, 833, 78, 435, 436, 437, 431, 432, 433, 434, 80, 470, 471, 472, 473, 474, 475, 476, 1062, 1063, 1064, 1065, 1066, 1067, 1068, 1069, 1070, 1071, 1072, 1073, 1074, 1075, 1076, 1077, 1078, 1079, 1080, 1081, 1082, 1083, 1084, 1085, 1086, 1087, 1088, 1089, 1090, 1091, 1092, 1093] (by rfl) (by decide +kernel)
set_option maxRecDepth 20000 in
theorem gL_law_X5_kinds : GoodIn wsL_law (wsV RL 134 RX5 yX5_kinds wsX5_kinds) := goodIn_app (goodIn_of _ (by decide +kernel)) ggL_law_X5_kinds
set_option maxRecDepth 20000 in
theorem ggL_law_X4_next : GoodIn wsL_law wsX4_next := goodIn_r _ [853, 33, 336, 357, 143, 804, 805, 806, 2, 807, 15, 185, 142, 348, 349, 350, 351, 148, 149, 150, 151, 105, 106, 107, 14, 108, 40, 152, 153, 154, 155, 45, 109, 110, 111, 112, 113, 29, 838, 839, 840, 841, 808, 809, 810, 811, 812, 813, 814, 815, 20, 356, 362, 363, 364, 19, 365, 55, 366, 367, 368, 369, 358, 359, 360, 361, 816, 413, 414, 415, 416, 411, 417, 854, 855, 856, 857, 858, 859, 860, 1049, 1050, 1051, 1052, 1053, 1054, 1055, 1056, 1057, 1058, 1059, 1060, 1061, 1112, 1113, 1114, 1115, 1116, 1117, 1118, 1119, 1120, 1094, 1095, 1096, 1097, 1098, 1099, 1100, 1101, 1102, 1103] (by rfl) (by decide +kernel)
set_option maxRecDepth 20000 in
theorem gL_law_X4_next : GoodIn wsL_law (wsV RL 135 RX4 yX4_next wsX4_next) := goodIn_app (goodIn_of _ (by decide +kernel)) ggL_law_X4_next
set_option maxRecDepth 20000 in
theorem ggL_law_X5_next : GoodIn wsL_law wsX5_next := goodIn_r _ [864, 343, 172, 423, 424, 425, 5, 426, 126, 127, 128, 122, 123, 124, 125, 821, 822, 823, 824, 82, 83, 825, 129, 130, 131, 132, 133, 87, 531, 532, 533, 534, 846, 847, 848, 849, 81, 826, 827, 828, 829, 830, 831, 832, 833, 78, 435, 436, 437, 431, 432, 433, 434, 80, 470, 471, 472, 473, 474, 475, 476, 865, 866, 867, 868, 442, 443, 444, 1062, 1063, 1064, 1065, 1066, 1067, 1068, 1069, 1070, 1071, 1072, 1073, 1074, 1075, 1076, 1077, 1078, 1079, 1080, 1081, 1082, 1083, 1084, 1085, 1086, 1087, 1088, 1089, 1090, 1091, 1092, 1093] (by rfl) (by decide +kernel)
set_option maxRecDepth 20000 in
theorem gL_law_X5_next : GoodIn wsL_law (wsV RL 138 RX5 yX5_next wsX5_next) := goodIn_app (goodIn_of _ (by decide +kernel)) ggL_law_X5_next
set_option maxRecDepth 20000 in
theorem ggL_law_X4_send : GoodIn wsL_law wsX4_send := goodIn_r _ [872, 33, 336, 27, 20, 629, 630, 631, 2, 632, 633, 634, 358, 359, 360, 361, 356, 357, 362, 363, 364, 19, 365, 55, 366, 367, 368, 369, 400, 401, 402, 32, 403, 72, 635, 636, 637, 638, 71, 262, 286, 287, 288, 289, 246, 413, 414, 415, 416, 411, 417, 370, 371, 372, 373, 53, 873, 874, 875, 26, 876, 66, 661, 662, 663, 664, 665, 666, 667, 877, 878, 879, 880, 643, 60, 881, 859, 860, 882, 410, 412, 649, 650, 651, 1049, 1050, 1051, 1052, 1053, 1054, 1055, 1056, 1057, 1058, 1059, 1060, 1061, 1112, 1113, 1114, 1115, 1116, 1117, 1118, 1119, 1120, 1104, 1105, 1106, 1107, 1108, 1109, 1110, 1111, 1099, 1100, 1101, 1102, 1103] (by rfl) (by decide +kernel)
set_option maxRecDepth 20000 in
theorem gL_law_X4_send : GoodIn wsL_law (wsV RL 139 RX4 yX4_send wsX4_send) := goodIn_app (goodIn_of _ (by decide +kernel)) ggL_law_X4_send
set_option maxRecDepth 20000 in
theorem ggL_law_X5_send : GoodIn wsL_law wsX5_send := goodIn_r _ [886, 576, 343, 94, 95, 78, 126, 127, 5, 128, 673, 674, 675, 887, 888, 889, 890, 891, 892, 893, 894, 341, 442, 443, 444, 462, 463, 464, 465, 80, 431, 432, 433, 434, 81, 435, 436, 437, 466, 467, 468, 469, 342, 79, 470, 471, 472, 473, 474, 475, 476, 1062, 1063, 1064, 1065, 1066, 1067, 1068, 1069, 1070, 1071, 1072, 1073, 1074, 1075, 1076, 1077, 1078, 1079, 1080, 1081, 1082, 1083, 1084, 1085, 1086, 1087, 1088, 1089, 1090, 1091, 1092, 1093] (by rfl) (by decide +kernel)
set_option maxRecDepth 20000 in
theorem gL_law_X5_send : GoodIn wsL_law (wsV RL 142 RX5 yX5_send wsX5_send) := goodIn_app (goodIn_of _ (by decide +kernel)) ggL_law_X5_send
set_option maxRecDepth 20000 in
theorem ggL_law_X4_odds : GoodIn wsL_law wsX4_odds := goodIn_r _ [898, 33, 382, 506, 507, 508, 2, 509, 348, 349, 350, 351, 336, 383, 384, 385, 386, 20, 370, 371, 372, 19, 373, 53, 366, 395, 287, 288, 32, 289, 246, 396, 397, 398, 399, 358, 359, 360, 361, 356, 357, 362, 363, 364, 365, 55, 367, 368, 369, 400, 401, 402, 403, 72, 404, 405, 406, 407, 408, 71, 409, 410, 411, 412, 286, 413, 414, 415, 416, 417, 387, 388, 389, 390, 391, 392, 393, 394, 54, 899, 900, 901, 668, 662, 663, 664, 665, 666, 667, 902, 903, 904, 905, 906, 907, 908, 909, 910, 35, 1049, 1050, 1051, 1052, 1053, 1054, 1055, 1056, 1057, 1058, 1059, 1060, 1061, 1112, 1113, 1114, 1115, 1116, 1117, 1118, 1119, 1120, 1099, 1100, 1101, 1102, 1103] (by rfl) (by decide +kernel)
set_option maxRecDepth 20000 in
theorem gL_law_X4_odds : GoodIn wsL_law (wsV RL 143 RX4 yX4_odds wsX4_odds) := goodIn_app (goodIn_of _ (by decide +kernel)) ggL_law_X4_odds
set_option maxRecDepth 20000 in
theorem ggL_law_X5_odds : GoodIn wsL_law wsX5_odds := goodIn_r _ [914, 915, 916, 917, 5, 918, 919, 341, 531, 532, 533, 534, 423, 424, 425, 426, 343, 126, 127, 128, 449, 450, 451, 452, 438, 439, 440, 441, 78, 442, 443, 444, 453, 454, 455, 456, 342, 457, 458, 459, 460, 461, 462, 463, 464, 465, 80, 431, 432, 433, 434, 81, 435, 436, 437, 466, 467, 468, 469, 79, 470, 471, 472, 473, 474, 475, 476, 920, 921, 922, 923, 924, 86, 1062, 1063, 1064, 1065, 1066, 1067, 1068, 1069, 1070, 1071, 1072, 1073, 1074, 1075, 1076, 1077, 1078, 1079, 1080, 1081, 1082, 1083, 1084, 1085, 1086, 1087, 1088, 1089, 1090, 1091, 1092, 1093] (by rfl) (by decide +kernel)
set_option maxRecDepth 20000 in
theorem gL_law_X5_odds : GoodIn wsL_law (wsV RL 146 RX5 yX5_odds wsX5_odds) := goodIn_app (goodIn_of _ (by decide +kernel)) ggL_law_X5_odds
set_option maxRecDepth 20000 in
theorem ggL_law_X4_mid : GoodIn wsL_law wsX4_mid := goodIn_r _ [928, 33, 506, 507, 508, 2, 509, 348, 349, 350, 351, 336, 383, 384, 385, 386, 20, 370, 371, 372, 19, 373, 53, 366, 395, 287, 288, 32, 289, 246, 387, 388, 389, 390, 391, 392, 393, 394, 54, 899, 900, 901, 668, 662, 663, 664, 665, 666, 667, 902, 903, 904, 396, 397, 398, 399, 358, 359, 360, 361, 356, 357, 362, 363, 364, 365, 55, 367, 368, 369, 400, 401, 402, 403, 72, 404, 405, 406, 407, 408, 71, 409, 410, 411, 412, 286, 413, 414, 415, 416, 417, 905, 906, 907, 908, 909, 910, 35, 1049, 1050, 1051, 1052, 1053, 1054, 1055, 1056, 1057, 1058, 1059, 1060, 1061, 1112, 1113, 1114, 1115, 1116, 1117, 1118, 1119, 1120, 1099, 1100, 1101, 1102, 1103] (by rfl) (by decide +kernel)
set_option maxRecDepth 20000 in
theorem gL_law_X4_mid : GoodIn wsL_law (wsV RL 147 RX4 yX4_mid wsX4_mid) := goodIn_app (goodIn_of _ (by decide +kernel)) ggL_law_X4_mid
set_option maxRecDepth 20000 in
theorem ggL_law_X5_mid : GoodIn wsL_law wsX5_mid := goodIn_r _ [932, 915, 916, 917, 5, 918, 919, 341, 531, 532, 533, 534, 423, 424, 425, 426, 343, 126, 127, 128, 449, 450, 451, 452, 438, 439, 440, 441, 78, 442, 443, 444, 453, 454, 455, 456, 342, 457, 458, 459, 460, 461, 462, 463, 464, 465, 80, 431, 432, 433, 434, 81, 435, 436, 437, 466, 467, 468, 469, 79, 470, 471, 472, 473, 474, 475, 476, 920, 921, 922, 923, 924, 86, 1062, 1063, 1064, 1065, 1066, 1067, 1068, 1069, 1070, 1071, 1072, 1073, 1074, 1075, 1076, 1077, 1078, 1079, 1080, 1081, 1082, 1083, 1084, 1085, 1086, 1087, 1088, 1089, 1090, 1091, 1092, 1093] (by rfl) (by decide +kernel)
set_option maxRecDepth 20000 in
theorem gL_law_X5_mid : GoodIn wsL_law (wsV RL 150 RX5 yX5_mid wsX5_mid) := goodIn_app (goodIn_of _ (by decide +kernel)) ggL_law_X5_mid
set_option maxRecDepth 20000 in
theorem ggL_law_X4_lots : GoodIn wsL_law wsX4_lots := goodIn_r _ [936, 937, 33, 336, 20, 335, 938, 939, 940, 941, 2, 942, 943, 944, 945, 946, 382, 362, 363, 364, 19, 365, 55, 366, 523, 524, 525, 526, 53, 54, 56, 383, 384, 385, 386, 370, 371, 372, 373, 387, 388, 389, 390, 391, 392, 393, 394, 395, 287, 288, 32, 289, 246, 396, 397, 398, 399, 358, 359, 360, 361, 356, 357, 367, 368, 369, 400, 401, 402, 403, 72, 404, 405, 406, 407, 408, 71, 409, 410, 411, 412, 286, 413, 414, 415, 416, 417, 668, 662, 663, 664, 665, 666, 667, 1049, 1050, 1051, 1052, 1053, 1054, 1055, 1056, 1057, 1058, 1059, 1060, 1061, 1112, 1113, 1114, 1115, 1116, 1117, 1118, 1119, 1120, 1099, 1100, 1101, 1102, 1103] (by rfl) (by decide +kernel)
set_option maxRecDepth 20000 in
theorem gL_law_X4_lots : GoodIn wsL_law (wsV RL 151 RX4 yX4_lots wsX4_lots) := goodIn_app (goodIn_of _ (by decide +kernel)) ggL_law_X4_lots
set_option maxRecDepth 20000 in
theorem ggL_law_X5_lots : GoodIn wsL_law wsX5_lots := goodIn_r _ [950, 951, 952, 343, 78, 953, 954, 955, 956, 422, 341, 461, 126, 127, 5, 128, 539, 540, 541, 542, 449, 450, 451, 452, 438, 439, 440, 441, 442, 443, 444, 453, 454, 455, 456, 342, 457, 458, 459, 460, 462, 463, 464, 465, 80, 431, 432, 433, 434, 81, 435, 436, 437, 466, 467, 468, 469, 79, 470, 471, 472, 473, 474, 475, 476, 543, 544, 545, 546, 673, 674, 675, 1062, 1063, 1064, 1065, 1066, 1067, 1068, 1069, 1070, 1071, 1072, 1073, 1074, 1075, 1076, 1077, 1078, 1079, 1080, 1081, 1082, 1083, 1084, 1085, 1086, 1087, 1088, 1089, 1090, 1091, 1092, 1093] (by rfl) (by decide +kernel)
set_option maxRecDepth 20000 in
theorem gL_law_X5_lots : GoodIn wsL_law (wsV RL 154 RX5 yX5_lots wsX5_lots) := goodIn_app (goodIn_of _ (by decide +kernel)) ggL_law_X5_lots
set_option maxRecDepth 20000 in
theorem ggL_law_X4_asked : GoodIn wsL_law wsX4_asked := goodIn_r _ [960, 143, 1049, 1050, 1051, 1052, 1053, 1054, 1055, 1056, 1057, 1058, 1059, 1060, 1061] (by rfl) (by decide +kernel)
set_option maxRecDepth 20000 in
theorem gL_law_X4_asked : GoodIn wsL_law (wsV RL 155 RX4 yX4_asked wsX4_asked) := goodIn_app (goodIn_of _ (by decide +kernel)) ggL_law_X4_asked
set_option maxRecDepth 20000 in
theorem ggL_law_X5_asked : GoodIn wsL_law wsX5_asked := goodIn_r _ [964, 172, 1062, 1063, 1064, 1065, 1066, 1067, 1068, 1069, 1070, 1071, 1072, 1073, 1074, 1075, 1076, 1077, 1078, 1079, 1080, 1081, 1082, 1083, 1084, 1085, 1086, 1087, 1088, 1089, 1090, 1091, 1092, 1093] (by rfl) (by decide +kernel)
set_option maxRecDepth 20000 in
theorem gL_law_X5_asked : GoodIn wsL_law (wsV RL 158 RX5 yX5_asked wsX5_asked) := goodIn_app (goodIn_of _ (by decide +kernel)) ggL_law_X5_asked
set_option maxRecDepth 20000 in
theorem ggL_law_X4_upper : GoodIn wsL_law wsX4_upper := goodIn_r _ [968, 910, 1049, 1050, 1051, 1052, 1053, 1054, 1055, 1056, 1057, 1058, 1059, 1060, 1061] (by rfl) (by decide +kernel)
set_option maxRecDepth 20000 in
theorem gL_law_X4_upper : GoodIn wsL_law (wsV RL 159 RX4 yX4_upper wsX4_upper) := goodIn_app (goodIn_of _ (by decide +kernel)) ggL_law_X4_upper
set_option maxRecDepth 20000 in
theorem ggL_law_X5_upper : GoodIn wsL_law wsX5_upper := goodIn_r _ [972, 924, 1062, 1063, 1064, 1065, 1066, 1067, 1068, 1069, 1070, 1071, 1072, 1073, 1074, 1075, 1076, 1077, 1078, 1079, 1080, 1081, 1082, 1083, 1084, 1085, 1086, 1087, 1088, 1089, 1090, 1091, 1092, 1093] (by rfl) (by decide +kernel)
set_option maxRecDepth 20000 in
theorem gL_law_X5_upper : GoodIn wsL_law (wsV RL 163 RX5 yX5_upper wsX5_upper) := goodIn_app (goodIn_of _ (by decide +kernel)) ggL_law_X5_upper
set_option maxRecDepth 20000 in
theorem ggL_law_X4_lower : GoodIn wsL_law wsX4_lower := goodIn_r _ [976, 35, 1049, 1050, 1051, 1052, 1053, 1054, 1055, 1056, 1057, 1058, 1059, 1060, 1061] (by rfl) (by decide +kernel)
set_option maxRecDepth 20000 in
theorem gL_law_X4_lower : GoodIn wsL_law (wsV RL 164 RX4 yX4_lower wsX4_lower) := goodIn_app (goodIn_of _ (by decide +kernel)) ggL_law_X4_lower
set_option maxRecDepth 20000 in
theorem ggL_law_X5_lower : GoodIn wsL_law wsX5_lower := goodIn_r _ [980, 86, 1062, 1063, 1064, 1065, 1066, 1067, 1068, 1069, 1070, 1071, 1072, 1073, 1074, 1075, 1076, 1077, 1078, 1079, 1080, 1081, 1082, 1083, 1084, 1085, 1086, 1087, 1088, 1089, 1090, 1091, 1092, 1093] (by rfl) (by decide +kernel)
set_option maxRecDepth 20000 in
theorem gL_law_X5_lower : GoodIn wsL_law (wsV RL 167 RX5 yX5_lower wsX5_lower) := goodIn_app (goodIn_of _ (by decide +kernel)) ggL_law_X5_lower
set_option maxRecDepth 20000 in
theorem ggL_law_X4_count : GoodIn wsL_law wsX4_count := goodIn_r _ [984, 33, 336, 696, 20, 335, 382, 15, 16, 362, 363, 364, 19, 365, 55, 366, 370, 371, 372, 373, 53, 391, 392, 393, 394, 54, 985, 986, 987, 988, 56, 482, 483, 484, 32, 485, 247, 72, 989, 990, 991, 14, 992, 40, 993, 153, 154, 155, 45, 994, 995, 996, 2, 997, 23, 1049, 1050, 1051, 1052, 1053, 1054, 1055, 1056, 1057, 1058, 1059, 1060, 1061, 1112, 1113, 1114, 1115, 1116, 1117, 1118, 1119, 1120, 1099, 1100, 1101, 1102, 1103, 1094, 1095, 1096, 1097, 1098] (by rfl) (by decide +kernel)
set_option maxRecDepth 20000 in
theorem gL_law_X4_count : GoodIn wsL_law (wsV RL 168 RX4 yX4_count wsX4_count) := goodIn_app (goodIn_of _ (by decide +kernel)) ggL_law_X4_count
set_option maxRecDepth 20000 in
theorem ggL_law_X5_count : GoodIn wsL_law wsX5_count := goodIn_r _ [1001, 919, 126, 127, 5, 128, 1002, 1003, 1004, 1005, 343, 342, 78, 341, 1006, 1007, 1008, 1009, 494, 495, 496, 497, 80, 1010, 1011, 1012, 1013, 82, 84, 1062, 1063, 1064, 1065, 1066, 1067, 1068, 1069, 1070, 1071, 1072, 1073, 1074, 1075, 1076, 1077, 1078, 1079, 1080, 1081, 1082, 1083, 1084, 1085, 1086, 1087, 1088, 1089, 1090, 1091, 1092, 1093] (by rfl) (by decide +kernel)
set_option maxRecDepth 20000 in
theorem gL_law_X5_count : GoodIn wsL_law (wsV RL 171 RX5 yX5_count wsX5_count) := goodIn_app (goodIn_of _ (by decide +kernel)) ggL_law_X5_count
set_option maxRecDepth 20000 in
theorem ggL_law_X4_finding : GoodIn wsL_law wsX4_finding := goodIn_r _ [1017, 113, 1049, 1050, 1051, 1052, 1053, 1054, 1055, 1056, 1057, 1058, 1059, 1060, 1061] (by rfl) (by decide +kernel)
set_option maxRecDepth 20000 in
theorem gL_law_X4_finding : GoodIn wsL_law (wsV RL 172 RX4 yX4_finding wsX4_finding) := goodIn_app (goodIn_of _ (by decide +kernel)) ggL_law_X4_finding
set_option maxRecDepth 20000 in
theorem ggL_law_X5_finding : GoodIn wsL_law wsX5_finding := goodIn_r _ [1021, 133, 1062, 1063, 1064, 1065, 1066, 1067, 1068, 1069, 1070, 1071, 1072, 1073, 1074, 1075, 1076, 1077, 1078, 1079, 1080, 1081, 1082, 1083, 1084, 1085, 1086, 1087, 1088, 1089, 1090, 1091, 1092, 1093] (by rfl) (by decide +kernel)
set_option maxRecDepth 20000 in
theorem gL_law_X5_finding : GoodIn wsL_law (wsV RL 175 RX5 yX5_finding wsX5_finding) := goodIn_app (goodIn_of _ (by decide +kernel)) ggL_law_X5_finding
set_option maxRecDepth 20000 in
theorem ggL_law_X4_findings : GoodIn wsL_law wsX4_findings := goodIn_r _ [1025, 29, 1049, 1050, 1051, 1052, 1053, 1054, 1055, 1056, 1057, 1058, 1059, 1060, 1061] (by rfl) (by decide +kernel)
set_option maxRecDepth 20000 in
theorem gL_law_X4_findings : GoodIn wsL_law (wsV RL 176 RX4 yX4_findings wsX4_findings) := goodIn_app (goodIn_of _ (by decide +kernel)) ggL_law_X4_findings
set_option maxRecDepth 20000 in
theorem ggL_law_X5_findings : GoodIn wsL_law wsX5_findings := goodIn_r _ [1029, 125, 87, 126, 127, 5, 128, 1062, 1063, 1064, 1065, 1066, 1067, 1068, 1069, 1070, 1071, 1072, 1073, 1074, 1075, 1076, 1077, 1078, 1079, 1080, 1081, 1082, 1083, 1084, 1085, 1086, 1087, 1088, 1089, 1090, 1091, 1092, 1093] (by rfl) (by decide +kernel)
set_option maxRecDepth 20000 in
theorem gL_law_X5_findings : GoodIn wsL_law (wsV RL 179 RX5 yX5_findings wsX5_findings) := goodIn_app (goodIn_of _ (by decide +kernel)) ggL_law_X5_findings
set_option maxRecDepth 20000 in
theorem ggL_law_X4_digest : GoodIn wsL_law wsX4_digest := goodIn_r _ [1033, 1034, 1035, 33, 696, 1036, 336, 23, 21, 335, 16, 15, 1037, 982, 983, 2, 984, 20, 382, 362, 363, 364, 19, 365, 55, 366, 370, 371, 372, 373, 53, 391, 392, 393, 394, 54, 985, 986, 987, 988, 56, 482, 483, 484, 32, 485, 247, 72, 989, 990, 991, 14, 992, 40, 993, 153, 154, 155, 45, 994, 995, 996, 997, 352, 353, 354, 355, 356, 357, 358, 359, 360, 361, 367, 368, 369, 374, 375, 376, 377, 378, 379, 380, 381, 383, 384, 385, 386, 387, 388, 389, 390, 395, 287, 288, 289, 246, 396, 397, 398, 399, 400, 401, 402, 403, 404, 405, 406, 407, 408, 71, 409, 410, 411, 412, 286, 413, 414, 415, 416, 417, 1038, 1039, 1040, 1041, 1042, 44, 1049, 1050, 1051, 1052, 1053, 1054, 1055, 1056, 1057, 1058, 1059, 1060, 1061, 1112, 1113, 1114, 1115, 1116, 1117, 1118, 1119, 1120, 1099, 1100, 1101, 1102, 1103, 1094, 1095, 1096, 1097, 1098] (by rfl) (by decide +kernel)
set_option maxRecDepth 20000 in
theorem gL_law_X4_digest : GoodIn wsL_law (wsV RL 180 RX4 yX4_digest wsX4_digest) := goodIn_app (goodIn_of _ (by decide +kernel)) ggL_law_X4_digest
set_option maxRecDepth 20000 in
theorem ggL_law_X5_digest : GoodIn wsL_law wsX5_digest := goodIn_r _ [1046, 1047, 1048, 342, 79, 343, 78, 82, 83, 84, 85, 1002, 1003, 1004, 5, 1005, 341, 1006, 1007, 1008, 1009, 494, 495, 496, 497, 80, 1010, 1011, 1012, 1013, 427, 428, 429, 430, 81, 431, 432, 433, 434, 435, 436, 437, 438, 439, 440, 441, 442, 443, 444, 445, 446, 447, 448, 449, 450, 451, 452, 453, 454, 455, 456, 457, 458, 459, 460, 461, 462, 463, 464, 465, 466, 467, 468, 469, 470, 471, 472, 473, 474, 475, 476, 1062, 1063, 1064, 1065, 1066, 1067, 1068, 1069, 1070, 1071, 1072, 1073, 1074, 1075, 1076, 1077, 1078, 1079, 1080, 1081, 1082, 1083, 1084, 1085, 1086, 1087, 1088, 1089, 1090, 1091, 1092, 1093] (by rfl) (by decide +kernel)
set_option maxRecDepth 20000 in
theorem gL_law_X5_digest : GoodIn wsL_law (wsV RL 183 RX5 yX5_digest wsX5_digest) := goodIn_app (goodIn_of _ (by decide +kernel)) ggL_law_X5_digest
