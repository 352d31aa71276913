set_option maxRecDepth 20000 in
theorem ggL_law_X4_init : GoodIn wsL_law wsX4_init := goodIn_r _ [7, 8, 9, 10, 11, 12, 13, 14, 15, 16, 17, 18, 19, 20, 21, 22, 23, 24, 25, 26, 3, 27, 28, 29, 30, 31, 32, 33, 34, 35, 36, 37, 38, 39, 40, 41, 42, 43, 44, 45, 46, 47, 48, 49, 50, 51, 52, 53, 54, 55, 56, 57, 58, 59, 60, 61, 62, 63, 64, 65, 66, 67, 68, 69, 70, 71, 636, 637, 638, 639, 640, 623, 624, 625, 626, 627, 628, 629, 630, 631, 632, 633, 634, 635, 641, 642, 643, 644, 645, 646, 647, 648, 649, 650, 651, 652, 653, 654, 655, 656, 657, 658, 659, 660, 661, 662] (by rfl) (by decide +kernel)
set_option maxRecDepth 20000 in
theorem gL_law_X4_init : GoodIn wsL_law (wsX4_init) := ggL_law_X4_init
set_option maxRecDepth 20000 in
theorem ggL_law_L_tower : GoodIn wsL_law wsL_tower := goodIn_r _ [75, 76, 77, 74, 78, 79, 80, 81, 82, 83, 84, 85, 86, 2, 87, 15, 88, 89, 90, 91, 92, 93, 94, 95, 13, 96, 38, 97, 98, 99, 100, 101, 27, 102, 103, 104, 105, 43, 42, 40, 44, 45, 46, 47, 106, 107, 108, 109, 110, 111, 112, 113, 114, 115, 116, 117, 118, 119, 120, 121, 122, 123, 124, 125, 126, 127, 128, 129, 130, 131, 132, 133, 32, 134, 135, 136, 137, 30, 138, 139, 140, 141, 142, 143, 144, 145, 146, 147, 148, 149, 150, 151, 152, 153, 154, 155, 156, 157, 158, 159, 70, 160, 161, 162, 163, 164, 165, 166, 68, 167, 168, 169, 170, 171, 172, 173, 174, 71, 175, 176, 177, 178, 69, 179, 180, 181, 182, 183, 184, 185, 186, 31, 19, 187, 22, 188, 623, 624, 625, 626, 627, 628, 629, 630, 631, 632, 633, 634, 635, 636, 637, 638, 639, 640, 654, 655, 656, 657, 658, 659, 660, 661, 662, 641, 642, 643, 644, 645] (by rfl) (by decide +kernel)
set_option maxRecDepth 20000 in
theorem gL_law_L_tower : GoodIn wsL_law (va_wsS RL 88 yL_tower wsL_tower) := goodIn_app (goodIn_of _ (by decide +kernel)) ggL_law_L_tower
set_option maxRecDepth 20000 in
theorem ggL_law_X4_digest : GoodIn wsL_law wsX4_digest := goodIn_r _ [192, 193, 194, 31, 195, 196, 188, 22, 20, 187, 15, 14, 197, 198, 199, 2, 200, 19, 201, 202, 203, 204, 18, 205, 53, 206, 207, 208, 209, 210, 51, 211, 212, 213, 214, 52, 215, 216, 217, 218, 54, 219, 220, 221, 30, 222, 140, 70, 223, 224, 225, 13, 226, 38, 227, 120, 121, 122, 43, 228, 229, 230, 231, 232, 233, 234, 235, 236, 237, 238, 239, 240, 241, 242, 243, 244, 245, 246, 247, 248, 249, 250, 251, 252, 253, 254, 255, 256, 257, 258, 259, 260, 261, 180, 181, 182, 139, 262, 263, 264, 265, 266, 267, 268, 269, 270, 271, 272, 273, 274, 69, 275, 276, 277, 278, 179, 279, 280, 281, 282, 283, 284, 285, 286, 287, 288, 42, 623, 624, 625, 626, 627, 628, 629, 630, 631, 632, 633, 634, 635, 654, 655, 656, 657, 658, 659, 660, 661, 662, 641, 642, 643, 644, 645, 636, 637, 638, 639, 640] (by rfl) (by decide +kernel)
set_option maxRecDepth 20000 in
theorem gL_law_X4_digest : GoodIn wsL_law (wsV RL 91 RX4 yX4_digest wsX4_digest) := goodIn_app (goodIn_of _ (by decide +kernel)) ggL_law_X4_digest
set_option maxRecDepth 20000 in
theorem ggL_law_X4_keep : GoodIn wsL_law wsX4_keep := goodIn_r _ [292, 31, 188, 20, 19, 22, 187, 293, 294, 295, 18, 296, 206, 51, 297, 298, 299, 300, 52, 53, 54, 623, 624, 625, 626, 627, 628, 629, 630, 631, 632, 633, 634, 635, 654, 655, 656, 657, 658, 659, 660, 661, 662, 641, 642, 643, 644, 645] (by rfl) (by decide +kernel)
set_option maxRecDepth 20000 in
theorem gL_law_X4_keep : GoodIn wsL_law (wsV RL 95 RX4 yX4_keep wsX4_keep) := goodIn_app (goodIn_of _ (by decide +kernel)) ggL_law_X4_keep
set_option maxRecDepth 20000 in
theorem ggL_law_L_cell : GoodIn wsL_law wsL_cell := goodIn_r _ [78, 79] (by rfl) (by decide +kernel)
set_option maxRecDepth 20000 in
theorem gL_law_L_cell : GoodIn wsL_law (va_wsS RL 9 yL_cell wsL_cell) := goodIn_app (goodIn_of _ (by decide +kernel)) ggL_law_L_cell
set_option maxRecDepth 20000 in
theorem ggL_law_L_stir : GoodIn wsL_law wsL_stir := goodIn_r _ [303, 80, 81, 74, 82, 83, 304, 305, 306, 2, 307, 31, 188, 19, 187, 202, 203, 204, 18, 205, 53, 206, 308, 309, 310, 311, 51, 52, 54, 312, 313, 314, 315, 316, 317, 318, 319, 320, 321, 322, 323, 324, 325, 326, 327, 328, 329, 330, 331, 332, 333, 334, 335, 336, 337, 338, 339, 340, 341, 342, 343, 344, 345, 346, 201, 347, 348, 349, 350, 351, 352, 353, 354, 355, 356, 357, 358, 261, 180, 181, 30, 182, 139, 253, 254, 255, 256, 207, 208, 209, 210, 257, 258, 259, 260, 211, 212, 213, 214, 359, 360, 361, 362, 363, 364, 365, 366, 70, 71, 69, 243, 244, 367, 267, 268, 269, 279, 280, 281, 282, 277, 283, 623, 624, 625, 626, 627, 628, 629, 630, 631, 632, 633, 634, 635, 654, 655, 656, 657, 658, 659, 660, 661, 662, 641, 642, 643, 644, 645] (by rfl) (by decide +kernel)
set_option maxRecDepth 20000 in
theorem gL_law_L_stir : GoodIn wsL_law (va_wsS RL 98 yL_stir wsL_stir) := goodIn_app (goodIn_of _ (by decide +kernel)) ggL_law_L_stir
set_option maxRecDepth 20000 in
theorem ggL_law_X4_count : GoodIn wsL_law wsX4_count := goodIn_r _ [200, 31, 188, 195, 19, 187, 201, 14, 15, 202, 203, 204, 18, 205, 53, 206, 207, 208, 209, 210, 51, 211, 212, 213, 214, 52, 215, 216, 217, 218, 54, 219, 220, 221, 30, 222, 140, 70, 223, 224, 225, 13, 226, 38, 227, 120, 121, 122, 43, 228, 229, 230, 2, 231, 22, 623, 624, 625, 626, 627, 628, 629, 630, 631, 632, 633, 634, 635, 654, 655, 656, 657, 658, 659, 660, 661, 662, 641, 642, 643, 644, 645, 636, 637, 638, 639, 640] (by rfl) (by decide +kernel)
set_option maxRecDepth 20000 in
theorem gL_law_X4_count : GoodIn wsL_law (wsV RL 102 RX4 yX4_count wsX4_count) := goodIn_app (goodIn_of _ (by decide +kernel)) ggL_law_X4_count
set_option maxRecDepth 20000 in
theorem ggL_law_L_bits : GoodIn wsL_law wsL_bits := goodIn_r _ [371] (by rfl) (by decide +kernel)
set_option maxRecDepth 20000 in
theorem gL_law_L_bits : GoodIn wsL_law (va_wsS RL 104 yL_bits wsL_bits) := goodIn_app (goodIn_of _ (by decide +kernel)) ggL_law_L_bits
set_option maxRecDepth 20000 in
theorem ggL_law_L_told : GoodIn wsL_law wsL_told := goodIn_r _ [374, 375, 376, 377, 2, 378, 379, 351, 352, 353, 354, 31, 188, 232, 233, 234, 235, 236, 237, 19, 238, 239, 240, 241, 202, 203, 204, 18, 205, 53, 206, 242, 243, 244, 207, 208, 209, 210, 51, 245, 246, 247, 248, 249, 250, 251, 252, 201, 253, 254, 255, 256, 257, 258, 259, 260, 211, 212, 213, 214, 52, 261, 180, 181, 30, 182, 139, 262, 263, 264, 265, 266, 267, 268, 269, 70, 270, 271, 272, 273, 274, 69, 275, 276, 277, 278, 179, 279, 280, 281, 282, 283, 380, 381, 382, 383, 623, 624, 625, 626, 627, 628, 629, 630, 631, 632, 633, 634, 635, 654, 655, 656, 657, 658, 659, 660, 661, 662, 641, 642, 643, 644, 645] (by rfl) (by decide +kernel)
set_option maxRecDepth 20000 in
theorem gL_law_L_told : GoodIn wsL_law (va_wsS RL 107 yL_told wsL_told) := goodIn_app (goodIn_of _ (by decide +kernel)) ggL_law_L_told
set_option maxRecDepth 20000 in
theorem ggL_law_L_low : GoodIn wsL_law wsL_low := goodIn_r _ [82, 83] (by rfl) (by decide +kernel)
set_option maxRecDepth 20000 in
theorem gL_law_L_low : GoodIn wsL_law (va_wsS RL 15 yL_low wsL_low) := goodIn_app (goodIn_of _ (by decide +kernel)) ggL_law_L_low
set_option maxRecDepth 20000 in
theorem ggL_law_X4_sink : GoodIn wsL_law wsX4_sink := goodIn_r _ [387, 347, 348, 349, 2, 350, 351, 352, 353, 354, 31, 188, 355, 356, 357, 358, 261, 180, 181, 30, 182, 139, 359, 360, 361, 362, 19, 202, 203, 204, 18, 205, 53, 206, 363, 364, 365, 366, 70, 71, 69, 243, 244, 367, 267, 268, 269, 279, 280, 281, 282, 277, 283, 623, 624, 625, 626, 627, 628, 629, 630, 631, 632, 633, 634, 635, 654, 655, 656, 657, 658, 659, 660, 661, 662, 641, 642, 643, 644, 645] (by rfl) (by decide +kernel)
set_option maxRecDepth 20000 in
theorem gL_law_X4_sink : GoodIn wsL_law (wsV RL 111 RX4 yX4_sink wsX4_sink) := goodIn_app (goodIn_of _ (by decide +kernel)) ggL_law_X4_sink
set_option maxRecDepth 20000 in
theorem ggL_law_X4_go : GoodIn wsL_law wsX4_go := goodIn_r _ [346, 31, 201, 19, 187, 347, 348, 349, 2, 350, 351, 352, 353, 354, 188, 355, 356, 357, 358, 261, 180, 181, 30, 182, 139, 253, 254, 255, 256, 207, 208, 209, 18, 210, 51, 206, 257, 258, 259, 260, 211, 212, 213, 214, 52, 359, 360, 361, 362, 202, 203, 204, 205, 53, 363, 364, 365, 366, 70, 71, 69, 243, 244, 367, 267, 268, 269, 279, 280, 281, 282, 277, 283, 308, 309, 310, 311, 54, 623, 624, 625, 626, 627, 628, 629, 630, 631, 632, 633, 634, 635, 654, 655, 656, 657, 658, 659, 660, 661, 662, 641, 642, 643, 644, 645] (by rfl) (by decide +kernel)
set_option maxRecDepth 20000 in
theorem gL_law_X4_go : GoodIn wsL_law (wsV RL 78 RX4 yX4_go wsX4_go) := goodIn_app (goodIn_of _ (by decide +kernel)) ggL_law_X4_go
set_option maxRecDepth 20000 in
theorem ggL_law_X4_undo : GoodIn wsL_law wsX4_undo := goodIn_r _ [391, 19, 187, 623, 624, 625, 626, 627, 628, 629, 630, 631, 632, 633, 634, 635, 641, 642, 643, 644, 645] (by rfl) (by decide +kernel)
set_option maxRecDepth 20000 in
theorem gL_law_X4_undo : GoodIn wsL_law (wsV RL 113 RX4 yX4_undo wsX4_undo) := goodIn_app (goodIn_of _ (by decide +kernel)) ggL_law_X4_undo
set_option maxRecDepth 20000 in
theorem ggL_law_X4_best : GoodIn wsL_law wsX4_best := goodIn_r _ [395, 379, 347, 348, 349, 2, 350, 351, 352, 353, 354, 31, 188, 253, 254, 255, 256, 19, 207, 208, 209, 18, 210, 51, 206, 257, 258, 259, 260, 211, 212, 213, 214, 52, 261, 180, 181, 30, 182, 139, 262, 263, 264, 265, 238, 239, 240, 241, 236, 237, 202, 203, 204, 205, 53, 242, 243, 244, 266, 267, 268, 269, 70, 270, 271, 272, 273, 274, 69, 275, 276, 277, 278, 179, 279, 280, 281, 282, 283, 623, 624, 625, 626, 627, 628, 629, 630, 631, 632, 633, 634, 635, 654, 655, 656, 657, 658, 659, 660, 661, 662, 641, 642, 643, 644, 645] (by rfl) (by decide +kernel)
set_option maxRecDepth 20000 in
theorem gL_law_X4_best : GoodIn wsL_law (wsV RL 116 RX4 yX4_best wsX4_best) := goodIn_app (goodIn_of _ (by decide +kernel)) ggL_law_X4_best
set_option maxRecDepth 20000 in
theorem ggL_law_X4_asked : GoodIn wsL_law wsX4_asked := goodIn_r _ [383, 379, 623, 624, 625, 626, 627, 628, 629, 630, 631, 632, 633, 634, 635] (by rfl) (by decide +kernel)
set_option maxRecDepth 20000 in
theorem gL_law_X4_asked : GoodIn wsL_law (wsV RL 84 RX4 yX4_asked wsX4_asked) := goodIn_app (goodIn_of _ (by decide +kernel)) ggL_law_X4_asked
set_option maxRecDepth 20000 in
theorem ggL_law_X4_loaves : GoodIn wsL_law wsX4_loaves := goodIn_r _ [399, 19, 31, 201, 347, 348, 349, 2, 350, 351, 352, 353, 354, 188, 253, 254, 255, 256, 207, 208, 209, 18, 210, 51, 206, 202, 203, 204, 205, 53, 363, 364, 365, 30, 366, 70, 71, 69, 243, 244, 367, 267, 268, 269, 279, 280, 281, 282, 277, 283, 623, 624, 625, 626, 627, 628, 629, 630, 631, 632, 633, 634, 635, 654, 655, 656, 657, 658, 659, 660, 661, 662, 641, 642, 643, 644, 645] (by rfl) (by decide +kernel)
set_option maxRecDepth 20000 in
theorem gL_law_X4_loaves : GoodIn wsL_law (wsV RL 119 RX4 yX4_loaves wsX4_loaves) := goodIn_app (goodIn_of _ (by decide +kernel)) ggL_law_X4_loaves
set_option maxRecDepth 20000 in
theorem ggL_law_X4_waits : GoodIn wsL_law wsX4_waits := goodIn_r _ [403, 31, 201, 351, 352, 353, 2, 354, 188, 238, 239, 240, 241, 236, 237, 19, 202, 203, 204, 18, 205, 53, 206, 242, 243, 244, 257, 258, 259, 260, 211, 212, 213, 214, 52, 207, 208, 209, 210, 51, 261, 180, 181, 30, 182, 139, 270, 271, 272, 273, 274, 69, 275, 276, 277, 278, 179, 279, 280, 281, 282, 283, 623, 624, 625, 626, 627, 628, 629, 630, 631, 632, 633, 634, 635, 654, 655, 656, 657, 658, 659, 660, 661, 662, 641, 642, 643, 644, 645] (by rfl) (by decide +kernel)
set_option maxRecDepth 20000 in
theorem gL_law_X4_waits : GoodIn wsL_law (wsV RL 122 RX4 yX4_waits wsX4_waits) := goodIn_app (goodIn_of _ (by decide +kernel)) ggL_law_X4_waits
set_option maxRecDepth 20000 in
theorem ggL_law_X4_pairs : GoodIn wsL_law wsX4_pairs := goodIn_r _ [407, 379, 408, 409, 410, 2, 411, 31, 188, 249, 250, 251, 252, 201, 253, 254, 255, 256, 19, 207, 208, 209, 18, 210, 51, 206, 257, 258, 259, 260, 211, 212, 213, 214, 52, 261, 180, 181, 30, 182, 139, 262, 263, 264, 265, 238, 239, 240, 241, 236, 237, 202, 203, 204, 205, 53, 242, 243, 244, 266, 267, 268, 269, 70, 270, 271, 272, 273, 274, 69, 275, 276, 277, 278, 179, 279, 280, 281, 282, 283, 412, 413, 414, 415, 623, 624, 625, 626, 627, 628, 629, 630, 631, 632, 633, 634, 635, 654, 655, 656, 657, 658, 659, 660, 661, 662, 641, 642, 643, 644, 645] (by rfl) (by decide +kernel)
set_option maxRecDepth 20000 in
theorem gL_law_X4_pairs : GoodIn wsL_law (wsV RL 125 RX4 yX4_pairs wsX4_pairs) := goodIn_app (goodIn_of _ (by decide +kernel)) ggL_law_X4_pairs
set_option maxRecDepth 20000 in
theorem ggL_law_X4_match : GoodIn wsL_law wsX4_match := goodIn_r _ [419, 31, 188, 26, 19, 379, 420, 421, 422, 2, 423, 424, 425, 238, 239, 240, 241, 236, 237, 202, 203, 204, 18, 205, 53, 206, 242, 243, 244, 266, 267, 268, 30, 269, 70, 426, 427, 428, 429, 69, 155, 179, 180, 181, 182, 139, 279, 280, 281, 282, 277, 283, 207, 208, 209, 210, 51, 211, 212, 213, 214, 52, 261, 430, 431, 432, 25, 433, 62, 434, 435, 45, 46, 47, 436, 437, 438, 439, 58, 440, 441, 442, 443, 444, 445, 446, 447, 448, 449, 450, 451, 452, 453, 454, 455, 456, 457, 458, 459, 623, 624, 625, 626, 627, 628, 629, 630, 631, 632, 633, 634, 635, 654, 655, 656, 657, 658, 659, 660, 661, 662, 646, 647, 648, 649, 650, 651, 652, 653, 641, 642, 643, 644, 645] (by rfl) (by decide +kernel)
set_option maxRecDepth 20000 in
theorem gL_law_X4_match : GoodIn wsL_law (wsV RL 128 RX4 yX4_match wsX4_match) := goodIn_app (goodIn_of _ (by decide +kernel)) ggL_law_X4_match
set_option maxRecDepth 20000 in
theorem ggL_law_X4_worth : GoodIn wsL_law wsX4_worth := goodIn_r _ [463, 31, 188, 195, 379, 412, 413, 414, 2, 415, 249, 250, 251, 252, 201, 253, 254, 255, 256, 19, 207, 208, 209, 18, 210, 51, 206, 257, 258, 259, 260, 211, 212, 213, 214, 52, 261, 180, 181, 30, 182, 139, 262, 263, 264, 265, 238, 239, 240, 241, 236, 237, 202, 203, 204, 205, 53, 242, 243, 244, 266, 267, 268, 269, 70, 270, 271, 272, 273, 274, 69, 275, 276, 277, 278, 179, 279, 280, 281, 282, 283, 623, 624, 625, 626, 627, 628, 629, 630, 631, 632, 633, 634, 635, 654, 655, 656, 657, 658, 659, 660, 661, 662, 641, 642, 643, 644, 645] (by rfl) (by decide +kernel)
set_option maxRecDepth 20000 in
theorem gL_law_X4_worth : GoodIn wsL_law (wsV RL 131 RX4 yX4_worth wsX4_worth) := goodIn_app (goodIn_of _ (by decide +kernel)) ggL_law_X4_worth
set_option maxRecDepth 20000 in
theorem ggL_law_X4_up : GoodIn wsL_law wsX4_up := goodIn_r _ [467, 468, 469, 470, 2, 471, 31, 188, 472, 473, 474, 475, 26, 476, 477, 379, 478, 479, 480, 481, 19, 420, 421, 422, 423, 424, 425, 238, 239, 240, 241, 236, 237, 202, 203, 204, 18, 205, 53, 206, 242, 243, 244, 266, 267, 268, 30, 269, 70, 426, 427, 428, 429, 69, 155, 179, 180, 181, 182, 139, 279, 280, 281, 282, 277, 283, 207, 208, 209, 210, 51, 211, 212, 213, 214, 52, 261, 482, 483, 484, 25, 485, 59, 60, 61, 486, 435, 45, 46, 47, 487, 488, 489, 490, 434, 440, 441, 442, 443, 444, 445, 491, 492, 493, 494, 58, 495, 496, 497, 498, 499, 500, 501, 502, 623, 624, 625, 626, 627, 628, 629, 630, 631, 632, 633, 634, 635, 654, 655, 656, 657, 658, 659, 660, 661, 662, 646, 647, 648, 649, 650, 651, 652, 653, 641, 642, 643, 644, 645] (by rfl) (by decide +kernel)
set_option maxRecDepth 20000 in
theorem gL_law_X4_up : GoodIn wsL_law (wsV RL 134 RX4 yX4_up wsX4_up) := goodIn_app (goodIn_of _ (by decide +kernel)) ggL_law_X4_up
set_option maxRecDepth 20000 in
theorem ggL_law_X4_down : GoodIn wsL_law wsX4_down := goodIn_r _ [506, 468, 469, 470, 2, 471, 31, 188, 472, 473, 474, 475, 26, 476, 477, 379, 478, 479, 480, 481, 19, 420, 421, 422, 423, 424, 425, 238, 239, 240, 241, 236, 237, 202, 203, 204, 18, 205, 53, 206, 242, 243, 244, 266, 267, 268, 30, 269, 70, 426, 427, 428, 429, 69, 155, 179, 180, 181, 182, 139, 279, 280, 281, 282, 277, 283, 207, 208, 209, 210, 51, 211, 212, 213, 214, 52, 261, 482, 483, 484, 25, 485, 59, 60, 61, 486, 435, 45, 46, 47, 487, 488, 489, 490, 434, 440, 441, 442, 443, 444, 445, 491, 492, 493, 494, 58, 495, 496, 497, 498, 499, 500, 501, 502, 623, 624, 625, 626, 627, 628, 629, 630, 631, 632, 633, 634, 635, 654, 655, 656, 657, 658, 659, 660, 661, 662, 646, 647, 648, 649, 650, 651, 652, 653, 641, 642, 643, 644, 645] (by rfl) (by decide +kernel)
set_option maxRecDepth 20000 in
theorem gL_law_X4_down : GoodIn wsL_law (wsV RL 137 RX4 yX4_down wsX4_down) := goodIn_app (goodIn_of _ (by decide +kernel)) ggL_law_X4_down
set_option maxRecDepth 20000 in
theorem ggL_law_X4_ever : GoodIn wsL_law wsX4_ever := goodIn_r _ [510, 31, 188, 26, 19, 478, 479, 480, 2, 481, 420, 421, 422, 423, 424, 425, 238, 239, 240, 241, 236, 237, 202, 203, 204, 18, 205, 53, 206, 242, 243, 244, 266, 267, 268, 30, 269, 70, 426, 427, 428, 429, 69, 155, 179, 180, 181, 182, 139, 279, 280, 281, 282, 277, 283, 207, 208, 209, 210, 51, 211, 212, 213, 214, 52, 261, 482, 483, 484, 25, 485, 59, 60, 61, 486, 435, 45, 46, 47, 487, 488, 489, 490, 434, 440, 441, 442, 443, 444, 445, 491, 492, 493, 494, 58, 495, 496, 497, 498, 511, 512, 513, 514, 623, 624, 625, 626, 627, 628, 629, 630, 631, 632, 633, 634, 635, 654, 655, 656, 657, 658, 659, 660, 661, 662, 646, 647, 648, 649, 650, 651, 652, 653, 641, 642, 643, 644, 645] (by rfl) (by decide +kernel)
set_option maxRecDepth 20000 in
theorem gL_law_X4_ever : GoodIn wsL_law (wsV RL 140 RX4 yX4_ever wsX4_ever) := goodIn_app (goodIn_of _ (by decide +kernel)) ggL_law_X4_ever
set_option maxRecDepth 20000 in
theorem ggL_law_X4_row : GoodIn wsL_law wsX4_row := goodIn_r _ [518, 14, 88, 89, 90, 2, 91, 92, 93, 94, 95, 13, 96, 38, 97, 98, 99, 100, 101, 27, 102, 103, 104, 105, 43, 42, 40, 44, 45, 46, 47, 623, 624, 625, 626, 627, 628, 629, 630, 631, 632, 633, 634, 635, 636, 637, 638, 639, 640] (by rfl) (by decide +kernel)
set_option maxRecDepth 20000 in
theorem gL_law_X4_row : GoodIn wsL_law (wsV RL 143 RX4 yX4_row wsX4_row) := goodIn_app (goodIn_of _ (by decide +kernel)) ggL_law_X4_row
set_option maxRecDepth 20000 in
theorem ggL_law_X4_lay : GoodIn wsL_law wsX4_lay := goodIn_r _ [522, 14, 110, 379, 111, 112, 113, 2, 114, 115, 116, 117, 118, 93, 94, 95, 13, 96, 38, 119, 120, 121, 122, 43, 97, 98, 99, 100, 101, 27, 123, 124, 125, 126, 623, 624, 625, 626, 627, 628, 629, 630, 631, 632, 633, 634, 635, 636, 637, 638, 639, 640] (by rfl) (by decide +kernel)
set_option maxRecDepth 20000 in
theorem gL_law_X4_lay : GoodIn wsL_law (wsV RL 146 RX4 yX4_lay wsX4_lay) := goodIn_app (goodIn_of _ (by decide +kernel)) ggL_law_X4_lay
set_option maxRecDepth 20000 in
theorem ggL_law_X4_pounds : GoodIn wsL_law wsX4_pounds := goodIn_r _ [526, 379, 31, 236, 527, 528, 529, 2, 530, 14, 134, 110, 351, 352, 353, 354, 188, 115, 116, 117, 118, 93, 94, 95, 13, 96, 38, 119, 120, 121, 122, 43, 97, 98, 99, 100, 101, 27, 531, 532, 533, 534, 535, 536, 537, 538, 19, 202, 203, 204, 18, 205, 53, 206, 242, 243, 244, 238, 239, 240, 241, 237, 539, 279, 280, 281, 282, 277, 283, 623, 624, 625, 626, 627, 628, 629, 630, 631, 632, 633, 634, 635, 654, 655, 656, 657, 658, 659, 660, 661, 662, 636, 637, 638, 639, 640, 641, 642, 643, 644, 645] (by rfl) (by decide +kernel)
set_option maxRecDepth 20000 in
theorem gL_law_X4_pounds : GoodIn wsL_law (wsV RL 149 RX4 yX4_pounds wsX4_pounds) := goodIn_app (goodIn_of _ (by decide +kernel)) ggL_law_X4_pounds
set_option maxRecDepth 20000 in
theorem ggL_law_X4_kinds : GoodIn wsL_law wsX4_kinds := goodIn_r _ [543, 527, 528, 529, 2, 530, 14, 134, 110, 351, 352, 353, 354, 31, 188, 115, 116, 117, 118, 93, 94, 95, 13, 96, 38, 119, 120, 121, 122, 43, 97, 98, 99, 100, 101, 27, 544, 545, 546, 547, 237, 531, 532, 533, 534, 535, 536, 537, 538, 19, 236, 202, 203, 204, 18, 205, 53, 206, 242, 243, 244, 238, 239, 240, 241, 539, 279, 280, 281, 282, 277, 283, 623, 624, 625, 626, 627, 628, 629, 630, 631, 632, 633, 634, 635, 636, 637, 638, 639, 640, 654, 655, 656, 657, 658, 659, 660, 661, 662, 641, 642, 643, 644, 645] (by rfl) (by decide +kernel)
set_option maxRecDepth 20000 in
theorem gL_law_X4_kinds : GoodIn wsL_law (wsV RL 152 RX4 yX4_kinds wsX4_kinds) := goodIn_app (goodIn_of _ (by decide +kernel)) ggL_law_X4_kinds
set_option maxRecDepth 20000 in
theorem ggL_law_X4_next : GoodIn wsL_law wsX4_next := goodIn_r _ [551, 31, 188, 237, 379, 527, 528, 529, 2, 530, 14, 134, 110, 351, 352, 353, 354, 115, 116, 117, 118, 93, 94, 95, 13, 96, 38, 119, 120, 121, 122, 43, 97, 98, 99, 100, 101, 27, 544, 545, 546, 547, 531, 532, 533, 534, 535, 536, 537, 538, 19, 236, 202, 203, 204, 18, 205, 53, 206, 242, 243, 244, 238, 239, 240, 241, 539, 279, 280, 281, 282, 277, 283, 552, 553, 554, 555, 556, 557, 558, 623, 624, 625, 626, 627, 628, 629, 630, 631, 632, 633, 634, 635, 654, 655, 656, 657, 658, 659, 660, 661, 662, 636, 637, 638, 639, 640, 641, 642, 643, 644, 645] (by rfl) (by decide +kernel)
set_option maxRecDepth 20000 in
theorem gL_law_X4_next : GoodIn wsL_law (wsV RL 155 RX4 yX4_next wsX4_next) := goodIn_app (goodIn_of _ (by decide +kernel)) ggL_law_X4_next
set_option maxRecDepth 20000 in
theorem ggL_law_X4_send : GoodIn wsL_law wsX4_send := goodIn_r _ [562, 31, 188, 26, 19, 420, 421, 422, 2, 423, 424, 425, 238, 239, 240, 241, 236, 237, 202, 203, 204, 18, 205, 53, 206, 242, 243, 244, 266, 267, 268, 30, 269, 70, 426, 427, 428, 429, 69, 155, 179, 180, 181, 182, 139, 279, 280, 281, 282, 277, 283, 207, 208, 209, 210, 51, 563, 564, 565, 25, 566, 64, 452, 453, 454, 455, 456, 457, 458, 567, 568, 569, 570, 434, 58, 571, 557, 558, 572, 276, 278, 440, 441, 442, 623, 624, 625, 626, 627, 628, 629, 630, 631, 632, 633, 634, 635, 654, 655, 656, 657, 658, 659, 660, 661, 662, 646, 647, 648, 649, 650, 651, 652, 653, 641, 642, 643, 644, 645] (by rfl) (by decide +kernel)
set_option maxRecDepth 20000 in
theorem gL_law_X4_send : GoodIn wsL_law (wsV RL 158 RX4 yX4_send wsX4_send) := goodIn_app (goodIn_of _ (by decide +kernel)) ggL_law_X4_send
set_option maxRecDepth 20000 in
theorem ggL_law_X4_odds : GoodIn wsL_law wsX4_odds := goodIn_r _ [576, 31, 201, 347, 348, 349, 2, 350, 351, 352, 353, 354, 188, 253, 254, 255, 256, 19, 207, 208, 209, 18, 210, 51, 206, 261, 180, 181, 30, 182, 139, 262, 263, 264, 265, 238, 239, 240, 241, 236, 237, 202, 203, 204, 205, 53, 242, 243, 244, 266, 267, 268, 269, 70, 270, 271, 272, 273, 274, 69, 275, 276, 277, 278, 179, 279, 280, 281, 282, 283, 257, 258, 259, 260, 211, 212, 213, 214, 52, 577, 578, 579, 459, 453, 454, 455, 456, 457, 458, 580, 581, 582, 583, 584, 585, 586, 587, 588, 33, 623, 624, 625, 626, 627, 628, 629, 630, 631, 632, 633, 634, 635, 654, 655, 656, 657, 658, 659, 660, 661, 662, 641, 642, 643, 644, 645] (by rfl) (by decide +kernel)
set_option maxRecDepth 20000 in
theorem gL_law_X4_odds : GoodIn wsL_law (wsV RL 161 RX4 yX4_odds wsX4_odds) := goodIn_app (goodIn_of _ (by decide +kernel)) ggL_law_X4_odds
set_option maxRecDepth 20000 in
theorem ggL_law_X4_upper : GoodIn wsL_law wsX4_upper := goodIn_r _ [592, 588, 623, 624, 625, 626, 627, 628, 629, 630, 631, 632, 633, 634, 635] (by rfl) (by decide +kernel)
set_option maxRecDepth 20000 in
theorem gL_law_X4_upper : GoodIn wsL_law (wsV RL 164 RX4 yX4_upper wsX4_upper) := goodIn_app (goodIn_of _ (by decide +kernel)) ggL_law_X4_upper
set_option maxRecDepth 20000 in
theorem ggL_law_X4_lower : GoodIn wsL_law wsX4_lower := goodIn_r _ [596, 33, 623, 624, 625, 626, 627, 628, 629, 630, 631, 632, 633, 634, 635] (by rfl) (by decide +kernel)
set_option maxRecDepth 20000 in
theorem gL_law_X4_lower : GoodIn wsL_law (wsV RL 167 RX4 yX4_lower wsX4_lower) := goodIn_app (goodIn_of _ (by decide +kernel)) ggL_law_X4_lower
set_option maxRecDepth 20000 in
theorem ggL_law_X4_mid : GoodIn wsL_law wsX4_mid := goodIn_r _ [600, 31, 347, 348, 349, 2, 350, 351, 352, 353, 354, 188, 253, 254, 255, 256, 19, 207, 208, 209, 18, 210, 51, 206, 261, 180, 181, 30, 182, 139, 257, 258, 259, 260, 211, 212, 213, 214, 52, 577, 578, 579, 459, 453, 454, 455, 456, 457, 458, 580, 581, 582, 262, 263, 264, 265, 238, 239, 240, 241, 236, 237, 202, 203, 204, 205, 53, 242, 243, 244, 266, 267, 268, 269, 70, 270, 271, 272, 273, 274, 69, 275, 276, 277, 278, 179, 279, 280, 281, 282, 283, 583, 584, 585, 586, 587, 588, 33, 623, 624, 625, 626, 627, 628, 629, 630, 631, 632, 633, 634, 635, 654, 655, 656, 657, 658, 659, 660, 661, 662, 641, 642, 643, 644, 645] (by rfl) (by decide +kernel)
set_option maxRecDepth 20000 in
theorem gL_law_X4_mid : GoodIn wsL_law (wsV RL 170 RX4 yX4_mid wsX4_mid) := goodIn_app (goodIn_of _ (by decide +kernel)) ggL_law_X4_mid
set_option maxRecDepth 20000 in
theorem ggL_law_X4_lots : GoodIn wsL_law wsX4_lots := goodIn_r _ [604, 605, 31, 188, 19, 187, 606, 607, 608, 609, 2, 610, 611, 612, 613, 614, 201, 202, 203, 204, 18, 205, 53, 206, 308, 309, 310, 311, 51, 52, 54, 253, 254, 255, 256, 207, 208, 209, 210, 257, 258, 259, 260, 211, 212, 213, 214, 261, 180, 181, 30, 182, 139, 262, 263, 264, 265, 238, 239, 240, 241, 236, 237, 242, 243, 244, 266, 267, 268, 269, 70, 270, 271, 272, 273, 274, 69, 275, 276, 277, 278, 179, 279, 280, 281, 282, 283, 459, 453, 454, 455, 456, 457, 458, 623, 624, 625, 626, 627, 628, 629, 630, 631, 632, 633, 634, 635, 654, 655, 656, 657, 658, 659, 660, 661, 662, 641, 642, 643, 644, 645] (by rfl) (by decide +kernel)
set_option maxRecDepth 20000 in
theorem gL_law_X4_lots : GoodIn wsL_law (wsV RL 174 RX4 yX4_lots wsX4_lots) := goodIn_app (goodIn_of _ (by decide +kernel)) ggL_law_X4_lots
set_option maxRecDepth 20000 in
theorem ggL_law_X4_on : GoodIn wsL_law wsX4_on := goodIn_r _ [618, 22, 19, 20, 187, 97, 98, 99, 2, 100, 101, 27, 293, 294, 295, 18, 296, 206, 51, 297, 298, 299, 300, 52, 53, 54, 623, 624, 625, 626, 627, 628, 629, 630, 631, 632, 633, 634, 635, 641, 642, 643, 644, 645] (by rfl) (by decide +kernel)
set_option maxRecDepth 20000 in
theorem gL_law_X4_on : GoodIn wsL_law (wsV RL 177 RX4 yX4_on wsX4_on) := goodIn_app (goodIn_of _ (by decide +kernel)) ggL_law_X4_on
set_option maxRecDepth 20000 in
theorem ggL_law_X4_tear : GoodIn wsL_law wsX4_tear := goodIn_r _ [622, 14, 134, 115, 116, 117, 2, 118, 93, 94, 95, 13, 96, 38, 119, 120, 121, 122, 43, 97, 98, 99, 100, 101, 27, 623, 624, 625, 626, 627, 628, 629, 630, 631, 632, 633, 634, 635, 636, 637, 638, 639, 640] (by rfl) (by decide +kernel)
set_option maxRecDepth 20000 in
theorem gL_law_X4_tear : GoodIn wsL_law (wsV RL 180 RX4 yX4_tear wsX4_tear) := goodIn_app (goodIn_of _ (by decide +kernel)) ggL_law_X4_tear
set_option maxRecDepth 20000 in
theorem ggL_law_X4_tower : GoodIn wsL_law wsX4_tower := goodIn_r _ [186, 15, 32, 110, 134, 31, 19, 187, 22, 188, 115, 116, 117, 2, 118, 93, 94, 95, 13, 96, 38, 119, 120, 121, 122, 43, 97, 98, 99, 100, 101, 27, 135, 136, 137, 30, 138, 139, 140, 141, 142, 143, 144, 145, 146, 147, 148, 149, 150, 151, 152, 153, 154, 155, 156, 157, 158, 159, 70, 160, 161, 162, 163, 164, 165, 166, 68, 167, 168, 169, 170, 171, 172, 173, 174, 71, 175, 176, 177, 178, 69, 179, 180, 181, 182, 623, 624, 625, 626, 627, 628, 629, 630, 631, 632, 633, 634, 635, 636, 637, 638, 639, 640, 641, 642, 643, 644, 645, 654, 655, 656, 657, 658, 659, 660, 661, 662] (by rfl) (by decide +kernel)
set_option maxRecDepth 20000 in
theorem gL_law_X4_tower : GoodIn wsL_law (wsV RL 35 RX4 yX4_tower wsX4_tower) := goodIn_app (goodIn_of _ (by decide +kernel)) ggL_law_X4_tower
