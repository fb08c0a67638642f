set_option maxRecDepth 100000 in
theorem ggL_law_X4_init : GoodIn wsL_law wsX4_init := goodIn_r _ [10, 11, 12, 13, 14, 15, 16, 17, 18, 19, 20, 21, 22, 23, 24, 25, 26, 27, 28, 29, 30, 31, 32, 33, 34, 35, 36, 37, 38, 39, 40, 41, 42, 43, 44, 45, 46, 47, 48, 49, 50, 51, 52, 53, 54, 55, 56, 57, 58, 59, 60, 61, 62, 63, 64, 489, 490, 491, 492, 493, 494, 495, 496, 524, 525, 526, 527, 528, 529, 530, 531, 532, 533, 534, 535, 536, 537, 538, 539] rfl (by decide +kernel)
set_option maxRecDepth 100000 in
theorem gL_law_X4_init : GoodIn wsL_law (wsX4_init) := ggL_law_X4_init
set_option maxRecDepth 100000 in
theorem ggL_law_X5_init : GoodIn wsL_law wsX5_init := goodIn_r _ [67, 68, 12, 13, 15, 69, 70, 71, 72, 73, 74, 75, 76, 77, 78, 79, 80, 81, 82, 83, 84, 85, 497, 498, 499, 500, 501, 502, 503, 504, 505, 506, 507, 508, 509, 510, 511, 512, 513, 514, 515, 516, 517, 518, 519, 520, 521, 522, 523] rfl (by decide +kernel)
set_option maxRecDepth 100000 in
theorem gL_law_X5_init : GoodIn wsL_law (wsX5_init) := ggL_law_X5_init
set_option maxRecDepth 100000 in
theorem ggL_law_L_vertex : GoodIn wsL_law wsL_vertex := goodIn_ca (goodIn_ca (goodIn_r _ [89, 90, 91, 92, 93, 94, 2, 95, 96, 97, 98, 99, 18, 16, 17, 100, 101, 102, 103, 104, 105, 489, 490, 491, 492, 493, 494, 495, 496] rfl (by decide +kernel)) (goodIn_sub (fun _ h => List.mem_append_left _ (List.mem_append_left _ (List.mem_append_left _ (List.mem_append_right _ h)))) (by decide +kernel))) (goodIn_sub (fun _ h => List.mem_append_left _ (List.mem_append_left _ (List.mem_append_right _ h))) (by decide +kernel))
set_option maxRecDepth 100000 in
theorem gL_law_L_vertex : GoodIn wsL_law (va_wsS RL 60 yL_vertex wsL_vertex) := goodIn_app (goodIn_of _ (by decide +kernel)) ggL_law_L_vertex
set_option maxRecDepth 100000 in
theorem ggL_law_X5_vertex : GoodIn wsL_law wsX5_vertex := goodIn_r _ [109, 69, 110, 70, 71, 111, 112, 5, 113, 497, 498, 499, 500, 501, 502, 503, 504, 505, 506, 507, 508, 509, 510, 511, 512, 513, 514, 515, 516, 517, 518, 519, 520, 521, 522, 523] rfl (by decide +kernel)
set_option maxRecDepth 100000 in
theorem gL_law_X5_vertex : GoodIn wsL_law (wsV RL 65 RX5 yX5_vertex wsX5_vertex) := goodIn_app (goodIn_of _ (by decide +kernel)) ggL_law_X5_vertex
set_option maxRecDepth 100000 in
theorem ggL_law_X5_thrown : GoodIn wsL_law wsX5_thrown := goodIn_r _ [117, 110, 497, 498, 499, 500, 501, 502, 503, 504, 505, 506, 507, 508, 509, 510, 511, 512, 513, 514, 515, 516, 517, 518, 519, 520, 521, 522, 523] rfl (by decide +kernel)
set_option maxRecDepth 100000 in
theorem gL_law_X5_thrown : GoodIn wsL_law (wsV RL 66 RX5 yX5_thrown wsX5_thrown) := goodIn_app (goodIn_of _ (by decide +kernel)) ggL_law_X5_thrown
set_option maxRecDepth 100000 in
theorem ggL_law_L_clear : GoodIn wsL_law wsL_clear := goodIn_ca (goodIn_r _ [120, 90, 121, 122, 123, 2, 124, 18, 100, 101, 102, 96, 97, 489, 490, 491, 492, 493, 494, 495, 496] rfl (by decide +kernel)) (goodIn_sub (fun _ h => List.mem_append_left _ (List.mem_append_left _ (List.mem_append_left _ (List.mem_append_right _ h)))) (by decide +kernel))
set_option maxRecDepth 100000 in
theorem gL_law_L_clear : GoodIn wsL_law (va_wsS RL 70 yL_clear wsL_clear) := goodIn_app (goodIn_of _ (by decide +kernel)) ggL_law_L_clear
set_option maxRecDepth 100000 in
theorem ggL_law_X5_clear : GoodIn wsL_law wsX5_clear := goodIn_r _ [128, 110, 69, 111, 112, 5, 113, 497, 498, 499, 500, 501, 502, 503, 504, 505, 506, 507, 508, 509, 510, 511, 512, 513, 514, 515, 516, 517, 518, 519, 520, 521, 522, 523] rfl (by decide +kernel)
set_option maxRecDepth 100000 in
theorem gL_law_X5_clear : GoodIn wsL_law (wsV RL 73 RX5 yX5_clear wsX5_clear) := goodIn_app (goodIn_of _ (by decide +kernel)) ggL_law_X5_clear
set_option maxRecDepth 100000 in
theorem ggL_law_X4_overlay : GoodIn wsL_law wsX4_overlay := goodIn_r _ [132, 22, 26, 30, 34, 35, 133, 134, 135, 21, 136, 44, 43, 137, 138, 139, 2, 140, 18, 16, 17, 141, 142, 143, 144, 39, 40, 41, 42, 145, 146, 147, 25, 148, 52, 51, 48, 49, 50, 149, 150, 151, 152, 153, 154, 155, 156, 157, 158, 159, 160, 161, 162, 163, 164, 165, 166, 167, 168, 169, 170, 171, 172, 173, 174, 175, 176, 177, 178, 179, 180, 181, 182, 183, 184, 185, 186, 187, 188, 189, 190, 191, 192, 193, 194, 195, 196, 197, 198, 199, 200, 201, 202, 203, 204, 205, 29, 206, 58, 207, 208, 209, 210, 211, 57, 212, 213, 214, 215, 216, 217, 218, 219, 220, 221, 222, 223, 224, 225, 33, 226, 62, 63, 64, 227, 228, 229, 230, 231, 232, 233, 234, 235, 236, 237, 238, 239, 240, 241, 242, 489, 490, 491, 492, 493, 494, 495, 496, 524, 525, 526, 527, 528, 529, 535, 536, 530, 531, 532, 533, 534, 537, 538, 539] rfl (by decide +kernel)
set_option maxRecDepth 100000 in
theorem gL_law_X4_overlay : GoodIn wsL_law (wsV RL 74 RX4 yX4_overlay wsX4_overlay) := goodIn_app (goodIn_of _ (by decide +kernel)) ggL_law_X4_overlay
set_option maxRecDepth 100000 in
theorem ggL_law_X5_overlay : GoodIn wsL_law wsX5_overlay := goodIn_r _ [246, 110, 247, 248, 249, 250, 69, 72, 251, 73, 252, 253, 74, 75, 254, 255, 256, 5, 257, 70, 71, 76, 258, 259, 260, 261, 77, 78, 79, 262, 263, 264, 265, 266, 267, 268, 269, 270, 271, 272, 273, 274, 275, 276, 277, 278, 279, 280, 281, 282, 283, 284, 285, 286, 287, 288, 289, 290, 291, 292, 293, 294, 295, 296, 297, 298, 80, 81, 82, 299, 300, 301, 302, 303, 84, 85, 304, 305, 306, 307, 308, 309, 310, 311, 497, 498, 499, 500, 501, 502, 503, 504, 505, 506, 507, 508, 509, 510, 511, 512, 513, 514, 515, 516, 517, 518, 519, 520, 521, 522, 523] rfl (by decide +kernel)
set_option maxRecDepth 100000 in
theorem gL_law_X5_overlay : GoodIn wsL_law (wsV RL 77 RX5 yX5_overlay wsX5_overlay) := goodIn_app (goodIn_of _ (by decide +kernel)) ggL_law_X5_overlay
set_option maxRecDepth 100000 in
theorem ggL_law_L_size : GoodIn wsL_law wsL_size := goodIn_ca (goodIn_ca (goodIn_r _ [314, 91, 90, 315, 316, 317, 2, 318, 96, 97, 22, 26, 30, 34, 319, 320, 321, 322, 98, 99, 35, 489, 490, 491, 492, 493, 494, 495, 496, 524, 525, 526, 527, 528, 529, 530, 531, 532, 533, 534, 535, 536, 537, 538, 539] rfl (by decide +kernel)) (goodIn_sub (fun _ h => List.mem_append_left _ (List.mem_append_left _ (List.mem_append_left _ (List.mem_append_right _ h)))) (by decide +kernel))) (goodIn_sub (fun _ h => List.mem_append_left _ (List.mem_append_left _ (List.mem_append_right _ h))) (by decide +kernel))
set_option maxRecDepth 100000 in
theorem gL_law_L_size : GoodIn wsL_law (va_wsS RL 78 yL_size wsL_size) := goodIn_app (goodIn_of _ (by decide +kernel)) ggL_law_L_size
set_option maxRecDepth 100000 in
theorem ggL_law_X5_size : GoodIn wsL_law wsX5_size := goodIn_r _ [326, 247, 110, 248, 249, 250, 327, 328, 329, 5, 330, 80, 81, 331, 332, 333, 334, 335, 336, 337, 272, 273, 274, 275, 74, 72, 75, 73, 251, 252, 253, 276, 277, 278, 279, 280, 281, 282, 283, 284, 285, 286, 269, 270, 271, 287, 288, 289, 290, 497, 498, 499, 500, 501, 502, 503, 504, 505, 506, 507, 508, 509, 510, 511, 512, 513, 514, 515, 516, 517, 518, 519, 520, 521, 522, 523] rfl (by decide +kernel)
set_option maxRecDepth 100000 in
theorem gL_law_X5_size : GoodIn wsL_law (wsV RL 80 RX5 yX5_size wsX5_size) := goodIn_app (goodIn_of _ (by decide +kernel)) ggL_law_X5_size
set_option maxRecDepth 100000 in
theorem ggL_law_L_point : GoodIn wsL_law wsL_point := goodIn_ca (goodIn_ca (goodIn_ca (goodIn_r _ [340, 91, 341, 90, 342, 343, 344, 2, 345, 346, 347, 96, 97, 26, 319, 320, 321, 322, 98, 99, 35, 489, 490, 491, 492, 493, 494, 495, 496, 530, 531, 532, 533, 534] rfl (by decide +kernel)) (goodIn_sub (fun _ h => List.mem_append_left _ (List.mem_append_right _ h)) (by decide +kernel))) (goodIn_sub (fun _ h => List.mem_append_left _ (List.mem_append_left _ (List.mem_append_left _ (List.mem_append_right _ h)))) (by decide +kernel))) (goodIn_sub (fun _ h => List.mem_append_left _ (List.mem_append_left _ (List.mem_append_right _ h))) (by decide +kernel))
set_option maxRecDepth 100000 in
theorem gL_law_L_point : GoodIn wsL_law (va_wsS RL 81 yL_point wsL_point) := goodIn_app (goodIn_of _ (by decide +kernel)) ggL_law_L_point
set_option maxRecDepth 100000 in
theorem ggL_law_X5_point : GoodIn wsL_law wsX5_point := goodIn_r _ [351, 247, 249, 110, 77, 78, 79, 497, 498, 499, 500, 501, 502, 503, 504, 505, 506, 507, 508, 509, 510, 511, 512, 513, 514, 515, 516, 517, 518, 519, 520, 521, 522, 523] rfl (by decide +kernel)
set_option maxRecDepth 100000 in
theorem gL_law_X5_point : GoodIn wsL_law (wsV RL 84 RX5 yX5_point wsX5_point) := goodIn_app (goodIn_of _ (by decide +kernel)) ggL_law_X5_point
set_option maxRecDepth 100000 in
theorem ggL_law_L_piece : GoodIn wsL_law wsL_piece := goodIn_ca (goodIn_ca (goodIn_ca (goodIn_r _ [354, 91, 341, 90, 355, 356, 357, 2, 358, 346, 347, 96, 97, 30, 319, 320, 321, 322, 98, 99, 35, 489, 490, 491, 492, 493, 494, 495, 496, 535, 536] rfl (by decide +kernel)) (goodIn_sub (fun _ h => List.mem_append_left _ (List.mem_append_right _ h)) (by decide +kernel))) (goodIn_sub (fun _ h => List.mem_append_left _ (List.mem_append_left _ (List.mem_append_left _ (List.mem_append_right _ h)))) (by decide +kernel))) (goodIn_sub (fun _ h => List.mem_append_left _ (List.mem_append_left _ (List.mem_append_right _ h))) (by decide +kernel))
set_option maxRecDepth 100000 in
theorem gL_law_L_piece : GoodIn wsL_law (va_wsS RL 85 yL_piece wsL_piece) := goodIn_app (goodIn_of _ (by decide +kernel)) ggL_law_L_piece
set_option maxRecDepth 100000 in
theorem ggL_law_X5_piece : GoodIn wsL_law wsX5_piece := goodIn_r _ [362, 247, 250, 110, 80, 81, 82, 84, 85, 497, 498, 499, 500, 501, 502, 503, 504, 505, 506, 507, 508, 509, 510, 511, 512, 513, 514, 515, 516, 517, 518, 519, 520, 521, 522, 523] rfl (by decide +kernel)
set_option maxRecDepth 100000 in
theorem gL_law_X5_piece : GoodIn wsL_law (wsV RL 87 RX5 yX5_piece wsX5_piece) := goodIn_app (goodIn_of _ (by decide +kernel)) ggL_law_X5_piece
set_option maxRecDepth 100000 in
theorem ggL_law_L_common : GoodIn wsL_law wsL_common := goodIn_ca (goodIn_ca (goodIn_r _ [365, 91, 341, 366, 367, 368, 2, 369, 26, 319, 320, 321, 322, 98, 99, 35, 370, 371, 372, 373, 346, 347, 22, 374, 375, 376, 25, 377, 52, 51, 378, 379, 380, 381, 489, 490, 491, 492, 493, 494, 495, 496, 524, 525, 526, 527, 528, 529, 530, 531, 532, 533, 534] rfl (by decide +kernel)) (goodIn_sub (fun _ h => List.mem_append_left _ (List.mem_append_left _ (List.mem_append_right _ h))) (by decide +kernel))) (goodIn_sub (fun _ h => List.mem_append_left _ (List.mem_append_right _ h)) (by decide +kernel))
set_option maxRecDepth 100000 in
theorem gL_law_L_common : GoodIn wsL_law (va_wsS RL 88 yL_common wsL_common) := goodIn_app (goodIn_of _ (by decide +kernel)) ggL_law_L_common
set_option maxRecDepth 100000 in
theorem ggL_law_X5_common : GoodIn wsL_law wsX5_common := goodIn_r _ [385, 247, 110, 386, 387, 388, 5, 389, 248, 272, 273, 274, 275, 74, 72, 75, 73, 251, 252, 253, 276, 277, 278, 279, 280, 281, 282, 283, 284, 285, 286, 269, 270, 271, 287, 288, 289, 290, 497, 498, 499, 500, 501, 502, 503, 504, 505, 506, 507, 508, 509, 510, 511, 512, 513, 514, 515, 516, 517, 518, 519, 520, 521, 522, 523] rfl (by decide +kernel)
set_option maxRecDepth 100000 in
theorem gL_law_X5_common : GoodIn wsL_law (wsV RL 90 RX5 yX5_common wsX5_common) := goodIn_app (goodIn_of _ (by decide +kernel)) ggL_law_X5_common
set_option maxRecDepth 100000 in
theorem ggL_law_L_shared : GoodIn wsL_law wsL_shared := goodIn_ca (goodIn_ca (goodIn_ca (goodIn_r _ [392, 91, 341, 393, 394, 395, 396, 2, 397, 398, 399, 26, 319, 320, 321, 322, 98, 99, 35, 370, 371, 372, 373, 346, 347, 22, 378, 379, 380, 25, 381, 52, 51, 374, 375, 376, 377, 489, 490, 491, 492, 493, 494, 495, 496, 524, 525, 526, 527, 528, 529, 530, 531, 532, 533, 534] rfl (by decide +kernel)) (goodIn_sub (fun _ h => List.mem_append_right _ h) (by decide +kernel))) (goodIn_sub (fun _ h => List.mem_append_left _ (List.mem_append_left _ (List.mem_append_right _ h))) (by decide +kernel))) (goodIn_sub (fun _ h => List.mem_append_left _ (List.mem_append_right _ h)) (by decide +kernel))
set_option maxRecDepth 100000 in
theorem gL_law_L_shared : GoodIn wsL_law (va_wsS RL 91 yL_shared wsL_shared) := goodIn_app (goodIn_of _ (by decide +kernel)) ggL_law_L_shared
set_option maxRecDepth 100000 in
theorem ggL_law_X5_shared : GoodIn wsL_law wsX5_shared := goodIn_r _ [403, 247, 110, 276, 251, 277, 252, 278, 253, 386, 387, 388, 5, 389, 248, 272, 273, 274, 275, 74, 72, 75, 73, 279, 280, 281, 282, 283, 284, 285, 286, 269, 270, 271, 287, 288, 289, 290, 265, 266, 267, 268, 249, 77, 78, 79, 497, 498, 499, 500, 501, 502, 503, 504, 505, 506, 507, 508, 509, 510, 511, 512, 513, 514, 515, 516, 517, 518, 519, 520, 521, 522, 523] rfl (by decide +kernel)
set_option maxRecDepth 100000 in
theorem gL_law_X5_shared : GoodIn wsL_law (wsV RL 94 RX5 yX5_shared wsX5_shared) := goodIn_app (goodIn_of _ (by decide +kernel)) ggL_law_X5_shared
set_option maxRecDepth 100000 in
theorem ggL_law_L_bounds : GoodIn wsL_law wsL_bounds := goodIn_ca (goodIn_ca (goodIn_r _ [406, 91, 90, 407, 408, 409, 2, 410, 30, 319, 320, 321, 322, 98, 99, 35, 411, 412, 413, 96, 97, 414, 415, 416, 29, 417, 418, 419, 420, 421, 57, 422, 423, 424, 425, 426, 427, 428, 489, 490, 491, 492, 493, 494, 495, 496, 535, 536] rfl (by decide +kernel)) (goodIn_sub (fun _ h => List.mem_append_left _ (List.mem_append_left _ (List.mem_append_right _ h))) (by decide +kernel))) (goodIn_sub (fun _ h => List.mem_append_left _ (List.mem_append_left _ (List.mem_append_left _ (List.mem_append_right _ h)))) (by decide +kernel))
set_option maxRecDepth 100000 in
theorem gL_law_L_bounds : GoodIn wsL_law (va_wsS RL 95 yL_bounds wsL_bounds) := goodIn_app (goodIn_of _ (by decide +kernel)) ggL_law_L_bounds
set_option maxRecDepth 100000 in
theorem ggL_law_X5_bounds : GoodIn wsL_law wsX5_bounds := goodIn_r _ [432, 250, 433, 434, 435, 5, 436, 247, 110, 437, 438, 439, 440, 84, 85, 441, 442, 443, 497, 498, 499, 500, 501, 502, 503, 504, 505, 506, 507, 508, 509, 510, 511, 512, 513, 514, 515, 516, 517, 518, 519, 520, 521, 522, 523] rfl (by decide +kernel)
set_option maxRecDepth 100000 in
theorem gL_law_X5_bounds : GoodIn wsL_law (wsV RL 97 RX5 yX5_bounds wsX5_bounds) := goodIn_app (goodIn_of _ (by decide +kernel)) ggL_law_X5_bounds
set_option maxRecDepth 100000 in
theorem ggL_law_L_bound : GoodIn wsL_law wsL_bound := goodIn_ca (goodIn_ca (goodIn_ca (goodIn_r _ [446, 91, 90, 393, 447, 448, 449, 2, 450, 398, 399, 30, 319, 320, 321, 322, 98, 99, 35, 411, 412, 413, 96, 97, 414, 415, 416, 29, 417, 418, 419, 420, 421, 57, 422, 423, 424, 425, 426, 427, 428, 489, 490, 491, 492, 493, 494, 495, 496, 535, 536] rfl (by decide +kernel)) (goodIn_sub (fun _ h => List.mem_append_right _ h) (by decide +kernel))) (goodIn_sub (fun _ h => List.mem_append_left _ (List.mem_append_left _ (List.mem_append_right _ h))) (by decide +kernel))) (goodIn_sub (fun _ h => List.mem_append_left _ (List.mem_append_left _ (List.mem_append_left _ (List.mem_append_right _ h)))) (by decide +kernel))
set_option maxRecDepth 100000 in
theorem gL_law_L_bound : GoodIn wsL_law (va_wsS RL 98 yL_bound wsL_bound) := goodIn_app (goodIn_of _ (by decide +kernel)) ggL_law_L_bound
set_option maxRecDepth 100000 in
theorem ggL_law_X5_bound : GoodIn wsL_law wsX5_bound := goodIn_r _ [454, 250, 110, 433, 434, 435, 5, 436, 247, 437, 438, 439, 440, 84, 85, 441, 442, 443, 497, 498, 499, 500, 501, 502, 503, 504, 505, 506, 507, 508, 509, 510, 511, 512, 513, 514, 515, 516, 517, 518, 519, 520, 521, 522, 523] rfl (by decide +kernel)
set_option maxRecDepth 100000 in
theorem gL_law_X5_bound : GoodIn wsL_law (wsV RL 100 RX5 yX5_bound wsX5_bound) := goodIn_app (goodIn_of _ (by decide +kernel)) ggL_law_X5_bound
set_option maxRecDepth 100000 in
theorem ggL_law_L_where : GoodIn wsL_law wsL_where := goodIn_ca (goodIn_ca (goodIn_r _ [457, 91, 90, 458, 459, 460, 2, 461, 96, 97, 462, 22, 319, 320, 321, 322, 98, 99, 35, 100, 101, 102, 103, 104, 105, 463, 184, 185, 21, 186, 44, 187, 188, 189, 190, 40, 42, 191, 192, 167, 193, 194, 195, 196, 39, 41, 197, 198, 199, 200, 201, 170, 171, 172, 202, 174, 175, 176, 464, 213, 214, 215, 465, 217, 218, 219, 220, 221, 222, 489, 490, 491, 492, 493, 494, 495, 496, 524, 525, 526, 527, 528, 529] rfl (by decide +kernel)) (goodIn_sub (fun _ h => List.mem_append_left _ (List.mem_append_left _ (List.mem_append_left _ (List.mem_append_right _ h)))) (by decide +kernel))) (goodIn_sub (fun _ h => List.mem_append_left _ (List.mem_append_left _ (List.mem_append_right _ h))) (by decide +kernel))
set_option maxRecDepth 100000 in
theorem gL_law_L_where : GoodIn wsL_law (va_wsS RL 101 yL_where wsL_where) := goodIn_app (goodIn_of _ (by decide +kernel)) ggL_law_L_where
set_option maxRecDepth 100000 in
theorem ggL_law_X5_where : GoodIn wsL_law wsX5_where := goodIn_r _ [469, 470, 471, 247, 110, 248, 76, 111, 112, 5, 113, 287, 288, 289, 290, 72, 73, 74, 75, 283, 284, 285, 286, 269, 270, 271, 308, 309, 310, 311, 497, 498, 499, 500, 501, 502, 503, 504, 505, 506, 507, 508, 509, 510, 511, 512, 513, 514, 515, 516, 517, 518, 519, 520, 521, 522, 523] rfl (by decide +kernel)
set_option maxRecDepth 100000 in
theorem gL_law_X5_where : GoodIn wsL_law (wsV RL 104 RX5 yX5_where wsX5_where) := goodIn_app (goodIn_of _ (by decide +kernel)) ggL_law_X5_where
set_option maxRecDepth 100000 in
theorem ggL_law_L_area : GoodIn wsL_law wsL_area := goodIn_ca (goodIn_ca (goodIn_r _ [474, 91, 90, 475, 476, 477, 2, 478, 30, 479, 26, 319, 320, 321, 322, 98, 99, 35, 411, 412, 413, 96, 97, 414, 415, 416, 29, 417, 418, 419, 420, 421, 57, 422, 423, 424, 425, 426, 427, 428, 480, 481, 482, 483, 25, 484, 48, 49, 50, 489, 490, 491, 492, 493, 494, 495, 496, 535, 536, 530, 531, 532, 533, 534] rfl (by decide +kernel)) (goodIn_sub (fun _ h => List.mem_append_left _ (List.mem_append_left _ (List.mem_append_right _ h))) (by decide +kernel))) (goodIn_sub (fun _ h => List.mem_append_left _ (List.mem_append_left _ (List.mem_append_left _ (List.mem_append_right _ h)))) (by decide +kernel))
set_option maxRecDepth 100000 in
theorem gL_law_L_area : GoodIn wsL_law (va_wsS RL 105 yL_area wsL_area) := goodIn_app (goodIn_of _ (by decide +kernel)) ggL_law_L_area
set_option maxRecDepth 100000 in
theorem ggL_law_X5_area : GoodIn wsL_law wsX5_area := goodIn_r _ [488, 250, 80, 81, 77, 78, 79, 433, 434, 435, 5, 436, 247, 110, 437, 438, 439, 440, 84, 85, 441, 442, 443, 497, 498, 499, 500, 501, 502, 503, 504, 505, 506, 507, 508, 509, 510, 511, 512, 513, 514, 515, 516, 517, 518, 519, 520, 521, 522, 523] rfl (by decide +kernel)
set_option maxRecDepth 100000 in
theorem gL_law_X5_area : GoodIn wsL_law (wsV RL 108 RX5 yX5_area wsX5_area) := goodIn_app (goodIn_of _ (by decide +kernel)) ggL_law_X5_area
