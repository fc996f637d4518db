set_option maxRecDepth 20000 in
theorem ggL_call_X8_crew : GoodIn wsL_call wsX8_crew := goodIn_ca (goodIn_ca (goodIn_r _ [5, 6, 7, 8, 9, 10, 11, 12, 13, 14, 15, 16, 17, 18, 4, 19, 20, 21, 22, 23, 24, 25, 26, 27, 28, 29, 30, 31, 452, 453, 454, 455, 456, 457, 458, 459, 460, 461] (by decide +kernel) (by decide +kernel)) (goodIn_sub (fun _ h => List.mem_cons_of_mem _ (List.mem_append_left _ (List.mem_append_left _ (List.mem_append_right _ h)))) (by decide +kernel))) (goodIn_sub (fun _ h => List.mem_cons_of_mem _ (List.mem_append_left _ (List.mem_append_right _ h))) (by decide +kernel))
set_option maxRecDepth 20000 in
theorem gL_call_X8_crew : GoodIn wsL_call (wsV RL 7 RX8 yX8_crew wsX8_crew) := goodIn_app (goodIn_of _ (by decide +kernel)) ggL_call_X8_crew
set_option maxRecDepth 20000 in
theorem ggL_call_X8_enter : GoodIn wsL_call wsX8_enter := goodIn_ca (goodIn_ca (goodIn_r _ [35, 8, 9, 36, 37, 38, 39, 4, 40, 41, 42, 11, 43, 44, 45, 46, 47, 48, 49, 50, 51, 52, 53, 54, 55, 56, 57, 58, 59, 60, 61, 62, 63, 64, 65, 66, 67, 68, 69, 70, 71, 72, 73, 74, 75, 76, 15, 77, 78, 79, 80, 81, 82, 83, 84, 85, 86, 87, 88, 89, 90, 91, 92, 93, 94, 95, 96, 97, 98, 99, 100, 101, 102, 103, 104, 105, 106, 107, 108, 109, 110, 111, 112, 113, 114, 115, 116, 117, 118, 27, 28, 29, 30, 31, 452, 453, 454, 455, 462, 463, 464, 465, 466, 467, 468, 469, 470, 471, 472, 473, 474, 475, 476, 477, 478, 479, 480, 481, 482, 483, 460, 461] (by decide +kernel) (by decide +kernel)) (goodIn_sub (fun _ h => List.mem_cons_of_mem _ (List.mem_append_left _ (List.mem_append_right _ h))) (by decide +kernel))) (goodIn_sub (fun _ h => List.mem_cons_of_mem _ (List.mem_append_right _ h)) (by decide +kernel))
set_option maxRecDepth 20000 in
theorem gL_call_X8_enter : GoodIn wsL_call (wsV RL 13 RX8 yX8_enter wsX8_enter) := goodIn_app (goodIn_of _ (by decide +kernel)) ggL_call_X8_enter
set_option maxRecDepth 20000 in
theorem ggL_call_X8_lapse : GoodIn wsL_call wsX8_lapse := goodIn_ca (goodIn_ca (goodIn_r _ [122, 36, 37, 38, 39, 4, 40, 41, 42, 11, 123, 124, 125, 126, 8, 9, 43, 44, 45, 46, 47, 48, 49, 50, 51, 52, 53, 54, 55, 56, 57, 58, 59, 60, 61, 62, 63, 64, 65, 66, 67, 68, 69, 70, 71, 72, 73, 74, 75, 76, 15, 77, 78, 79, 80, 81, 82, 83, 84, 85, 86, 87, 88, 89, 90, 91, 92, 93, 94, 95, 96, 97, 98, 99, 100, 101, 102, 103, 104, 105, 106, 107, 108, 109, 110, 111, 112, 113, 114, 115, 116, 117, 118, 27, 28, 29, 30, 31, 452, 453, 454, 455, 462, 463, 464, 465, 466, 467, 468, 469, 470, 471, 472, 473, 474, 475, 476, 477, 478, 479, 480, 481, 482, 483, 460, 461] (by decide +kernel) (by decide +kernel)) (goodIn_sub (fun _ h => List.mem_cons_of_mem _ (List.mem_append_right _ h)) (by decide +kernel))) (goodIn_sub (fun _ h => List.mem_cons_of_mem _ (List.mem_append_left _ (List.mem_append_right _ h))) (by decide +kernel))
set_option maxRecDepth 20000 in
theorem gL_call_X8_lapse : GoodIn wsL_call (wsV RL 17 RX8 yX8_lapse wsX8_lapse) := goodIn_app (goodIn_of _ (by decide +kernel)) ggL_call_X8_lapse
set_option maxRecDepth 20000 in
theorem ggL_call_X8_division : GoodIn wsL_call wsX8_division := goodIn_ca (goodIn_ca (goodIn_r _ [130, 36, 17, 18, 4, 19, 6, 7, 56, 57, 58, 59, 8, 9, 60, 61, 62, 46, 63, 64, 131, 132, 133, 134, 135, 452, 453, 454, 455, 462, 463, 464, 465, 466, 467, 468, 469, 470, 471, 472] (by decide +kernel) (by decide +kernel)) (goodIn_sub (fun _ h => List.mem_cons_of_mem _ (List.mem_append_left _ (List.mem_append_left _ (List.mem_append_right _ h)))) (by decide +kernel))) (goodIn_sub (fun _ h => List.mem_cons_of_mem _ (List.mem_append_left _ (List.mem_append_right _ h))) (by decide +kernel))
set_option maxRecDepth 20000 in
theorem gL_call_X8_division : GoodIn wsL_call (wsV RL 20 RX8 yX8_division wsX8_division) := goodIn_app (goodIn_of _ (by decide +kernel)) ggL_call_X8_division
set_option maxRecDepth 20000 in
theorem ggL_call_X8_begin : GoodIn wsL_call wsX8_begin := goodIn_ca (goodIn_r _ [139, 8, 9, 36, 56, 57, 58, 4, 59, 60, 61, 62, 46, 63, 64, 140, 141, 142, 143, 48, 144, 96, 97, 52, 98, 54, 145, 146, 147, 148, 149, 150, 151, 152, 153, 135, 70, 154, 155, 156, 157, 14, 15, 16, 158, 159, 160, 114, 161, 162, 163, 164, 165, 166, 116, 117, 167, 168, 169, 170, 171, 55, 91, 92, 93, 94, 118, 27, 28, 29, 30, 31, 172, 173, 174, 175, 176, 177, 178, 179, 180, 181, 182, 183, 184, 185, 186, 187, 188, 189, 190, 191, 192, 193, 194, 195, 196, 197, 198, 199, 200, 80, 81, 82, 83, 84, 85, 86, 452, 453, 454, 455, 462, 463, 464, 465, 466, 467, 468, 469, 470, 471, 472, 473, 474, 479, 480, 481, 482, 483, 460, 461, 484, 485, 486] (by decide +kernel) (by decide +kernel)) (goodIn_sub (fun _ h => List.mem_cons_of_mem _ (List.mem_append_left _ (List.mem_append_right _ h))) (by decide +kernel))
set_option maxRecDepth 20000 in
theorem gL_call_X8_begin : GoodIn wsL_call (wsV RL 23 RX8 yX8_begin wsX8_begin) := goodIn_app (goodIn_of _ (by decide +kernel)) ggL_call_X8_begin
set_option maxRecDepth 20000 in
theorem ggL_call_X8_contact : GoodIn wsL_call wsX8_contact := goodIn_ca (goodIn_ca (goodIn_r _ [204, 8, 9, 36, 37, 38, 39, 4, 40, 41, 42, 11, 205, 206, 207, 46, 208, 176, 209, 210, 211, 180, 212, 182, 213, 50, 51, 52, 53, 54, 55, 214, 215, 216, 217, 187, 218, 219, 220, 29, 221, 31, 197, 199, 169, 170, 171, 91, 92, 93, 94, 222, 223, 224, 225, 226, 227, 228, 229, 230, 231, 232, 188, 233, 27, 28, 30, 234, 235, 236, 237, 238, 239, 240, 241, 242, 243, 452, 453, 454, 455, 462, 463, 464, 465, 466, 467, 468, 469, 470, 471, 472, 484, 485, 486, 473, 474, 460, 461] (by decide +kernel) (by decide +kernel)) (goodIn_sub (fun _ h => List.mem_cons_of_mem _ (List.mem_append_left _ (List.mem_append_right _ h))) (by decide +kernel))) (goodIn_sub (fun _ h => List.mem_cons_of_mem _ (List.mem_append_right _ h)) (by decide +kernel))
set_option maxRecDepth 20000 in
theorem gL_call_X8_contact : GoodIn wsL_call (wsV RL 27 RX8 yX8_contact wsX8_contact) := goodIn_app (goodIn_of _ (by decide +kernel)) ggL_call_X8_contact
set_option maxRecDepth 20000 in
theorem ggL_call_X8_end : GoodIn wsL_call wsX8_end := goodIn_ca (goodIn_r _ [247, 8, 9, 36, 60, 61, 62, 46, 63, 64, 248, 249, 250, 251, 176, 252, 253, 254, 180, 255, 182, 198, 96, 97, 52, 98, 54, 256, 257, 258, 259, 188, 218, 219, 220, 29, 221, 31, 197, 260, 261, 262, 263, 199, 169, 170, 171, 55, 91, 92, 93, 94, 264, 66, 67, 68, 48, 69, 70, 71, 72, 73, 74, 75, 76, 15, 77, 78, 50, 51, 53, 79, 80, 81, 82, 83, 84, 85, 86, 87, 88, 89, 90, 95, 99, 100, 101, 102, 103, 104, 105, 106, 107, 108, 109, 110, 111, 112, 113, 114, 115, 116, 117, 118, 27, 28, 30, 172, 173, 174, 175, 135, 177, 178, 179, 181, 183, 184, 185, 186, 187, 189, 190, 191, 192, 193, 194, 195, 196, 200, 265, 266, 267, 268, 149, 269, 270, 271, 272, 273, 274, 162, 167, 168, 275, 276, 277, 278, 279, 280, 281, 282, 235, 236, 237, 238, 239, 144, 283, 284, 452, 453, 454, 455, 462, 463, 464, 465, 466, 467, 468, 469, 470, 471, 472, 484, 485, 486, 473, 474, 460, 461, 475, 476, 477, 478, 479, 480, 481, 482, 483] (by decide +kernel) (by decide +kernel)) (goodIn_sub (fun _ h => List.mem_cons_of_mem _ (List.mem_append_left _ (List.mem_append_right _ h))) (by decide +kernel))
set_option maxRecDepth 20000 in
theorem gL_call_X8_end : GoodIn wsL_call (wsV RL 30 RX8 yX8_end wsX8_end) := goodIn_app (goodIn_of _ (by decide +kernel)) ggL_call_X8_end
set_option maxRecDepth 20000 in
theorem ggL_call_X8_penal : GoodIn wsL_call wsX8_penal := goodIn_ca (goodIn_ca (goodIn_ca (goodIn_r _ [288, 36, 37, 38, 39, 4, 40, 41, 42, 11, 17, 18, 19, 6, 7, 123, 124, 125, 126, 8, 9, 43, 44, 45, 46, 47, 48, 49, 50, 51, 52, 53, 54, 55, 56, 57, 58, 59, 60, 61, 62, 63, 64, 65, 66, 67, 68, 69, 70, 71, 72, 73, 74, 75, 76, 15, 77, 78, 79, 80, 81, 82, 83, 84, 85, 86, 87, 88, 89, 90, 91, 92, 93, 94, 95, 96, 97, 98, 99, 100, 101, 102, 103, 104, 105, 106, 107, 108, 109, 110, 111, 112, 113, 114, 115, 116, 117, 118, 27, 28, 29, 30, 31, 452, 453, 454, 455, 462, 463, 464, 465, 466, 467, 468, 469, 470, 471, 472, 473, 474, 475, 476, 477, 478, 479, 480, 481, 482, 483, 460, 461] (by decide +kernel) (by decide +kernel)) (goodIn_sub (fun _ h => List.mem_cons_of_mem _ (List.mem_append_right _ h)) (by decide +kernel))) (goodIn_sub (fun _ h => List.mem_cons_of_mem _ (List.mem_append_left _ (List.mem_append_left _ (List.mem_append_right _ h)))) (by decide +kernel))) (goodIn_sub (fun _ h => List.mem_cons_of_mem _ (List.mem_append_left _ (List.mem_append_right _ h))) (by decide +kernel))
set_option maxRecDepth 20000 in
theorem gL_call_X8_penal : GoodIn wsL_call (wsV RL 33 RX8 yX8_penal wsX8_penal) := goodIn_app (goodIn_of _ (by decide +kernel)) ggL_call_X8_penal
set_option maxRecDepth 20000 in
theorem ggL_call_X8_seed : GoodIn wsL_call wsX8_seed := goodIn_ca (goodIn_ca (goodIn_r _ [292, 8, 9, 293, 37, 38, 39, 4, 40, 41, 42, 11, 294, 295, 296, 297, 298, 299, 300, 50, 51, 52, 53, 54, 55, 301, 302, 303, 304, 305, 306, 307, 308, 309, 310, 311, 312, 313, 314, 80, 81, 82, 83, 84, 85, 86, 315, 96, 97, 98, 452, 453, 454, 455, 487, 488, 489, 490, 491, 492, 493, 494, 473, 474] (by decide +kernel) (by decide +kernel)) (goodIn_sub (fun _ h => List.mem_cons_of_mem _ (List.mem_append_left _ (List.mem_append_right _ h))) (by decide +kernel))) (goodIn_sub (fun _ h => List.mem_cons_of_mem _ (List.mem_append_right _ h)) (by decide +kernel))
set_option maxRecDepth 20000 in
theorem gL_call_X8_seed : GoodIn wsL_call (wsV RL 36 RX8 yX8_seed wsX8_seed) := goodIn_app (goodIn_of _ (by decide +kernel)) ggL_call_X8_seed
set_option maxRecDepth 20000 in
theorem ggL_call_X8_draw : GoodIn wsL_call wsX8_draw := goodIn_ca (goodIn_r _ [319, 8, 9, 293, 301, 302, 303, 4, 304, 305, 306, 307, 297, 308, 309, 320, 321, 322, 323, 299, 315, 96, 97, 52, 98, 54, 324, 325, 326, 327, 328, 329, 169, 170, 171, 55, 91, 92, 93, 94, 330, 331, 332, 333, 334, 335, 336, 27, 28, 29, 30, 31, 452, 453, 454, 455, 487, 488, 489, 490, 491, 492, 493, 494, 473, 474, 460, 461] (by decide +kernel) (by decide +kernel)) (goodIn_sub (fun _ h => List.mem_cons_of_mem _ (List.mem_append_left _ (List.mem_append_right _ h))) (by decide +kernel))
set_option maxRecDepth 20000 in
theorem gL_call_X8_draw : GoodIn wsL_call (wsV RL 39 RX8 yX8_draw wsX8_draw) := goodIn_app (goodIn_of _ (by decide +kernel)) ggL_call_X8_draw
set_option maxRecDepth 20000 in
theorem ggL_call_X8_time : GoodIn wsL_call wsX8_time := goodIn_ca (goodIn_ca (goodIn_ca (goodIn_r _ [340, 8, 9, 341, 293, 37, 38, 39, 4, 40, 41, 42, 11, 17, 18, 19, 6, 7, 342, 343, 344, 297, 345, 334, 346, 347, 348, 349, 309, 328, 350, 219, 220, 29, 221, 31, 197, 351, 352, 353, 354, 355, 336, 27, 28, 30, 356, 357, 358, 359, 299, 315, 96, 97, 52, 98, 54, 329, 169, 170, 171, 55, 91, 92, 93, 94, 360, 361, 362, 363, 300, 50, 51, 53, 452, 453, 454, 455, 487, 488, 489, 490, 491, 492, 493, 494, 460, 461, 473, 474] (by decide +kernel) (by decide +kernel)) (goodIn_sub (fun _ h => List.mem_cons_of_mem _ (List.mem_append_left _ (List.mem_append_right _ h))) (by decide +kernel))) (goodIn_sub (fun _ h => List.mem_cons_of_mem _ (List.mem_append_right _ h)) (by decide +kernel))) (goodIn_sub (fun _ h => List.mem_cons_of_mem _ (List.mem_append_left _ (List.mem_append_left _ (List.mem_append_right _ h)))) (by decide +kernel))
set_option maxRecDepth 20000 in
theorem gL_call_X8_time : GoodIn wsL_call (wsV RL 42 RX8 yX8_time wsX8_time) := goodIn_app (goodIn_of _ (by decide +kernel)) ggL_call_X8_time
set_option maxRecDepth 20000 in
theorem ggL_call_X8_next : GoodIn wsL_call wsX8_next := goodIn_ca (goodIn_r _ [367, 8, 9, 293, 368, 347, 348, 297, 349, 309, 328, 369, 370, 371, 372, 373, 374, 375, 376, 377, 378, 299, 355, 379, 380, 190, 191, 52, 192, 54, 315, 96, 97, 98, 329, 169, 170, 171, 55, 91, 92, 93, 94, 356, 357, 358, 359, 334, 350, 219, 220, 29, 221, 31, 197, 360, 361, 362, 363, 300, 50, 51, 53, 381, 382, 383, 384, 385, 84, 85, 86, 386, 387, 388, 389, 390, 391, 392, 393, 335, 394, 194, 195, 196, 330, 331, 332, 333, 336, 27, 28, 30, 395, 396, 397, 398, 452, 453, 454, 455, 487, 488, 489, 490, 491, 492, 493, 494, 473, 474, 460, 461] (by decide +kernel) (by decide +kernel)) (goodIn_sub (fun _ h => List.mem_cons_of_mem _ (List.mem_append_left _ (List.mem_append_right _ h))) (by decide +kernel))
set_option maxRecDepth 20000 in
theorem gL_call_X8_next : GoodIn wsL_call (wsV RL 45 RX8 yX8_next wsX8_next) := goodIn_app (goodIn_of _ (by decide +kernel)) ggL_call_X8_next
set_option maxRecDepth 20000 in
theorem ggL_call_X8_head : GoodIn wsL_call wsX8_head := goodIn_ca (goodIn_ca (goodIn_r _ [402, 8, 9, 12, 37, 38, 39, 4, 40, 41, 42, 11, 403, 404, 405, 23, 406, 407, 408, 50, 51, 52, 53, 54, 55, 409, 410, 411, 412, 413, 80, 81, 82, 83, 84, 85, 86, 452, 453, 454, 455, 456, 457, 458, 459, 473, 474] (by decide +kernel) (by decide +kernel)) (goodIn_sub (fun _ h => List.mem_cons_of_mem _ (List.mem_append_left _ (List.mem_append_right _ h))) (by decide +kernel))) (goodIn_sub (fun _ h => List.mem_cons_of_mem _ (List.mem_append_right _ h)) (by decide +kernel))
set_option maxRecDepth 20000 in
theorem gL_call_X8_head : GoodIn wsL_call (wsV RL 48 RX8 yX8_head wsX8_head) := goodIn_app (goodIn_of _ (by decide +kernel)) ggL_call_X8_head
set_option maxRecDepth 20000 in
theorem ggL_call_X8_finish : GoodIn wsL_call wsX8_finish := goodIn_ca (goodIn_ca (goodIn_ca (goodIn_r _ [417, 8, 9, 418, 12, 37, 38, 39, 4, 40, 41, 42, 11, 17, 18, 19, 6, 7, 419, 420, 421, 422, 403, 404, 405, 23, 406, 407, 408, 50, 51, 52, 53, 54, 55, 423, 424, 425, 426, 427, 428, 429, 430, 431, 26, 27, 28, 29, 30, 31, 432, 433, 434, 435, 25, 436, 437, 219, 220, 221, 197, 438, 452, 453, 454, 455, 456, 457, 458, 459, 473, 474, 460, 461] (by decide +kernel) (by decide +kernel)) (goodIn_sub (fun _ h => List.mem_cons_of_mem _ (List.mem_append_left _ (List.mem_append_right _ h))) (by decide +kernel))) (goodIn_sub (fun _ h => List.mem_cons_of_mem _ (List.mem_append_right _ h)) (by decide +kernel))) (goodIn_sub (fun _ h => List.mem_cons_of_mem _ (List.mem_append_left _ (List.mem_append_left _ (List.mem_append_right _ h)))) (by decide +kernel))
set_option maxRecDepth 20000 in
theorem gL_call_X8_finish : GoodIn wsL_call (wsV RL 51 RX8 yX8_finish wsX8_finish) := goodIn_app (goodIn_of _ (by decide +kernel)) ggL_call_X8_finish
set_option maxRecDepth 20000 in
theorem ggL_call_X8_punish : GoodIn wsL_call wsX8_punish := goodIn_ca (goodIn_ca (goodIn_ca (goodIn_r _ [442, 8, 9, 12, 37, 38, 39, 4, 40, 41, 42, 11, 17, 18, 19, 6, 7, 419, 420, 421, 422, 403, 404, 405, 23, 406, 407, 408, 50, 51, 52, 53, 54, 55, 443, 444, 445, 446, 436, 437, 219, 220, 29, 221, 31, 197, 447, 448, 449, 450, 451, 235, 236, 237, 238, 239, 27, 28, 30, 452, 453, 454, 455, 456, 457, 458, 459, 473, 474, 460, 461] (by decide +kernel) (by decide +kernel)) (goodIn_sub (fun _ h => List.mem_cons_of_mem _ (List.mem_append_left _ (List.mem_append_right _ h))) (by decide +kernel))) (goodIn_sub (fun _ h => List.mem_cons_of_mem _ (List.mem_append_right _ h)) (by decide +kernel))) (goodIn_sub (fun _ h => List.mem_cons_of_mem _ (List.mem_append_left _ (List.mem_append_left _ (List.mem_append_right _ h)))) (by decide +kernel))
set_option maxRecDepth 20000 in
theorem gL_call_X8_punish : GoodIn wsL_call (wsV RL 54 RX8 yX8_punish wsX8_punish) := goodIn_app (goodIn_of _ (by decide +kernel)) ggL_call_X8_punish
theorem dL_call_0 : decode cL_call 0 = .ok (.iload_n 1, 1) := by decide +kernel
theorem dL_call_1 : decode cL_call 1 = .ok (.tableswitch 155 0 13 #[71, 78, 84, 90, 96, 101, 107, 112, 119, 125, 130, 137, 142, 148], 71) := by decide +kernel
theorem dL_call_72 : decode cL_call 72 = .ok (.aload_n 0, 1) := by decide +kernel
theorem dL_call_73 : decode cL_call 73 = .ok (.iload_n 2, 1) := by decide +kernel
theorem dL_call_74 : decode cL_call 74 = .ok (.iload_n 3, 1) := by decide +kernel
theorem dL_call_75 : decode cL_call 75 = .ok (.invokevirtual 7, 3) := by decide +kernel
theorem dL_call_78 : decode cL_call 78 = .ok (.ireturn, 1) := by decide +kernel
theorem dL_call_79 : decode cL_call 79 = .ok (.aload_n 0, 1) := by decide +kernel
theorem dL_call_80 : decode cL_call 80 = .ok (.iload_n 2, 1) := by decide +kernel
theorem dL_call_81 : decode cL_call 81 = .ok (.invokevirtual 13, 3) := by decide +kernel
theorem dL_call_84 : decode cL_call 84 = .ok (.ireturn, 1) := by decide +kernel
theorem dL_call_85 : decode cL_call 85 = .ok (.aload_n 0, 1) := by decide +kernel
theorem dL_call_86 : decode cL_call 86 = .ok (.iload_n 2, 1) := by decide +kernel
theorem dL_call_87 : decode cL_call 87 = .ok (.invokevirtual 17, 3) := by decide +kernel
theorem dL_call_90 : decode cL_call 90 = .ok (.ireturn, 1) := by decide +kernel
theorem dL_call_91 : decode cL_call 91 = .ok (.aload_n 0, 1) := by decide +kernel
theorem dL_call_92 : decode cL_call 92 = .ok (.iload_n 2, 1) := by decide +kernel
theorem dL_call_93 : decode cL_call 93 = .ok (.invokevirtual 20, 3) := by decide +kernel
theorem dL_call_96 : decode cL_call 96 = .ok (.ireturn, 1) := by decide +kernel
theorem dL_call_97 : decode cL_call 97 = .ok (.aload_n 0, 1) := by decide +kernel
theorem dL_call_98 : decode cL_call 98 = .ok (.invokevirtual 23, 3) := by decide +kernel
theorem dL_call_101 : decode cL_call 101 = .ok (.ireturn, 1) := by decide +kernel
theorem dL_call_102 : decode cL_call 102 = .ok (.aload_n 0, 1) := by decide +kernel
theorem dL_call_103 : decode cL_call 103 = .ok (.iload_n 2, 1) := by decide +kernel
theorem dL_call_104 : decode cL_call 104 = .ok (.invokevirtual 27, 3) := by decide +kernel
theorem dL_call_107 : decode cL_call 107 = .ok (.ireturn, 1) := by decide +kernel
theorem dL_call_108 : decode cL_call 108 = .ok (.aload_n 0, 1) := by decide +kernel
theorem dL_call_109 : decode cL_call 109 = .ok (.invokevirtual 30, 3) := by decide +kernel
theorem dL_call_112 : decode cL_call 112 = .ok (.ireturn, 1) := by decide +kernel
theorem dL_call_113 : decode cL_call 113 = .ok (.aload_n 0, 1) := by decide +kernel
theorem dL_call_114 : decode cL_call 114 = .ok (.iload_n 2, 1) := by decide +kernel
theorem dL_call_115 : decode cL_call 115 = .ok (.iload_n 3, 1) := by decide +kernel
theorem dL_call_116 : decode cL_call 116 = .ok (.invokevirtual 33, 3) := by decide +kernel
theorem dL_call_119 : decode cL_call 119 = .ok (.ireturn, 1) := by decide +kernel
theorem dL_call_120 : decode cL_call 120 = .ok (.aload_n 0, 1) := by decide +kernel
theorem dL_call_121 : decode cL_call 121 = .ok (.iload_n 2, 1) := by decide +kernel
theorem dL_call_122 : decode cL_call 122 = .ok (.invokevirtual 36, 3) := by decide +kernel
theorem dL_call_125 : decode cL_call 125 = .ok (.ireturn, 1) := by decide +kernel
theorem dL_call_126 : decode cL_call 126 = .ok (.aload_n 0, 1) := by decide +kernel
theorem dL_call_127 : decode cL_call 127 = .ok (.invokevirtual 39, 3) := by decide +kernel
theorem dL_call_130 : decode cL_call 130 = .ok (.ireturn, 1) := by decide +kernel
theorem dL_call_131 : decode cL_call 131 = .ok (.aload_n 0, 1) := by decide +kernel
theorem dL_call_132 : decode cL_call 132 = .ok (.iload_n 2, 1) := by decide +kernel
theorem dL_call_133 : decode cL_call 133 = .ok (.iload_n 3, 1) := by decide +kernel
theorem dL_call_134 : decode cL_call 134 = .ok (.invokevirtual 42, 3) := by decide +kernel
theorem dL_call_137 : decode cL_call 137 = .ok (.ireturn, 1) := by decide +kernel
theorem dL_call_138 : decode cL_call 138 = .ok (.aload_n 0, 1) := by decide +kernel
theorem dL_call_139 : decode cL_call 139 = .ok (.invokevirtual 45, 3) := by decide +kernel
theorem dL_call_142 : decode cL_call 142 = .ok (.ireturn, 1) := by decide +kernel
theorem dL_call_143 : decode cL_call 143 = .ok (.aload_n 0, 1) := by decide +kernel
theorem dL_call_144 : decode cL_call 144 = .ok (.iload_n 2, 1) := by decide +kernel
theorem dL_call_145 : decode cL_call 145 = .ok (.invokevirtual 48, 3) := by decide +kernel
theorem dL_call_148 : decode cL_call 148 = .ok (.ireturn, 1) := by decide +kernel
theorem dL_call_149 : decode cL_call 149 = .ok (.aload_n 0, 1) := by decide +kernel
theorem dL_call_150 : decode cL_call 150 = .ok (.iload_n 2, 1) := by decide +kernel
theorem dL_call_151 : decode cL_call 151 = .ok (.iload_n 3, 1) := by decide +kernel
theorem dL_call_152 : decode cL_call 152 = .ok (.invokevirtual 51, 3) := by decide +kernel
theorem dL_call_155 : decode cL_call 155 = .ok (.ireturn, 1) := by decide +kernel
theorem dL_call_156 : decode cL_call 156 = .ok (.aload_n 0, 1) := by decide +kernel
theorem dL_call_157 : decode cL_call 157 = .ok (.iload_n 2, 1) := by decide +kernel
theorem dL_call_158 : decode cL_call 158 = .ok (.iload_n 3, 1) := by decide +kernel
theorem dL_call_159 : decode cL_call 159 = .ok (.invokevirtual 54, 3) := by decide +kernel
theorem dL_call_162 : decode cL_call 162 = .ok (.ireturn, 1) := by decide +kernel
set_option maxRecDepth 20000 in
theorem ggL_ask_L_call : GoodIn wsL_ask wsL_call := goodIn_ca (goodIn_ca (goodIn_ca (goodIn_r _ [10, 11, 12, 13, 14, 15, 16, 17, 18, 19, 20, 21, 22, 23, 24, 25, 26, 27, 28, 29, 30, 31, 32, 33, 34, 35, 36, 37, 38, 39, 40, 41, 42, 43, 44, 45, 46, 47, 48, 49, 50, 51, 52, 53, 54, 55, 56, 57, 58, 59, 60, 61, 62, 63, 64, 65, 66, 67, 68, 69, 70, 71, 72, 73, 74, 75, 76, 77, 78, 79, 80, 81, 82, 83, 84, 85, 86, 87, 88, 89, 90, 91, 92, 93, 94, 95, 96, 97, 98, 99, 100, 101, 102, 103, 104, 105, 106, 107, 108, 109, 110, 111, 112, 113, 114, 115, 116, 117, 118, 119, 120, 121, 122, 123, 124, 125, 126, 127, 128, 129, 130, 131, 132, 133, 134, 135, 136, 137, 138, 139, 140, 141, 142, 143, 144, 145, 146, 147, 148, 149, 150, 151, 152, 153, 154, 155, 156, 157, 158, 159, 160, 161, 162, 163, 164, 165, 166, 167, 168, 169, 170, 171, 172, 173, 174, 175, 176, 177, 178, 179, 180, 181, 182, 183, 184, 185, 186, 187, 188, 189, 190, 191, 192, 193, 194, 195, 196, 197, 198, 199, 200, 201, 202, 203, 204, 205, 206, 207, 208, 209, 210, 211, 212, 213, 214, 215, 216, 217, 218, 219, 220, 221, 222, 223, 224, 225, 226, 227, 228, 229, 230, 231, 232, 233, 234, 235, 236, 237, 238, 239, 240, 241, 242, 243, 244, 245, 246, 247, 248, 249, 250, 251, 252, 253, 254, 255, 256, 257, 258, 259, 260, 261, 262, 263, 264, 265, 266, 267, 268, 269, 270, 271, 272, 273, 274, 275, 276, 277, 278, 279, 280, 281, 282, 283, 284, 285, 286, 287, 288, 289, 290, 291, 292, 293, 294, 295, 296, 297, 298, 299, 300, 301, 302, 303, 304, 305, 306, 307, 308, 309, 310, 311, 312, 313, 314, 315, 316, 317, 318, 319, 320, 321, 322, 323, 324, 325, 326, 327, 328, 329, 330, 331, 332, 333, 334, 335, 336, 337, 338, 339, 340, 341, 342, 343, 344, 345, 346, 347, 348, 349, 350, 351, 352, 353, 354, 355, 356, 357, 358, 359, 360, 361, 362, 363, 364, 365, 366, 367, 368, 369, 370, 371, 372, 373, 374, 375, 376, 377, 378, 379, 380, 381, 382, 383, 384, 385, 386, 387, 388, 389, 390, 391, 392, 393, 394, 395, 396, 397, 398, 399, 400, 401, 402, 403, 404, 405, 406, 407, 408, 409, 410, 411, 412, 413, 414, 415, 416, 417, 418, 419, 420, 421, 422, 423, 424, 425, 426, 427, 428, 429, 430, 431, 432, 433, 434, 435, 436, 437, 438, 439, 440, 441, 442, 443, 444, 445, 446, 447, 448, 449, 450, 451, 452, 453, 454, 455, 456, 457, 458, 459, 460, 461, 462, 463, 464, 465, 466, 467, 468, 469, 470, 471, 472, 473, 474, 475, 476, 477, 478, 479, 480, 481, 482, 483, 484, 485, 486, 487, 488, 489, 490, 491, 492, 493, 494, 495, 496, 497, 498, 499, 500, 501, 502, 503, 504] (by decide +kernel) (by decide +kernel)) (goodIn_sub (fun _ h => List.mem_cons_of_mem _ (List.mem_append_left _ (List.mem_append_left _ (List.mem_append_right _ h)))) (by decide +kernel))) (goodIn_sub (fun _ h => List.mem_cons_of_mem _ (List.mem_append_left _ (List.mem_append_right _ h))) (by decide +kernel))) (goodIn_sub (fun _ h => List.mem_cons_of_mem _ (List.mem_append_right _ h)) (by decide +kernel))
set_option maxRecDepth 20000 in
theorem gL_ask_L_call : GoodIn wsL_ask (va_wsS RL 57 yL_call wsL_call) := goodIn_app (goodIn_of _ (by decide +kernel)) ggL_ask_L_call
theorem dL_ask_0 : decode cL_ask 0 = .ok (.aload_n 0, 1) := by decide +kernel
theorem dL_ask_1 : decode cL_ask 1 = .ok (.iload_n 1, 1) := by decide +kernel
theorem dL_ask_2 : decode cL_ask 2 = .ok (.iload_n 2, 1) := by decide +kernel
theorem dL_ask_3 : decode cL_ask 3 = .ok (.iload_n 3, 1) := by decide +kernel
theorem dL_ask_4 : decode cL_ask 4 = .ok (.invokestatic 57, 3) := by decide +kernel
theorem dL_ask_7 : decode cL_ask 7 = .ok (.ireturn, 1) := by decide +kernel
theorem dL_ask_8 : decode cL_ask 8 = .ok (.astore 4, 2) := by decide +kernel
theorem dL_ask_10 : decode cL_ask 10 = .ok (.ldc 65, 2) := by decide +kernel
theorem dL_ask_12 : decode cL_ask 12 = .ok (.ireturn, 1) := by decide +kernel
theorem dL_ask_13 : decode cL_ask 13 = .ok (.astore 4, 2) := by decide +kernel
theorem dL_ask_15 : decode cL_ask 15 = .ok (.ldc 68, 2) := by decide +kernel
theorem dL_ask_17 : decode cL_ask 17 = .ok (.ireturn, 1) := by decide +kernel
theorem dL_ask_18 : decode cL_ask 18 = .ok (.astore 4, 2) := by decide +kernel
theorem dL_ask_20 : decode cL_ask 20 = .ok (.ldc 71, 2) := by decide +kernel
theorem dL_ask_22 : decode cL_ask 22 = .ok (.ireturn, 1) := by decide +kernel
theorem dL_draw_0 : decode cL_draw 0 = .ok (.iload_n 1, 1) := by decide +kernel
theorem dL_draw_1 : decode cL_draw 1 = .ok (.aload_n 0, 1) := by decide +kernel
theorem dL_draw_2 : decode cL_draw 2 = .ok (.arraylength, 1) := by decide +kernel
theorem dL_draw_3 : decode cL_draw 3 = .ok (.if_icmp .ge 9, 3) := by decide +kernel
theorem dL_draw_6 : decode cL_draw 6 = .ok (.aload_n 0, 1) := by decide +kernel
theorem dL_draw_7 : decode cL_draw 7 = .ok (.iload_n 1, 1) := by decide +kernel
theorem dL_draw_8 : decode cL_draw 8 = .ok (.iaload, 1) := by decide +kernel
theorem dL_draw_9 : decode cL_draw 9 = .ok (.goto 18, 3) := by decide +kernel
theorem dL_draw_12 : decode cL_draw 12 = .ok (.ldc 72, 2) := by decide +kernel
theorem dL_draw_14 : decode cL_draw 14 = .ok (.iload_n 1, 1) := by decide +kernel
theorem dL_draw_15 : decode cL_draw 15 = .ok (.imul, 1) := by decide +kernel
theorem dL_draw_16 : decode cL_draw 16 = .ok (.iload_n 1, 1) := by decide +kernel
theorem dL_draw_17 : decode cL_draw 17 = .ok (.imul, 1) := by decide +kernel
theorem dL_draw_18 : decode cL_draw 18 = .ok (.ldc 73, 2) := by decide +kernel
theorem dL_draw_20 : decode cL_draw 20 = .ok (.iload_n 1, 1) := by decide +kernel
theorem dL_draw_21 : decode cL_draw 21 = .ok (.imul, 1) := by decide +kernel
theorem dL_draw_22 : decode cL_draw 22 = .ok (.iadd, 1) := by decide +kernel
theorem dL_draw_23 : decode cL_draw 23 = .ok (.sipush 333, 3) := by decide +kernel
theorem dL_draw_26 : decode cL_draw 26 = .ok (.iadd, 1) := by decide +kernel
theorem dL_draw_27 : decode cL_draw 27 = .ok (.ireturn, 1) := by decide +kernel
set_option maxRecDepth 20000 in
theorem ggL_isChart_X8_place : GoodIn wsL_isChart wsX8_place := goodIn_ca (goodIn_r _ [5, 6, 7, 8, 9, 4, 10, 11, 12, 13, 14, 15, 16, 17, 18, 19, 20, 21, 22, 23, 24, 25, 26, 122, 123, 124, 125, 126, 127, 128, 129, 130, 131, 132, 133, 134, 135, 136, 137, 138] (by decide +kernel) (by decide +kernel)) (goodIn_sub (fun _ h => List.mem_cons_of_mem _ (List.mem_append_left _ (List.mem_append_right _ h))) (by decide +kernel))
set_option maxRecDepth 20000 in
theorem gL_isChart_X8_place : GoodIn wsL_isChart (wsV RL 74 RX8 yX8_place wsX8_place) := goodIn_app (goodIn_of _ (by decide +kernel)) ggL_isChart_X8_place
set_option maxRecDepth 20000 in
theorem ggL_isChart_X8_placeAnew : GoodIn wsL_isChart wsX8_placeAnew := goodIn_ca (goodIn_r _ [30, 6, 7, 8, 9, 4, 10, 11, 12, 13, 31, 32, 33, 17, 34, 35, 36, 37, 38, 39, 40, 41, 42, 43, 44, 45, 46, 47, 23, 48, 25, 49, 50, 51, 52, 53, 54, 55, 56, 26, 57, 58, 59, 60, 61, 62, 63, 64, 65, 66, 67, 68, 21, 22, 24, 69, 70, 71, 72, 73, 74, 75, 76, 77, 78, 79, 80, 81, 82, 83, 84, 85, 122, 123, 124, 125, 126, 127, 128, 129, 130, 131, 132, 133, 134, 135, 136, 139, 140, 141, 142, 137, 138] (by decide +kernel) (by decide +kernel)) (goodIn_sub (fun _ h => List.mem_cons_of_mem _ (List.mem_append_left _ (List.mem_append_right _ h))) (by decide +kernel))
set_option maxRecDepth 20000 in
theorem gL_isChart_X8_placeAnew : GoodIn wsL_isChart (wsV RL 77 RX8 yX8_placeAnew wsX8_placeAnew) := goodIn_app (goodIn_of _ (by decide +kernel)) ggL_isChart_X8_placeAnew
set_option maxRecDepth 20000 in
theorem ggL_isChart_X8_bumps : GoodIn wsL_isChart wsX8_bumps := goodIn_ca (goodIn_ca (goodIn_r _ [89, 6, 7, 8, 9, 4, 10, 11, 12, 13, 90, 91, 92, 93, 94, 95, 96, 97, 17, 98, 99, 100, 101, 102, 103, 104, 105, 106, 107, 108, 109, 110, 111, 112, 113, 114, 115, 116, 117, 118, 119, 120, 121, 122, 123, 124, 125, 126, 127, 128, 129, 130, 131, 132, 133, 134, 135, 136, 143, 144, 145, 146, 147, 148, 149] (by decide +kernel) (by decide +kernel)) (goodIn_sub (fun _ h => List.mem_cons_of_mem _ (List.mem_append_left _ (List.mem_append_right _ h))) (by decide +kernel))) (goodIn_sub (fun _ h => List.mem_cons_of_mem _ (List.mem_append_right _ h)) (by decide +kernel))
set_option maxRecDepth 20000 in
theorem gL_isChart_X8_bumps : GoodIn wsL_isChart (wsV RL 80 RX8 yX8_bumps wsX8_bumps) := goodIn_app (goodIn_of _ (by decide +kernel)) ggL_isChart_X8_bumps
theorem dL_isChart_0 : decode cL_isChart 0 = .ok (.iconst 0, 1) := by decide +kernel
theorem dL_isChart_1 : decode cL_isChart 1 = .ok (.istore 5, 2) := by decide +kernel
theorem dL_isChart_3 : decode cL_isChart 3 = .ok (.iconst 0, 1) := by decide +kernel
theorem dL_isChart_4 : decode cL_isChart 4 = .ok (.istore 6, 2) := by decide +kernel
theorem dL_isChart_6 : decode cL_isChart 6 = .ok (.iconst 0, 1) := by decide +kernel
theorem dL_isChart_7 : decode cL_isChart 7 = .ok (.istore 7, 2) := by decide +kernel
theorem dL_isChart_9 : decode cL_isChart 9 = .ok (.iconst 1, 1) := by decide +kernel
theorem dL_isChart_10 : decode cL_isChart 10 = .ok (.istore 8, 2) := by decide +kernel
theorem dL_isChart_12 : decode cL_isChart 12 = .ok (.iconst 0, 1) := by decide +kernel
theorem dL_isChart_13 : decode cL_isChart 13 = .ok (.istore 9, 2) := by decide +kernel
theorem dL_isChart_15 : decode cL_isChart 15 = .ok (.iload 9, 2) := by decide +kernel
theorem dL_isChart_17 : decode cL_isChart 17 = .ok (.iload_n 1, 1) := by decide +kernel
theorem dL_isChart_18 : decode cL_isChart 18 = .ok (.if_icmp .ge 172, 3) := by decide +kernel
theorem dL_isChart_21 : decode cL_isChart 21 = .ok (.iload 8, 2) := by decide +kernel
theorem dL_isChart_23 : decode cL_isChart 23 = .ok (.ifCond .eq 167, 3) := by decide +kernel
theorem dL_isChart_26 : decode cL_isChart 26 = .ok (.aload_n 0, 1) := by decide +kernel
theorem dL_isChart_27 : decode cL_isChart 27 = .ok (.iload 9, 2) := by decide +kernel
theorem dL_isChart_29 : decode cL_isChart 29 = .ok (.invokevirtual 74, 3) := by decide +kernel
theorem dL_isChart_32 : decode cL_isChart 32 = .ok (.istore 10, 2) := by decide +kernel
theorem dL_isChart_34 : decode cL_isChart 34 = .ok (.iload 10, 2) := by decide +kernel
theorem dL_isChart_36 : decode cL_isChart 36 = .ok (.iconst (-1), 1) := by decide +kernel
theorem dL_isChart_37 : decode cL_isChart 37 = .ok (.if_icmp .lt 52, 3) := by decide +kernel
theorem dL_isChart_40 : decode cL_isChart 40 = .ok (.iload 10, 2) := by decide +kernel
theorem dL_isChart_42 : decode cL_isChart 42 = .ok (.iload_n 2, 1) := by decide +kernel
theorem dL_isChart_43 : decode cL_isChart 43 = .ok (.if_icmp .ge 46, 3) := by decide +kernel
theorem dL_isChart_46 : decode cL_isChart 46 = .ok (.iload 10, 2) := by decide +kernel
theorem dL_isChart_48 : decode cL_isChart 48 = .ok (.ifCond .lt 13, 3) := by decide +kernel
theorem dL_isChart_51 : decode cL_isChart 51 = .ok (.iload 5, 2) := by decide +kernel
theorem dL_isChart_53 : decode cL_isChart 53 = .ok (.iload 10, 2) := by decide +kernel
theorem dL_isChart_55 : decode cL_isChart 55 = .ok (.ishr, 1) := by decide +kernel
theorem dL_isChart_56 : decode cL_isChart 56 = .ok (.iconst 1, 1) := by decide +kernel
theorem dL_isChart_57 : decode cL_isChart 57 = .ok (.iand, 1) := by decide +kernel
theorem dL_isChart_58 : decode cL_isChart 58 = .ok (.ifCond .ne 31, 3) := by decide +kernel
theorem dL_isChart_61 : decode cL_isChart 61 = .ok (.iload 4, 2) := by decide +kernel
theorem dL_isChart_63 : decode cL_isChart 63 = .ok (.ifCond .eq 22, 3) := by decide +kernel
theorem dL_isChart_66 : decode cL_isChart 66 = .ok (.iload 9, 2) := by decide +kernel
theorem dL_isChart_68 : decode cL_isChart 68 = .ok (.bipush 6, 2) := by decide +kernel
theorem dL_isChart_70 : decode cL_isChart 70 = .ok (.irem, 1) := by decide +kernel
theorem dL_isChart_71 : decode cL_isChart 71 = .ok (.ifCond .gt 14, 3) := by decide +kernel
theorem dL_isChart_74 : decode cL_isChart 74 = .ok (.aload_n 0, 1) := by decide +kernel
theorem dL_isChart_75 : decode cL_isChart 75 = .ok (.iload 9, 2) := by decide +kernel
theorem dL_isChart_77 : decode cL_isChart 77 = .ok (.invokevirtual 77, 3) := by decide +kernel
theorem dL_isChart_80 : decode cL_isChart 80 = .ok (.iload 10, 2) := by decide +kernel
theorem dL_isChart_82 : decode cL_isChart 82 = .ok (.if_icmp .ne 7, 3) := by decide +kernel
theorem dL_isChart_85 : decode cL_isChart 85 = .ok (.iconst 1, 1) := by decide +kernel
theorem dL_isChart_86 : decode cL_isChart 86 = .ok (.goto 4, 3) := by decide +kernel
theorem dL_isChart_89 : decode cL_isChart 89 = .ok (.iconst 0, 1) := by decide +kernel
theorem dL_isChart_90 : decode cL_isChart 90 = .ok (.istore 8, 2) := by decide +kernel
theorem dL_isChart_92 : decode cL_isChart 92 = .ok (.iload 5, 2) := by decide +kernel
theorem dL_isChart_94 : decode cL_isChart 94 = .ok (.iload 10, 2) := by decide +kernel
theorem dL_isChart_96 : decode cL_isChart 96 = .ok (.ifCond .ge 7, 3) := by decide +kernel
theorem dL_isChart_99 : decode cL_isChart 99 = .ok (.iconst 0, 1) := by decide +kernel
theorem dL_isChart_100 : decode cL_isChart 100 = .ok (.goto 7, 3) := by decide +kernel
theorem dL_isChart_103 : decode cL_isChart 103 = .ok (.iconst 1, 1) := by decide +kernel
theorem dL_isChart_104 : decode cL_isChart 104 = .ok (.iload 10, 2) := by decide +kernel
theorem dL_isChart_106 : decode cL_isChart 106 = .ok (.ishl, 1) := by decide +kernel
theorem dL_isChart_107 : decode cL_isChart 107 = .ok (.ior, 1) := by decide +kernel
theorem dL_isChart_108 : decode cL_isChart 108 = .ok (.istore 5, 2) := by decide +kernel
theorem dL_isChart_110 : decode cL_isChart 110 = .ok (.iload 6, 2) := by decide +kernel
theorem dL_isChart_112 : decode cL_isChart 112 = .ok (.aload_n 0, 1) := by decide +kernel
theorem dL_isChart_113 : decode cL_isChart 113 = .ok (.iload 9, 2) := by decide +kernel
theorem dL_isChart_115 : decode cL_isChart 115 = .ok (.iconst 0, 1) := by decide +kernel
theorem dL_isChart_116 : decode cL_isChart 116 = .ok (.invokevirtual 80, 3) := by decide +kernel
theorem dL_isChart_119 : decode cL_isChart 119 = .ok (.iadd, 1) := by decide +kernel
theorem dL_isChart_120 : decode cL_isChart 120 = .ok (.istore 6, 2) := by decide +kernel
theorem dL_isChart_122 : decode cL_isChart 122 = .ok (.iload 7, 2) := by decide +kernel
theorem dL_isChart_124 : decode cL_isChart 124 = .ok (.aload_n 0, 1) := by decide +kernel
theorem dL_isChart_125 : decode cL_isChart 125 = .ok (.iload 9, 2) := by decide +kernel
theorem dL_isChart_127 : decode cL_isChart 127 = .ok (.iconst 1, 1) := by decide +kernel
theorem dL_isChart_128 : decode cL_isChart 128 = .ok (.invokevirtual 80, 3) := by decide +kernel
theorem dL_isChart_131 : decode cL_isChart 131 = .ok (.iadd, 1) := by decide +kernel
theorem dL_isChart_132 : decode cL_isChart 132 = .ok (.istore 7, 2) := by decide +kernel
theorem dL_isChart_134 : decode cL_isChart 134 = .ok (.iload 8, 2) := by decide +kernel
theorem dL_isChart_136 : decode cL_isChart 136 = .ok (.ifCond .eq 45, 3) := by decide +kernel
theorem dL_isChart_139 : decode cL_isChart 139 = .ok (.aload_n 0, 1) := by decide +kernel
theorem dL_isChart_140 : decode cL_isChart 140 = .ok (.iload 9, 2) := by decide +kernel
theorem dL_isChart_142 : decode cL_isChart 142 = .ok (.iconst 2, 1) := by decide +kernel
theorem dL_isChart_143 : decode cL_isChart 143 = .ok (.invokevirtual 80, 3) := by decide +kernel
theorem dL_isChart_146 : decode cL_isChart 146 = .ok (.aload_n 0, 1) := by decide +kernel
theorem dL_isChart_147 : decode cL_isChart 147 = .ok (.iload 9, 2) := by decide +kernel
theorem dL_isChart_149 : decode cL_isChart 149 = .ok (.iconst 0, 1) := by decide +kernel
theorem dL_isChart_150 : decode cL_isChart 150 = .ok (.invokevirtual 80, 3) := by decide +kernel
theorem dL_isChart_153 : decode cL_isChart 153 = .ok (.if_icmp .gt 28, 3) := by decide +kernel
theorem dL_isChart_156 : decode cL_isChart 156 = .ok (.aload_n 0, 1) := by decide +kernel
theorem dL_isChart_157 : decode cL_isChart 157 = .ok (.iload 9, 2) := by decide +kernel
theorem dL_isChart_159 : decode cL_isChart 159 = .ok (.iconst 3, 1) := by decide +kernel
theorem dL_isChart_160 : decode cL_isChart 160 = .ok (.invokevirtual 80, 3) := by decide +kernel
theorem dL_isChart_163 : decode cL_isChart 163 = .ok (.aload_n 0, 1) := by decide +kernel
theorem dL_isChart_164 : decode cL_isChart 164 = .ok (.iload 9, 2) := by decide +kernel
theorem dL_isChart_166 : decode cL_isChart 166 = .ok (.iconst 4, 1) := by decide +kernel
theorem dL_isChart_167 : decode cL_isChart 167 = .ok (.invokevirtual 80, 3) := by decide +kernel
theorem dL_isChart_170 : decode cL_isChart 170 = .ok (.iadd, 1) := by decide +kernel
theorem dL_isChart_171 : decode cL_isChart 171 = .ok (.iload_n 3, 1) := by decide +kernel
theorem dL_isChart_172 : decode cL_isChart 172 = .ok (.iconst 4, 1) := by decide +kernel
theorem dL_isChart_173 : decode cL_isChart 173 = .ok (.idiv, 1) := by decide +kernel
theorem dL_isChart_174 : decode cL_isChart 174 = .ok (.if_icmp .gt 7, 3) := by decide +kernel
theorem dL_isChart_177 : decode cL_isChart 177 = .ok (.iconst 1, 1) := by decide +kernel
theorem dL_isChart_178 : decode cL_isChart 178 = .ok (.goto 4, 3) := by decide +kernel
theorem dL_isChart_181 : decode cL_isChart 181 = .ok (.iconst 0, 1) := by decide +kernel
theorem dL_isChart_182 : decode cL_isChart 182 = .ok (.istore 8, 2) := by decide +kernel
theorem dL_isChart_184 : decode cL_isChart 184 = .ok (.iinc 9 1, 3) := by decide +kernel
theorem dL_isChart_187 : decode cL_isChart 187 = .ok (.goto (-172), 3) := by decide +kernel
theorem dL_isChart_190 : decode cL_isChart 190 = .ok (.iload 8, 2) := by decide +kernel
theorem dL_isChart_192 : decode cL_isChart 192 = .ok (.ifCond .eq 24, 3) := by decide +kernel
theorem dL_isChart_195 : decode cL_isChart 195 = .ok (.iload 5, 2) := by decide +kernel
theorem dL_isChart_197 : decode cL_isChart 197 = .ok (.iconst 1, 1) := by decide +kernel
theorem dL_isChart_198 : decode cL_isChart 198 = .ok (.iload_n 2, 1) := by decide +kernel
theorem dL_isChart_199 : decode cL_isChart 199 = .ok (.ishl, 1) := by decide +kernel
theorem dL_isChart_200 : decode cL_isChart 200 = .ok (.iconst 1, 1) := by decide +kernel
theorem dL_isChart_201 : decode cL_isChart 201 = .ok (.isub, 1) := by decide +kernel
theorem dL_isChart_202 : decode cL_isChart 202 = .ok (.if_icmp .ne 14, 3) := by decide +kernel
theorem dL_isChart_205 : decode cL_isChart 205 = .ok (.iload 6, 2) := by decide +kernel
theorem dL_isChart_207 : decode cL_isChart 207 = .ok (.iload 7, 2) := by decide +kernel
theorem dL_isChart_209 : decode cL_isChart 209 = .ok (.if_icmp .ne 7, 3) := by decide +kernel
theorem dL_isChart_212 : decode cL_isChart 212 = .ok (.iconst 1, 1) := by decide +kernel
theorem dL_isChart_213 : decode cL_isChart 213 = .ok (.goto 4, 3) := by decide +kernel
theorem dL_isChart_216 : decode cL_isChart 216 = .ok (.iconst 0, 1) := by decide +kernel
theorem dL_isChart_217 : decode cL_isChart 217 = .ok (.ireturn, 1) := by decide +kernel
set_option maxRecDepth 20000 in
theorem ggL_areResults_X8_result : GoodIn wsL_areResults wsX8_result := goodIn_ca (goodIn_ca (goodIn_r _ [5, 6, 7, 8, 4, 9, 10, 11, 12, 13, 14, 15, 16, 17, 18, 19, 20, 21, 22, 23, 24, 25, 26, 27, 28, 29, 30, 31, 32, 33, 34, 35, 36, 37, 38, 39, 57, 58, 59, 60, 61, 62, 63, 64, 65, 66, 67, 68, 69, 70] (by decide +kernel) (by decide +kernel)) (goodIn_sub (fun _ h => List.mem_cons_of_mem _ (List.mem_append_left _ (List.mem_append_right _ h))) (by decide +kernel))) (goodIn_sub (fun _ h => List.mem_cons_of_mem _ (List.mem_append_right _ h)) (by decide +kernel))
set_option maxRecDepth 20000 in
theorem gL_areResults_X8_result : GoodIn wsL_areResults (wsV RL 83 RX8 yX8_result wsX8_result) := goodIn_app (goodIn_of _ (by decide +kernel)) ggL_areResults_X8_result
set_option maxRecDepth 20000 in
theorem ggL_areResults_X8_verdict : GoodIn wsL_areResults wsX8_verdict := goodIn_ca (goodIn_ca (goodIn_r _ [43, 6, 7, 8, 4, 9, 10, 11, 12, 13, 14, 15, 16, 17, 18, 19, 20, 21, 22, 23, 44, 45, 46, 47, 48, 28, 49, 29, 30, 31, 32, 33, 34, 35, 36, 37, 38, 39, 50, 51, 52, 53, 54, 55, 56, 57, 58, 59, 60, 61, 62, 63, 64, 65, 66, 67, 68, 69, 70, 71, 72] (by decide +kernel) (by decide +kernel)) (goodIn_sub (fun _ h => List.mem_cons_of_mem _ (List.mem_append_left _ (List.mem_append_right _ h))) (by decide +kernel))) (goodIn_sub (fun _ h => List.mem_cons_of_mem _ (List.mem_append_right _ h)) (by decide +kernel))
set_option maxRecDepth 20000 in
theorem gL_areResults_X8_verdict : GoodIn wsL_areResults (wsV RL 86 RX8 yX8_verdict wsX8_verdict) := goodIn_app (goodIn_of _ (by decide +kernel)) ggL_areResults_X8_verdict
theorem dL_areResults_0 : decode cL_areResults 0 = .ok (.iconst 0, 1) := by decide +kernel
theorem dL_areResults_1 : decode cL_areResults 1 = .ok (.istore_n 2, 1) := by decide +kernel
theorem dL_areResults_2 : decode cL_areResults 2 = .ok (.iconst 0, 1) := by decide +kernel
theorem dL_areResults_3 : decode cL_areResults 3 = .ok (.istore_n 3, 1) := by decide +kernel
theorem dL_areResults_4 : decode cL_areResults 4 = .ok (.iconst 1, 1) := by decide +kernel
theorem dL_areResults_5 : decode cL_areResults 5 = .ok (.istore 4, 2) := by decide +kernel
theorem dL_areResults_7 : decode cL_areResults 7 = .ok (.iload_n 2, 1) := by decide +kernel
theorem dL_areResults_8 : decode cL_areResults 8 = .ok (.bipush 7, 2) := by decide +kernel
theorem dL_areResults_10 : decode cL_areResults 10 = .ok (.if_icmp .ge 64, 3) := by decide +kernel
theorem dL_areResults_13 : decode cL_areResults 13 = .ok (.aload_n 0, 1) := by decide +kernel
theorem dL_areResults_14 : decode cL_areResults 14 = .ok (.iload_n 2, 1) := by decide +kernel
theorem dL_areResults_15 : decode cL_areResults 15 = .ok (.invokevirtual 83, 3) := by decide +kernel
theorem dL_areResults_18 : decode cL_areResults 18 = .ok (.ifCond .lt 56, 3) := by decide +kernel
theorem dL_areResults_21 : decode cL_areResults 21 = .ok (.iload 4, 2) := by decide +kernel
theorem dL_areResults_23 : decode cL_areResults 23 = .ok (.ifCond .eq 32, 3) := by decide +kernel
theorem dL_areResults_26 : decode cL_areResults 26 = .ok (.iload_n 3, 1) := by decide +kernel
theorem dL_areResults_27 : decode cL_areResults 27 = .ok (.aload_n 0, 1) := by decide +kernel
theorem dL_areResults_28 : decode cL_areResults 28 = .ok (.iload_n 2, 1) := by decide +kernel
theorem dL_areResults_29 : decode cL_areResults 29 = .ok (.invokevirtual 83, 3) := by decide +kernel
theorem dL_areResults_32 : decode cL_areResults 32 = .ok (.ishr, 1) := by decide +kernel
theorem dL_areResults_33 : decode cL_areResults 33 = .ok (.iconst 1, 1) := by decide +kernel
theorem dL_areResults_34 : decode cL_areResults 34 = .ok (.iand, 1) := by decide +kernel
theorem dL_areResults_35 : decode cL_areResults 35 = .ok (.ifCond .ne 20, 3) := by decide +kernel
theorem dL_areResults_38 : decode cL_areResults 38 = .ok (.iload_n 2, 1) := by decide +kernel
theorem dL_areResults_39 : decode cL_areResults 39 = .ok (.ifCond .eq 12, 3) := by decide +kernel
theorem dL_areResults_42 : decode cL_areResults 42 = .ok (.aload_n 0, 1) := by decide +kernel
theorem dL_areResults_43 : decode cL_areResults 43 = .ok (.iload_n 2, 1) := by decide +kernel
theorem dL_areResults_44 : decode cL_areResults 44 = .ok (.invokevirtual 86, 3) := by decide +kernel
theorem dL_areResults_47 : decode cL_areResults 47 = .ok (.iconst (-1), 1) := by decide +kernel
theorem dL_areResults_48 : decode cL_areResults 48 = .ok (.if_icmp .lt 7, 3) := by decide +kernel
theorem dL_areResults_51 : decode cL_areResults 51 = .ok (.iconst 1, 1) := by decide +kernel
theorem dL_areResults_52 : decode cL_areResults 52 = .ok (.goto 4, 3) := by decide +kernel
theorem dL_areResults_55 : decode cL_areResults 55 = .ok (.iconst 0, 1) := by decide +kernel
theorem dL_areResults_56 : decode cL_areResults 56 = .ok (.istore 4, 2) := by decide +kernel
theorem dL_areResults_58 : decode cL_areResults 58 = .ok (.iload_n 3, 1) := by decide +kernel
theorem dL_areResults_59 : decode cL_areResults 59 = .ok (.iconst 1, 1) := by decide +kernel
theorem dL_areResults_60 : decode cL_areResults 60 = .ok (.aload_n 0, 1) := by decide +kernel
theorem dL_areResults_61 : decode cL_areResults 61 = .ok (.iload_n 2, 1) := by decide +kernel
theorem dL_areResults_62 : decode cL_areResults 62 = .ok (.invokevirtual 83, 3) := by decide +kernel
theorem dL_areResults_65 : decode cL_areResults 65 = .ok (.ishl, 1) := by decide +kernel
theorem dL_areResults_66 : decode cL_areResults 66 = .ok (.ior, 1) := by decide +kernel
theorem dL_areResults_67 : decode cL_areResults 67 = .ok (.istore_n 3, 1) := by decide +kernel
theorem dL_areResults_68 : decode cL_areResults 68 = .ok (.iinc 2 1, 3) := by decide +kernel
theorem dL_areResults_71 : decode cL_areResults 71 = .ok (.goto (-64), 3) := by decide +kernel
theorem dL_areResults_74 : decode cL_areResults 74 = .ok (.iconst 0, 1) := by decide +kernel
theorem dL_areResults_75 : decode cL_areResults 75 = .ok (.istore 5, 2) := by decide +kernel
theorem dL_areResults_77 : decode cL_areResults 77 = .ok (.iconst 1, 1) := by decide +kernel
theorem dL_areResults_78 : decode cL_areResults 78 = .ok (.istore 6, 2) := by decide +kernel
theorem dL_areResults_80 : decode cL_areResults 80 = .ok (.iload 6, 2) := by decide +kernel
theorem dL_areResults_82 : decode cL_areResults 82 = .ok (.iload_n 2, 1) := by decide +kernel
theorem dL_areResults_83 : decode cL_areResults 83 = .ok (.if_icmp .ge 56, 3) := by decide +kernel
theorem dL_areResults_86 : decode cL_areResults 86 = .ok (.iload 4, 2) := by decide +kernel
theorem dL_areResults_88 : decode cL_areResults 88 = .ok (.ifCond .eq 51, 3) := by decide +kernel
theorem dL_areResults_91 : decode cL_areResults 91 = .ok (.iload 5, 2) := by decide +kernel
theorem dL_areResults_93 : decode cL_areResults 93 = .ok (.ifCond .ne 12, 3) := by decide +kernel
theorem dL_areResults_96 : decode cL_areResults 96 = .ok (.aload_n 0, 1) := by decide +kernel
theorem dL_areResults_97 : decode cL_areResults 97 = .ok (.iload 6, 2) := by decide +kernel
theorem dL_areResults_99 : decode cL_areResults 99 = .ok (.invokevirtual 86, 3) := by decide +kernel
theorem dL_areResults_102 : decode cL_areResults 102 = .ok (.ifCond .ge 7, 3) := by decide +kernel
theorem dL_areResults_105 : decode cL_areResults 105 = .ok (.iconst 1, 1) := by decide +kernel
theorem dL_areResults_106 : decode cL_areResults 106 = .ok (.goto 4, 3) := by decide +kernel
theorem dL_areResults_109 : decode cL_areResults 109 = .ok (.iconst 0, 1) := by decide +kernel
theorem dL_areResults_110 : decode cL_areResults 110 = .ok (.istore 5, 2) := by decide +kernel
theorem dL_areResults_112 : decode cL_areResults 112 = .ok (.iload 5, 2) := by decide +kernel
theorem dL_areResults_114 : decode cL_areResults 114 = .ok (.ifCond .eq 12, 3) := by decide +kernel
theorem dL_areResults_117 : decode cL_areResults 117 = .ok (.aload_n 0, 1) := by decide +kernel
theorem dL_areResults_118 : decode cL_areResults 118 = .ok (.iload 6, 2) := by decide +kernel
theorem dL_areResults_120 : decode cL_areResults 120 = .ok (.invokevirtual 86, 3) := by decide +kernel
theorem dL_areResults_123 : decode cL_areResults 123 = .ok (.ifCond .ge 7, 3) := by decide +kernel
theorem dL_areResults_126 : decode cL_areResults 126 = .ok (.iconst 1, 1) := by decide +kernel
theorem dL_areResults_127 : decode cL_areResults 127 = .ok (.goto 4, 3) := by decide +kernel
theorem dL_areResults_130 : decode cL_areResults 130 = .ok (.iconst 0, 1) := by decide +kernel
theorem dL_areResults_131 : decode cL_areResults 131 = .ok (.istore 4, 2) := by decide +kernel
theorem dL_areResults_133 : decode cL_areResults 133 = .ok (.iinc 6 1, 3) := by decide +kernel
theorem dL_areResults_136 : decode cL_areResults 136 = .ok (.goto (-56), 3) := by decide +kernel
theorem dL_areResults_139 : decode cL_areResults 139 = .ok (.iload 4, 2) := by decide +kernel
theorem dL_areResults_141 : decode cL_areResults 141 = .ok (.ifCond .eq 38, 3) := by decide +kernel
theorem dL_areResults_144 : decode cL_areResults 144 = .ok (.iload_n 2, 1) := by decide +kernel
theorem dL_areResults_145 : decode cL_areResults 145 = .ok (.bipush 6, 2) := by decide +kernel
theorem dL_areResults_147 : decode cL_areResults 147 = .ok (.if_icmp .gt 32, 3) := by decide +kernel
theorem dL_areResults_150 : decode cL_areResults 150 = .ok (.iload_n 2, 1) := by decide +kernel
theorem dL_areResults_151 : decode cL_areResults 151 = .ok (.iload_n 1, 1) := by decide +kernel
theorem dL_areResults_152 : decode cL_areResults 152 = .ok (.if_icmp .gt 27, 3) := by decide +kernel
theorem dL_areResults_155 : decode cL_areResults 155 = .ok (.iload_n 1, 1) := by decide +kernel
theorem dL_areResults_156 : decode cL_areResults 156 = .ok (.bipush 6, 2) := by decide +kernel
theorem dL_areResults_158 : decode cL_areResults 158 = .ok (.if_icmp .gt 8, 3) := by decide +kernel
theorem dL_areResults_161 : decode cL_areResults 161 = .ok (.iload_n 2, 1) := by decide +kernel
theorem dL_areResults_162 : decode cL_areResults 162 = .ok (.iload_n 1, 1) := by decide +kernel
theorem dL_areResults_163 : decode cL_areResults 163 = .ok (.if_icmp .ne 16, 3) := by decide +kernel
theorem dL_areResults_166 : decode cL_areResults 166 = .ok (.aload_n 0, 1) := by decide +kernel
theorem dL_areResults_167 : decode cL_areResults 167 = .ok (.iload_n 2, 1) := by decide +kernel
theorem dL_areResults_168 : decode cL_areResults 168 = .ok (.invokevirtual 86, 3) := by decide +kernel
theorem dL_areResults_171 : decode cL_areResults 171 = .ok (.iconst (-1), 1) := by decide +kernel
theorem dL_areResults_172 : decode cL_areResults 172 = .ok (.if_icmp .ne 7, 3) := by decide +kernel
theorem dL_areResults_175 : decode cL_areResults 175 = .ok (.iconst 1, 1) := by decide +kernel
theorem dL_areResults_176 : decode cL_areResults 176 = .ok (.goto 4, 3) := by decide +kernel
theorem dL_areResults_179 : decode cL_areResults 179 = .ok (.iconst 0, 1) := by decide +kernel
theorem dL_areResults_180 : decode cL_areResults 180 = .ok (.ireturn, 1) := by decide +kernel
set_option maxRecDepth 20000 in
theorem ggL_areRanks_X8_rank : GoodIn wsL_areRanks wsX8_rank := goodIn_ca (goodIn_r _ [5, 6, 7, 8, 9, 4, 10, 11, 12, 13, 14, 15, 16, 17, 18, 19, 20, 21, 22, 23, 24, 25, 26, 27, 28, 29, 30, 31, 32, 33, 34, 35, 36, 37, 38, 39, 40, 41, 42, 43, 44, 45, 46, 47, 48, 49, 50, 51, 52, 53, 54, 55, 56, 57, 58, 59, 60, 69, 70, 71, 72, 73, 74, 75, 76, 77, 78, 79, 80] (by decide +kernel) (by decide +kernel)) (goodIn_sub (fun _ h => List.mem_cons_of_mem _ (List.mem_append_right _ h)) (by decide +kernel))
set_option maxRecDepth 20000 in
theorem gL_areRanks_X8_rank : GoodIn wsL_areRanks (wsV RL 89 RX8 yX8_rank wsX8_rank) := goodIn_app (goodIn_of _ (by decide +kernel)) ggL_areRanks_X8_rank
set_option maxRecDepth 20000 in
theorem ggL_areRanks_X8_overtook : GoodIn wsL_areRanks wsX8_overtook := goodIn_ca (goodIn_r _ [64, 6, 7, 8, 9, 4, 10, 11, 12, 13, 65, 66, 67, 17, 68, 19, 24, 20, 21, 22, 23, 25, 26, 27, 28, 29, 30, 31, 57, 58, 59, 35, 60, 37, 42, 38, 39, 40, 41, 43, 44, 45, 46, 69, 70, 71, 72, 73, 74, 75, 76, 77, 78, 79, 80] (by decide +kernel) (by decide +kernel)) (goodIn_sub (fun _ h => List.mem_cons_of_mem _ (List.mem_append_right _ h)) (by decide +kernel))
set_option maxRecDepth 20000 in
theorem gL_areRanks_X8_overtook : GoodIn wsL_areRanks (wsV RL 92 RX8 yX8_overtook wsX8_overtook) := goodIn_app (goodIn_of _ (by decide +kernel)) ggL_areRanks_X8_overtook
theorem dL_areRanks_0 : decode cL_areRanks 0 = .ok (.iconst 1, 1) := by decide +kernel
theorem dL_areRanks_1 : decode cL_areRanks 1 = .ok (.istore_n 2, 1) := by decide +kernel
theorem dL_areRanks_2 : decode cL_areRanks 2 = .ok (.iconst 0, 1) := by decide +kernel
theorem dL_areRanks_3 : decode cL_areRanks 3 = .ok (.istore_n 3, 1) := by decide +kernel
theorem dL_areRanks_4 : decode cL_areRanks 4 = .ok (.iload_n 3, 1) := by decide +kernel
theorem dL_areRanks_5 : decode cL_areRanks 5 = .ok (.iload_n 1, 1) := by decide +kernel
theorem dL_areRanks_6 : decode cL_areRanks 6 = .ok (.if_icmp .ge 110, 3) := by decide +kernel
theorem dL_areRanks_9 : decode cL_areRanks 9 = .ok (.iload_n 2, 1) := by decide +kernel
theorem dL_areRanks_10 : decode cL_areRanks 10 = .ok (.ifCond .eq 106, 3) := by decide +kernel
theorem dL_areRanks_13 : decode cL_areRanks 13 = .ok (.aload_n 0, 1) := by decide +kernel
theorem dL_areRanks_14 : decode cL_areRanks 14 = .ok (.iload_n 3, 1) := by decide +kernel
theorem dL_areRanks_15 : decode cL_areRanks 15 = .ok (.invokevirtual 89, 3) := by decide +kernel
theorem dL_areRanks_18 : decode cL_areRanks 18 = .ok (.istore 4, 2) := by decide +kernel
theorem dL_areRanks_20 : decode cL_areRanks 20 = .ok (.iconst 0, 1) := by decide +kernel
theorem dL_areRanks_21 : decode cL_areRanks 21 = .ok (.istore 5, 2) := by decide +kernel
theorem dL_areRanks_23 : decode cL_areRanks 23 = .ok (.iconst 0, 1) := by decide +kernel
theorem dL_areRanks_24 : decode cL_areRanks 24 = .ok (.istore 6, 2) := by decide +kernel
theorem dL_areRanks_26 : decode cL_areRanks 26 = .ok (.iload 6, 2) := by decide +kernel
theorem dL_areRanks_28 : decode cL_areRanks 28 = .ok (.iload_n 1, 1) := by decide +kernel
theorem dL_areRanks_29 : decode cL_areRanks 29 = .ok (.if_icmp .ge 39, 3) := by decide +kernel
theorem dL_areRanks_32 : decode cL_areRanks 32 = .ok (.iload 5, 2) := by decide +kernel
theorem dL_areRanks_34 : decode cL_areRanks 34 = .ok (.aload_n 0, 1) := by decide +kernel
theorem dL_areRanks_35 : decode cL_areRanks 35 = .ok (.iload 6, 2) := by decide +kernel
theorem dL_areRanks_37 : decode cL_areRanks 37 = .ok (.invokevirtual 89, 3) := by decide +kernel
theorem dL_areRanks_40 : decode cL_areRanks 40 = .ok (.ifCond .lt 18, 3) := by decide +kernel
theorem dL_areRanks_43 : decode cL_areRanks 43 = .ok (.aload_n 0, 1) := by decide +kernel
theorem dL_areRanks_44 : decode cL_areRanks 44 = .ok (.iload 6, 2) := by decide +kernel
theorem dL_areRanks_46 : decode cL_areRanks 46 = .ok (.invokevirtual 89, 3) := by decide +kernel
theorem dL_areRanks_49 : decode cL_areRanks 49 = .ok (.iload 4, 2) := by decide +kernel
theorem dL_areRanks_51 : decode cL_areRanks 51 = .ok (.if_icmp .ge 7, 3) := by decide +kernel
theorem dL_areRanks_54 : decode cL_areRanks 54 = .ok (.iconst 1, 1) := by decide +kernel
theorem dL_areRanks_55 : decode cL_areRanks 55 = .ok (.goto 4, 3) := by decide +kernel
theorem dL_areRanks_58 : decode cL_areRanks 58 = .ok (.iconst 0, 1) := by decide +kernel
theorem dL_areRanks_59 : decode cL_areRanks 59 = .ok (.iadd, 1) := by decide +kernel
theorem dL_areRanks_60 : decode cL_areRanks 60 = .ok (.istore 5, 2) := by decide +kernel
theorem dL_areRanks_62 : decode cL_areRanks 62 = .ok (.iinc 6 1, 3) := by decide +kernel
theorem dL_areRanks_65 : decode cL_areRanks 65 = .ok (.goto (-39), 3) := by decide +kernel
theorem dL_areRanks_68 : decode cL_areRanks 68 = .ok (.iload 4, 2) := by decide +kernel
theorem dL_areRanks_70 : decode cL_areRanks 70 = .ok (.ifCond .ge 19, 3) := by decide +kernel
theorem dL_areRanks_73 : decode cL_areRanks 73 = .ok (.aload_n 0, 1) := by decide +kernel
theorem dL_areRanks_74 : decode cL_areRanks 74 = .ok (.iload_n 3, 1) := by decide +kernel
theorem dL_areRanks_75 : decode cL_areRanks 75 = .ok (.invokevirtual 92, 3) := by decide +kernel
theorem dL_areRanks_78 : decode cL_areRanks 78 = .ok (.ifCond .ne 7, 3) := by decide +kernel
theorem dL_areRanks_81 : decode cL_areRanks 81 = .ok (.iconst 1, 1) := by decide +kernel
theorem dL_areRanks_82 : decode cL_areRanks 82 = .ok (.goto 27, 3) := by decide +kernel
theorem dL_areRanks_85 : decode cL_areRanks 85 = .ok (.iconst 0, 1) := by decide +kernel
theorem dL_areRanks_86 : decode cL_areRanks 86 = .ok (.goto 23, 3) := by decide +kernel
theorem dL_areRanks_89 : decode cL_areRanks 89 = .ok (.iload 5, 2) := by decide +kernel
theorem dL_areRanks_91 : decode cL_areRanks 91 = .ok (.iload 4, 2) := by decide +kernel
theorem dL_areRanks_93 : decode cL_areRanks 93 = .ok (.if_icmp .ne 15, 3) := by decide +kernel
theorem dL_areRanks_96 : decode cL_areRanks 96 = .ok (.aload_n 0, 1) := by decide +kernel
theorem dL_areRanks_97 : decode cL_areRanks 97 = .ok (.iload_n 3, 1) := by decide +kernel
theorem dL_areRanks_98 : decode cL_areRanks 98 = .ok (.invokevirtual 92, 3) := by decide +kernel
theorem dL_areRanks_101 : decode cL_areRanks 101 = .ok (.ifCond .lt 7, 3) := by decide +kernel
theorem dL_areRanks_104 : decode cL_areRanks 104 = .ok (.iconst 1, 1) := by decide +kernel
theorem dL_areRanks_105 : decode cL_areRanks 105 = .ok (.goto 4, 3) := by decide +kernel
theorem dL_areRanks_108 : decode cL_areRanks 108 = .ok (.iconst 0, 1) := by decide +kernel
theorem dL_areRanks_109 : decode cL_areRanks 109 = .ok (.istore_n 2, 1) := by decide +kernel
theorem dL_areRanks_110 : decode cL_areRanks 110 = .ok (.iinc 3 1, 3) := by decide +kernel
theorem dL_areRanks_113 : decode cL_areRanks 113 = .ok (.goto (-109), 3) := by decide +kernel
theorem dL_areRanks_116 : decode cL_areRanks 116 = .ok (.iload_n 2, 1) := by decide +kernel
theorem dL_areRanks_117 : decode cL_areRanks 117 = .ok (.ireturn, 1) := by decide +kernel
set_option maxRecDepth 20000 in
theorem ggL_law_X8_init : GoodIn wsL_law wsX8_init := goodIn_r _ [11, 12, 13, 14, 15, 16, 17, 18, 19, 20, 21, 22, 23, 24, 25, 26, 27, 28, 29, 30, 31, 32, 33, 34, 35, 36, 37, 38, 39, 40, 41, 42, 43, 44, 45, 46, 47, 48, 49, 50, 51, 52, 53, 54, 55, 56, 57, 58, 59, 60, 61, 62, 63, 64, 65, 66, 67, 68, 69, 70, 71, 72, 73, 74, 75, 76, 77, 78, 79, 80, 81, 82, 83, 84, 85, 86, 87, 88, 89, 90, 91, 92, 93, 94, 95, 96, 97, 98, 99, 100, 101, 102, 103, 104, 105, 106, 107, 108, 109, 110, 111, 112, 113, 114, 115, 116, 117, 118, 119, 120, 121, 122, 123, 124, 125, 126, 127, 128, 129, 130, 131, 132, 133, 134, 135, 136, 660, 661, 662, 663, 664, 665, 666, 667, 668, 669, 670, 656, 657, 658, 659, 671, 672, 673, 674, 675, 676, 677, 678, 679, 680, 681, 682, 683, 684, 685, 686, 687, 688, 689, 690, 691, 692, 693, 694, 695, 696, 697, 698] (by decide +kernel) (by decide +kernel)
set_option maxRecDepth 20000 in
theorem gL_law_X8_init : GoodIn wsL_law (wsX8_init) := ggL_law_X8_init
set_option maxRecDepth 20000 in
theorem ggL_law_L_draw : GoodIn wsL_law wsL_draw := goodIn_r _ [140, 141, 142] (by decide +kernel) (by decide +kernel)
set_option maxRecDepth 20000 in
theorem gL_law_L_draw : GoodIn wsL_law (va_wsS RL 96 yL_draw wsL_draw) := goodIn_app (goodIn_of _ (by decide +kernel)) ggL_law_L_draw
set_option maxRecDepth 20000 in
theorem ggL_law_L_ask : GoodIn wsL_law wsL_ask := goodIn_ca (goodIn_ca (goodIn_ca (goodIn_r _ [145, 146, 147, 148, 149, 150, 4, 151, 152, 139, 153, 154, 155, 156, 2, 157, 158, 159, 160, 161, 162, 27, 26, 163, 63, 64, 65, 164, 165, 166, 167, 168, 169, 25, 170, 132, 171, 172, 173, 50, 174, 94, 175, 176, 177, 178, 18, 179, 180, 181, 182, 183, 184, 185, 186, 187, 17, 188, 35, 189, 190, 191, 34, 192, 68, 67, 193, 194, 195, 196, 197, 198, 199, 200, 56, 201, 202, 203, 204, 39, 47, 205, 206, 38, 207, 208, 209, 210, 211, 212, 213, 214, 215, 216, 217, 218, 219, 220, 221, 222, 223, 224, 225, 226, 227, 228, 229, 230, 231, 232, 233, 234, 235, 236, 237, 238, 239, 240, 74, 75, 76, 241, 242, 243, 46, 244, 102, 103, 245, 246, 247, 248, 249, 250, 251, 252, 253, 254, 255, 256, 257, 258, 259, 260, 261, 55, 262, 263, 264, 265, 266, 267, 268, 269, 270, 271, 272, 273, 274, 57, 275, 276, 277, 278, 279, 280, 281, 282, 283, 284, 285, 286, 101, 287, 288, 289, 290, 291, 292, 293, 294, 295, 296, 297, 298, 299, 43, 300, 301, 302, 42, 303, 84, 304, 305, 306, 307, 86, 87, 308, 309, 310, 311, 312, 313, 314, 315, 95, 316, 317, 318, 319, 320, 321, 322, 323, 324, 325, 326, 327, 328, 329, 330, 331, 332, 333, 334, 335, 336, 337, 338, 339, 340, 341, 342, 343, 51, 52, 53, 344, 345, 346, 347, 348, 349, 350, 351, 352, 353, 354, 355, 356, 357, 358, 359, 360, 361, 362, 363, 364, 365, 366, 367, 368, 369, 370, 371, 372, 373, 374, 375, 376, 377, 378, 379, 380, 381, 382, 383, 54, 384, 385, 386, 387, 388, 389, 390, 391, 392, 393, 104, 105, 394, 395, 396, 397, 398, 399, 400, 401, 402, 403, 404, 22, 405, 406, 407, 21, 408, 113, 409, 410, 411, 412, 413, 414, 415, 416, 417, 122, 418, 419, 420, 421, 422, 423, 424, 425, 426, 427, 428, 429, 430, 431, 432, 433, 434, 435, 121, 436, 437, 438, 439, 440, 115, 116, 441, 442, 443, 444, 445, 446, 447, 448, 449, 450, 451, 452, 453, 454, 455, 456, 457, 458, 459, 118, 460, 461, 462, 463, 464, 465, 466, 467, 468, 469, 470, 471, 472, 473, 474, 475, 476, 477, 478, 479, 480, 119, 120, 117, 481, 482, 483, 484, 485, 486, 487, 488, 489, 490, 491, 492, 493, 494, 495, 496, 497, 498, 499, 500, 501, 502, 503, 504, 505, 506, 507, 130, 508, 509, 510, 511, 512, 513, 514, 515, 516, 517, 518, 519, 520, 521, 522, 523, 524, 525, 526, 527, 528, 529, 530, 133, 531, 532, 533, 534, 134, 535, 536, 537, 538, 539, 540, 541, 542, 543, 544, 545, 546, 547, 548, 549, 656, 657, 658, 659, 679, 680, 681, 682, 697, 698, 660, 661, 662, 663, 664, 665, 666, 667, 668, 669, 670, 683, 684, 685, 686, 687, 688, 692, 693, 694, 695, 696, 689, 690, 691, 671, 672, 673, 674, 675, 676, 677, 678] (by decide +kernel) (by decide +kernel)) (goodIn_sub (fun _ h => List.mem_append_left _ (List.mem_append_left _ (List.mem_append_right _ h))) (by decide +kernel))) (goodIn_sub (fun _ h => List.mem_append_left _ (List.mem_append_right _ h)) (by decide +kernel))) (goodIn_sub (fun _ h => List.mem_append_right _ h) (by decide +kernel))
set_option maxRecDepth 20000 in
theorem gL_law_L_ask : GoodIn wsL_law (va_wsS RL 100 yL_ask wsL_ask) := goodIn_app (goodIn_of _ (by decide +kernel)) ggL_law_L_ask
set_option maxRecDepth 20000 in
theorem ggL_law_X8_place : GoodIn wsL_law wsX8_place := goodIn_ca (goodIn_r _ [553, 18, 179, 180, 181, 2, 182, 183, 184, 27, 185, 186, 187, 17, 188, 35, 189, 190, 191, 34, 192, 68, 67, 656, 657, 658, 659, 660, 661, 662, 663, 664, 665, 666, 667, 668, 669, 670, 683, 684] (by decide +kernel) (by decide +kernel)) (goodIn_sub (fun _ h => List.mem_append_right _ h) (by decide +kernel))
set_option maxRecDepth 20000 in
theorem gL_law_X8_place : GoodIn wsL_law (wsV RL 74 RX8 yX8_place wsX8_place) := goodIn_app (goodIn_of _ (by decide +kernel)) ggL_law_X8_place
set_option maxRecDepth 20000 in
theorem ggL_law_X8_chart : GoodIn wsL_law wsX8_chart := goodIn_ca (goodIn_r _ [557, 183, 184, 18, 271, 272, 273, 17, 274, 57, 558, 559, 2, 560, 561, 562, 563, 564, 54, 565, 337, 338, 50, 339, 94, 95, 656, 657, 658, 659, 660, 661, 662, 663, 664, 665, 666, 667, 668, 669, 670, 697, 698] (by decide +kernel) (by decide +kernel)) (goodIn_sub (fun _ h => List.mem_append_right _ h) (by decide +kernel))
set_option maxRecDepth 20000 in
theorem gL_law_X8_chart : GoodIn wsL_law (wsV RL 103 RX8 yX8_chart wsX8_chart) := goodIn_app (goodIn_of _ (by decide +kernel)) ggL_law_X8_chart
set_option maxRecDepth 20000 in
theorem ggL_law_L_areResults : GoodIn wsL_law wsL_areResults := goodIn_ca (goodIn_ca (goodIn_r _ [568, 569, 570, 571, 2, 572, 22, 558, 559, 560, 183, 184, 573, 574, 575, 576, 160, 161, 414, 415, 416, 21, 417, 122, 577, 578, 579, 580, 119, 436, 293, 294, 34, 295, 67, 224, 225, 226, 227, 68, 581, 582, 583, 584, 585, 586, 587, 588, 118, 117, 455, 337, 338, 50, 339, 94, 95, 656, 657, 658, 659, 671, 672, 673, 674, 675, 676, 677, 678, 683, 684, 697, 698] (by decide +kernel) (by decide +kernel)) (goodIn_sub (fun _ h => List.mem_append_right _ h) (by decide +kernel))) (goodIn_sub (fun _ h => List.mem_append_left _ (List.mem_append_right _ h)) (by decide +kernel))
set_option maxRecDepth 20000 in
theorem gL_law_L_areResults : GoodIn wsL_law (va_wsS RL 107 yL_areResults wsL_areResults) := goodIn_app (goodIn_of _ (by decide +kernel)) ggL_law_L_areResults
set_option maxRecDepth 20000 in
theorem ggL_law_X8_regatta : GoodIn wsL_law wsX8_regatta := goodIn_r _ [592, 22, 593, 594, 595, 21, 596, 122, 113, 121, 481, 309, 310, 34, 311, 68, 491, 492, 493, 494, 115, 116, 118, 495, 313, 314, 50, 315, 94, 95, 656, 657, 658, 659, 671, 672, 673, 674, 675, 676, 677, 678, 683, 684, 697, 698] (by decide +kernel) (by decide +kernel)
set_option maxRecDepth 20000 in
theorem gL_law_X8_regatta : GoodIn wsL_law (wsV RL 111 RX8 yX8_regatta wsX8_regatta) := goodIn_app (goodIn_of _ (by decide +kernel)) ggL_law_X8_regatta
set_option maxRecDepth 20000 in
theorem ggL_law_X8_rank : GoodIn wsL_law wsX8_rank := goodIn_ca (goodIn_r _ [600, 26, 179, 180, 181, 2, 182, 183, 184, 27, 601, 602, 603, 25, 604, 130, 605, 606, 607, 608, 133, 535, 337, 338, 50, 339, 94, 95, 609, 229, 230, 34, 231, 68, 610, 293, 294, 295, 67, 224, 225, 226, 227, 531, 532, 533, 534, 132, 134, 536, 524, 525, 526, 508, 190, 191, 192, 656, 657, 658, 659, 679, 680, 681, 682, 697, 698, 683, 684] (by decide +kernel) (by decide +kernel)) (goodIn_sub (fun _ h => List.mem_append_right _ h) (by decide +kernel))
set_option maxRecDepth 20000 in
theorem gL_law_X8_rank : GoodIn wsL_law (wsV RL 89 RX8 yX8_rank wsX8_rank) := goodIn_app (goodIn_of _ (by decide +kernel)) ggL_law_X8_rank
set_option maxRecDepth 20000 in
theorem ggL_law_L_isChart : GoodIn wsL_law wsL_isChart := goodIn_ca (goodIn_ca (goodIn_r _ [613, 550, 551, 552, 2, 553, 18, 179, 180, 181, 182, 183, 184, 27, 185, 186, 187, 17, 188, 35, 189, 190, 191, 34, 192, 68, 67, 614, 615, 616, 617, 618, 619, 620, 621, 39, 622, 623, 624, 38, 625, 77, 74, 75, 76, 626, 309, 310, 311, 228, 229, 230, 231, 627, 293, 294, 295, 224, 225, 226, 227, 628, 206, 207, 208, 209, 64, 210, 211, 212, 213, 214, 215, 216, 217, 218, 219, 220, 221, 222, 223, 232, 233, 234, 235, 236, 629, 630, 631, 632, 164, 165, 166, 158, 159, 633, 634, 635, 636, 51, 52, 53, 47, 565, 337, 338, 50, 339, 94, 95, 637, 638, 639, 46, 640, 104, 389, 641, 642, 643, 644, 105, 656, 657, 658, 659, 660, 661, 662, 663, 664, 665, 666, 667, 668, 669, 670, 683, 684, 685, 686, 687, 688, 697, 698, 692, 693, 694, 695, 696] (by decide +kernel) (by decide +kernel)) (goodIn_sub (fun _ h => List.mem_append_right _ h) (by decide +kernel))) (goodIn_sub (fun _ h => List.mem_append_left _ (List.mem_append_left _ (List.mem_append_right _ h))) (by decide +kernel))
set_option maxRecDepth 20000 in
theorem gL_law_L_isChart : GoodIn wsL_law (va_wsS RL 117 yL_isChart wsL_isChart) := goodIn_app (goodIn_of _ (by decide +kernel)) ggL_law_L_isChart
set_option maxRecDepth 20000 in
theorem ggL_law_L_areRanks : GoodIn wsL_law wsL_areRanks := goodIn_ca (goodIn_r _ [647, 597, 598, 599, 2, 600, 26, 179, 180, 181, 182, 183, 184, 27, 601, 602, 603, 25, 604, 130, 605, 606, 607, 608, 133, 535, 337, 338, 50, 339, 94, 95, 609, 229, 230, 34, 231, 68, 610, 293, 294, 295, 67, 224, 225, 226, 227, 531, 532, 533, 534, 132, 134, 536, 524, 525, 526, 508, 190, 191, 192, 648, 649, 650, 651, 652, 653, 654, 655, 656, 657, 658, 659, 679, 680, 681, 682, 697, 698, 683, 684] (by decide +kernel) (by decide +kernel)) (goodIn_sub (fun _ h => List.mem_append_right _ h) (by decide +kernel))
set_option maxRecDepth 20000 in
theorem gL_law_L_areRanks : GoodIn wsL_law (va_wsS RL 121 yL_areRanks wsL_areRanks) := goodIn_app (goodIn_of _ (by decide +kernel)) ggL_law_L_areRanks
theorem dL_law_0 : decode cL_law 0 = .ok (.new 8, 3) := by decide +kernel
theorem dL_law_3 : decode cL_law 3 = .ok (.dup, 1) := by decide +kernel
theorem dL_law_4 : decode cL_law 4 = .ok (.invokespecial 95, 3) := by decide +kernel
theorem dL_law_7 : decode cL_law 7 = .ok (.astore_n 1, 1) := by decide +kernel
theorem dL_law_8 : decode cL_law 8 = .ok (.iconst 0, 1) := by decide +kernel
theorem dL_law_9 : decode cL_law 9 = .ok (.istore_n 2, 1) := by decide +kernel
theorem dL_law_10 : decode cL_law 10 = .ok (.iconst 0, 1) := by decide +kernel
theorem dL_law_11 : decode cL_law 11 = .ok (.istore_n 3, 1) := by decide +kernel
theorem dL_law_12 : decode cL_law 12 = .ok (.iconst 0, 1) := by decide +kernel
theorem dL_law_13 : decode cL_law 13 = .ok (.istore 4, 2) := by decide +kernel
theorem dL_law_15 : decode cL_law 15 = .ok (.iconst (-1), 1) := by decide +kernel
theorem dL_law_16 : decode cL_law 16 = .ok (.istore 5, 2) := by decide +kernel
theorem dL_law_18 : decode cL_law 18 = .ok (.iconst 0, 1) := by decide +kernel
theorem dL_law_19 : decode cL_law 19 = .ok (.istore 6, 2) := by decide +kernel
theorem dL_law_21 : decode cL_law 21 = .ok (.iconst 0, 1) := by decide +kernel
theorem dL_law_22 : decode cL_law 22 = .ok (.istore 7, 2) := by decide +kernel
theorem dL_law_24 : decode cL_law 24 = .ok (.iconst 0, 1) := by decide +kernel
theorem dL_law_25 : decode cL_law 25 = .ok (.istore 8, 2) := by decide +kernel
theorem dL_law_27 : decode cL_law 27 = .ok (.iconst 0, 1) := by decide +kernel
theorem dL_law_28 : decode cL_law 28 = .ok (.istore 9, 2) := by decide +kernel
theorem dL_law_30 : decode cL_law 30 = .ok (.iconst 1, 1) := by decide +kernel
theorem dL_law_31 : decode cL_law 31 = .ok (.istore 10, 2) := by decide +kernel
theorem dL_law_33 : decode cL_law 33 = .ok (.aload_n 0, 1) := by decide +kernel
theorem dL_law_34 : decode cL_law 34 = .ok (.arraylength, 1) := by decide +kernel
theorem dL_law_35 : decode cL_law 35 = .ok (.bipush 60, 2) := by decide +kernel
theorem dL_law_37 : decode cL_law 37 = .ok (.if_icmp .ge 9, 3) := by decide +kernel
theorem dL_law_40 : decode cL_law 40 = .ok (.sipush 300, 3) := by decide +kernel
theorem dL_law_43 : decode cL_law 43 = .ok (.goto 20, 3) := by decide +kernel
theorem dL_law_46 : decode cL_law 46 = .ok (.aload_n 0, 1) := by decide +kernel
theorem dL_law_47 : decode cL_law 47 = .ok (.arraylength, 1) := by decide +kernel
theorem dL_law_48 : decode cL_law 48 = .ok (.bipush 110, 2) := by decide +kernel
theorem dL_law_50 : decode cL_law 50 = .ok (.if_icmp .ge 10, 3) := by decide +kernel
theorem dL_law_53 : decode cL_law 53 = .ok (.iconst 4, 1) := by decide +kernel
theorem dL_law_54 : decode cL_law 54 = .ok (.aload_n 0, 1) := by decide +kernel
theorem dL_law_55 : decode cL_law 55 = .ok (.arraylength, 1) := by decide +kernel
theorem dL_law_56 : decode cL_law 56 = .ok (.imul, 1) := by decide +kernel
theorem dL_law_57 : decode cL_law 57 = .ok (.goto 6, 3) := by decide +kernel
theorem dL_law_60 : decode cL_law 60 = .ok (.sipush 400, 3) := by decide +kernel
theorem dL_law_63 : decode cL_law 63 = .ok (.istore 11, 2) := by decide +kernel
theorem dL_law_65 : decode cL_law 65 = .ok (.iconst 0, 1) := by decide +kernel
theorem dL_law_66 : decode cL_law 66 = .ok (.istore 12, 2) := by decide +kernel
theorem dL_law_68 : decode cL_law 68 = .ok (.iload 12, 2) := by decide +kernel
theorem dL_law_70 : decode cL_law 70 = .ok (.iload 11, 2) := by decide +kernel
theorem dL_law_72 : decode cL_law 72 = .ok (.if_icmp .ge 1440, 3) := by decide +kernel
theorem dL_law_75 : decode cL_law 75 = .ok (.iload 10, 2) := by decide +kernel
theorem dL_law_77 : decode cL_law 77 = .ok (.ifCond .eq 1435, 3) := by decide +kernel
theorem dL_law_80 : decode cL_law 80 = .ok (.aload_n 0, 1) := by decide +kernel
theorem dL_law_81 : decode cL_law 81 = .ok (.iload 12, 2) := by decide +kernel
theorem dL_law_83 : decode cL_law 83 = .ok (.invokestatic 96, 3) := by decide +kernel
theorem dL_law_86 : decode cL_law 86 = .ok (.iconst 5, 1) := by decide +kernel
theorem dL_law_87 : decode cL_law 87 = .ok (.ishr, 1) := by decide +kernel
theorem dL_law_88 : decode cL_law 88 = .ok (.ldc 99, 2) := by decide +kernel
theorem dL_law_90 : decode cL_law 90 = .ok (.iand, 1) := by decide +kernel
theorem dL_law_91 : decode cL_law 91 = .ok (.istore 13, 2) := by decide +kernel
theorem dL_law_93 : decode cL_law 93 = .ok (.iload 12, 2) := by decide +kernel
theorem dL_law_95 : decode cL_law 95 = .ok (.bipush 14, 2) := by decide +kernel
theorem dL_law_97 : decode cL_law 97 = .ok (.if_icmp .ge 10, 3) := by decide +kernel
theorem dL_law_100 : decode cL_law 100 = .ok (.iload 12, 2) := by decide +kernel
theorem dL_law_102 : decode cL_law 102 = .ok (.iconst 2, 1) := by decide +kernel
theorem dL_law_103 : decode cL_law 103 = .ok (.irem, 1) := by decide +kernel
theorem dL_law_104 : decode cL_law 104 = .ok (.goto 12, 3) := by decide +kernel
theorem dL_law_107 : decode cL_law 107 = .ok (.aload_n 0, 1) := by decide +kernel
theorem dL_law_108 : decode cL_law 108 = .ok (.iload 12, 2) := by decide +kernel
theorem dL_law_110 : decode cL_law 110 = .ok (.invokestatic 96, 3) := by decide +kernel
theorem dL_law_113 : decode cL_law 113 = .ok (.bipush 31, 2) := by decide +kernel
theorem dL_law_115 : decode cL_law 115 = .ok (.iand, 1) := by decide +kernel
theorem dL_law_116 : decode cL_law 116 = .ok (.istore 14, 2) := by decide +kernel
theorem dL_law_118 : decode cL_law 118 = .ok (.iload_n 2, 1) := by decide +kernel
theorem dL_law_119 : decode cL_law 119 = .ok (.ifCond .ne 7, 3) := by decide +kernel
theorem dL_law_122 : decode cL_law 122 = .ok (.iconst 0, 1) := by decide +kernel
theorem dL_law_123 : decode cL_law 123 = .ok (.goto 22, 3) := by decide +kernel
theorem dL_law_126 : decode cL_law 126 = .ok (.iload 12, 2) := by decide +kernel
theorem dL_law_128 : decode cL_law 128 = .ok (.bipush 14, 2) := by decide +kernel
theorem dL_law_130 : decode cL_law 130 = .ok (.if_icmp .ge 9, 3) := by decide +kernel
theorem dL_law_133 : decode cL_law 133 = .ok (.iload_n 2, 1) := by decide +kernel
theorem dL_law_134 : decode cL_law 134 = .ok (.iconst 1, 1) := by decide +kernel
theorem dL_law_135 : decode cL_law 135 = .ok (.isub, 1) := by decide +kernel
theorem dL_law_136 : decode cL_law 136 = .ok (.goto 9, 3) := by decide +kernel
theorem dL_law_139 : decode cL_law 139 = .ok (.iload 13, 2) := by decide +kernel
theorem dL_law_141 : decode cL_law 141 = .ok (.iconst 1, 1) := by decide +kernel
theorem dL_law_142 : decode cL_law 142 = .ok (.ishr, 1) := by decide +kernel
theorem dL_law_143 : decode cL_law 143 = .ok (.iload_n 2, 1) := by decide +kernel
theorem dL_law_144 : decode cL_law 144 = .ok (.irem, 1) := by decide +kernel
theorem dL_law_145 : decode cL_law 145 = .ok (.istore 15, 2) := by decide +kernel
theorem dL_law_147 : decode cL_law 147 = .ok (.iload 14, 2) := by decide +kernel
theorem dL_law_149 : decode cL_law 149 = .ok (.ifCond .ne 45, 3) := by decide +kernel
theorem dL_law_152 : decode cL_law 152 = .ok (.iload_n 2, 1) := by decide +kernel
theorem dL_law_153 : decode cL_law 153 = .ok (.bipush 24, 2) := by decide +kernel
theorem dL_law_155 : decode cL_law 155 = .ok (.if_icmp .ge 39, 3) := by decide +kernel
theorem dL_law_158 : decode cL_law 158 = .ok (.aload_n 1, 1) := by decide +kernel
theorem dL_law_159 : decode cL_law 159 = .ok (.iconst 0, 1) := by decide +kernel
theorem dL_law_160 : decode cL_law 160 = .ok (.iload 13, 2) := by decide +kernel
theorem dL_law_162 : decode cL_law 162 = .ok (.iconst 4, 1) := by decide +kernel
theorem dL_law_163 : decode cL_law 163 = .ok (.irem, 1) := by decide +kernel
theorem dL_law_164 : decode cL_law 164 = .ok (.bipush 15, 2) := by decide +kernel
theorem dL_law_166 : decode cL_law 166 = .ok (.iload 13, 2) := by decide +kernel
theorem dL_law_168 : decode cL_law 168 = .ok (.iconst 2, 1) := by decide +kernel
theorem dL_law_169 : decode cL_law 169 = .ok (.ishr, 1) := by decide +kernel
theorem dL_law_170 : decode cL_law 170 = .ok (.bipush 66, 2) := by decide +kernel
theorem dL_law_172 : decode cL_law 172 = .ok (.irem, 1) := by decide +kernel
theorem dL_law_173 : decode cL_law 173 = .ok (.iadd, 1) := by decide +kernel
theorem dL_law_174 : decode cL_law 174 = .ok (.invokestatic 100, 3) := by decide +kernel
theorem dL_law_177 : decode cL_law 177 = .ok (.iload_n 2, 1) := by decide +kernel
theorem dL_law_178 : decode cL_law 178 = .ok (.if_icmp .ne 7, 3) := by decide +kernel
theorem dL_law_181 : decode cL_law 181 = .ok (.iconst 1, 1) := by decide +kernel
theorem dL_law_182 : decode cL_law 182 = .ok (.goto 4, 3) := by decide +kernel
theorem dL_law_185 : decode cL_law 185 = .ok (.iconst 0, 1) := by decide +kernel
theorem dL_law_186 : decode cL_law 186 = .ok (.istore 10, 2) := by decide +kernel
theorem dL_law_188 : decode cL_law 188 = .ok (.iinc 2 1, 3) := by decide +kernel
theorem dL_law_191 : decode cL_law 191 = .ok (.goto 1315, 3) := by decide +kernel
theorem dL_law_194 : decode cL_law 194 = .ok (.iload 14, 2) := by decide +kernel
theorem dL_law_196 : decode cL_law 196 = .ok (.iconst 3, 1) := by decide +kernel
theorem dL_law_197 : decode cL_law 197 = .ok (.if_icmp .ge 69, 3) := by decide +kernel
theorem dL_law_200 : decode cL_law 200 = .ok (.iload 5, 2) := by decide +kernel
theorem dL_law_202 : decode cL_law 202 = .ok (.ifCond .ge 16, 3) := by decide +kernel
theorem dL_law_205 : decode cL_law 205 = .ok (.aload_n 1, 1) := by decide +kernel
theorem dL_law_206 : decode cL_law 206 = .ok (.iload 15, 2) := by decide +kernel
theorem dL_law_208 : decode cL_law 208 = .ok (.invokevirtual 74, 3) := by decide +kernel
theorem dL_law_211 : decode cL_law 211 = .ok (.ifCond .ge 7, 3) := by decide +kernel
theorem dL_law_214 : decode cL_law 214 = .ok (.iconst 1, 1) := by decide +kernel
theorem dL_law_215 : decode cL_law 215 = .ok (.goto 4, 3) := by decide +kernel
theorem dL_law_218 : decode cL_law 218 = .ok (.iconst 0, 1) := by decide +kernel
theorem dL_law_219 : decode cL_law 219 = .ok (.istore 16, 2) := by decide +kernel
theorem dL_law_221 : decode cL_law 221 = .ok (.aload_n 1, 1) := by decide +kernel
theorem dL_law_222 : decode cL_law 222 = .ok (.iconst 1, 1) := by decide +kernel
theorem dL_law_223 : decode cL_law 223 = .ok (.iload 15, 2) := by decide +kernel
theorem dL_law_225 : decode cL_law 225 = .ok (.iconst 0, 1) := by decide +kernel
theorem dL_law_226 : decode cL_law 226 = .ok (.invokestatic 100, 3) := by decide +kernel
theorem dL_law_229 : decode cL_law 229 = .ok (.iload 16, 2) := by decide +kernel
theorem dL_law_231 : decode cL_law 231 = .ok (.ifCond .eq 7, 3) := by decide +kernel
theorem dL_law_234 : decode cL_law 234 = .ok (.iload_n 3, 1) := by decide +kernel
theorem dL_law_235 : decode cL_law 235 = .ok (.goto 5, 3) := by decide +kernel
theorem dL_law_238 : decode cL_law 238 = .ok (.ldc 71, 2) := by decide +kernel
theorem dL_law_240 : decode cL_law 240 = .ok (.if_icmp .ne 7, 3) := by decide +kernel
theorem dL_law_243 : decode cL_law 243 = .ok (.iconst 1, 1) := by decide +kernel
theorem dL_law_244 : decode cL_law 244 = .ok (.goto 4, 3) := by decide +kernel
theorem dL_law_247 : decode cL_law 247 = .ok (.iconst 0, 1) := by decide +kernel
theorem dL_law_248 : decode cL_law 248 = .ok (.istore 10, 2) := by decide +kernel
theorem dL_law_250 : decode cL_law 250 = .ok (.iload_n 3, 1) := by decide +kernel
theorem dL_law_251 : decode cL_law 251 = .ok (.iload 16, 2) := by decide +kernel
theorem dL_law_253 : decode cL_law 253 = .ok (.ifCond .eq 7, 3) := by decide +kernel
theorem dL_law_256 : decode cL_law 256 = .ok (.iconst 1, 1) := by decide +kernel
theorem dL_law_257 : decode cL_law 257 = .ok (.goto 4, 3) := by decide +kernel
theorem dL_law_260 : decode cL_law 260 = .ok (.iconst 0, 1) := by decide +kernel
theorem dL_law_261 : decode cL_law 261 = .ok (.iadd, 1) := by decide +kernel
theorem dL_law_262 : decode cL_law 262 = .ok (.istore_n 3, 1) := by decide +kernel
theorem dL_law_263 : decode cL_law 263 = .ok (.goto 1243, 3) := by decide +kernel
theorem dL_law_266 : decode cL_law 266 = .ok (.iload 14, 2) := by decide +kernel
theorem dL_law_268 : decode cL_law 268 = .ok (.iconst 3, 1) := by decide +kernel
theorem dL_law_269 : decode cL_law 269 = .ok (.if_icmp .ne 97, 3) := by decide +kernel
theorem dL_law_272 : decode cL_law 272 = .ok (.iload 13, 2) := by decide +kernel
theorem dL_law_274 : decode cL_law 274 = .ok (.bipush 48, 2) := by decide +kernel
theorem dL_law_276 : decode cL_law 276 = .ok (.iand, 1) := by decide +kernel
theorem dL_law_277 : decode cL_law 277 = .ok (.ifCond .ne 89, 3) := by decide +kernel
theorem dL_law_280 : decode cL_law 280 = .ok (.aload_n 1, 1) := by decide +kernel
theorem dL_law_281 : decode cL_law 281 = .ok (.iload 15, 2) := by decide +kernel
theorem dL_law_283 : decode cL_law 283 = .ok (.invokevirtual 74, 3) := by decide +kernel
theorem dL_law_286 : decode cL_law 286 = .ok (.istore 16, 2) := by decide +kernel
theorem dL_law_288 : decode cL_law 288 = .ok (.iload 5, 2) := by decide +kernel
theorem dL_law_290 : decode cL_law 290 = .ok (.ifCond .ge 12, 3) := by decide +kernel
theorem dL_law_293 : decode cL_law 293 = .ok (.iload 16, 2) := by decide +kernel
theorem dL_law_295 : decode cL_law 295 = .ok (.ifCond .lt 7, 3) := by decide +kernel
theorem dL_law_298 : decode cL_law 298 = .ok (.iconst 1, 1) := by decide +kernel
theorem dL_law_299 : decode cL_law 299 = .ok (.goto 4, 3) := by decide +kernel
theorem dL_law_302 : decode cL_law 302 = .ok (.iconst 0, 1) := by decide +kernel
theorem dL_law_303 : decode cL_law 303 = .ok (.istore 17, 2) := by decide +kernel
theorem dL_law_305 : decode cL_law 305 = .ok (.aload_n 1, 1) := by decide +kernel
theorem dL_law_306 : decode cL_law 306 = .ok (.iconst 2, 1) := by decide +kernel
theorem dL_law_307 : decode cL_law 307 = .ok (.iload 15, 2) := by decide +kernel
theorem dL_law_309 : decode cL_law 309 = .ok (.iconst 0, 1) := by decide +kernel
theorem dL_law_310 : decode cL_law 310 = .ok (.invokestatic 100, 3) := by decide +kernel
theorem dL_law_313 : decode cL_law 313 = .ok (.iload 17, 2) := by decide +kernel
theorem dL_law_315 : decode cL_law 315 = .ok (.ifCond .eq 8, 3) := by decide +kernel
theorem dL_law_318 : decode cL_law 318 = .ok (.iload 16, 2) := by decide +kernel
theorem dL_law_320 : decode cL_law 320 = .ok (.goto 5, 3) := by decide +kernel
theorem dL_law_323 : decode cL_law 323 = .ok (.ldc 71, 2) := by decide +kernel
theorem dL_law_325 : decode cL_law 325 = .ok (.if_icmp .ne 22, 3) := by decide +kernel
theorem dL_law_328 : decode cL_law 328 = .ok (.iload 17, 2) := by decide +kernel
theorem dL_law_330 : decode cL_law 330 = .ok (.ifCond .eq 13, 3) := by decide +kernel
theorem dL_law_333 : decode cL_law 333 = .ok (.aload_n 1, 1) := by decide +kernel
theorem dL_law_334 : decode cL_law 334 = .ok (.iload 15, 2) := by decide +kernel
theorem dL_law_336 : decode cL_law 336 = .ok (.invokevirtual 74, 3) := by decide +kernel
theorem dL_law_339 : decode cL_law 339 = .ok (.iconst (-1), 1) := by decide +kernel
theorem dL_law_340 : decode cL_law 340 = .ok (.if_icmp .ne 7, 3) := by decide +kernel
theorem dL_law_343 : decode cL_law 343 = .ok (.iconst 1, 1) := by decide +kernel
theorem dL_law_344 : decode cL_law 344 = .ok (.goto 4, 3) := by decide +kernel
theorem dL_law_347 : decode cL_law 347 = .ok (.iconst 0, 1) := by decide +kernel
theorem dL_law_348 : decode cL_law 348 = .ok (.istore 10, 2) := by decide +kernel
theorem dL_law_350 : decode cL_law 350 = .ok (.iload_n 3, 1) := by decide +kernel
theorem dL_law_351 : decode cL_law 351 = .ok (.iload 17, 2) := by decide +kernel
theorem dL_law_353 : decode cL_law 353 = .ok (.ifCond .eq 7, 3) := by decide +kernel
theorem dL_law_356 : decode cL_law 356 = .ok (.iconst 1, 1) := by decide +kernel
theorem dL_law_357 : decode cL_law 357 = .ok (.goto 4, 3) := by decide +kernel
theorem dL_law_360 : decode cL_law 360 = .ok (.iconst 0, 1) := by decide +kernel
theorem dL_law_361 : decode cL_law 361 = .ok (.isub, 1) := by decide +kernel
theorem dL_law_362 : decode cL_law 362 = .ok (.istore_n 3, 1) := by decide +kernel
theorem dL_law_363 : decode cL_law 363 = .ok (.goto 1143, 3) := by decide +kernel
theorem dL_law_366 : decode cL_law 366 = .ok (.iload 14, 2) := by decide +kernel
theorem dL_law_368 : decode cL_law 368 = .ok (.iconst 4, 1) := by decide +kernel
theorem dL_law_369 : decode cL_law 369 = .ok (.if_icmp .ne 63, 3) := by decide +kernel
theorem dL_law_372 : decode cL_law 372 = .ok (.aload_n 1, 1) := by decide +kernel
theorem dL_law_373 : decode cL_law 373 = .ok (.iconst 3, 1) := by decide +kernel
theorem dL_law_374 : decode cL_law 374 = .ok (.iconst 3, 1) := by decide +kernel
theorem dL_law_375 : decode cL_law 375 = .ok (.iload 13, 2) := by decide +kernel
theorem dL_law_377 : decode cL_law 377 = .ok (.iconst 1, 1) := by decide +kernel
theorem dL_law_378 : decode cL_law 378 = .ok (.ishr, 1) := by decide +kernel
theorem dL_law_379 : decode cL_law 379 = .ok (.bipush 6, 2) := by decide +kernel
theorem dL_law_381 : decode cL_law 381 = .ok (.irem, 1) := by decide +kernel
theorem dL_law_382 : decode cL_law 382 = .ok (.iadd, 1) := by decide +kernel
theorem dL_law_383 : decode cL_law 383 = .ok (.iconst 0, 1) := by decide +kernel
theorem dL_law_384 : decode cL_law 384 = .ok (.invokestatic 100, 3) := by decide +kernel
theorem dL_law_387 : decode cL_law 387 = .ok (.istore 16, 2) := by decide +kernel
theorem dL_law_389 : decode cL_law 389 = .ok (.iload 5, 2) := by decide +kernel
theorem dL_law_391 : decode cL_law 391 = .ok (.ifCond .ge 24, 3) := by decide +kernel
theorem dL_law_394 : decode cL_law 394 = .ok (.iload 16, 2) := by decide +kernel
theorem dL_law_396 : decode cL_law 396 = .ok (.iconst 2, 1) := by decide +kernel
theorem dL_law_397 : decode cL_law 397 = .ok (.if_icmp .le 14, 3) := by decide +kernel
theorem dL_law_400 : decode cL_law 400 = .ok (.iload 16, 2) := by decide +kernel
theorem dL_law_402 : decode cL_law 402 = .ok (.bipush 9, 2) := by decide +kernel
theorem dL_law_404 : decode cL_law 404 = .ok (.if_icmp .ge 7, 3) := by decide +kernel
theorem dL_law_407 : decode cL_law 407 = .ok (.iconst 1, 1) := by decide +kernel
theorem dL_law_408 : decode cL_law 408 = .ok (.goto 19, 3) := by decide +kernel
theorem dL_law_411 : decode cL_law 411 = .ok (.iconst 0, 1) := by decide +kernel
theorem dL_law_412 : decode cL_law 412 = .ok (.goto 15, 3) := by decide +kernel
theorem dL_law_415 : decode cL_law 415 = .ok (.iload 16, 2) := by decide +kernel
theorem dL_law_417 : decode cL_law 417 = .ok (.ldc 71, 2) := by decide +kernel
theorem dL_law_419 : decode cL_law 419 = .ok (.if_icmp .ne 7, 3) := by decide +kernel
theorem dL_law_422 : decode cL_law 422 = .ok (.iconst 1, 1) := by decide +kernel
theorem dL_law_423 : decode cL_law 423 = .ok (.goto 4, 3) := by decide +kernel
theorem dL_law_426 : decode cL_law 426 = .ok (.iconst 0, 1) := by decide +kernel
theorem dL_law_427 : decode cL_law 427 = .ok (.istore 10, 2) := by decide +kernel
theorem dL_law_429 : decode cL_law 429 = .ok (.goto 1077, 3) := by decide +kernel
theorem dL_law_432 : decode cL_law 432 = .ok (.iload 14, 2) := by decide +kernel
theorem dL_law_434 : decode cL_law 434 = .ok (.bipush 7, 2) := by decide +kernel
theorem dL_law_436 : decode cL_law 436 = .ok (.if_icmp .ge 95, 3) := by decide +kernel
theorem dL_law_439 : decode cL_law 439 = .ok (.aload_n 1, 1) := by decide +kernel
theorem dL_law_440 : decode cL_law 440 = .ok (.iconst 4, 1) := by decide +kernel
theorem dL_law_441 : decode cL_law 441 = .ok (.iconst 0, 1) := by decide +kernel
theorem dL_law_442 : decode cL_law 442 = .ok (.iconst 0, 1) := by decide +kernel
theorem dL_law_443 : decode cL_law 443 = .ok (.invokestatic 100, 3) := by decide +kernel
theorem dL_law_446 : decode cL_law 446 = .ok (.istore 16, 2) := by decide +kernel
theorem dL_law_448 : decode cL_law 448 = .ok (.iload 5, 2) := by decide +kernel
theorem dL_law_450 : decode cL_law 450 = .ok (.ifCond .ge 19, 3) := by decide +kernel
theorem dL_law_453 : decode cL_law 453 = .ok (.iload_n 3, 1) := by decide +kernel
theorem dL_law_454 : decode cL_law 454 = .ok (.iconst 1, 1) := by decide +kernel
theorem dL_law_455 : decode cL_law 455 = .ok (.if_icmp .le 14, 3) := by decide +kernel
theorem dL_law_458 : decode cL_law 458 = .ok (.iload 4, 2) := by decide +kernel
theorem dL_law_460 : decode cL_law 460 = .ok (.bipush 16, 2) := by decide +kernel
theorem dL_law_462 : decode cL_law 462 = .ok (.if_icmp .ge 7, 3) := by decide +kernel
theorem dL_law_465 : decode cL_law 465 = .ok (.iconst 1, 1) := by decide +kernel
theorem dL_law_466 : decode cL_law 466 = .ok (.goto 4, 3) := by decide +kernel
theorem dL_law_469 : decode cL_law 469 = .ok (.iconst 0, 1) := by decide +kernel
theorem dL_law_470 : decode cL_law 470 = .ok (.istore 17, 2) := by decide +kernel
theorem dL_law_472 : decode cL_law 472 = .ok (.iload 17, 2) := by decide +kernel
theorem dL_law_474 : decode cL_law 474 = .ok (.ifCond .eq 24, 3) := by decide +kernel
theorem dL_law_477 : decode cL_law 477 = .ok (.iload 16, 2) := by decide +kernel
theorem dL_law_479 : decode cL_law 479 = .ok (.ifCond .le 15, 3) := by decide +kernel
theorem dL_law_482 : decode cL_law 482 = .ok (.iload 16, 2) := by decide +kernel
theorem dL_law_484 : decode cL_law 484 = .ok (.iload_n 3, 1) := by decide +kernel
theorem dL_law_485 : decode cL_law 485 = .ok (.iconst 2, 1) := by decide +kernel
theorem dL_law_486 : decode cL_law 486 = .ok (.idiv, 1) := by decide +kernel
theorem dL_law_487 : decode cL_law 487 = .ok (.if_icmp .gt 7, 3) := by decide +kernel
theorem dL_law_490 : decode cL_law 490 = .ok (.iconst 1, 1) := by decide +kernel
theorem dL_law_491 : decode cL_law 491 = .ok (.goto 19, 3) := by decide +kernel
theorem dL_law_494 : decode cL_law 494 = .ok (.iconst 0, 1) := by decide +kernel
theorem dL_law_495 : decode cL_law 495 = .ok (.goto 15, 3) := by decide +kernel
theorem dL_law_498 : decode cL_law 498 = .ok (.iload 16, 2) := by decide +kernel
theorem dL_law_500 : decode cL_law 500 = .ok (.ldc 71, 2) := by decide +kernel
theorem dL_law_502 : decode cL_law 502 = .ok (.if_icmp .ne 7, 3) := by decide +kernel
theorem dL_law_505 : decode cL_law 505 = .ok (.iconst 1, 1) := by decide +kernel
theorem dL_law_506 : decode cL_law 506 = .ok (.goto 4, 3) := by decide +kernel
theorem dL_law_509 : decode cL_law 509 = .ok (.iconst 0, 1) := by decide +kernel
theorem dL_law_510 : decode cL_law 510 = .ok (.istore 10, 2) := by decide +kernel
theorem dL_law_512 : decode cL_law 512 = .ok (.iload 17, 2) := by decide +kernel
theorem dL_law_514 : decode cL_law 514 = .ok (.ifCond .eq 10, 3) := by decide +kernel
theorem dL_law_517 : decode cL_law 517 = .ok (.iload 16, 2) := by decide +kernel
theorem dL_law_519 : decode cL_law 519 = .ok (.iconst 1, 1) := by decide +kernel
theorem dL_law_520 : decode cL_law 520 = .ok (.isub, 1) := by decide +kernel
theorem dL_law_521 : decode cL_law 521 = .ok (.goto 5, 3) := by decide +kernel
theorem dL_law_524 : decode cL_law 524 = .ok (.iload 5, 2) := by decide +kernel
theorem dL_law_526 : decode cL_law 526 = .ok (.istore 5, 2) := by decide +kernel
theorem dL_law_528 : decode cL_law 528 = .ok (.goto 978, 3) := by decide +kernel
theorem dL_law_531 : decode cL_law 531 = .ok (.iload 14, 2) := by decide +kernel
theorem dL_law_533 : decode cL_law 533 = .ok (.bipush 15, 2) := by decide +kernel
theorem dL_law_535 : decode cL_law 535 = .ok (.if_icmp .ge 104, 3) := by decide +kernel
theorem dL_law_538 : decode cL_law 538 = .ok (.aload_n 1, 1) := by decide +kernel
theorem dL_law_539 : decode cL_law 539 = .ok (.iload 15, 2) := by decide +kernel
theorem dL_law_541 : decode cL_law 541 = .ok (.invokevirtual 74, 3) := by decide +kernel
theorem dL_law_544 : decode cL_law 544 = .ok (.istore 16, 2) := by decide +kernel
theorem dL_law_546 : decode cL_law 546 = .ok (.aload_n 1, 1) := by decide +kernel
theorem dL_law_547 : decode cL_law 547 = .ok (.iconst 5, 1) := by decide +kernel
theorem dL_law_548 : decode cL_law 548 = .ok (.iload 15, 2) := by decide +kernel
theorem dL_law_550 : decode cL_law 550 = .ok (.iconst 0, 1) := by decide +kernel
theorem dL_law_551 : decode cL_law 551 = .ok (.invokestatic 100, 3) := by decide +kernel
theorem dL_law_554 : decode cL_law 554 = .ok (.istore 17, 2) := by decide +kernel
theorem dL_law_556 : decode cL_law 556 = .ok (.iload 17, 2) := by decide +kernel
theorem dL_law_558 : decode cL_law 558 = .ok (.ifCond .lt 64, 3) := by decide +kernel
theorem dL_law_561 : decode cL_law 561 = .ok (.iload 5, 2) := by decide +kernel
theorem dL_law_563 : decode cL_law 563 = .ok (.ifCond .lt 55, 3) := by decide +kernel
theorem dL_law_566 : decode cL_law 566 = .ok (.aload_n 1, 1) := by decide +kernel
theorem dL_law_567 : decode cL_law 567 = .ok (.iload 17, 2) := by decide +kernel
theorem dL_law_569 : decode cL_law 569 = .ok (.invokevirtual 74, 3) := by decide +kernel
theorem dL_law_572 : decode cL_law 572 = .ok (.iload 16, 2) := by decide +kernel
theorem dL_law_574 : decode cL_law 574 = .ok (.if_icmp .ge 44, 3) := by decide +kernel
theorem dL_law_577 : decode cL_law 577 = .ok (.aload_n 1, 1) := by decide +kernel
theorem dL_law_578 : decode cL_law 578 = .ok (.iconst 5, 1) := by decide +kernel
theorem dL_law_579 : decode cL_law 579 = .ok (.iload 17, 2) := by decide +kernel
theorem dL_law_581 : decode cL_law 581 = .ok (.iconst 0, 1) := by decide +kernel
theorem dL_law_582 : decode cL_law 582 = .ok (.invokestatic 100, 3) := by decide +kernel
theorem dL_law_585 : decode cL_law 585 = .ok (.ldc 71, 2) := by decide +kernel
theorem dL_law_587 : decode cL_law 587 = .ok (.if_icmp .ne 31, 3) := by decide +kernel
theorem dL_law_590 : decode cL_law 590 = .ok (.aload_n 1, 1) := by decide +kernel
theorem dL_law_591 : decode cL_law 591 = .ok (.iconst 5, 1) := by decide +kernel
theorem dL_law_592 : decode cL_law 592 = .ok (.iload 15, 2) := by decide +kernel
theorem dL_law_594 : decode cL_law 594 = .ok (.iconst 0, 1) := by decide +kernel
theorem dL_law_595 : decode cL_law 595 = .ok (.invokestatic 100, 3) := by decide +kernel
theorem dL_law_598 : decode cL_law 598 = .ok (.ldc 71, 2) := by decide +kernel
theorem dL_law_600 : decode cL_law 600 = .ok (.if_icmp .ne 18, 3) := by decide +kernel
theorem dL_law_603 : decode cL_law 603 = .ok (.aload_n 1, 1) := by decide +kernel
theorem dL_law_604 : decode cL_law 604 = .ok (.iload 15, 2) := by decide +kernel
theorem dL_law_606 : decode cL_law 606 = .ok (.invokevirtual 74, 3) := by decide +kernel
theorem dL_law_609 : decode cL_law 609 = .ok (.iload 16, 2) := by decide +kernel
theorem dL_law_611 : decode cL_law 611 = .ok (.if_icmp .ne 7, 3) := by decide +kernel
theorem dL_law_614 : decode cL_law 614 = .ok (.iconst 1, 1) := by decide +kernel
theorem dL_law_615 : decode cL_law 615 = .ok (.goto 19, 3) := by decide +kernel
theorem dL_law_618 : decode cL_law 618 = .ok (.iconst 0, 1) := by decide +kernel
theorem dL_law_619 : decode cL_law 619 = .ok (.goto 15, 3) := by decide +kernel
theorem dL_law_622 : decode cL_law 622 = .ok (.iload 17, 2) := by decide +kernel
theorem dL_law_624 : decode cL_law 624 = .ok (.ldc 71, 2) := by decide +kernel
theorem dL_law_626 : decode cL_law 626 = .ok (.if_icmp .ne 7, 3) := by decide +kernel
theorem dL_law_629 : decode cL_law 629 = .ok (.iconst 1, 1) := by decide +kernel
theorem dL_law_630 : decode cL_law 630 = .ok (.goto 4, 3) := by decide +kernel
theorem dL_law_633 : decode cL_law 633 = .ok (.iconst 0, 1) := by decide +kernel
theorem dL_law_634 : decode cL_law 634 = .ok (.istore 10, 2) := by decide +kernel
theorem dL_law_636 : decode cL_law 636 = .ok (.goto 870, 3) := by decide +kernel
theorem dL_law_639 : decode cL_law 639 = .ok (.iload 14, 2) := by decide +kernel
theorem dL_law_641 : decode cL_law 641 = .ok (.bipush 18, 2) := by decide +kernel
theorem dL_law_643 : decode cL_law 643 = .ok (.if_icmp .ge 134, 3) := by decide +kernel
theorem dL_law_646 : decode cL_law 646 = .ok (.aload_n 1, 1) := by decide +kernel
theorem dL_law_647 : decode cL_law 647 = .ok (.bipush 6, 2) := by decide +kernel
theorem dL_law_649 : decode cL_law 649 = .ok (.iconst 0, 1) := by decide +kernel
theorem dL_law_650 : decode cL_law 650 = .ok (.iconst 0, 1) := by decide +kernel
theorem dL_law_651 : decode cL_law 651 = .ok (.invokestatic 100, 3) := by decide +kernel
theorem dL_law_654 : decode cL_law 654 = .ok (.istore 16, 2) := by decide +kernel
theorem dL_law_656 : decode cL_law 656 = .ok (.iload 16, 2) := by decide +kernel
theorem dL_law_658 : decode cL_law 658 = .ok (.iload 5, 2) := by decide +kernel
theorem dL_law_660 : decode cL_law 660 = .ok (.ifCond .ge 8, 3) := by decide +kernel
theorem dL_law_663 : decode cL_law 663 = .ok (.ldc 71, 2) := by decide +kernel
theorem dL_law_665 : decode cL_law 665 = .ok (.goto 7, 3) := by decide +kernel
theorem dL_law_668 : decode cL_law 668 = .ok (.iload 5, 2) := by decide +kernel
theorem dL_law_670 : decode cL_law 670 = .ok (.iconst 1, 1) := by decide +kernel
theorem dL_law_671 : decode cL_law 671 = .ok (.isub, 1) := by decide +kernel
theorem dL_law_672 : decode cL_law 672 = .ok (.if_icmp .ne 7, 3) := by decide +kernel
theorem dL_law_675 : decode cL_law 675 = .ok (.iconst 1, 1) := by decide +kernel
theorem dL_law_676 : decode cL_law 676 = .ok (.goto 4, 3) := by decide +kernel
theorem dL_law_679 : decode cL_law 679 = .ok (.iconst 0, 1) := by decide +kernel
theorem dL_law_680 : decode cL_law 680 = .ok (.istore 10, 2) := by decide +kernel
theorem dL_law_682 : decode cL_law 682 = .ok (.iload 4, 2) := by decide +kernel
theorem dL_law_684 : decode cL_law 684 = .ok (.iload 5, 2) := by decide +kernel
theorem dL_law_686 : decode cL_law 686 = .ok (.ifCond .ne 7, 3) := by decide +kernel
theorem dL_law_689 : decode cL_law 689 = .ok (.iconst 1, 1) := by decide +kernel
theorem dL_law_690 : decode cL_law 690 = .ok (.goto 4, 3) := by decide +kernel
theorem dL_law_693 : decode cL_law 693 = .ok (.iconst 0, 1) := by decide +kernel
theorem dL_law_694 : decode cL_law 694 = .ok (.iadd, 1) := by decide +kernel
theorem dL_law_695 : decode cL_law 695 = .ok (.istore 4, 2) := by decide +kernel
theorem dL_law_697 : decode cL_law 697 = .ok (.iload 5, 2) := by decide +kernel
theorem dL_law_699 : decode cL_law 699 = .ok (.iload 5, 2) := by decide +kernel
theorem dL_law_701 : decode cL_law 701 = .ok (.ifCond .lt 7, 3) := by decide +kernel
theorem dL_law_704 : decode cL_law 704 = .ok (.iconst 1, 1) := by decide +kernel
theorem dL_law_705 : decode cL_law 705 = .ok (.goto 4, 3) := by decide +kernel
theorem dL_law_708 : decode cL_law 708 = .ok (.iconst 0, 1) := by decide +kernel
theorem dL_law_709 : decode cL_law 709 = .ok (.isub, 1) := by decide +kernel
theorem dL_law_710 : decode cL_law 710 = .ok (.istore 5, 2) := by decide +kernel
theorem dL_law_712 : decode cL_law 712 = .ok (.iconst 0, 1) := by decide +kernel
theorem dL_law_713 : decode cL_law 713 = .ok (.istore 17, 2) := by decide +kernel
theorem dL_law_715 : decode cL_law 715 = .ok (.iload 17, 2) := by decide +kernel
theorem dL_law_717 : decode cL_law 717 = .ok (.iload_n 3, 1) := by decide +kernel
theorem dL_law_718 : decode cL_law 718 = .ok (.if_icmp .ge 56, 3) := by decide +kernel
theorem dL_law_721 : decode cL_law 721 = .ok (.iload 4, 2) := by decide +kernel
theorem dL_law_723 : decode cL_law 723 = .ok (.ifCond .le 51, 3) := by decide +kernel
theorem dL_law_726 : decode cL_law 726 = .ok (.iload 5, 2) := by decide +kernel
theorem dL_law_728 : decode cL_law 728 = .ok (.ifCond .ge 46, 3) := by decide +kernel
theorem dL_law_731 : decode cL_law 731 = .ok (.iload 10, 2) := by decide +kernel
theorem dL_law_733 : decode cL_law 733 = .ok (.ifCond .eq 41, 3) := by decide +kernel
theorem dL_law_736 : decode cL_law 736 = .ok (.iload 16, 2) := by decide +kernel
theorem dL_law_738 : decode cL_law 738 = .ok (.iconst (-1), 1) := by decide +kernel
theorem dL_law_739 : decode cL_law 739 = .ok (.if_icmp .ne 35, 3) := by decide +kernel
theorem dL_law_742 : decode cL_law 742 = .ok (.aload_n 1, 1) := by decide +kernel
theorem dL_law_743 : decode cL_law 743 = .ok (.aload_n 1, 1) := by decide +kernel
theorem dL_law_744 : decode cL_law 744 = .ok (.iload 4, 2) := by decide +kernel
theorem dL_law_746 : decode cL_law 746 = .ok (.iconst 1, 1) := by decide +kernel
theorem dL_law_747 : decode cL_law 747 = .ok (.isub, 1) := by decide +kernel
theorem dL_law_748 : decode cL_law 748 = .ok (.iload 17, 2) := by decide +kernel
theorem dL_law_750 : decode cL_law 750 = .ok (.invokevirtual 103, 3) := by decide +kernel
theorem dL_law_753 : decode cL_law 753 = .ok (.invokevirtual 74, 3) := by decide +kernel
theorem dL_law_756 : decode cL_law 756 = .ok (.iload 17, 2) := by decide +kernel
theorem dL_law_758 : decode cL_law 758 = .ok (.if_icmp .ne 7, 3) := by decide +kernel
theorem dL_law_761 : decode cL_law 761 = .ok (.iconst 1, 1) := by decide +kernel
theorem dL_law_762 : decode cL_law 762 = .ok (.goto 4, 3) := by decide +kernel
theorem dL_law_765 : decode cL_law 765 = .ok (.iconst 0, 1) := by decide +kernel
theorem dL_law_766 : decode cL_law 766 = .ok (.istore 10, 2) := by decide +kernel
theorem dL_law_768 : decode cL_law 768 = .ok (.iinc 17 1, 3) := by decide +kernel
theorem dL_law_771 : decode cL_law 771 = .ok (.goto (-56), 3) := by decide +kernel
theorem dL_law_774 : decode cL_law 774 = .ok (.goto 732, 3) := by decide +kernel
theorem dL_law_777 : decode cL_law 777 = .ok (.iload 14, 2) := by decide +kernel
theorem dL_law_779 : decode cL_law 779 = .ok (.bipush 18, 2) := by decide +kernel
theorem dL_law_781 : decode cL_law 781 = .ok (.if_icmp .ne 89, 3) := by decide +kernel
theorem dL_law_784 : decode cL_law 784 = .ok (.aload_n 1, 1) := by decide +kernel
theorem dL_law_785 : decode cL_law 785 = .ok (.iload 15, 2) := by decide +kernel
theorem dL_law_787 : decode cL_law 787 = .ok (.invokevirtual 74, 3) := by decide +kernel
theorem dL_law_790 : decode cL_law 790 = .ok (.istore 16, 2) := by decide +kernel
theorem dL_law_792 : decode cL_law 792 = .ok (.aload_n 1, 1) := by decide +kernel
theorem dL_law_793 : decode cL_law 793 = .ok (.bipush 7, 2) := by decide +kernel
theorem dL_law_795 : decode cL_law 795 = .ok (.iload 15, 2) := by decide +kernel
theorem dL_law_797 : decode cL_law 797 = .ok (.iconst 1, 1) := by decide +kernel
theorem dL_law_798 : decode cL_law 798 = .ok (.iload 13, 2) := by decide +kernel
theorem dL_law_800 : decode cL_law 800 = .ok (.bipush 6, 2) := by decide +kernel
theorem dL_law_802 : decode cL_law 802 = .ok (.ishr, 1) := by decide +kernel
theorem dL_law_803 : decode cL_law 803 = .ok (.iconst 5, 1) := by decide +kernel
theorem dL_law_804 : decode cL_law 804 = .ok (.irem, 1) := by decide +kernel
theorem dL_law_805 : decode cL_law 805 = .ok (.iadd, 1) := by decide +kernel
theorem dL_law_806 : decode cL_law 806 = .ok (.invokestatic 100, 3) := by decide +kernel
theorem dL_law_809 : decode cL_law 809 = .ok (.istore 17, 2) := by decide +kernel
theorem dL_law_811 : decode cL_law 811 = .ok (.iload 5, 2) := by decide +kernel
theorem dL_law_813 : decode cL_law 813 = .ok (.ifCond .ge 8, 3) := by decide +kernel
theorem dL_law_816 : decode cL_law 816 = .ok (.iload 16, 2) := by decide +kernel
theorem dL_law_818 : decode cL_law 818 = .ok (.ifCond .ge 18, 3) := by decide +kernel
theorem dL_law_821 : decode cL_law 821 = .ok (.iload 17, 2) := by decide +kernel
theorem dL_law_823 : decode cL_law 823 = .ok (.ldc 71, 2) := by decide +kernel
theorem dL_law_825 : decode cL_law 825 = .ok (.if_icmp .ne 7, 3) := by decide +kernel
theorem dL_law_828 : decode cL_law 828 = .ok (.iconst 1, 1) := by decide +kernel
theorem dL_law_829 : decode cL_law 829 = .ok (.goto 36, 3) := by decide +kernel
theorem dL_law_832 : decode cL_law 832 = .ok (.iconst 0, 1) := by decide +kernel
theorem dL_law_833 : decode cL_law 833 = .ok (.goto 32, 3) := by decide +kernel
theorem dL_law_836 : decode cL_law 836 = .ok (.iload 17, 2) := by decide +kernel
theorem dL_law_838 : decode cL_law 838 = .ok (.iload 16, 2) := by decide +kernel
theorem dL_law_840 : decode cL_law 840 = .ok (.if_icmp .lt 24, 3) := by decide +kernel
theorem dL_law_843 : decode cL_law 843 = .ok (.iload 17, 2) := by decide +kernel
theorem dL_law_845 : decode cL_law 845 = .ok (.iload_n 3, 1) := by decide +kernel
theorem dL_law_846 : decode cL_law 846 = .ok (.if_icmp .ge 18, 3) := by decide +kernel
theorem dL_law_849 : decode cL_law 849 = .ok (.aload_n 1, 1) := by decide +kernel
theorem dL_law_850 : decode cL_law 850 = .ok (.iload 15, 2) := by decide +kernel
theorem dL_law_852 : decode cL_law 852 = .ok (.invokevirtual 74, 3) := by decide +kernel
theorem dL_law_855 : decode cL_law 855 = .ok (.iload 17, 2) := by decide +kernel
theorem dL_law_857 : decode cL_law 857 = .ok (.if_icmp .ne 7, 3) := by decide +kernel
theorem dL_law_860 : decode cL_law 860 = .ok (.iconst 1, 1) := by decide +kernel
theorem dL_law_861 : decode cL_law 861 = .ok (.goto 4, 3) := by decide +kernel
theorem dL_law_864 : decode cL_law 864 = .ok (.iconst 0, 1) := by decide +kernel
theorem dL_law_865 : decode cL_law 865 = .ok (.istore 10, 2) := by decide +kernel
theorem dL_law_867 : decode cL_law 867 = .ok (.goto 639, 3) := by decide +kernel
theorem dL_law_870 : decode cL_law 870 = .ok (.iload 14, 2) := by decide +kernel
theorem dL_law_872 : decode cL_law 872 = .ok (.bipush 21, 2) := by decide +kernel
theorem dL_law_874 : decode cL_law 874 = .ok (.if_icmp .ge 60, 3) := by decide +kernel
theorem dL_law_877 : decode cL_law 877 = .ok (.aload_n 1, 1) := by decide +kernel
theorem dL_law_878 : decode cL_law 878 = .ok (.bipush 8, 2) := by decide +kernel
theorem dL_law_880 : decode cL_law 880 = .ok (.iload 15, 2) := by decide +kernel
theorem dL_law_882 : decode cL_law 882 = .ok (.iconst 0, 1) := by decide +kernel
theorem dL_law_883 : decode cL_law 883 = .ok (.invokestatic 100, 3) := by decide +kernel
theorem dL_law_886 : decode cL_law 886 = .ok (.istore 16, 2) := by decide +kernel
theorem dL_law_888 : decode cL_law 888 = .ok (.iload 16, 2) := by decide +kernel
theorem dL_law_890 : decode cL_law 890 = .ok (.ldc 71, 2) := by decide +kernel
theorem dL_law_892 : decode cL_law 892 = .ok (.if_icmp .eq 17, 3) := by decide +kernel
theorem dL_law_895 : decode cL_law 895 = .ok (.iload 6, 2) := by decide +kernel
theorem dL_law_897 : decode cL_law 897 = .ok (.ifCond .ne 16, 3) := by decide +kernel
theorem dL_law_900 : decode cL_law 900 = .ok (.iload 16, 2) := by decide +kernel
theorem dL_law_902 : decode cL_law 902 = .ok (.iload 7, 2) := by decide +kernel
theorem dL_law_904 : decode cL_law 904 = .ok (.iconst 1, 1) := by decide +kernel
theorem dL_law_905 : decode cL_law 905 = .ok (.iadd, 1) := by decide +kernel
theorem dL_law_906 : decode cL_law 906 = .ok (.if_icmp .ne 7, 3) := by decide +kernel
theorem dL_law_909 : decode cL_law 909 = .ok (.iconst 1, 1) := by decide +kernel
theorem dL_law_910 : decode cL_law 910 = .ok (.goto 4, 3) := by decide +kernel
theorem dL_law_913 : decode cL_law 913 = .ok (.iconst 0, 1) := by decide +kernel
theorem dL_law_914 : decode cL_law 914 = .ok (.istore 10, 2) := by decide +kernel
theorem dL_law_916 : decode cL_law 916 = .ok (.iload 7, 2) := by decide +kernel
theorem dL_law_918 : decode cL_law 918 = .ok (.iload 16, 2) := by decide +kernel
theorem dL_law_920 : decode cL_law 920 = .ok (.ifCond .le 7, 3) := by decide +kernel
theorem dL_law_923 : decode cL_law 923 = .ok (.iconst 1, 1) := by decide +kernel
theorem dL_law_924 : decode cL_law 924 = .ok (.goto 4, 3) := by decide +kernel
theorem dL_law_927 : decode cL_law 927 = .ok (.iconst 0, 1) := by decide +kernel
theorem dL_law_928 : decode cL_law 928 = .ok (.iadd, 1) := by decide +kernel
theorem dL_law_929 : decode cL_law 929 = .ok (.istore 7, 2) := by decide +kernel
theorem dL_law_931 : decode cL_law 931 = .ok (.goto 575, 3) := by decide +kernel
theorem dL_law_934 : decode cL_law 934 = .ok (.iload 14, 2) := by decide +kernel
theorem dL_law_936 : decode cL_law 936 = .ok (.bipush 21, 2) := by decide +kernel
theorem dL_law_938 : decode cL_law 938 = .ok (.if_icmp .ne 79, 3) := by decide +kernel
theorem dL_law_941 : decode cL_law 941 = .ok (.iload 13, 2) := by decide +kernel
theorem dL_law_943 : decode cL_law 943 = .ok (.iconst 3, 1) := by decide +kernel
theorem dL_law_944 : decode cL_law 944 = .ok (.iand, 1) := by decide +kernel
theorem dL_law_945 : decode cL_law 945 = .ok (.ifCond .ne 72, 3) := by decide +kernel
theorem dL_law_948 : decode cL_law 948 = .ok (.iload 6, 2) := by decide +kernel
theorem dL_law_950 : decode cL_law 950 = .ok (.ifCond .ne 13, 3) := by decide +kernel
theorem dL_law_953 : decode cL_law 953 = .ok (.iload 7, 2) := by decide +kernel
theorem dL_law_955 : decode cL_law 955 = .ok (.iconst 1, 1) := by decide +kernel
theorem dL_law_956 : decode cL_law 956 = .ok (.if_icmp .le 7, 3) := by decide +kernel
theorem dL_law_959 : decode cL_law 959 = .ok (.iconst 1, 1) := by decide +kernel
theorem dL_law_960 : decode cL_law 960 = .ok (.goto 4, 3) := by decide +kernel
theorem dL_law_963 : decode cL_law 963 = .ok (.iconst 0, 1) := by decide +kernel
theorem dL_law_964 : decode cL_law 964 = .ok (.istore 16, 2) := by decide +kernel
theorem dL_law_966 : decode cL_law 966 = .ok (.aload_n 1, 1) := by decide +kernel
theorem dL_law_967 : decode cL_law 967 = .ok (.bipush 9, 2) := by decide +kernel
theorem dL_law_969 : decode cL_law 969 = .ok (.iconst 0, 1) := by decide +kernel
theorem dL_law_970 : decode cL_law 970 = .ok (.iconst 0, 1) := by decide +kernel
theorem dL_law_971 : decode cL_law 971 = .ok (.invokestatic 100, 3) := by decide +kernel
theorem dL_law_974 : decode cL_law 974 = .ok (.iload 16, 2) := by decide +kernel
theorem dL_law_976 : decode cL_law 976 = .ok (.ifCond .eq 13, 3) := by decide +kernel
theorem dL_law_979 : decode cL_law 979 = .ok (.iload 7, 2) := by decide +kernel
theorem dL_law_981 : decode cL_law 981 = .ok (.iconst 5, 1) := by decide +kernel
theorem dL_law_982 : decode cL_law 982 = .ok (.iadd, 1) := by decide +kernel
theorem dL_law_983 : decode cL_law 983 = .ok (.bipush 6, 2) := by decide +kernel
theorem dL_law_985 : decode cL_law 985 = .ok (.idiv, 1) := by decide +kernel
theorem dL_law_986 : decode cL_law 986 = .ok (.goto 5, 3) := by decide +kernel
theorem dL_law_989 : decode cL_law 989 = .ok (.ldc 71, 2) := by decide +kernel
theorem dL_law_991 : decode cL_law 991 = .ok (.if_icmp .ne 7, 3) := by decide +kernel
theorem dL_law_994 : decode cL_law 994 = .ok (.iconst 1, 1) := by decide +kernel
theorem dL_law_995 : decode cL_law 995 = .ok (.goto 4, 3) := by decide +kernel
theorem dL_law_998 : decode cL_law 998 = .ok (.iconst 0, 1) := by decide +kernel
theorem dL_law_999 : decode cL_law 999 = .ok (.istore 10, 2) := by decide +kernel
theorem dL_law_1001 : decode cL_law 1001 = .ok (.iload 16, 2) := by decide +kernel
theorem dL_law_1003 : decode cL_law 1003 = .ok (.ifCond .eq 7, 3) := by decide +kernel
theorem dL_law_1006 : decode cL_law 1006 = .ok (.iconst 1, 1) := by decide +kernel
theorem dL_law_1007 : decode cL_law 1007 = .ok (.goto 5, 3) := by decide +kernel
theorem dL_law_1010 : decode cL_law 1010 = .ok (.iload 6, 2) := by decide +kernel
theorem dL_law_1012 : decode cL_law 1012 = .ok (.istore 6, 2) := by decide +kernel
theorem dL_law_1014 : decode cL_law 1014 = .ok (.goto 492, 3) := by decide +kernel
theorem dL_law_1017 : decode cL_law 1017 = .ok (.iload 14, 2) := by decide +kernel
theorem dL_law_1019 : decode cL_law 1019 = .ok (.bipush 25, 2) := by decide +kernel
theorem dL_law_1021 : decode cL_law 1021 = .ok (.if_icmp .ge 69, 3) := by decide +kernel
theorem dL_law_1024 : decode cL_law 1024 = .ok (.aload_n 1, 1) := by decide +kernel
theorem dL_law_1025 : decode cL_law 1025 = .ok (.bipush 10, 2) := by decide +kernel
theorem dL_law_1027 : decode cL_law 1027 = .ok (.iload 15, 2) := by decide +kernel
theorem dL_law_1029 : decode cL_law 1029 = .ok (.ldc 106, 2) := by decide +kernel
theorem dL_law_1031 : decode cL_law 1031 = .ok (.sipush 500, 3) := by decide +kernel
theorem dL_law_1034 : decode cL_law 1034 = .ok (.iload 13, 2) := by decide +kernel
theorem dL_law_1036 : decode cL_law 1036 = .ok (.bipush 6, 2) := by decide +kernel
theorem dL_law_1038 : decode cL_law 1038 = .ok (.ishr, 1) := by decide +kernel
theorem dL_law_1039 : decode cL_law 1039 = .ok (.bipush 50, 2) := by decide +kernel
theorem dL_law_1041 : decode cL_law 1041 = .ok (.irem, 1) := by decide +kernel
theorem dL_law_1042 : decode cL_law 1042 = .ok (.imul, 1) := by decide +kernel
theorem dL_law_1043 : decode cL_law 1043 = .ok (.iadd, 1) := by decide +kernel
theorem dL_law_1044 : decode cL_law 1044 = .ok (.invokestatic 100, 3) := by decide +kernel
theorem dL_law_1047 : decode cL_law 1047 = .ok (.istore 16, 2) := by decide +kernel
theorem dL_law_1049 : decode cL_law 1049 = .ok (.iload 16, 2) := by decide +kernel
theorem dL_law_1051 : decode cL_law 1051 = .ok (.ldc 71, 2) := by decide +kernel
theorem dL_law_1053 : decode cL_law 1053 = .ok (.if_icmp .eq 27, 3) := by decide +kernel
theorem dL_law_1056 : decode cL_law 1056 = .ok (.iload 6, 2) := by decide +kernel
theorem dL_law_1058 : decode cL_law 1058 = .ok (.iconst 1, 1) := by decide +kernel
theorem dL_law_1059 : decode cL_law 1059 = .ok (.if_icmp .eq 9, 3) := by decide +kernel
theorem dL_law_1062 : decode cL_law 1062 = .ok (.iload 6, 2) := by decide +kernel
theorem dL_law_1064 : decode cL_law 1064 = .ok (.iconst 2, 1) := by decide +kernel
theorem dL_law_1065 : decode cL_law 1065 = .ok (.if_icmp .ne 19, 3) := by decide +kernel
theorem dL_law_1068 : decode cL_law 1068 = .ok (.iload 16, 2) := by decide +kernel
theorem dL_law_1070 : decode cL_law 1070 = .ok (.ifCond .lt 14, 3) := by decide +kernel
theorem dL_law_1073 : decode cL_law 1073 = .ok (.iload 16, 2) := by decide +kernel
theorem dL_law_1075 : decode cL_law 1075 = .ok (.bipush 6, 2) := by decide +kernel
theorem dL_law_1077 : decode cL_law 1077 = .ok (.if_icmp .ge 7, 3) := by decide +kernel
theorem dL_law_1080 : decode cL_law 1080 = .ok (.iconst 1, 1) := by decide +kernel
theorem dL_law_1081 : decode cL_law 1081 = .ok (.goto 4, 3) := by decide +kernel
theorem dL_law_1084 : decode cL_law 1084 = .ok (.iconst 0, 1) := by decide +kernel
theorem dL_law_1085 : decode cL_law 1085 = .ok (.istore 10, 2) := by decide +kernel
theorem dL_law_1087 : decode cL_law 1087 = .ok (.goto 419, 3) := by decide +kernel
theorem dL_law_1090 : decode cL_law 1090 = .ok (.iload 14, 2) := by decide +kernel
theorem dL_law_1092 : decode cL_law 1092 = .ok (.bipush 25, 2) := by decide +kernel
theorem dL_law_1094 : decode cL_law 1094 = .ok (.if_icmp .ne 128, 3) := by decide +kernel
theorem dL_law_1097 : decode cL_law 1097 = .ok (.iload 6, 2) := by decide +kernel
theorem dL_law_1099 : decode cL_law 1099 = .ok (.iconst 1, 1) := by decide +kernel
theorem dL_law_1100 : decode cL_law 1100 = .ok (.if_icmp .eq 9, 3) := by decide +kernel
theorem dL_law_1103 : decode cL_law 1103 = .ok (.iload 6, 2) := by decide +kernel
theorem dL_law_1105 : decode cL_law 1105 = .ok (.iconst 2, 1) := by decide +kernel
theorem dL_law_1106 : decode cL_law 1106 = .ok (.if_icmp .ne 7, 3) := by decide +kernel
theorem dL_law_1109 : decode cL_law 1109 = .ok (.iconst 1, 1) := by decide +kernel
theorem dL_law_1110 : decode cL_law 1110 = .ok (.goto 4, 3) := by decide +kernel
theorem dL_law_1113 : decode cL_law 1113 = .ok (.iconst 0, 1) := by decide +kernel
theorem dL_law_1114 : decode cL_law 1114 = .ok (.istore 16, 2) := by decide +kernel
theorem dL_law_1116 : decode cL_law 1116 = .ok (.aload_n 1, 1) := by decide +kernel
theorem dL_law_1117 : decode cL_law 1117 = .ok (.bipush 11, 2) := by decide +kernel
theorem dL_law_1119 : decode cL_law 1119 = .ok (.iconst 0, 1) := by decide +kernel
theorem dL_law_1120 : decode cL_law 1120 = .ok (.iconst 0, 1) := by decide +kernel
theorem dL_law_1121 : decode cL_law 1121 = .ok (.invokestatic 100, 3) := by decide +kernel
theorem dL_law_1124 : decode cL_law 1124 = .ok (.istore 17, 2) := by decide +kernel
theorem dL_law_1126 : decode cL_law 1126 = .ok (.iload 16, 2) := by decide +kernel
theorem dL_law_1128 : decode cL_law 1128 = .ok (.ifCond .eq 36, 3) := by decide +kernel
theorem dL_law_1131 : decode cL_law 1131 = .ok (.iload 17, 2) := by decide +kernel
theorem dL_law_1133 : decode cL_law 1133 = .ok (.iconst 3, 1) := by decide +kernel
theorem dL_law_1134 : decode cL_law 1134 = .ok (.if_icmp .eq 22, 3) := by decide +kernel
theorem dL_law_1137 : decode cL_law 1137 = .ok (.iload 6, 2) := by decide +kernel
theorem dL_law_1139 : decode cL_law 1139 = .ok (.iconst 1, 1) := by decide +kernel
theorem dL_law_1140 : decode cL_law 1140 = .ok (.if_icmp .ne 20, 3) := by decide +kernel
theorem dL_law_1143 : decode cL_law 1143 = .ok (.iload 7, 2) := by decide +kernel
theorem dL_law_1145 : decode cL_law 1145 = .ok (.bipush 6, 2) := by decide +kernel
theorem dL_law_1147 : decode cL_law 1147 = .ok (.if_icmp .le 13, 3) := by decide +kernel
theorem dL_law_1150 : decode cL_law 1150 = .ok (.iload 17, 2) := by decide +kernel
theorem dL_law_1152 : decode cL_law 1152 = .ok (.iconst 2, 1) := by decide +kernel
theorem dL_law_1153 : decode cL_law 1153 = .ok (.if_icmp .ne 7, 3) := by decide +kernel
theorem dL_law_1156 : decode cL_law 1156 = .ok (.iconst 1, 1) := by decide +kernel
theorem dL_law_1157 : decode cL_law 1157 = .ok (.goto 19, 3) := by decide +kernel
theorem dL_law_1160 : decode cL_law 1160 = .ok (.iconst 0, 1) := by decide +kernel
theorem dL_law_1161 : decode cL_law 1161 = .ok (.goto 15, 3) := by decide +kernel
theorem dL_law_1164 : decode cL_law 1164 = .ok (.iload 17, 2) := by decide +kernel
theorem dL_law_1166 : decode cL_law 1166 = .ok (.ldc 71, 2) := by decide +kernel
theorem dL_law_1168 : decode cL_law 1168 = .ok (.if_icmp .ne 7, 3) := by decide +kernel
theorem dL_law_1171 : decode cL_law 1171 = .ok (.iconst 1, 1) := by decide +kernel
theorem dL_law_1172 : decode cL_law 1172 = .ok (.goto 4, 3) := by decide +kernel
theorem dL_law_1175 : decode cL_law 1175 = .ok (.iconst 0, 1) := by decide +kernel
theorem dL_law_1176 : decode cL_law 1176 = .ok (.istore 10, 2) := by decide +kernel
theorem dL_law_1178 : decode cL_law 1178 = .ok (.iload 16, 2) := by decide +kernel
theorem dL_law_1180 : decode cL_law 1180 = .ok (.ifCond .eq 8, 3) := by decide +kernel
theorem dL_law_1183 : decode cL_law 1183 = .ok (.iload 17, 2) := by decide +kernel
theorem dL_law_1185 : decode cL_law 1185 = .ok (.goto 5, 3) := by decide +kernel
theorem dL_law_1188 : decode cL_law 1188 = .ok (.iload 6, 2) := by decide +kernel
theorem dL_law_1190 : decode cL_law 1190 = .ok (.istore 6, 2) := by decide +kernel
theorem dL_law_1192 : decode cL_law 1192 = .ok (.iload 10, 2) := by decide +kernel
theorem dL_law_1194 : decode cL_law 1194 = .ok (.ifCond .eq 22, 3) := by decide +kernel
theorem dL_law_1197 : decode cL_law 1197 = .ok (.iload 6, 2) := by decide +kernel
theorem dL_law_1199 : decode cL_law 1199 = .ok (.iconst 3, 1) := by decide +kernel
theorem dL_law_1200 : decode cL_law 1200 = .ok (.if_icmp .ne 12, 3) := by decide +kernel
theorem dL_law_1203 : decode cL_law 1203 = .ok (.aload_n 1, 1) := by decide +kernel
theorem dL_law_1204 : decode cL_law 1204 = .ok (.iload 7, 2) := by decide +kernel
theorem dL_law_1206 : decode cL_law 1206 = .ok (.invokestatic 107, 3) := by decide +kernel
theorem dL_law_1209 : decode cL_law 1209 = .ok (.ifCond .eq 7, 3) := by decide +kernel
theorem dL_law_1212 : decode cL_law 1212 = .ok (.iconst 1, 1) := by decide +kernel
theorem dL_law_1213 : decode cL_law 1213 = .ok (.goto 4, 3) := by decide +kernel
theorem dL_law_1216 : decode cL_law 1216 = .ok (.iconst 0, 1) := by decide +kernel
theorem dL_law_1217 : decode cL_law 1217 = .ok (.istore 10, 2) := by decide +kernel
theorem dL_law_1219 : decode cL_law 1219 = .ok (.goto 287, 3) := by decide +kernel
theorem dL_law_1222 : decode cL_law 1222 = .ok (.iload 14, 2) := by decide +kernel
theorem dL_law_1224 : decode cL_law 1224 = .ok (.bipush 26, 2) := by decide +kernel
theorem dL_law_1226 : decode cL_law 1226 = .ok (.if_icmp .ne 35, 3) := by decide +kernel
theorem dL_law_1229 : decode cL_law 1229 = .ok (.iload 13, 2) := by decide +kernel
theorem dL_law_1231 : decode cL_law 1231 = .ok (.iconst 3, 1) := by decide +kernel
theorem dL_law_1232 : decode cL_law 1232 = .ok (.iand, 1) := by decide +kernel
theorem dL_law_1233 : decode cL_law 1233 = .ok (.ifCond .ne 28, 3) := by decide +kernel
theorem dL_law_1236 : decode cL_law 1236 = .ok (.aload_n 1, 1) := by decide +kernel
theorem dL_law_1237 : decode cL_law 1237 = .ok (.invokevirtual 111, 3) := by decide +kernel
theorem dL_law_1240 : decode cL_law 1240 = .ok (.iload 6, 2) := by decide +kernel
theorem dL_law_1242 : decode cL_law 1242 = .ok (.if_icmp .ne 7, 3) := by decide +kernel
theorem dL_law_1245 : decode cL_law 1245 = .ok (.iconst 1, 1) := by decide +kernel
theorem dL_law_1246 : decode cL_law 1246 = .ok (.goto 4, 3) := by decide +kernel
theorem dL_law_1249 : decode cL_law 1249 = .ok (.iconst 0, 1) := by decide +kernel
theorem dL_law_1250 : decode cL_law 1250 = .ok (.istore 10, 2) := by decide +kernel
theorem dL_law_1252 : decode cL_law 1252 = .ok (.iconst 0, 1) := by decide +kernel
theorem dL_law_1253 : decode cL_law 1253 = .ok (.istore 6, 2) := by decide +kernel
theorem dL_law_1255 : decode cL_law 1255 = .ok (.iconst 0, 1) := by decide +kernel
theorem dL_law_1256 : decode cL_law 1256 = .ok (.istore 7, 2) := by decide +kernel
theorem dL_law_1258 : decode cL_law 1258 = .ok (.goto 248, 3) := by decide +kernel
theorem dL_law_1261 : decode cL_law 1261 = .ok (.iload 14, 2) := by decide +kernel
theorem dL_law_1263 : decode cL_law 1263 = .ok (.bipush 28, 2) := by decide +kernel
theorem dL_law_1265 : decode cL_law 1265 = .ok (.if_icmp .ge 53, 3) := by decide +kernel
theorem dL_law_1268 : decode cL_law 1268 = .ok (.aload_n 1, 1) := by decide +kernel
theorem dL_law_1269 : decode cL_law 1269 = .ok (.bipush 12, 2) := by decide +kernel
theorem dL_law_1271 : decode cL_law 1271 = .ok (.iload 15, 2) := by decide +kernel
theorem dL_law_1273 : decode cL_law 1273 = .ok (.iconst 0, 1) := by decide +kernel
theorem dL_law_1274 : decode cL_law 1274 = .ok (.invokestatic 100, 3) := by decide +kernel
theorem dL_law_1277 : decode cL_law 1277 = .ok (.istore 16, 2) := by decide +kernel
theorem dL_law_1279 : decode cL_law 1279 = .ok (.iload 16, 2) := by decide +kernel
theorem dL_law_1281 : decode cL_law 1281 = .ok (.iload 8, 2) := by decide +kernel
theorem dL_law_1283 : decode cL_law 1283 = .ok (.if_icmp .eq 10, 3) := by decide +kernel
theorem dL_law_1286 : decode cL_law 1286 = .ok (.iload 16, 2) := by decide +kernel
theorem dL_law_1288 : decode cL_law 1288 = .ok (.ldc 71, 2) := by decide +kernel
theorem dL_law_1290 : decode cL_law 1290 = .ok (.if_icmp .ne 7, 3) := by decide +kernel
theorem dL_law_1293 : decode cL_law 1293 = .ok (.iconst 1, 1) := by decide +kernel
theorem dL_law_1294 : decode cL_law 1294 = .ok (.goto 4, 3) := by decide +kernel
theorem dL_law_1297 : decode cL_law 1297 = .ok (.iconst 0, 1) := by decide +kernel
theorem dL_law_1298 : decode cL_law 1298 = .ok (.istore 10, 2) := by decide +kernel
theorem dL_law_1300 : decode cL_law 1300 = .ok (.iload 8, 2) := by decide +kernel
theorem dL_law_1302 : decode cL_law 1302 = .ok (.iload 16, 2) := by decide +kernel
theorem dL_law_1304 : decode cL_law 1304 = .ok (.ifCond .lt 7, 3) := by decide +kernel
theorem dL_law_1307 : decode cL_law 1307 = .ok (.iconst 1, 1) := by decide +kernel
theorem dL_law_1308 : decode cL_law 1308 = .ok (.goto 4, 3) := by decide +kernel
theorem dL_law_1311 : decode cL_law 1311 = .ok (.iconst 0, 1) := by decide +kernel
theorem dL_law_1312 : decode cL_law 1312 = .ok (.iadd, 1) := by decide +kernel
theorem dL_law_1313 : decode cL_law 1313 = .ok (.istore 8, 2) := by decide +kernel
theorem dL_law_1315 : decode cL_law 1315 = .ok (.goto 191, 3) := by decide +kernel
theorem dL_law_1318 : decode cL_law 1318 = .ok (.iload 14, 2) := by decide +kernel
theorem dL_law_1320 : decode cL_law 1320 = .ok (.bipush 30, 2) := by decide +kernel
theorem dL_law_1322 : decode cL_law 1322 = .ok (.if_icmp .ge 79, 3) := by decide +kernel
theorem dL_law_1325 : decode cL_law 1325 = .ok (.ldc 114, 2) := by decide +kernel
theorem dL_law_1327 : decode cL_law 1327 = .ok (.iload 13, 2) := by decide +kernel
theorem dL_law_1329 : decode cL_law 1329 = .ok (.bipush 6, 2) := by decide +kernel
theorem dL_law_1331 : decode cL_law 1331 = .ok (.ishr, 1) := by decide +kernel
theorem dL_law_1332 : decode cL_law 1332 = .ok (.ldc 115, 2) := by decide +kernel
theorem dL_law_1334 : decode cL_law 1334 = .ok (.irem, 1) := by decide +kernel
theorem dL_law_1335 : decode cL_law 1335 = .ok (.iadd, 1) := by decide +kernel
theorem dL_law_1336 : decode cL_law 1336 = .ok (.istore 16, 2) := by decide +kernel
theorem dL_law_1338 : decode cL_law 1338 = .ok (.aload_n 1, 1) := by decide +kernel
theorem dL_law_1339 : decode cL_law 1339 = .ok (.bipush 13, 2) := by decide +kernel
theorem dL_law_1341 : decode cL_law 1341 = .ok (.iload 15, 2) := by decide +kernel
theorem dL_law_1343 : decode cL_law 1343 = .ok (.iload 16, 2) := by decide +kernel
theorem dL_law_1345 : decode cL_law 1345 = .ok (.invokestatic 100, 3) := by decide +kernel
theorem dL_law_1348 : decode cL_law 1348 = .ok (.istore 17, 2) := by decide +kernel
theorem dL_law_1350 : decode cL_law 1350 = .ok (.iload 17, 2) := by decide +kernel
theorem dL_law_1352 : decode cL_law 1352 = .ok (.ldc 71, 2) := by decide +kernel
theorem dL_law_1354 : decode cL_law 1354 = .ok (.if_icmp .eq 37, 3) := by decide +kernel
theorem dL_law_1357 : decode cL_law 1357 = .ok (.iload 17, 2) := by decide +kernel
theorem dL_law_1359 : decode cL_law 1359 = .ok (.iload 16, 2) := by decide +kernel
theorem dL_law_1361 : decode cL_law 1361 = .ok (.ldc 116, 2) := by decide +kernel
theorem dL_law_1363 : decode cL_law 1363 = .ok (.iadd, 1) := by decide +kernel
theorem dL_law_1364 : decode cL_law 1364 = .ok (.if_icmp .ge 31, 3) := by decide +kernel
theorem dL_law_1367 : decode cL_law 1367 = .ok (.aload_n 1, 1) := by decide +kernel
theorem dL_law_1368 : decode cL_law 1368 = .ok (.iload 15, 2) := by decide +kernel
theorem dL_law_1370 : decode cL_law 1370 = .ok (.invokevirtual 89, 3) := by decide +kernel
theorem dL_law_1373 : decode cL_law 1373 = .ok (.ifCond .lt 22, 3) := by decide +kernel
theorem dL_law_1376 : decode cL_law 1376 = .ok (.aload_n 1, 1) := by decide +kernel
theorem dL_law_1377 : decode cL_law 1377 = .ok (.bipush 13, 2) := by decide +kernel
theorem dL_law_1379 : decode cL_law 1379 = .ok (.iload 15, 2) := by decide +kernel
theorem dL_law_1381 : decode cL_law 1381 = .ok (.iload 16, 2) := by decide +kernel
theorem dL_law_1383 : decode cL_law 1383 = .ok (.invokestatic 100, 3) := by decide +kernel
theorem dL_law_1386 : decode cL_law 1386 = .ok (.iload 17, 2) := by decide +kernel
theorem dL_law_1388 : decode cL_law 1388 = .ok (.if_icmp .ne 7, 3) := by decide +kernel
theorem dL_law_1391 : decode cL_law 1391 = .ok (.iconst 1, 1) := by decide +kernel
theorem dL_law_1392 : decode cL_law 1392 = .ok (.goto 4, 3) := by decide +kernel
theorem dL_law_1395 : decode cL_law 1395 = .ok (.iconst 0, 1) := by decide +kernel
theorem dL_law_1396 : decode cL_law 1396 = .ok (.istore 10, 2) := by decide +kernel
theorem dL_law_1398 : decode cL_law 1398 = .ok (.goto 108, 3) := by decide +kernel
theorem dL_law_1401 : decode cL_law 1401 = .ok (.iload 14, 2) := by decide +kernel
theorem dL_law_1403 : decode cL_law 1403 = .ok (.bipush 30, 2) := by decide +kernel
theorem dL_law_1405 : decode cL_law 1405 = .ok (.if_icmp .ne 53, 3) := by decide +kernel
theorem dL_law_1408 : decode cL_law 1408 = .ok (.aload_n 1, 1) := by decide +kernel
theorem dL_law_1409 : decode cL_law 1409 = .ok (.bipush 14, 2) := by decide +kernel
theorem dL_law_1411 : decode cL_law 1411 = .ok (.iload 15, 2) := by decide +kernel
theorem dL_law_1413 : decode cL_law 1413 = .ok (.iconst 1, 1) := by decide +kernel
theorem dL_law_1414 : decode cL_law 1414 = .ok (.iload 13, 2) := by decide +kernel
theorem dL_law_1416 : decode cL_law 1416 = .ok (.bipush 6, 2) := by decide +kernel
theorem dL_law_1418 : decode cL_law 1418 = .ok (.ishr, 1) := by decide +kernel
theorem dL_law_1419 : decode cL_law 1419 = .ok (.bipush 60, 2) := by decide +kernel
theorem dL_law_1421 : decode cL_law 1421 = .ok (.irem, 1) := by decide +kernel
theorem dL_law_1422 : decode cL_law 1422 = .ok (.iadd, 1) := by decide +kernel
theorem dL_law_1423 : decode cL_law 1423 = .ok (.invokestatic 100, 3) := by decide +kernel
theorem dL_law_1426 : decode cL_law 1426 = .ok (.istore 16, 2) := by decide +kernel
theorem dL_law_1428 : decode cL_law 1428 = .ok (.iload 16, 2) := by decide +kernel
theorem dL_law_1430 : decode cL_law 1430 = .ok (.ldc 71, 2) := by decide +kernel
theorem dL_law_1432 : decode cL_law 1432 = .ok (.if_icmp .eq 16, 3) := by decide +kernel
theorem dL_law_1435 : decode cL_law 1435 = .ok (.iload 16, 2) := by decide +kernel
theorem dL_law_1437 : decode cL_law 1437 = .ok (.ifCond .le 15, 3) := by decide +kernel
theorem dL_law_1440 : decode cL_law 1440 = .ok (.iload 16, 2) := by decide +kernel
theorem dL_law_1442 : decode cL_law 1442 = .ok (.sipush 600, 3) := by decide +kernel
theorem dL_law_1445 : decode cL_law 1445 = .ok (.if_icmp .gt 7, 3) := by decide +kernel
theorem dL_law_1448 : decode cL_law 1448 = .ok (.iconst 1, 1) := by decide +kernel
theorem dL_law_1449 : decode cL_law 1449 = .ok (.goto 4, 3) := by decide +kernel
theorem dL_law_1452 : decode cL_law 1452 = .ok (.iconst 0, 1) := by decide +kernel
theorem dL_law_1453 : decode cL_law 1453 = .ok (.istore 10, 2) := by decide +kernel
theorem dL_law_1455 : decode cL_law 1455 = .ok (.goto 51, 3) := by decide +kernel
theorem dL_law_1458 : decode cL_law 1458 = .ok (.iload 9, 2) := by decide +kernel
theorem dL_law_1460 : decode cL_law 1460 = .ok (.bipush 50, 2) := by decide +kernel
theorem dL_law_1462 : decode cL_law 1462 = .ok (.if_icmp .ge 44, 3) := by decide +kernel
theorem dL_law_1465 : decode cL_law 1465 = .ok (.iinc 9 1, 3) := by decide +kernel
theorem dL_law_1468 : decode cL_law 1468 = .ok (.aload_n 1, 1) := by decide +kernel
theorem dL_law_1469 : decode cL_law 1469 = .ok (.iload_n 2, 1) := by decide +kernel
theorem dL_law_1470 : decode cL_law 1470 = .ok (.iload_n 3, 1) := by decide +kernel
theorem dL_law_1471 : decode cL_law 1471 = .ok (.iload 4, 2) := by decide +kernel
theorem dL_law_1473 : decode cL_law 1473 = .ok (.iload 9, 2) := by decide +kernel
theorem dL_law_1475 : decode cL_law 1475 = .ok (.iconst 5, 1) := by decide +kernel
theorem dL_law_1476 : decode cL_law 1476 = .ok (.irem, 1) := by decide +kernel
theorem dL_law_1477 : decode cL_law 1477 = .ok (.ifCond .ne 7, 3) := by decide +kernel
theorem dL_law_1480 : decode cL_law 1480 = .ok (.iconst 1, 1) := by decide +kernel
theorem dL_law_1481 : decode cL_law 1481 = .ok (.goto 4, 3) := by decide +kernel
theorem dL_law_1484 : decode cL_law 1484 = .ok (.iconst 0, 1) := by decide +kernel
theorem dL_law_1485 : decode cL_law 1485 = .ok (.invokestatic 117, 3) := by decide +kernel
theorem dL_law_1488 : decode cL_law 1488 = .ok (.ifCond .eq 15, 3) := by decide +kernel
theorem dL_law_1491 : decode cL_law 1491 = .ok (.aload_n 1, 1) := by decide +kernel
theorem dL_law_1492 : decode cL_law 1492 = .ok (.iload_n 2, 1) := by decide +kernel
theorem dL_law_1493 : decode cL_law 1493 = .ok (.invokestatic 121, 3) := by decide +kernel
theorem dL_law_1496 : decode cL_law 1496 = .ok (.ifCond .eq 7, 3) := by decide +kernel
theorem dL_law_1499 : decode cL_law 1499 = .ok (.iconst 1, 1) := by decide +kernel
theorem dL_law_1500 : decode cL_law 1500 = .ok (.goto 4, 3) := by decide +kernel
theorem dL_law_1503 : decode cL_law 1503 = .ok (.iconst 0, 1) := by decide +kernel
theorem dL_law_1504 : decode cL_law 1504 = .ok (.istore 10, 2) := by decide +kernel
theorem dL_law_1506 : decode cL_law 1506 = .ok (.iinc 12 1, 3) := by decide +kernel
theorem dL_law_1509 : decode cL_law 1509 = .ok (.goto (-1441), 3) := by decide +kernel
theorem dL_law_1512 : decode cL_law 1512 = .ok (.iload 10, 2) := by decide +kernel
theorem dL_law_1514 : decode cL_law 1514 = .ok (.ireturn, 1) := by decide +kernel
