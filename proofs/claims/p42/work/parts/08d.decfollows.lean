set_option maxRecDepth 100000 in
theorem ggL_law_L_follows_h : GoodIn wsL_law [Cond.code yL_follows cL_follows 14 (some .boolean)] := goodIn_h (List.mem_append_left _ (List.mem_append_left _ (List.mem_append_left _ (List.mem_append_left _ (List.mem_append_left _ (List.mem_append_left _ (List.mem_append_left _ (List.mem_append_left _ (List.mem_append_left _ (List.mem_append_left _ (List.mem_append_right _ (List.mem_append_right _ (List.mem_append_right _ (List.mem_append_right _ (List.mem_append_right _ (List.mem_append_right _ (List.mem_append_right _ (List.mem_append_right _ (List.mem_append_right _ (List.mem_append_right _ (List.mem_append_right _ (List.mem_append_right _ (List.mem_append_right _ (List.mem_append_right _ (List.mem_append_right _ (List.mem_append_right _ (List.mem_append_right _ (List.mem_append_right _ (List.mem_append_right _ (List.mem_append_right _ (List.mem_append_right _ (List.mem_append_right _ (List.mem_append_right _ (List.mem_append_right _ (List.mem_append_right _ (List.mem_of_getElem? (l := wsL_law0_r26) (i := 6) rfl)))))))))))))))))))))))))))))))))))) (by decide +kernel)
set_option maxRecDepth 100000 in
theorem ggL_law_L_follows_1 : GoodIn wsL_law wsL_follows_r1 := goodIn_r _ [353, 355, 82, 83, 2, 84, 12, 78, 527, 284, 285, 286, 31, 190, 191, 192, 11, 193, 39, 140, 141, 194, 195, 196] (by decide +kernel) (by decide +kernel)
set_option maxRecDepth 100000 in
theorem ggL_law_L_follows_2 : GoodIn wsL_law wsL_follows_r2 := goodIn_r _ [30, 197, 198, 199, 66, 68, 200, 201, 202, 203, 204, 205, 179, 180, 137, 138, 139, 206, 207, 208, 209, 210, 528, 226] (by decide +kernel) (by decide +kernel)
set_option maxRecDepth 100000 in
theorem ggL_law_L_follows_3 : GoodIn wsL_law wsL_follows_r3 := goodIn_r _ [227, 228, 224, 229, 230, 231, 232, 38, 522, 234, 235, 236, 237, 151, 152, 153, 36, 37, 40, 154, 155, 156, 157, 521] (by decide +kernel) (by decide +kernel)
set_option maxRecDepth 100000 in
theorem ggL_law_L_follows_4 : GoodIn wsL_law wsL_follows_r4 := goodIn_r _ [288, 289, 290, 291, 292, 293, 294, 295, 296, 462, 463, 71, 464, 359, 352, 465, 466, 467, 468, 17, 19, 469, 470, 471] (by decide +kernel) (by decide +kernel)
set_option maxRecDepth 100000 in
theorem ggL_law_L_follows_5 : GoodIn wsL_law wsL_follows_r5 := goodIn_r _ [368, 369, 472, 384, 385, 386, 41, 387, 388, 389, 390, 543, 544, 545, 546, 16, 379, 380, 381, 15, 382, 49, 48, 47] (by decide +kernel) (by decide +kernel)
set_option maxRecDepth 100000 in
theorem ggL_law_L_follows_6 : GoodIn wsL_law wsL_follows_r6 := goodIn_r _ [383, 158, 159, 160, 161, 162, 163, 164, 529, 221, 222, 223, 492, 493, 494, 398, 354, 495, 130, 131, 132, 98, 99, 100] (by decide +kernel) (by decide +kernel)
set_option maxRecDepth 100000 in
theorem ggL_law_L_follows_7 : GoodIn wsL_law wsL_follows_r7 := goodIn_r _ [101, 102, 103, 133, 134, 135, 136, 593, 594, 595, 360, 596, 597, 598, 599, 377, 378, 309, 600, 601, 602, 603, 488, 489] (by decide +kernel) (by decide +kernel)
set_option maxRecDepth 100000 in
theorem ggL_law_L_follows_8 : GoodIn wsL_law wsL_follows_r8 := goodIn_r _ [490, 491, 110, 111, 112, 113, 503, 504, 505, 506, 143, 144, 145, 146, 147, 148, 149, 150, 511, 512, 513, 514, 187, 188] (by decide +kernel) (by decide +kernel)
set_option maxRecDepth 100000 in
theorem ggL_law_L_follows_9 : GoodIn wsL_law wsL_follows_r9 := goodIn_r _ [189, 444, 445, 446, 447, 448, 449, 450, 437, 438, 439, 440, 441, 442, 443, 395, 396, 397, 399, 400, 401, 402, 403, 404] (by decide +kernel) (by decide +kernel)
set_option maxRecDepth 100000 in
theorem ggL_law_L_follows_10 : GoodIn wsL_law wsL_follows_r10 := goodIn_r _ [405, 406, 419, 420, 421, 422, 423, 424, 425, 370, 371, 372, 356, 357, 358, 361, 362, 363, 364, 365, 366, 367, 373, 374] (by decide +kernel) (by decide +kernel)
set_option maxRecDepth 100000 in
theorem ggL_law_L_follows_11 : GoodIn wsL_law wsL_follows_r11 := goodIn_r _ [375, 376, 391, 392, 393, 394, 607, 216, 217, 218, 219, 426, 427, 428, 429, 430, 431, 432, 433, 434, 435, 436, 418, 473] (by decide +kernel) (by decide +kernel)
set_option maxRecDepth 100000 in
theorem ggL_law_L_follows_12 : GoodIn wsL_law wsL_follows_r12 := goodIn_r _ [474, 475, 476, 477, 478, 479] (by decide +kernel) (by decide +kernel)
set_option maxRecDepth 100000 in
theorem ggL_law_L_follows_13 : GoodIn wsL_law wsX50 := goodIn_r _ [608, 609, 610, 611, 612, 613, 614] (by decide +kernel) (by decide +kernel)
set_option maxRecDepth 100000 in
theorem ggL_law_L_follows_14 : GoodIn wsL_law wsX10 := goodIn_r _ [615, 616, 617, 618, 619, 620] (by decide +kernel) (by decide +kernel)
set_option maxRecDepth 100000 in
theorem ggL_law_L_follows_15 : GoodIn wsL_law wsX00 := goodIn_r _ [631, 632, 633] (by decide +kernel) (by decide +kernel)
set_option maxRecDepth 100000 in
theorem ggL_law_L_follows_16 : GoodIn wsL_law wsX30 := goodIn_r _ [621, 622, 623] (by decide +kernel) (by decide +kernel)
set_option maxRecDepth 100000 in
theorem ggL_law_L_follows : GoodIn wsL_law wsL_follows := goodIn_cons ggL_law_L_follows_h (goodIn_app (goodIn_app (goodIn_app (goodIn_app (goodIn_app (goodIn_app (goodIn_app (goodIn_app ggL_law_L_follows_1 (goodIn_app ggL_law_L_follows_2 (goodIn_app ggL_law_L_follows_3 (goodIn_app ggL_law_L_follows_4 (goodIn_app ggL_law_L_follows_5 (goodIn_app ggL_law_L_follows_6 (goodIn_app ggL_law_L_follows_7 (goodIn_app ggL_law_L_follows_8 (goodIn_app ggL_law_L_follows_9 (goodIn_app ggL_law_L_follows_10 (goodIn_app ggL_law_L_follows_11 ggL_law_L_follows_12))))))))))) ggL_law_L_follows_13) ggL_law_L_follows_14) ggL_law_L_follows_15) ggL_law_L_follows_16) (goodIn_sub (fun _ h => List.mem_append_left _ (List.mem_append_right _ h)) (by decide +kernel))) (goodIn_sub (fun _ h => List.mem_append_left _ (List.mem_append_left _ (List.mem_append_right _ h))) (by decide +kernel))) (goodIn_sub (fun _ h => List.mem_append_right _ h) (by decide +kernel)))
set_option maxRecDepth 20000 in
theorem gL_law_L_follows : GoodIn wsL_law (va_wsS RL 227 yL_follows wsL_follows) := goodIn_app (goodIn_of _ (by decide +kernel)) ggL_law_L_follows
