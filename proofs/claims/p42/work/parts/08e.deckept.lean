set_option maxRecDepth 100000 in
theorem ggL_law_L_kept_h : GoodIn wsL_law [Cond.code yL_kept cL_kept 15 (some .boolean)] := goodIn_h (List.mem_append_left _ (List.mem_append_left _ (List.mem_append_left _ (List.mem_append_left _ (List.mem_append_left _ (List.mem_append_left _ (List.mem_append_left _ (List.mem_append_left _ (List.mem_append_left _ (List.mem_append_left _ (List.mem_append_right _ (List.mem_append_right _ (List.mem_append_right _ (List.mem_append_right _ (List.mem_append_right _ (List.mem_append_right _ (List.mem_append_right _ (List.mem_append_right _ (List.mem_append_right _ (List.mem_append_right _ (List.mem_append_right _ (List.mem_append_right _ (List.mem_append_right _ (List.mem_append_right _ (List.mem_append_right _ (List.mem_append_right _ (List.mem_append_right _ (List.mem_append_right _ (List.mem_append_right _ (List.mem_append_right _ (List.mem_append_right _ (List.mem_append_left _ (List.mem_of_getElem? (l := wsL_law0_r22) (i := 13) rfl))))))))))))))))))))))))))))))))) (by decide +kernel)
set_option maxRecDepth 100000 in
theorem ggL_law_L_kept_1 : GoodIn wsL_law wsL_kept_r1 := goodIn_r _ [518, 519, 520, 355, 82, 83, 2, 84, 12, 78, 521, 288, 289, 290, 31, 291, 292, 293, 30, 294, 199, 295, 191, 192] (by decide +kernel) (by decide +kernel)
set_option maxRecDepth 100000 in
theorem ggL_law_L_kept_2 : GoodIn wsL_law wsL_kept_r2 := goodIn_r _ [11, 193, 39, 140, 141, 296, 195, 196, 197, 198, 66, 68, 200, 201, 202, 203, 204, 205, 179, 180, 137, 138, 139, 206] (by decide +kernel) (by decide +kernel)
set_option maxRecDepth 100000 in
theorem ggL_law_L_kept_3 : GoodIn wsL_law wsL_kept_r3 := goodIn_r _ [207, 208, 209, 210, 522, 234, 235, 236, 237, 151, 152, 153, 36, 37, 40, 154, 155, 156, 157, 523, 239, 240, 241, 27] (by decide +kernel) (by decide +kernel)
set_option maxRecDepth 100000 in
theorem ggL_law_L_kept_4 : GoodIn wsL_law wsL_kept_r4 := goodIn_r _ [242, 243, 244, 26, 245, 246, 247, 248, 249, 250, 251, 252, 253, 524, 255, 256, 257, 258, 259, 260, 261, 262, 525, 264] (by decide +kernel) (by decide +kernel)
set_option maxRecDepth 100000 in
theorem ggL_law_L_kept_5 : GoodIn wsL_law wsL_kept_r5 := goodIn_r _ [265, 266, 267, 268, 269, 270, 178, 62, 173, 174, 175, 176, 177, 61, 181, 182, 183, 184, 185, 526, 272, 273, 274, 275] (by decide +kernel) (by decide +kernel)
set_option maxRecDepth 100000 in
theorem ggL_law_L_kept_6 : GoodIn wsL_law wsL_kept_r6 := goodIn_r _ [276, 277, 278, 67, 279, 147, 148, 149, 150, 280, 281, 282, 527, 284, 285, 286, 190, 194, 528, 226, 227, 228, 224, 229] (by decide +kernel) (by decide +kernel)
set_option maxRecDepth 100000 in
theorem ggL_law_L_kept_7 : GoodIn wsL_law wsL_kept_r7 := goodIn_r _ [230, 231, 232, 38, 529, 221, 222, 223, 158, 159, 160, 161, 162, 163, 164, 530, 298, 299, 300, 301, 302, 303, 304, 531] (by decide +kernel) (by decide +kernel)
set_option maxRecDepth 100000 in
theorem ggL_law_L_kept_8 : GoodIn wsL_law wsL_kept_r8 := goodIn_r _ [306, 307, 308, 16, 309, 532, 533, 71, 534, 492, 493, 494, 398, 354, 495, 130, 131, 132, 98, 99, 100, 101, 102, 103] (by decide +kernel) (by decide +kernel)
set_option maxRecDepth 100000 in
theorem ggL_law_L_kept_9 : GoodIn wsL_law wsL_kept_r9 := goodIn_r _ [133, 134, 135, 136, 41, 488, 489, 490, 491, 110, 111, 112, 113, 507, 508, 509, 510, 166, 167, 168, 169, 170, 171, 172] (by decide +kernel) (by decide +kernel)
set_option maxRecDepth 100000 in
theorem ggL_law_L_kept_10 : GoodIn wsL_law wsL_kept_r10 := goodIn_r _ [496, 497, 498, 499, 500, 501, 502, 503, 504, 505, 506, 143, 144, 145, 146, 480, 481, 482, 483, 94, 95, 96, 97, 484] (by decide +kernel) (by decide +kernel)
set_option maxRecDepth 100000 in
theorem ggL_law_L_kept_11 : GoodIn wsL_law wsL_kept_r11 := goodIn_r _ [485, 486, 487, 105, 106, 107, 108, 511, 512, 513, 514, 187, 188, 189] (by decide +kernel) (by decide +kernel)
set_option maxRecDepth 100000 in
theorem ggL_law_L_kept_12 : GoodIn wsL_law wsX50 := goodIn_r _ [608, 609, 610, 611, 612, 613, 614] (by decide +kernel) (by decide +kernel)
set_option maxRecDepth 100000 in
theorem ggL_law_L_kept_13 : GoodIn wsL_law wsX10 := goodIn_r _ [615, 616, 617, 618, 619, 620] (by decide +kernel) (by decide +kernel)
set_option maxRecDepth 100000 in
theorem ggL_law_L_kept_14 : GoodIn wsL_law wsX00 := goodIn_r _ [631, 632, 633] (by decide +kernel) (by decide +kernel)
set_option maxRecDepth 100000 in
theorem ggL_law_L_kept_15 : GoodIn wsL_law wsX20 := goodIn_r _ [629, 630] (by decide +kernel) (by decide +kernel)
set_option maxRecDepth 100000 in
theorem ggL_law_L_kept_16 : GoodIn wsL_law wsX30 := goodIn_r _ [621, 622, 623] (by decide +kernel) (by decide +kernel)
set_option maxRecDepth 100000 in
theorem ggL_law_L_kept : GoodIn wsL_law wsL_kept := goodIn_cons ggL_law_L_kept_h (goodIn_app (goodIn_app (goodIn_app (goodIn_app (goodIn_app (goodIn_app (goodIn_app ggL_law_L_kept_1 (goodIn_app ggL_law_L_kept_2 (goodIn_app ggL_law_L_kept_3 (goodIn_app ggL_law_L_kept_4 (goodIn_app ggL_law_L_kept_5 (goodIn_app ggL_law_L_kept_6 (goodIn_app ggL_law_L_kept_7 (goodIn_app ggL_law_L_kept_8 (goodIn_app ggL_law_L_kept_9 (goodIn_app ggL_law_L_kept_10 ggL_law_L_kept_11)))))))))) ggL_law_L_kept_12) ggL_law_L_kept_13) ggL_law_L_kept_14) ggL_law_L_kept_15) ggL_law_L_kept_16) (goodIn_sub (fun _ h => List.mem_append_left _ (List.mem_append_left _ (List.mem_append_right _ h))) (by decide +kernel)))
set_option maxRecDepth 20000 in
theorem gL_law_L_kept : GoodIn wsL_law (va_wsS RL 217 yL_kept wsL_kept) := goodIn_app (goodIn_of _ (by decide +kernel)) ggL_law_L_kept
