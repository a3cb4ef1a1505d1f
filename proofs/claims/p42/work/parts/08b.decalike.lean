set_option maxRecDepth 100000 in
theorem ggL_law_L_alike_h : GoodIn wsL_law [Cond.code yL_alike cL_alike 2 (some .boolean)] := goodIn_h (List.mem_append_left _ (List.mem_append_left _ (List.mem_append_left _ (List.mem_append_left _ (List.mem_append_left _ (List.mem_append_left _ (List.mem_append_left _ (List.mem_append_left _ (List.mem_append_left _ (List.mem_append_left _ (List.mem_append_right _ (List.mem_append_right _ (List.mem_append_right _ (List.mem_append_left _ (List.mem_of_getElem? (l := wsL_law0_r4) (i := 0) rfl))))))))))))))) (by decide +kernel)
set_option maxRecDepth 100000 in
theorem ggL_law_L_alike_1 : GoodIn wsL_law wsL_alike_r1 := goodIn_r _ [73, 74, 75, 2, 76, 77, 12, 78, 19, 23, 79, 80, 81, 82, 83, 84, 85, 86, 87, 88, 89, 90, 91, 92] (by decide +kernel) (by decide +kernel)
set_option maxRecDepth 100000 in
theorem ggL_law_L_alike_2 : GoodIn wsL_law wsL_alike_r2 := goodIn_r _ [93, 94, 95, 96, 97, 98, 99, 100, 101, 102, 103, 104, 105, 106, 107, 108, 109, 110, 111, 112, 113, 114, 115, 116] (by decide +kernel) (by decide +kernel)
set_option maxRecDepth 100000 in
theorem ggL_law_L_alike_3 : GoodIn wsL_law wsL_alike_r3 := goodIn_r _ [117, 118, 119, 120, 11, 121, 37, 36, 122, 123, 124, 125, 126, 127, 128, 129, 130, 131, 132, 133, 134, 135, 136, 41] (by decide +kernel) (by decide +kernel)
set_option maxRecDepth 100000 in
theorem ggL_law_L_alike_4 : GoodIn wsL_law wsL_alike_r4 := goodIn_r _ [137, 138, 139, 140, 141, 142, 143, 144, 145, 146, 147, 148, 149, 39, 150, 151, 152, 153, 40, 154, 155, 156, 157, 158] (by decide +kernel) (by decide +kernel)
set_option maxRecDepth 100000 in
theorem ggL_law_L_alike_5 : GoodIn wsL_law wsL_alike_r5 := goodIn_r _ [159, 160, 161, 162, 163, 164, 165, 166, 167, 168, 27, 169, 170, 171, 26, 172, 62, 173, 174, 175, 176, 177, 178, 61] (by decide +kernel) (by decide +kernel)
set_option maxRecDepth 100000 in
theorem ggL_law_L_alike_6 : GoodIn wsL_law wsL_alike_r6 := goodIn_r _ [179, 180, 181, 182, 183, 184, 185, 186, 187, 188, 189, 31, 190, 191, 192, 193, 194, 195, 196, 30, 197, 198, 199, 66] (by decide +kernel) (by decide +kernel)
set_option maxRecDepth 100000 in
theorem ggL_law_L_alike_7 : GoodIn wsL_law wsL_alike_r7 := goodIn_r _ [68, 200, 201, 202, 203, 204, 205, 206, 207, 208, 209, 210, 211, 212, 213, 214, 215, 216, 217, 218, 219, 220, 221, 222] (by decide +kernel) (by decide +kernel)
set_option maxRecDepth 100000 in
theorem ggL_law_L_alike_8 : GoodIn wsL_law wsL_alike_r8 := goodIn_r _ [223, 224, 225, 226, 227, 228, 229, 230, 231, 232, 38, 233, 234, 235, 236, 237, 238, 239, 240, 241, 242, 243, 244, 245] (by decide +kernel) (by decide +kernel)
set_option maxRecDepth 100000 in
theorem ggL_law_L_alike_9 : GoodIn wsL_law wsL_alike_r9 := goodIn_r _ [246, 247, 248, 249, 250, 251, 252, 253, 254, 255, 256, 257, 258, 259, 260, 261, 262, 263, 264, 265, 266, 267, 268, 269] (by decide +kernel) (by decide +kernel)
set_option maxRecDepth 100000 in
theorem ggL_law_L_alike_10 : GoodIn wsL_law wsL_alike_r10 := goodIn_r _ [270, 271, 272, 273, 274, 275, 276, 277, 278, 67, 279, 280, 281, 282, 283, 284, 285, 286, 287, 288, 289, 290, 291, 292] (by decide +kernel) (by decide +kernel)
set_option maxRecDepth 100000 in
theorem ggL_law_L_alike_11 : GoodIn wsL_law wsL_alike_r11 := goodIn_r _ [293, 294, 295, 296, 297, 298, 299, 300, 301, 302, 303, 304, 305, 306, 307, 308, 16, 309, 310, 311, 312, 313, 314, 315] (by decide +kernel) (by decide +kernel)
set_option maxRecDepth 100000 in
theorem ggL_law_L_alike_12 : GoodIn wsL_law wsL_alike_r12 := goodIn_r _ [316, 317, 318, 319, 320, 321, 322, 323, 324, 325, 326, 327, 328, 329, 22, 330, 56, 57, 54, 53, 331, 332, 333, 334] (by decide +kernel) (by decide +kernel)
set_option maxRecDepth 100000 in
theorem ggL_law_L_alike_13 : GoodIn wsL_law wsL_alike_r13 := goodIn_r _ [335, 336, 337, 338, 339, 340, 341, 342, 343, 344, 345, 346, 347, 348, 55] (by decide +kernel) (by decide +kernel)
set_option maxRecDepth 100000 in
theorem ggL_law_L_alike_14 : GoodIn wsL_law wsX50 := goodIn_r _ [608, 609, 610, 611, 612, 613, 614] (by decide +kernel) (by decide +kernel)
set_option maxRecDepth 100000 in
theorem ggL_law_L_alike_15 : GoodIn wsL_law wsX10 := goodIn_r _ [615, 616, 617, 618, 619, 620] (by decide +kernel) (by decide +kernel)
set_option maxRecDepth 100000 in
theorem ggL_law_L_alike_16 : GoodIn wsL_law wsX40 := goodIn_r _ [624, 625, 626, 627, 628] (by decide +kernel) (by decide +kernel)
set_option maxRecDepth 100000 in
theorem ggL_law_L_alike_17 : GoodIn wsL_law wsX20 := goodIn_r _ [629, 630] (by decide +kernel) (by decide +kernel)
set_option maxRecDepth 100000 in
theorem ggL_law_L_alike_18 : GoodIn wsL_law wsX00 := goodIn_r _ [631, 632, 633] (by decide +kernel) (by decide +kernel)
set_option maxRecDepth 100000 in
theorem ggL_law_L_alike_19 : GoodIn wsL_law wsX30 := goodIn_r _ [621, 622, 623] (by decide +kernel) (by decide +kernel)
set_option maxRecDepth 100000 in
theorem ggL_law_L_alike : GoodIn wsL_law wsL_alike := goodIn_cons ggL_law_L_alike_h (goodIn_app (goodIn_app (goodIn_app (goodIn_app (goodIn_app (goodIn_app (goodIn_app (goodIn_app ggL_law_L_alike_1 (goodIn_app ggL_law_L_alike_2 (goodIn_app ggL_law_L_alike_3 (goodIn_app ggL_law_L_alike_4 (goodIn_app ggL_law_L_alike_5 (goodIn_app ggL_law_L_alike_6 (goodIn_app ggL_law_L_alike_7 (goodIn_app ggL_law_L_alike_8 (goodIn_app ggL_law_L_alike_9 (goodIn_app ggL_law_L_alike_10 (goodIn_app ggL_law_L_alike_11 (goodIn_app ggL_law_L_alike_12 ggL_law_L_alike_13)))))))))))) ggL_law_L_alike_14) ggL_law_L_alike_15) ggL_law_L_alike_16) ggL_law_L_alike_17) ggL_law_L_alike_18) ggL_law_L_alike_19) (goodIn_sub (fun _ h => List.mem_append_left _ (List.mem_append_left _ (List.mem_append_right _ h))) (by decide +kernel)))
set_option maxRecDepth 20000 in
theorem gL_law_L_alike : GoodIn wsL_law (va_wsS RL 209 yL_alike wsL_alike) := goodIn_app (goodIn_of _ (by decide +kernel)) ggL_law_L_alike
