set_option maxRecDepth 100000 in
theorem ggL_law_L_errors_h : GoodIn wsL_law [Cond.code yL_errors cL_errors 8 (some .boolean)] := goodIn_h (List.mem_append_left _ (List.mem_append_left _ (List.mem_append_left _ (List.mem_append_left _ (List.mem_append_left _ (List.mem_append_left _ (List.mem_append_left _ (List.mem_append_left _ (List.mem_append_left _ (List.mem_append_left _ (List.mem_append_right _ (List.mem_append_right _ (List.mem_append_right _ (List.mem_append_right _ (List.mem_append_right _ (List.mem_append_right _ (List.mem_append_right _ (List.mem_append_right _ (List.mem_append_right _ (List.mem_append_right _ (List.mem_append_right _ (List.mem_append_right _ (List.mem_append_right _ (List.mem_append_right _ (List.mem_append_left _ (List.mem_of_getElem? (l := wsL_law0_r15) (i := 15) rfl)))))))))))))))))))))))))) (by decide +kernel)
set_option maxRecDepth 100000 in
theorem ggL_law_L_errors_1 : GoodIn wsL_law wsL_errors_r1 := goodIn_r _ [352, 353, 354, 73, 74, 75, 2, 76, 77, 12, 78, 19, 23, 79, 80, 81, 82, 83, 84, 85, 86, 87, 88, 89] (by decide +kernel) (by decide +kernel)
set_option maxRecDepth 100000 in
theorem ggL_law_L_errors_2 : GoodIn wsL_law wsL_errors_r2 := goodIn_r _ [90, 91, 92, 93, 94, 95, 96, 97, 98, 99, 100, 101, 102, 103, 104, 105, 106, 107, 108, 109, 110, 111, 112, 113] (by decide +kernel) (by decide +kernel)
set_option maxRecDepth 100000 in
theorem ggL_law_L_errors_3 : GoodIn wsL_law wsL_errors_r3 := goodIn_r _ [114, 115, 116, 117, 118, 119, 120, 11, 121, 37, 36, 122, 123, 124, 125, 126, 127, 128, 129, 130, 131, 132, 133, 134] (by decide +kernel) (by decide +kernel)
set_option maxRecDepth 100000 in
theorem ggL_law_L_errors_4 : GoodIn wsL_law wsL_errors_r4 := goodIn_r _ [135, 136, 41, 137, 138, 139, 140, 141, 142, 143, 144, 145, 146, 147, 148, 149, 39, 150, 151, 152, 153, 40, 154, 155] (by decide +kernel) (by decide +kernel)
set_option maxRecDepth 100000 in
theorem ggL_law_L_errors_5 : GoodIn wsL_law wsL_errors_r5 := goodIn_r _ [156, 157, 158, 159, 160, 161, 162, 163, 164, 165, 166, 167, 168, 27, 169, 170, 171, 26, 172, 62, 173, 174, 175, 176] (by decide +kernel) (by decide +kernel)
set_option maxRecDepth 100000 in
theorem ggL_law_L_errors_6 : GoodIn wsL_law wsL_errors_r6 := goodIn_r _ [177, 178, 61, 179, 180, 181, 182, 183, 184, 185, 186, 187, 188, 189, 31, 190, 191, 192, 193, 194, 195, 196, 30, 197] (by decide +kernel) (by decide +kernel)
set_option maxRecDepth 100000 in
theorem ggL_law_L_errors_7 : GoodIn wsL_law wsL_errors_r7 := goodIn_r _ [198, 199, 66, 68, 200, 201, 202, 203, 204, 205, 206, 207, 208, 209, 210, 211, 212, 213, 214, 215, 216, 217, 218, 219] (by decide +kernel) (by decide +kernel)
set_option maxRecDepth 100000 in
theorem ggL_law_L_errors_8 : GoodIn wsL_law wsL_errors_r8 := goodIn_r _ [220, 221, 222, 223, 224, 225, 226, 227, 228, 229, 230, 231, 232, 38, 233, 234, 235, 236, 237, 238, 239, 240, 241, 242] (by decide +kernel) (by decide +kernel)
set_option maxRecDepth 100000 in
theorem ggL_law_L_errors_9 : GoodIn wsL_law wsL_errors_r9 := goodIn_r _ [243, 244, 245, 246, 247, 248, 249, 250, 251, 252, 253, 254, 255, 256, 257, 258, 259, 260, 261, 262, 263, 264, 265, 266] (by decide +kernel) (by decide +kernel)
set_option maxRecDepth 100000 in
theorem ggL_law_L_errors_10 : GoodIn wsL_law wsL_errors_r10 := goodIn_r _ [267, 268, 269, 270, 271, 272, 273, 274, 275, 276, 277, 278, 67, 279, 280, 281, 282, 283, 284, 285, 286, 287, 288, 289] (by decide +kernel) (by decide +kernel)
set_option maxRecDepth 100000 in
theorem ggL_law_L_errors_11 : GoodIn wsL_law wsL_errors_r11 := goodIn_r _ [290, 291, 292, 293, 294, 295, 296, 297, 298, 299, 300, 301, 302, 303, 304, 305, 306, 307, 308, 16, 309, 310, 311, 312] (by decide +kernel) (by decide +kernel)
set_option maxRecDepth 100000 in
theorem ggL_law_L_errors_12 : GoodIn wsL_law wsL_errors_r12 := goodIn_r _ [313, 314, 315, 316, 317, 318, 319, 320, 321, 322, 355, 356, 357, 71, 358, 359, 360, 361, 362, 363, 364, 365, 366, 367] (by decide +kernel) (by decide +kernel)
set_option maxRecDepth 100000 in
theorem ggL_law_L_errors_13 : GoodIn wsL_law wsL_errors_r13 := goodIn_r _ [368, 369, 370, 371, 372, 373, 374, 375, 376, 377, 378, 379, 380, 381, 15, 382, 49, 48, 47, 383, 384, 385, 386, 387] (by decide +kernel) (by decide +kernel)
set_option maxRecDepth 100000 in
theorem ggL_law_L_errors_14 : GoodIn wsL_law wsL_errors_r14 := goodIn_r _ [388, 389, 390, 391, 392, 393, 394, 395, 396, 397, 398, 399, 400, 401, 402, 403, 404, 405, 406, 407, 408, 409, 410, 411] (by decide +kernel) (by decide +kernel)
set_option maxRecDepth 100000 in
theorem ggL_law_L_errors_15 : GoodIn wsL_law wsL_errors_r15 := goodIn_r _ [412, 413, 414, 415, 416, 417, 418, 419, 420, 421, 422, 423, 424, 425, 426, 427, 428, 429, 430, 431, 432, 433, 434, 435] (by decide +kernel) (by decide +kernel)
set_option maxRecDepth 100000 in
theorem ggL_law_L_errors_16 : GoodIn wsL_law wsL_errors_r16 := goodIn_r _ [436, 437, 438, 439, 440, 441, 442, 443, 444, 445, 446, 447, 448, 449, 450, 451, 452, 453, 454, 455, 456, 457, 458, 459] (by decide +kernel) (by decide +kernel)
set_option maxRecDepth 100000 in
theorem ggL_law_L_errors_17 : GoodIn wsL_law wsL_errors_r17 := goodIn_r _ [460, 22, 461, 53, 54, 462, 463, 464, 465, 466, 467, 468, 17, 469, 470, 471, 472, 473, 474, 475, 476, 477, 478, 479] (by decide +kernel) (by decide +kernel)
set_option maxRecDepth 100000 in
theorem ggL_law_L_errors_18 : GoodIn wsL_law wsL_errors_r18 := goodIn_r _ [480, 481, 482, 483, 484, 485, 486, 487, 488, 489, 490, 491, 492, 493, 494, 495, 496, 497, 498, 499, 500, 501, 502, 503] (by decide +kernel) (by decide +kernel)
set_option maxRecDepth 100000 in
theorem ggL_law_L_errors_19 : GoodIn wsL_law wsL_errors_r19 := goodIn_r _ [504, 505, 506, 507, 508, 509, 510, 511, 512, 513, 514] (by decide +kernel) (by decide +kernel)
set_option maxRecDepth 100000 in
theorem ggL_law_L_errors_20 : GoodIn wsL_law wsX50 := goodIn_r _ [608, 609, 610, 611, 612, 613, 614] (by decide +kernel) (by decide +kernel)
set_option maxRecDepth 100000 in
theorem ggL_law_L_errors_21 : GoodIn wsL_law wsX10 := goodIn_r _ [615, 616, 617, 618, 619, 620] (by decide +kernel) (by decide +kernel)
set_option maxRecDepth 100000 in
theorem ggL_law_L_errors_22 : GoodIn wsL_law wsX40 := goodIn_r _ [624, 625, 626, 627, 628] (by decide +kernel) (by decide +kernel)
set_option maxRecDepth 100000 in
theorem ggL_law_L_errors_23 : GoodIn wsL_law wsX20 := goodIn_r _ [629, 630] (by decide +kernel) (by decide +kernel)
set_option maxRecDepth 100000 in
theorem ggL_law_L_errors_24 : GoodIn wsL_law wsX00 := goodIn_r _ [631, 632, 633] (by decide +kernel) (by decide +kernel)
set_option maxRecDepth 100000 in
theorem ggL_law_L_errors_25 : GoodIn wsL_law wsX30 := goodIn_r _ [621, 622, 623] (by decide +kernel) (by decide +kernel)
set_option maxRecDepth 100000 in
theorem ggL_law_L_errors : GoodIn wsL_law wsL_errors := goodIn_cons ggL_law_L_errors_h (goodIn_app (goodIn_app (goodIn_app (goodIn_app (goodIn_app (goodIn_app (goodIn_app (goodIn_app (goodIn_app (goodIn_app ggL_law_L_errors_1 (goodIn_app ggL_law_L_errors_2 (goodIn_app ggL_law_L_errors_3 (goodIn_app ggL_law_L_errors_4 (goodIn_app ggL_law_L_errors_5 (goodIn_app ggL_law_L_errors_6 (goodIn_app ggL_law_L_errors_7 (goodIn_app ggL_law_L_errors_8 (goodIn_app ggL_law_L_errors_9 (goodIn_app ggL_law_L_errors_10 (goodIn_app ggL_law_L_errors_11 (goodIn_app ggL_law_L_errors_12 (goodIn_app ggL_law_L_errors_13 (goodIn_app ggL_law_L_errors_14 (goodIn_app ggL_law_L_errors_15 (goodIn_app ggL_law_L_errors_16 (goodIn_app ggL_law_L_errors_17 (goodIn_app ggL_law_L_errors_18 ggL_law_L_errors_19)))))))))))))))))) ggL_law_L_errors_20) ggL_law_L_errors_21) ggL_law_L_errors_22) ggL_law_L_errors_23) ggL_law_L_errors_24) ggL_law_L_errors_25) (goodIn_sub (fun _ h => List.mem_append_left _ (List.mem_append_left _ (List.mem_append_right _ h))) (by decide +kernel))) (goodIn_sub (fun _ h => List.mem_append_left _ (List.mem_append_right _ h)) (by decide +kernel))) (goodIn_sub (fun _ h => List.mem_append_right _ h) (by decide +kernel)))
set_option maxRecDepth 20000 in
theorem gL_law_L_errors : GoodIn wsL_law (va_wsS RL 213 yL_errors wsL_errors) := goodIn_app (goodIn_of _ (by decide +kernel)) ggL_law_L_errors
