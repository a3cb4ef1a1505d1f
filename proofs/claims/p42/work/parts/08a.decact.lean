theorem goodIn_h {big : List Cond} {c : Cond} (h : c ∈ big) (hg : goodWord c = true) : GoodIn big [c] := fun w hw => by rw [List.mem_singleton.mp hw]; exact ⟨h, good_of_word hg⟩
theorem goodIn_cons {big a : List Cond} {c : Cond} (hc : GoodIn big [c]) (ha : GoodIn big a) : GoodIn big (c :: a) := fun w h => (List.mem_cons.mp h).elim (fun e => hc w (List.mem_cons.mpr (Or.inl e))) (ha w)
set_option maxRecDepth 100000 in
theorem ggL_law_L_act_h : GoodIn wsL_law [Cond.code yL_act cL_act 8 (some .long)] := goodIn_h (List.mem_append_left _ (List.mem_append_left _ (List.mem_append_left _ (List.mem_append_left _ (List.mem_append_left _ (List.mem_append_left _ (List.mem_append_left _ (List.mem_append_left _ (List.mem_append_left _ (List.mem_append_left _ (List.mem_append_right _ (List.mem_append_right _ (List.mem_append_right _ (List.mem_append_right _ (List.mem_append_right _ (List.mem_append_right _ (List.mem_append_right _ (List.mem_append_right _ (List.mem_append_right _ (List.mem_append_right _ (List.mem_append_right _ (List.mem_append_right _ (List.mem_append_right _ (List.mem_append_right _ (List.mem_append_right _ (List.mem_append_right _ (List.mem_append_right _ (List.mem_append_right _ (List.mem_append_right _ (List.mem_append_right _ (List.mem_append_right _ (List.mem_append_right _ (List.mem_append_left _ (List.mem_of_getElem? (l := wsL_law0_r23) (i := 14) rfl)))))))))))))))))))))))))))))))))) (by decide +kernel)
set_option maxRecDepth 100000 in
theorem ggL_law_L_act_1 : GoodIn wsL_law wsL_act_r1 := goodIn_r _ [355, 82, 83, 2, 84, 12, 78, 356, 357, 71, 358, 359, 360, 352, 353, 361, 362, 363, 364, 16, 365, 366, 367, 368] (by decide +kernel) (by decide +kernel)
set_option maxRecDepth 100000 in
theorem ggL_law_L_act_2 : GoodIn wsL_law wsL_act_r2 := goodIn_r _ [369, 370, 371, 372, 373, 374, 375, 376, 377, 378, 379, 380, 381, 15, 382, 49, 48, 47, 383, 384, 385, 11, 386, 39] (by decide +kernel) (by decide +kernel)
set_option maxRecDepth 100000 in
theorem ggL_law_L_act_3 : GoodIn wsL_law wsL_act_r3 := goodIn_r _ [40, 41, 387, 388, 389, 390, 36, 37, 38, 391, 392, 393, 394, 395, 396, 397, 398, 354, 399, 400, 401, 402, 113, 98] (by decide +kernel) (by decide +kernel)
set_option maxRecDepth 100000 in
theorem ggL_law_L_act_4 : GoodIn wsL_law wsL_act_r4 := goodIn_r _ [99, 100, 101, 102, 103, 403, 404, 405, 406, 140, 141, 407, 408, 409, 410, 411, 412, 413, 97, 108, 133, 134, 135, 136] (by decide +kernel) (by decide +kernel)
set_option maxRecDepth 100000 in
theorem ggL_law_L_act_5 : GoodIn wsL_law wsL_act_r5 := goodIn_r _ [137, 138, 139, 414, 415, 416, 417, 418, 154, 155, 156, 157, 118, 119, 120, 121, 419, 420, 421, 422, 423, 424, 425, 426] (by decide +kernel) (by decide +kernel)
set_option maxRecDepth 100000 in
theorem ggL_law_L_act_6 : GoodIn wsL_law wsL_act_r6 := goodIn_r _ [427, 428, 429, 430, 431, 432, 219, 433, 434, 435, 436, 437, 438, 439, 440, 441, 442, 443, 224, 146, 147, 148, 149, 150] (by decide +kernel) (by decide +kernel)
set_option maxRecDepth 100000 in
theorem ggL_law_L_act_7 : GoodIn wsL_law wsL_act_r7 := goodIn_r _ [151, 152, 153, 229, 230, 231, 232, 444, 445, 446, 447, 448, 449, 450, 543, 544, 545, 546, 31, 291, 292, 293, 30, 294] (by decide +kernel) (by decide +kernel)
set_option maxRecDepth 100000 in
theorem ggL_law_L_act_8 : GoodIn wsL_law wsL_act_r8 := goodIn_r _ [199, 295, 191, 192, 193, 296, 195, 196, 197, 198, 66, 68, 200, 201, 202, 203, 204, 205, 179, 180, 206, 207, 208, 209] (by decide +kernel) (by decide +kernel)
set_option maxRecDepth 100000 in
theorem ggL_law_L_act_9 : GoodIn wsL_law wsL_act_r9 := goodIn_r _ [210, 158, 159, 160, 161, 162, 163, 164, 547, 548, 549, 550, 551, 552, 553, 554, 23, 79, 451, 452, 453, 454, 455, 456] (by decide +kernel) (by decide +kernel)
set_option maxRecDepth 100000 in
theorem ggL_law_L_act_10 : GoodIn wsL_law wsL_act_r10 := goodIn_r _ [457, 458, 459, 460, 22, 461, 53, 54, 555, 556, 557, 558, 559, 560, 561, 562, 563, 564, 565, 566, 567, 568, 57, 569] (by decide +kernel) (by decide +kernel)
set_option maxRecDepth 100000 in
theorem ggL_law_L_act_11 : GoodIn wsL_law wsL_act_r11 := goodIn_r _ [328, 329, 330, 56, 331, 332, 333, 334, 335, 336, 337, 338, 339, 340, 341, 342, 343, 344, 345, 346, 347, 348, 55, 570] (by decide +kernel) (by decide +kernel)
set_option maxRecDepth 100000 in
theorem ggL_law_L_act_12 : GoodIn wsL_law wsL_act_r12 := goodIn_r _ [571, 572, 573, 574, 575, 576, 577, 578, 579, 580, 581, 582, 583, 584, 585, 586, 587, 588, 589, 590, 591, 592, 593, 594] (by decide +kernel) (by decide +kernel)
set_option maxRecDepth 100000 in
theorem ggL_law_L_act_13 : GoodIn wsL_law wsL_act_r13 := goodIn_r _ [595, 596, 597, 598, 599, 309, 600, 601, 602, 603, 462, 463, 464, 465, 466, 467, 468, 17, 19, 469, 470, 471, 472, 473] (by decide +kernel) (by decide +kernel)
set_option maxRecDepth 100000 in
theorem ggL_law_L_act_14 : GoodIn wsL_law wsL_act_r14 := goodIn_r _ [474, 475, 476, 477, 478, 479] (by decide +kernel) (by decide +kernel)
set_option maxRecDepth 100000 in
theorem ggL_law_L_act_15 : GoodIn wsL_law wsX50 := goodIn_r _ [608, 609, 610, 611, 612, 613, 614] (by decide +kernel) (by decide +kernel)
set_option maxRecDepth 100000 in
theorem ggL_law_L_act_16 : GoodIn wsL_law wsX10 := goodIn_r _ [615, 616, 617, 618, 619, 620] (by decide +kernel) (by decide +kernel)
set_option maxRecDepth 100000 in
theorem ggL_law_L_act_17 : GoodIn wsL_law wsX30 := goodIn_r _ [621, 622, 623] (by decide +kernel) (by decide +kernel)
set_option maxRecDepth 100000 in
theorem ggL_law_L_act_18 : GoodIn wsL_law wsX00 := goodIn_r _ [631, 632, 633] (by decide +kernel) (by decide +kernel)
set_option maxRecDepth 100000 in
theorem ggL_law_L_act_19 : GoodIn wsL_law wsX40 := goodIn_r _ [624, 625, 626, 627, 628] (by decide +kernel) (by decide +kernel)
set_option maxRecDepth 100000 in
theorem ggL_law_L_act : GoodIn wsL_law wsL_act := goodIn_cons ggL_law_L_act_h (goodIn_app (goodIn_app (goodIn_app (goodIn_app (goodIn_app (goodIn_app (goodIn_app (goodIn_app (goodIn_app ggL_law_L_act_1 (goodIn_app ggL_law_L_act_2 (goodIn_app ggL_law_L_act_3 (goodIn_app ggL_law_L_act_4 (goodIn_app ggL_law_L_act_5 (goodIn_app ggL_law_L_act_6 (goodIn_app ggL_law_L_act_7 (goodIn_app ggL_law_L_act_8 (goodIn_app ggL_law_L_act_9 (goodIn_app ggL_law_L_act_10 (goodIn_app ggL_law_L_act_11 (goodIn_app ggL_law_L_act_12 (goodIn_app ggL_law_L_act_13 ggL_law_L_act_14))))))))))))) ggL_law_L_act_15) ggL_law_L_act_16) ggL_law_L_act_17) ggL_law_L_act_18) ggL_law_L_act_19) (goodIn_sub (fun _ h => List.mem_append_left _ (List.mem_append_right _ h)) (by decide +kernel))) (goodIn_sub (fun _ h => List.mem_append_right _ h) (by decide +kernel))) (goodIn_sub (fun _ h => List.mem_append_left _ (List.mem_append_left _ (List.mem_append_right _ h))) (by decide +kernel)))
set_option maxRecDepth 20000 in
theorem gL_law_L_act : GoodIn wsL_law (va_wsS RL 224 yL_act wsL_act) := goodIn_app (goodIn_of _ (by decide +kernel)) ggL_law_L_act
