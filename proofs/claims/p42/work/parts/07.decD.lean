theorem dL_kept_410 : decode cL_kept 410 = .ok (.goto (-105), 3) := by decide +kernel
theorem dL_kept_413 : decode cL_kept 413 = .ok (.iload 7, 2) := by decide +kernel
theorem dL_kept_415 : decode cL_kept 415 = .ok (.iload 12, 2) := by decide +kernel
theorem dL_kept_417 : decode cL_kept 417 = .ok (.iadd, 1) := by decide +kernel
theorem dL_kept_418 : decode cL_kept 418 = .ok (.istore 7, 2) := by decide +kernel
theorem dL_kept_420 : decode cL_kept 420 = .ok (.iload_n 3, 1) := by decide +kernel
theorem dL_kept_421 : decode cL_kept 421 = .ok (.ifCond .eq 103, 3) := by decide +kernel
theorem dL_kept_424 : decode cL_kept 424 = .ok (.aload_n 0, 1) := by decide +kernel
theorem dL_kept_425 : decode cL_kept 425 = .ok (.iload 9, 2) := by decide +kernel
theorem dL_kept_427 : decode cL_kept 427 = .ok (.invokestatic 133, 3) := by decide +kernel
theorem dL_kept_430 : decode cL_kept 430 = .ok (.iload 12, 2) := by decide +kernel
theorem dL_kept_432 : decode cL_kept 432 = .ok (.i2l, 1) := by decide +kernel
theorem dL_kept_433 : decode cL_kept 433 = .ok (.lcmp, 1) := by decide +kernel
theorem dL_kept_434 : decode cL_kept 434 = .ok (.ifCond .ne 90, 3) := by decide +kernel
theorem dL_kept_437 : decode cL_kept 437 = .ok (.aload_n 0, 1) := by decide +kernel
theorem dL_kept_438 : decode cL_kept 438 = .ok (.iload 9, 2) := by decide +kernel
theorem dL_kept_440 : decode cL_kept 440 = .ok (.invokestatic 122, 3) := by decide +kernel
theorem dL_kept_443 : decode cL_kept 443 = .ok (.aload_n 0, 1) := by decide +kernel
theorem dL_kept_444 : decode cL_kept 444 = .ok (.iload 9, 2) := by decide +kernel
theorem dL_kept_446 : decode cL_kept 446 = .ok (.invokestatic 124, 3) := by decide +kernel
theorem dL_kept_449 : decode cL_kept 449 = .ok (.lcmp, 1) := by decide +kernel
theorem dL_kept_450 : decode cL_kept 450 = .ok (.ifCond .ge 74, 3) := by decide +kernel
theorem dL_kept_453 : decode cL_kept 453 = .ok (.aload_n 0, 1) := by decide +kernel
theorem dL_kept_454 : decode cL_kept 454 = .ok (.iload 9, 2) := by decide +kernel
theorem dL_kept_456 : decode cL_kept 456 = .ok (.invokestatic 126, 3) := by decide +kernel
theorem dL_kept_459 : decode cL_kept 459 = .ok (.lconst 1, 1) := by decide +kernel
theorem dL_kept_460 : decode cL_kept 460 = .ok (.ldc2_w 180, 3) := by decide +kernel
theorem dL_kept_463 : decode cL_kept 463 = .ok (.invokestatic 174, 3) := by decide +kernel
theorem dL_kept_466 : decode cL_kept 466 = .ok (.ifCond .eq 58, 3) := by decide +kernel
theorem dL_kept_469 : decode cL_kept 469 = .ok (.aload_n 0, 1) := by decide +kernel
theorem dL_kept_470 : decode cL_kept 470 = .ok (.iload 9, 2) := by decide +kernel
theorem dL_kept_472 : decode cL_kept 472 = .ok (.invokestatic 137, 3) := by decide +kernel
theorem dL_kept_475 : decode cL_kept 475 = .ok (.aload_n 0, 1) := by decide +kernel
theorem dL_kept_476 : decode cL_kept 476 = .ok (.iload 9, 2) := by decide +kernel
theorem dL_kept_478 : decode cL_kept 478 = .ok (.invokestatic 126, 3) := by decide +kernel
theorem dL_kept_481 : decode cL_kept 481 = .ok (.lcmp, 1) := by decide +kernel
theorem dL_kept_482 : decode cL_kept 482 = .ok (.ifCond .lt 42, 3) := by decide +kernel
theorem dL_kept_485 : decode cL_kept 485 = .ok (.aload_n 0, 1) := by decide +kernel
theorem dL_kept_486 : decode cL_kept 486 = .ok (.iload 9, 2) := by decide +kernel
theorem dL_kept_488 : decode cL_kept 488 = .ok (.invokestatic 137, 3) := by decide +kernel
theorem dL_kept_491 : decode cL_kept 491 = .ok (.aload_n 0, 1) := by decide +kernel
theorem dL_kept_492 : decode cL_kept 492 = .ok (.invokevirtual 157, 3) := by decide +kernel
theorem dL_kept_495 : decode cL_kept 495 = .ok (.i2l, 1) := by decide +kernel
theorem dL_kept_496 : decode cL_kept 496 = .ok (.lcmp, 1) := by decide +kernel
theorem dL_kept_497 : decode cL_kept 497 = .ok (.ifCond .gt 27, 3) := by decide +kernel
theorem dL_kept_500 : decode cL_kept 500 = .ok (.iload 10, 2) := by decide +kernel
theorem dL_kept_502 : decode cL_kept 502 = .ok (.ifCond .eq 18, 3) := by decide +kernel
theorem dL_kept_505 : decode cL_kept 505 = .ok (.aload_n 0, 1) := by decide +kernel
theorem dL_kept_506 : decode cL_kept 506 = .ok (.iload 9, 2) := by decide +kernel
theorem dL_kept_508 : decode cL_kept 508 = .ok (.invokestatic 137, 3) := by decide +kernel
theorem dL_kept_511 : decode cL_kept 511 = .ok (.aload_n 0, 1) := by decide +kernel
theorem dL_kept_512 : decode cL_kept 512 = .ok (.invokevirtual 157, 3) := by decide +kernel
theorem dL_kept_515 : decode cL_kept 515 = .ok (.i2l, 1) := by decide +kernel
theorem dL_kept_516 : decode cL_kept 516 = .ok (.lcmp, 1) := by decide +kernel
theorem dL_kept_517 : decode cL_kept 517 = .ok (.ifCond .ne 7, 3) := by decide +kernel
theorem dL_kept_520 : decode cL_kept 520 = .ok (.iconst 1, 1) := by decide +kernel
theorem dL_kept_521 : decode cL_kept 521 = .ok (.goto 4, 3) := by decide +kernel
theorem dL_kept_524 : decode cL_kept 524 = .ok (.iconst 0, 1) := by decide +kernel
theorem dL_kept_525 : decode cL_kept 525 = .ok (.istore_n 3, 1) := by decide +kernel
theorem dL_kept_526 : decode cL_kept 526 = .ok (.iinc 9 1, 3) := by decide +kernel
theorem dL_kept_529 : decode cL_kept 529 = .ok (.goto (-361), 3) := by decide +kernel
theorem dL_kept_532 : decode cL_kept 532 = .ok (.iload_n 3, 1) := by decide +kernel
theorem dL_kept_533 : decode cL_kept 533 = .ok (.ifCond .eq 61, 3) := by decide +kernel
theorem dL_kept_536 : decode cL_kept 536 = .ok (.iload 4, 2) := by decide +kernel
theorem dL_kept_538 : decode cL_kept 538 = .ok (.aload_n 0, 1) := by decide +kernel
theorem dL_kept_539 : decode cL_kept 539 = .ok (.invokevirtual 154, 3) := by decide +kernel
theorem dL_kept_542 : decode cL_kept 542 = .ok (.if_icmp .ne 52, 3) := by decide +kernel
theorem dL_kept_545 : decode cL_kept 545 = .ok (.iload 5, 2) := by decide +kernel
theorem dL_kept_547 : decode cL_kept 547 = .ok (.aload_n 0, 1) := by decide +kernel
theorem dL_kept_548 : decode cL_kept 548 = .ok (.invokevirtual 160, 3) := by decide +kernel
theorem dL_kept_551 : decode cL_kept 551 = .ok (.if_icmp .ne 43, 3) := by decide +kernel
theorem dL_kept_554 : decode cL_kept 554 = .ok (.iload 6, 2) := by decide +kernel
theorem dL_kept_556 : decode cL_kept 556 = .ok (.aload_n 0, 1) := by decide +kernel
theorem dL_kept_557 : decode cL_kept 557 = .ok (.invokevirtual 163, 3) := by decide +kernel
theorem dL_kept_560 : decode cL_kept 560 = .ok (.if_icmp .ne 34, 3) := by decide +kernel
theorem dL_kept_563 : decode cL_kept 563 = .ok (.iload 7, 2) := by decide +kernel
theorem dL_kept_565 : decode cL_kept 565 = .ok (.iconst 2, 1) := by decide +kernel
theorem dL_kept_566 : decode cL_kept 566 = .ok (.aload_n 0, 1) := by decide +kernel
theorem dL_kept_567 : decode cL_kept 567 = .ok (.invokevirtual 142, 3) := by decide +kernel
theorem dL_kept_570 : decode cL_kept 570 = .ok (.imul, 1) := by decide +kernel
theorem dL_kept_571 : decode cL_kept 571 = .ok (.if_icmp .ne 23, 3) := by decide +kernel
theorem dL_kept_574 : decode cL_kept 574 = .ok (.iload 8, 2) := by decide +kernel
theorem dL_kept_576 : decode cL_kept 576 = .ok (.aload_n 0, 1) := by decide +kernel
theorem dL_kept_577 : decode cL_kept 577 = .ok (.invokevirtual 151, 3) := by decide +kernel
theorem dL_kept_580 : decode cL_kept 580 = .ok (.if_icmp .ne 14, 3) := by decide +kernel
theorem dL_kept_583 : decode cL_kept 583 = .ok (.iload_n 2, 1) := by decide +kernel
theorem dL_kept_584 : decode cL_kept 584 = .ok (.iconst 1, 1) := by decide +kernel
theorem dL_kept_585 : decode cL_kept 585 = .ok (.iload_n 1, 1) := by decide +kernel
theorem dL_kept_586 : decode cL_kept 586 = .ok (.ishl, 1) := by decide +kernel
theorem dL_kept_587 : decode cL_kept 587 = .ok (.if_icmp .ge 7, 3) := by decide +kernel
theorem dL_kept_590 : decode cL_kept 590 = .ok (.iconst 1, 1) := by decide +kernel
theorem dL_kept_591 : decode cL_kept 591 = .ok (.goto 4, 3) := by decide +kernel
theorem dL_kept_594 : decode cL_kept 594 = .ok (.iconst 0, 1) := by decide +kernel
theorem dL_kept_595 : decode cL_kept 595 = .ok (.ireturn, 1) := by decide +kernel
set_option maxRecDepth 20000 in
theorem ggL_follows_X5_rehearsals : GoodIn wsL_follows wsX5_rehearsals := goodIn_r _ [6, 7, 8, 271, 272, 273, 274, 275, 276, 277, 278, 279, 280, 281, 282, 283] (by decide +kernel) (by decide +kernel)
set_option maxRecDepth 20000 in
theorem gL_follows_X5_rehearsals : GoodIn wsL_follows (wsV RL 94 RX5 yX5_rehearsals wsX5_rehearsals) := goodIn_app (goodIn_of _ (by decide +kernel)) ggL_follows_X5_rehearsals
set_option maxRecDepth 20000 in
theorem ggL_follows_X5_bestByTable : GoodIn wsL_follows wsX5_bestByTable := goodIn_r _ [12, 13, 7, 14, 15, 16, 17, 18, 19, 20, 5, 21, 22, 23, 24, 25, 26, 27, 28, 29, 30, 31, 32, 33, 34, 35, 36, 37, 38, 39, 40, 41, 42, 43, 44, 45, 46, 271, 272, 273, 274, 275, 276, 277, 278, 279, 280, 281, 282, 283, 284, 285, 286] (by decide +kernel) (by decide +kernel)
set_option maxRecDepth 20000 in
theorem gL_follows_X5_bestByTable : GoodIn wsL_follows (wsV RL 157 RX5 yX5_bestByTable wsX5_bestByTable) := goodIn_app (goodIn_of _ (by decide +kernel)) ggL_follows_X5_bestByTable
set_option maxRecDepth 20000 in
theorem ggL_follows_X5_bookedFame : GoodIn wsL_follows wsX5_bookedFame := goodIn_r _ [50, 7, 51, 52, 53, 54, 17, 55, 19, 56, 39, 5, 40, 41, 20, 21, 271, 272, 273, 274, 275, 276, 277, 278, 279, 280, 281, 282, 283] (by decide +kernel) (by decide +kernel)
set_option maxRecDepth 20000 in
theorem gL_follows_X5_bookedFame : GoodIn wsL_follows (wsV RL 160 RX5 yX5_bookedFame wsX5_bookedFame) := goodIn_app (goodIn_of _ (by decide +kernel)) ggL_follows_X5_bookedFame
set_option maxRecDepth 20000 in
theorem ggL_follows_X5_conflictsByPairs : GoodIn wsL_follows wsX5_conflictsByPairs := goodIn_r _ [60, 7, 8, 61, 62, 63, 17, 64, 65, 66, 67, 68, 69, 70, 71, 271, 272, 273, 274, 275, 276, 277, 278, 279, 280, 281, 282, 283] (by decide +kernel) (by decide +kernel)
set_option maxRecDepth 20000 in
theorem gL_follows_X5_conflictsByPairs : GoodIn wsL_follows (wsV RL 142 RX5 yX5_conflictsByPairs wsX5_conflictsByPairs) := goodIn_app (goodIn_of _ (by decide +kernel)) ggL_follows_X5_conflictsByPairs
set_option maxRecDepth 20000 in
theorem ggL_follows_X5_bestChoice : GoodIn wsL_follows wsX5_bestChoice := goodIn_r _ [75, 13, 7, 76, 77, 78, 25, 79, 28, 80, 15, 16, 17, 18, 19, 20, 5, 21, 81, 23, 24, 26, 27, 29, 30, 31, 32, 33, 34, 35, 36, 37, 38, 39, 40, 41, 42, 43, 44, 45, 46, 271, 272, 273, 274, 275, 276, 277, 278, 279, 280, 281, 282, 283, 284, 285, 286] (by decide +kernel) (by decide +kernel)
set_option maxRecDepth 20000 in
theorem gL_follows_X5_bestChoice : GoodIn wsL_follows (wsV RL 139 RX5 yX5_bestChoice wsX5_bestChoice) := goodIn_app (goodIn_of _ (by decide +kernel)) ggL_follows_X5_bestChoice
set_option maxRecDepth 20000 in
theorem ggL_follows_L_keep : GoodIn wsL_follows wsL_keep := goodIn_ca (goodIn_r _ [85, 86, 87, 88, 89, 90, 5, 91, 92, 7, 93, 94, 95, 96, 97, 98, 99, 100, 101, 17, 102, 19, 67, 103, 104, 105, 106, 107, 65, 66, 56, 271, 272, 273, 274, 275, 276, 277, 278, 279, 280, 281, 282, 283] (by decide +kernel) (by decide +kernel)) (goodIn_sub (fun _ h => List.mem_cons_of_mem _ (List.mem_append_left _ (List.mem_append_left _ (List.mem_append_right _ h)))) (by decide +kernel))
set_option maxRecDepth 20000 in
theorem gL_follows_L_keep : GoodIn wsL_follows (va_wsS RL 118 yL_keep wsL_keep) := goodIn_app (goodIn_of _ (by decide +kernel)) ggL_follows_L_keep
set_option maxRecDepth 20000 in
theorem ggL_follows_X5_bookBest : GoodIn wsL_follows wsX5_bookBest := goodIn_r _ [111, 112, 7, 13, 51, 113, 114, 115, 116, 117, 118, 119, 120, 121, 100, 101, 17, 102, 19, 67, 103, 104, 105, 106, 107, 65, 66, 56, 76, 77, 78, 25, 79, 28, 80, 15, 16, 18, 20, 5, 21, 81, 23, 24, 26, 27, 29, 30, 31, 32, 33, 34, 35, 36, 37, 38, 39, 40, 41, 42, 43, 44, 45, 46, 122, 123, 124, 125, 126, 127, 128, 271, 272, 273, 274, 275, 276, 277, 278, 279, 280, 281, 282, 283, 287, 288, 289, 284, 285, 286] (by decide +kernel) (by decide +kernel)
set_option maxRecDepth 20000 in
theorem gL_follows_X5_bookBest : GoodIn wsL_follows (wsV RL 182 RX5 yX5_bookBest wsX5_bookBest) := goodIn_app (goodIn_of _ (by decide +kernel)) ggL_follows_X5_bookBest
set_option maxRecDepth 20000 in
theorem ggL_follows_X5_booked : GoodIn wsL_follows wsX5_booked := goodIn_r _ [132, 7, 51, 122, 123, 124, 125, 126, 127, 128, 271, 272, 273, 274, 275, 276, 277, 278, 279, 280, 281, 282, 283] (by decide +kernel) (by decide +kernel)
set_option maxRecDepth 20000 in
theorem gL_follows_X5_booked : GoodIn wsL_follows (wsV RL 163 RX5 yX5_booked wsX5_booked) := goodIn_app (goodIn_of _ (by decide +kernel)) ggL_follows_X5_booked
set_option maxRecDepth 20000 in
theorem ggL_follows_L_isBooked : GoodIn wsL_follows wsL_isBooked := goodIn_ca (goodIn_r _ [135, 136, 137, 138, 139, 140, 5, 141, 7, 142, 143, 144, 145, 146, 147, 8, 148, 149, 150, 17, 151, 103, 39, 40, 41, 20, 21, 271, 272, 273, 274, 275, 276, 277, 278, 279, 280, 281, 282, 283] (by decide +kernel) (by decide +kernel)) (goodIn_sub (fun _ h => List.mem_cons_of_mem _ (List.mem_append_left _ (List.mem_append_right _ h))) (by decide +kernel))
set_option maxRecDepth 20000 in
theorem gL_follows_L_isBooked : GoodIn wsL_follows (va_wsS RL 128 yL_isBooked wsL_isBooked) := goodIn_app (goodIn_of _ (by decide +kernel)) ggL_follows_L_isBooked
set_option maxRecDepth 20000 in
theorem ggL_follows_L_undo : GoodIn wsL_follows wsL_undo := goodIn_ca (goodIn_r _ [154, 155, 1, 156, 157, 158, 5, 159, 160, 161, 112, 162, 7, 163, 164, 165, 116, 166, 118, 120, 119, 121, 100, 101, 17, 102, 19, 67, 103, 104, 105, 106, 107, 65, 66, 56, 271, 272, 273, 274, 275, 276, 277, 287, 288, 289, 278, 279, 280, 281, 282, 283] (by decide +kernel) (by decide +kernel)) (goodIn_sub (fun _ h => List.mem_cons_of_mem _ (List.mem_append_right _ h)) (by decide +kernel))
set_option maxRecDepth 20000 in
theorem gL_follows_L_undo : GoodIn wsL_follows (va_wsS RL 185 yL_undo wsL_undo) := goodIn_app (goodIn_of _ (by decide +kernel)) ggL_follows_L_undo
set_option maxRecDepth 20000 in
theorem ggL_follows_L_fameOf : GoodIn wsL_follows wsL_fameOf := goodIn_ca (goodIn_r _ [169, 136, 137, 170, 171, 172, 5, 173, 7, 174, 142, 143, 144, 145, 146, 147, 8, 271, 272, 273, 274, 275, 276, 277, 278, 279, 280, 281, 282, 283] (by decide +kernel) (by decide +kernel)) (goodIn_sub (fun _ h => List.mem_cons_of_mem _ (List.mem_append_left _ (List.mem_append_right _ h))) (by decide +kernel))
set_option maxRecDepth 20000 in
theorem gL_follows_L_fameOf : GoodIn wsL_follows (va_wsS RL 126 yL_fameOf wsL_fameOf) := goodIn_app (goodIn_of _ (by decide +kernel)) ggL_follows_L_fameOf
set_option maxRecDepth 20000 in
theorem ggL_follows_L_conflictsOf : GoodIn wsL_follows wsL_conflictsOf := goodIn_ca (goodIn_r _ [177, 136, 137, 178, 179, 180, 5, 181, 7, 142, 143, 144, 145, 146, 147, 8, 182, 183, 184, 17, 185, 19, 186, 62, 63, 64, 65, 66, 67, 68, 69, 70, 71, 20, 21, 122, 123, 124, 125, 126, 127, 128, 271, 272, 273, 274, 275, 276, 277, 278, 279, 280, 281, 282, 283] (by decide +kernel) (by decide +kernel)) (goodIn_sub (fun _ h => List.mem_cons_of_mem _ (List.mem_append_left _ (List.mem_append_right _ h))) (by decide +kernel))
set_option maxRecDepth 20000 in
theorem gL_follows_L_conflictsOf : GoodIn wsL_follows (va_wsS RL 133 yL_conflictsOf wsL_conflictsOf) := goodIn_app (goodIn_of _ (by decide +kernel)) ggL_follows_L_conflictsOf
set_option maxRecDepth 20000 in
theorem ggL_follows_L_bestWith : GoodIn wsL_follows wsL_bestWith := goodIn_ca (goodIn_r _ [189, 136, 137, 190, 191, 192, 5, 193, 7, 174, 13, 142, 143, 144, 145, 146, 147, 8, 14, 15, 16, 17, 18, 19, 20, 21, 41, 182, 183, 184, 185, 186, 62, 63, 64, 65, 66, 67, 68, 69, 70, 71, 22, 23, 24, 25, 26, 27, 28, 29, 30, 31, 32, 33, 34, 35, 36, 37, 38, 39, 40, 42, 43, 44, 45, 46, 271, 272, 273, 274, 275, 276, 277, 278, 279, 280, 281, 282, 283, 284, 285, 286] (by decide +kernel) (by decide +kernel)) (goodIn_sub (fun _ h => List.mem_cons_of_mem _ (List.mem_append_left _ (List.mem_append_right _ h))) (by decide +kernel))
set_option maxRecDepth 20000 in
theorem gL_follows_L_bestWith : GoodIn wsL_follows (va_wsS RL 137 yL_bestWith wsL_bestWith) := goodIn_app (goodIn_of _ (by decide +kernel)) ggL_follows_L_bestWith
set_option maxRecDepth 20000 in
theorem ggL_follows_L_cancel : GoodIn wsL_follows wsL_cancel := goodIn_ca (goodIn_ca (goodIn_r _ [196, 136, 155, 137, 1, 197, 198, 199, 5, 200, 160, 161, 7, 112, 51, 142, 143, 144, 145, 146, 147, 8, 148, 149, 150, 17, 151, 103, 39, 40, 41, 20, 21, 113, 114, 115, 116, 117, 118, 119, 120, 121, 100, 101, 102, 19, 67, 104, 105, 106, 107, 65, 66, 56, 52, 53, 54, 55, 271, 272, 273, 274, 275, 276, 277, 278, 279, 280, 281, 282, 283, 287, 288, 289] (by decide +kernel) (by decide +kernel)) (goodIn_sub (fun _ h => List.mem_cons_of_mem _ (List.mem_append_right _ h)) (by decide +kernel))) (goodIn_sub (fun _ h => List.mem_cons_of_mem _ (List.mem_append_left _ (List.mem_append_right _ h))) (by decide +kernel))
set_option maxRecDepth 20000 in
theorem gL_follows_L_cancel : GoodIn wsL_follows (va_wsS RL 114 yL_cancel wsL_cancel) := goodIn_app (goodIn_of _ (by decide +kernel)) ggL_follows_L_cancel
set_option maxRecDepth 20000 in
theorem ggL_follows_L_book : GoodIn wsL_follows wsL_book := goodIn_ca (goodIn_ca (goodIn_r _ [203, 136, 155, 137, 1, 204, 205, 206, 5, 207, 160, 161, 7, 51, 112, 142, 143, 144, 145, 146, 147, 8, 148, 149, 150, 17, 151, 103, 39, 40, 41, 20, 21, 182, 183, 184, 185, 19, 186, 62, 63, 64, 65, 66, 67, 68, 69, 70, 71, 113, 114, 115, 116, 117, 118, 119, 120, 121, 100, 101, 102, 104, 105, 106, 107, 56, 52, 53, 54, 55, 271, 272, 273, 274, 275, 276, 277, 278, 279, 280, 281, 282, 283, 287, 288, 289] (by decide +kernel) (by decide +kernel)) (goodIn_sub (fun _ h => List.mem_cons_of_mem _ (List.mem_append_right _ h)) (by decide +kernel))) (goodIn_sub (fun _ h => List.mem_cons_of_mem _ (List.mem_append_left _ (List.mem_append_right _ h))) (by decide +kernel))
set_option maxRecDepth 20000 in
theorem gL_follows_L_book : GoodIn wsL_follows (va_wsS RL 112 yL_book wsL_book) := goodIn_app (goodIn_of _ (by decide +kernel)) ggL_follows_L_book
set_option maxRecDepth 20000 in
theorem ggL_follows_L_strike : GoodIn wsL_follows wsL_strike := goodIn_ca (goodIn_r _ [210, 136, 137, 211, 212, 213, 5, 214, 7, 174, 112, 142, 143, 144, 145, 146, 147, 8, 113, 114, 115, 116, 117, 118, 119, 120, 121, 100, 101, 17, 102, 19, 67, 103, 104, 105, 106, 107, 65, 66, 56, 215, 216, 217, 218, 20, 21, 271, 272, 273, 274, 275, 276, 277, 278, 279, 280, 281, 282, 283, 287, 288, 289] (by decide +kernel) (by decide +kernel)) (goodIn_sub (fun _ h => List.mem_cons_of_mem _ (List.mem_append_left _ (List.mem_append_right _ h))) (by decide +kernel))
set_option maxRecDepth 20000 in
theorem gL_follows_L_strike : GoodIn wsL_follows (va_wsS RL 102 yL_strike wsL_strike) := goodIn_app (goodIn_of _ (by decide +kernel)) ggL_follows_L_strike
set_option maxRecDepth 20000 in
theorem ggL_follows_L_changeFame : GoodIn wsL_follows wsL_changeFame := goodIn_ca (goodIn_ca (goodIn_r _ [221, 136, 86, 137, 87, 222, 223, 224, 5, 225, 7, 174, 112, 142, 143, 144, 145, 146, 147, 8, 226, 227, 228, 97, 98, 113, 114, 115, 116, 117, 118, 119, 120, 121, 100, 101, 17, 102, 19, 67, 103, 104, 105, 106, 107, 65, 66, 56, 271, 272, 273, 274, 275, 276, 277, 278, 279, 280, 281, 282, 283, 287, 288, 289] (by decide +kernel) (by decide +kernel)) (goodIn_sub (fun _ h => List.mem_cons_of_mem _ (List.mem_append_left _ (List.mem_append_right _ h))) (by decide +kernel))) (goodIn_sub (fun _ h => List.mem_cons_of_mem _ (List.mem_append_left _ (List.mem_append_left _ (List.mem_append_right _ h)))) (by decide +kernel))
set_option maxRecDepth 20000 in
theorem gL_follows_L_changeFame : GoodIn wsL_follows (va_wsS RL 107 yL_changeFame wsL_changeFame) := goodIn_app (goodIn_of _ (by decide +kernel)) ggL_follows_L_changeFame
set_option maxRecDepth 20000 in
theorem ggL_follows_L_add : GoodIn wsL_follows wsL_add := goodIn_ca (goodIn_ca (goodIn_r _ [231, 86, 155, 87, 1, 232, 233, 234, 5, 235, 112, 7, 8, 236, 237, 238, 97, 98, 226, 227, 228, 239, 240, 241, 242, 160, 161, 113, 114, 115, 116, 117, 118, 119, 120, 121, 100, 101, 17, 102, 19, 67, 103, 104, 105, 106, 107, 65, 66, 56, 243, 244, 245, 246, 271, 272, 273, 274, 275, 276, 277, 278, 279, 280, 281, 282, 283, 287, 288, 289] (by decide +kernel) (by decide +kernel)) (goodIn_sub (fun _ h => List.mem_cons_of_mem _ (List.mem_append_left _ (List.mem_append_left _ (List.mem_append_right _ h)))) (by decide +kernel))) (goodIn_sub (fun _ h => List.mem_cons_of_mem _ (List.mem_append_right _ h)) (by decide +kernel))
set_option maxRecDepth 20000 in
theorem gL_follows_L_add : GoodIn wsL_follows (va_wsS RL 97 yL_add wsL_add) := goodIn_app (goodIn_of _ (by decide +kernel)) ggL_follows_L_add
set_option maxRecDepth 20000 in
theorem ggL_follows_X5_pause : GoodIn wsL_follows wsX5_pause := goodIn_r _ [250, 7, 251, 271, 272, 273, 274, 275, 276, 277, 278, 279, 280, 281, 282, 283] (by decide +kernel) (by decide +kernel)
set_option maxRecDepth 20000 in
theorem gL_follows_X5_pause : GoodIn wsL_follows (wsV RL 188 RX5 yX5_pause wsX5_pause) := goodIn_app (goodIn_of _ (by decide +kernel)) ggL_follows_X5_pause
set_option maxRecDepth 20000 in
theorem ggL_follows_L_changePause : GoodIn wsL_follows wsL_changePause := goodIn_ca (goodIn_ca (goodIn_r _ [254, 86, 155, 87, 1, 255, 256, 257, 5, 258, 97, 98, 160, 161, 7, 251, 112, 259, 260, 261, 17, 262, 19, 65, 66, 263, 149, 150, 151, 103, 39, 40, 41, 20, 21, 68, 69, 70, 71, 113, 114, 115, 116, 117, 118, 119, 120, 121, 100, 101, 102, 67, 104, 105, 106, 107, 56, 271, 272, 273, 274, 275, 276, 277, 278, 279, 280, 281, 282, 283, 287, 288, 289] (by decide +kernel) (by decide +kernel)) (goodIn_sub (fun _ h => List.mem_cons_of_mem _ (List.mem_append_left _ (List.mem_append_left _ (List.mem_append_right _ h)))) (by decide +kernel))) (goodIn_sub (fun _ h => List.mem_cons_of_mem _ (List.mem_append_right _ h)) (by decide +kernel))
set_option maxRecDepth 20000 in
theorem gL_follows_L_changePause : GoodIn wsL_follows (va_wsS RL 110 yL_changePause wsL_changePause) := goodIn_app (goodIn_of _ (by decide +kernel)) ggL_follows_L_changePause
set_option maxRecDepth 20000 in
theorem ggL_follows_L_goBack : GoodIn wsL_follows wsL_goBack := goodIn_ca (goodIn_ca (goodIn_r _ [266, 86, 155, 87, 1, 267, 268, 269, 5, 270, 160, 161, 93, 112, 7, 92, 94, 95, 96, 97, 98, 113, 114, 115, 116, 117, 118, 119, 120, 121, 100, 101, 17, 102, 19, 67, 103, 104, 105, 106, 107, 65, 66, 56, 99, 271, 272, 273, 274, 275, 276, 277, 287, 288, 289, 278, 279, 280, 281, 282, 283] (by decide +kernel) (by decide +kernel)) (goodIn_sub (fun _ h => List.mem_cons_of_mem _ (List.mem_append_right _ h)) (by decide +kernel))) (goodIn_sub (fun _ h => List.mem_cons_of_mem _ (List.mem_append_left _ (List.mem_append_left _ (List.mem_append_right _ h)))) (by decide +kernel))
set_option maxRecDepth 20000 in
theorem gL_follows_L_goBack : GoodIn wsL_follows (va_wsS RL 120 yL_goBack wsL_goBack) := goodIn_app (goodIn_of _ (by decide +kernel)) ggL_follows_L_goBack
theorem dL_follows_0 : decode cL_follows 0 = .ok (.aload_n 0, 1) := by decide +kernel
theorem dL_follows_1 : decode cL_follows 1 = .ok (.invokevirtual 94, 3) := by decide +kernel
theorem dL_follows_4 : decode cL_follows 4 = .ok (.istore_n 2, 1) := by decide +kernel
theorem dL_follows_5 : decode cL_follows 5 = .ok (.aload_n 0, 1) := by decide +kernel
theorem dL_follows_6 : decode cL_follows 6 = .ok (.invokevirtual 157, 3) := by decide +kernel
theorem dL_follows_9 : decode cL_follows 9 = .ok (.istore_n 3, 1) := by decide +kernel
theorem dL_follows_10 : decode cL_follows 10 = .ok (.aload_n 0, 1) := by decide +kernel
theorem dL_follows_11 : decode cL_follows 11 = .ok (.invokevirtual 160, 3) := by decide +kernel
theorem dL_follows_14 : decode cL_follows 14 = .ok (.istore 4, 2) := by decide +kernel
theorem dL_follows_16 : decode cL_follows 16 = .ok (.aload_n 0, 1) := by decide +kernel
theorem dL_follows_17 : decode cL_follows 17 = .ok (.invokevirtual 142, 3) := by decide +kernel
theorem dL_follows_20 : decode cL_follows 20 = .ok (.istore 5, 2) := by decide +kernel
theorem dL_follows_22 : decode cL_follows 22 = .ok (.aload_n 0, 1) := by decide +kernel
theorem dL_follows_23 : decode cL_follows 23 = .ok (.invokevirtual 139, 3) := by decide +kernel
theorem dL_follows_26 : decode cL_follows 26 = .ok (.istore 6, 2) := by decide +kernel
theorem dL_follows_28 : decode cL_follows 28 = .ok (.aload_n 0, 1) := by decide +kernel
theorem dL_follows_29 : decode cL_follows 29 = .ok (.iconst 1, 1) := by decide +kernel
theorem dL_follows_30 : decode cL_follows 30 = .ok (.invokestatic 118, 3) := by decide +kernel
theorem dL_follows_33 : decode cL_follows 33 = .ok (.lconst 0, 1) := by decide +kernel
theorem dL_follows_34 : decode cL_follows 34 = .ok (.lcmp, 1) := by decide +kernel
theorem dL_follows_35 : decode cL_follows 35 = .ok (.ifCond .ne 7, 3) := by decide +kernel
theorem dL_follows_38 : decode cL_follows 38 = .ok (.iconst 1, 1) := by decide +kernel
theorem dL_follows_39 : decode cL_follows 39 = .ok (.goto 4, 3) := by decide +kernel
theorem dL_follows_42 : decode cL_follows 42 = .ok (.iconst 0, 1) := by decide +kernel
theorem dL_follows_43 : decode cL_follows 43 = .ok (.istore 7, 2) := by decide +kernel
theorem dL_follows_45 : decode cL_follows 45 = .ok (.aload_n 0, 1) := by decide +kernel
theorem dL_follows_46 : decode cL_follows 46 = .ok (.invokevirtual 182, 3) := by decide +kernel
theorem dL_follows_49 : decode cL_follows 49 = .ok (.istore 8, 2) := by decide +kernel
theorem dL_follows_51 : decode cL_follows 51 = .ok (.iload 7, 2) := by decide +kernel
theorem dL_follows_53 : decode cL_follows 53 = .ok (.ifCond .eq 33, 3) := by decide +kernel
theorem dL_follows_56 : decode cL_follows 56 = .ok (.aload_n 0, 1) := by decide +kernel
theorem dL_follows_57 : decode cL_follows 57 = .ok (.invokevirtual 163, 3) := by decide +kernel
theorem dL_follows_60 : decode cL_follows 60 = .ok (.iload 8, 2) := by decide +kernel
theorem dL_follows_62 : decode cL_follows 62 = .ok (.if_icmp .ne 24, 3) := by decide +kernel
theorem dL_follows_65 : decode cL_follows 65 = .ok (.aload_n 0, 1) := by decide +kernel
theorem dL_follows_66 : decode cL_follows 66 = .ok (.invokevirtual 160, 3) := by decide +kernel
theorem dL_follows_69 : decode cL_follows 69 = .ok (.iload_n 3, 1) := by decide +kernel
theorem dL_follows_70 : decode cL_follows 70 = .ok (.if_icmp .ne 16, 3) := by decide +kernel
theorem dL_follows_73 : decode cL_follows 73 = .ok (.aload_n 0, 1) := by decide +kernel
theorem dL_follows_74 : decode cL_follows 74 = .ok (.invokevirtual 139, 3) := by decide +kernel
theorem dL_follows_77 : decode cL_follows 77 = .ok (.iload 6, 2) := by decide +kernel
theorem dL_follows_79 : decode cL_follows 79 = .ok (.if_icmp .ne 7, 3) := by decide +kernel
theorem dL_follows_82 : decode cL_follows 82 = .ok (.iconst 1, 1) := by decide +kernel
theorem dL_follows_83 : decode cL_follows 83 = .ok (.goto 4, 3) := by decide +kernel
theorem dL_follows_86 : decode cL_follows 86 = .ok (.iconst 0, 1) := by decide +kernel
theorem dL_follows_87 : decode cL_follows 87 = .ok (.istore 7, 2) := by decide +kernel
theorem dL_follows_89 : decode cL_follows 89 = .ok (.iconst 0, 1) := by decide +kernel
theorem dL_follows_90 : decode cL_follows 90 = .ok (.istore 9, 2) := by decide +kernel
theorem dL_follows_92 : decode cL_follows 92 = .ok (.iload 9, 2) := by decide +kernel
theorem dL_follows_94 : decode cL_follows 94 = .ok (.iload_n 2, 1) := by decide +kernel
theorem dL_follows_95 : decode cL_follows 95 = .ok (.if_icmp .ge 39, 3) := by decide +kernel
theorem dL_follows_98 : decode cL_follows 98 = .ok (.iload 7, 2) := by decide +kernel
theorem dL_follows_100 : decode cL_follows 100 = .ok (.ifCond .eq 34, 3) := by decide +kernel
theorem dL_follows_103 : decode cL_follows 103 = .ok (.aload_n 0, 1) := by decide +kernel
theorem dL_follows_104 : decode cL_follows 104 = .ok (.iload 9, 2) := by decide +kernel
theorem dL_follows_106 : decode cL_follows 106 = .ok (.invokestatic 128, 3) := by decide +kernel
theorem dL_follows_109 : decode cL_follows 109 = .ok (.iload 6, 2) := by decide +kernel
theorem dL_follows_111 : decode cL_follows 111 = .ok (.iload 9, 2) := by decide +kernel
theorem dL_follows_113 : decode cL_follows 113 = .ok (.ishr, 1) := by decide +kernel
theorem dL_follows_114 : decode cL_follows 114 = .ok (.iconst 1, 1) := by decide +kernel
theorem dL_follows_115 : decode cL_follows 115 = .ok (.iand, 1) := by decide +kernel
theorem dL_follows_116 : decode cL_follows 116 = .ok (.i2l, 1) := by decide +kernel
theorem dL_follows_117 : decode cL_follows 117 = .ok (.lcmp, 1) := by decide +kernel
theorem dL_follows_118 : decode cL_follows 118 = .ok (.ifCond .ne 7, 3) := by decide +kernel
theorem dL_follows_121 : decode cL_follows 121 = .ok (.iconst 1, 1) := by decide +kernel
theorem dL_follows_122 : decode cL_follows 122 = .ok (.goto 4, 3) := by decide +kernel
theorem dL_follows_125 : decode cL_follows 125 = .ok (.iconst 0, 1) := by decide +kernel
theorem dL_follows_126 : decode cL_follows 126 = .ok (.istore 7, 2) := by decide +kernel
theorem dL_follows_128 : decode cL_follows 128 = .ok (.iinc 9 1, 3) := by decide +kernel
theorem dL_follows_131 : decode cL_follows 131 = .ok (.goto (-39), 3) := by decide +kernel
theorem dL_follows_134 : decode cL_follows 134 = .ok (.iload 7, 2) := by decide +kernel
theorem dL_follows_136 : decode cL_follows 136 = .ok (.ifCond .eq 25, 3) := by decide +kernel
theorem dL_follows_139 : decode cL_follows 139 = .ok (.aload_n 0, 1) := by decide +kernel
theorem dL_follows_140 : decode cL_follows 140 = .ok (.invokestatic 185, 3) := by decide +kernel
theorem dL_follows_143 : decode cL_follows 143 = .ok (.lconst 0, 1) := by decide +kernel
theorem dL_follows_144 : decode cL_follows 144 = .ok (.lcmp, 1) := by decide +kernel
theorem dL_follows_145 : decode cL_follows 145 = .ok (.ifCond .ne 16, 3) := by decide +kernel
theorem dL_follows_148 : decode cL_follows 148 = .ok (.aload_n 0, 1) := by decide +kernel
theorem dL_follows_149 : decode cL_follows 149 = .ok (.invokevirtual 160, 3) := by decide +kernel
theorem dL_follows_152 : decode cL_follows 152 = .ok (.iload 4, 2) := by decide +kernel
theorem dL_follows_154 : decode cL_follows 154 = .ok (.if_icmp .ne 7, 3) := by decide +kernel
theorem dL_follows_157 : decode cL_follows 157 = .ok (.iconst 1, 1) := by decide +kernel
theorem dL_follows_158 : decode cL_follows 158 = .ok (.goto 4, 3) := by decide +kernel
theorem dL_follows_161 : decode cL_follows 161 = .ok (.iconst 0, 1) := by decide +kernel
theorem dL_follows_162 : decode cL_follows 162 = .ok (.istore 7, 2) := by decide +kernel
theorem dL_follows_164 : decode cL_follows 164 = .ok (.iconst 0, 1) := by decide +kernel
theorem dL_follows_165 : decode cL_follows 165 = .ok (.istore 9, 2) := by decide +kernel
theorem dL_follows_167 : decode cL_follows 167 = .ok (.iload 9, 2) := by decide +kernel
theorem dL_follows_169 : decode cL_follows 169 = .ok (.iload_n 2, 1) := by decide +kernel
theorem dL_follows_170 : decode cL_follows 170 = .ok (.if_icmp .ge 343, 3) := by decide +kernel
theorem dL_follows_173 : decode cL_follows 173 = .ok (.iload 7, 2) := by decide +kernel
theorem dL_follows_175 : decode cL_follows 175 = .ok (.ifCond .eq 338, 3) := by decide +kernel
theorem dL_follows_178 : decode cL_follows 178 = .ok (.aload_n 0, 1) := by decide +kernel
theorem dL_follows_179 : decode cL_follows 179 = .ok (.iload 9, 2) := by decide +kernel
theorem dL_follows_181 : decode cL_follows 181 = .ok (.invokestatic 126, 3) := by decide +kernel
theorem dL_follows_184 : decode cL_follows 184 = .ok (.l2i, 1) := by decide +kernel
theorem dL_follows_185 : decode cL_follows 185 = .ok (.istore 10, 2) := by decide +kernel
theorem dL_follows_187 : decode cL_follows 187 = .ok (.aload_n 0, 1) := by decide +kernel
theorem dL_follows_188 : decode cL_follows 188 = .ok (.iload 9, 2) := by decide +kernel
theorem dL_follows_190 : decode cL_follows 190 = .ok (.invokestatic 133, 3) := by decide +kernel
theorem dL_follows_193 : decode cL_follows 193 = .ok (.l2i, 1) := by decide +kernel
theorem dL_follows_194 : decode cL_follows 194 = .ok (.istore 11, 2) := by decide +kernel
theorem dL_follows_196 : decode cL_follows 196 = .ok (.aload_n 0, 1) := by decide +kernel
theorem dL_follows_197 : decode cL_follows 197 = .ok (.iload 9, 2) := by decide +kernel
theorem dL_follows_199 : decode cL_follows 199 = .ok (.invokestatic 137, 3) := by decide +kernel
theorem dL_follows_202 : decode cL_follows 202 = .ok (.l2i, 1) := by decide +kernel
theorem dL_follows_203 : decode cL_follows 203 = .ok (.istore 12, 2) := by decide +kernel
theorem dL_follows_205 : decode cL_follows 205 = .ok (.aload_n 0, 1) := by decide +kernel
theorem dL_follows_206 : decode cL_follows 206 = .ok (.iload 9, 2) := by decide +kernel
theorem dL_follows_208 : decode cL_follows 208 = .ok (.invokestatic 128, 3) := by decide +kernel
theorem dL_follows_211 : decode cL_follows 211 = .ok (.lconst 1, 1) := by decide +kernel
theorem dL_follows_212 : decode cL_follows 212 = .ok (.lcmp, 1) := by decide +kernel
theorem dL_follows_213 : decode cL_follows 213 = .ok (.ifCond .ne 7, 3) := by decide +kernel
theorem dL_follows_216 : decode cL_follows 216 = .ok (.iconst 1, 1) := by decide +kernel
theorem dL_follows_217 : decode cL_follows 217 = .ok (.goto 4, 3) := by decide +kernel
theorem dL_follows_220 : decode cL_follows 220 = .ok (.iconst 0, 1) := by decide +kernel
theorem dL_follows_221 : decode cL_follows 221 = .ok (.istore 13, 2) := by decide +kernel
theorem dL_follows_223 : decode cL_follows 223 = .ok (.iload 13, 2) := by decide +kernel
theorem dL_follows_225 : decode cL_follows 225 = .ok (.ifCond .eq 53, 3) := by decide +kernel
theorem dL_follows_228 : decode cL_follows 228 = .ok (.aload_n 0, 1) := by decide +kernel
theorem dL_follows_229 : decode cL_follows 229 = .ok (.iload 9, 2) := by decide +kernel
theorem dL_follows_231 : decode cL_follows 231 = .ok (.invokestatic 114, 3) := by decide +kernel
theorem dL_follows_234 : decode cL_follows 234 = .ok (.iload 4, 2) := by decide +kernel
theorem dL_follows_236 : decode cL_follows 236 = .ok (.iload 10, 2) := by decide +kernel
theorem dL_follows_238 : decode cL_follows 238 = .ok (.isub, 1) := by decide +kernel
theorem dL_follows_239 : decode cL_follows 239 = .ok (.i2l, 1) := by decide +kernel
theorem dL_follows_240 : decode cL_follows 240 = .ok (.lcmp, 1) := by decide +kernel
theorem dL_follows_241 : decode cL_follows 241 = .ok (.ifCond .ne 63, 3) := by decide +kernel
theorem dL_follows_244 : decode cL_follows 244 = .ok (.aload_n 0, 1) := by decide +kernel
theorem dL_follows_245 : decode cL_follows 245 = .ok (.iload 9, 2) := by decide +kernel
theorem dL_follows_247 : decode cL_follows 247 = .ok (.invokestatic 112, 3) := by decide +kernel
theorem dL_follows_250 : decode cL_follows 250 = .ok (.iload 4, 2) := by decide +kernel
theorem dL_follows_252 : decode cL_follows 252 = .ok (.i2l, 1) := by decide +kernel
theorem dL_follows_253 : decode cL_follows 253 = .ok (.lcmp, 1) := by decide +kernel
theorem dL_follows_254 : decode cL_follows 254 = .ok (.ifCond .ne 50, 3) := by decide +kernel
theorem dL_follows_257 : decode cL_follows 257 = .ok (.aload_n 0, 1) := by decide +kernel
theorem dL_follows_258 : decode cL_follows 258 = .ok (.invokestatic 185, 3) := by decide +kernel
theorem dL_follows_261 : decode cL_follows 261 = .ok (.lconst 0, 1) := by decide +kernel
theorem dL_follows_262 : decode cL_follows 262 = .ok (.lcmp, 1) := by decide +kernel
theorem dL_follows_263 : decode cL_follows 263 = .ok (.ifCond .ne 41, 3) := by decide +kernel
theorem dL_follows_266 : decode cL_follows 266 = .ok (.aload_n 0, 1) := by decide +kernel
theorem dL_follows_267 : decode cL_follows 267 = .ok (.invokestatic 185, 3) := by decide +kernel
theorem dL_follows_270 : decode cL_follows 270 = .ok (.lconst 0, 1) := by decide +kernel
theorem dL_follows_271 : decode cL_follows 271 = .ok (.lcmp, 1) := by decide +kernel
theorem dL_follows_272 : decode cL_follows 272 = .ok (.ifCond .ne 32, 3) := by decide +kernel
theorem dL_follows_275 : decode cL_follows 275 = .ok (.goto 16, 3) := by decide +kernel
theorem dL_follows_278 : decode cL_follows 278 = .ok (.aload_n 0, 1) := by decide +kernel
theorem dL_follows_279 : decode cL_follows 279 = .ok (.iload 9, 2) := by decide +kernel
theorem dL_follows_281 : decode cL_follows 281 = .ok (.invokestatic 114, 3) := by decide +kernel
theorem dL_follows_284 : decode cL_follows 284 = .ok (.ldc2_w 21, 3) := by decide +kernel
theorem dL_follows_287 : decode cL_follows 287 = .ok (.lcmp, 1) := by decide +kernel
theorem dL_follows_288 : decode cL_follows 288 = .ok (.ifCond .ne 16, 3) := by decide +kernel
theorem dL_follows_291 : decode cL_follows 291 = .ok (.aload_n 0, 1) := by decide +kernel
theorem dL_follows_292 : decode cL_follows 292 = .ok (.invokevirtual 160, 3) := by decide +kernel
theorem dL_follows_295 : decode cL_follows 295 = .ok (.iload 4, 2) := by decide +kernel
theorem dL_follows_297 : decode cL_follows 297 = .ok (.if_icmp .ne 7, 3) := by decide +kernel
theorem dL_follows_300 : decode cL_follows 300 = .ok (.iconst 1, 1) := by decide +kernel
theorem dL_follows_301 : decode cL_follows 301 = .ok (.goto 4, 3) := by decide +kernel
theorem dL_follows_304 : decode cL_follows 304 = .ok (.iconst 0, 1) := by decide +kernel
theorem dL_follows_305 : decode cL_follows 305 = .ok (.istore 7, 2) := by decide +kernel
theorem dL_follows_307 : decode cL_follows 307 = .ok (.iload 7, 2) := by decide +kernel
theorem dL_follows_309 : decode cL_follows 309 = .ok (.ifCond .eq 119, 3) := by decide +kernel
theorem dL_follows_312 : decode cL_follows 312 = .ok (.aload_n 0, 1) := by decide +kernel
theorem dL_follows_313 : decode cL_follows 313 = .ok (.iload 9, 2) := by decide +kernel
theorem dL_follows_315 : decode cL_follows 315 = .ok (.invokestatic 102, 3) := by decide +kernel
theorem dL_follows_318 : decode cL_follows 318 = .ok (.iload 10, 2) := by decide +kernel
theorem dL_follows_320 : decode cL_follows 320 = .ok (.i2l, 1) := by decide +kernel
theorem dL_follows_321 : decode cL_follows 321 = .ok (.lcmp, 1) := by decide +kernel
theorem dL_follows_322 : decode cL_follows 322 = .ok (.ifCond .ne 106, 3) := by decide +kernel
theorem dL_follows_325 : decode cL_follows 325 = .ok (.aload_n 0, 1) := by decide +kernel
theorem dL_follows_326 : decode cL_follows 326 = .ok (.invokevirtual 94, 3) := by decide +kernel
theorem dL_follows_329 : decode cL_follows 329 = .ok (.iload_n 2, 1) := by decide +kernel
theorem dL_follows_330 : decode cL_follows 330 = .ok (.iconst 1, 1) := by decide +kernel
theorem dL_follows_331 : decode cL_follows 331 = .ok (.isub, 1) := by decide +kernel
theorem dL_follows_332 : decode cL_follows 332 = .ok (.if_icmp .ne 96, 3) := by decide +kernel
theorem dL_follows_335 : decode cL_follows 335 = .ok (.aload_n 0, 1) := by decide +kernel
theorem dL_follows_336 : decode cL_follows 336 = .ok (.invokevirtual 142, 3) := by decide +kernel
theorem dL_follows_339 : decode cL_follows 339 = .ok (.iload 5, 2) := by decide +kernel
theorem dL_follows_341 : decode cL_follows 341 = .ok (.iload 11, 2) := by decide +kernel
theorem dL_follows_343 : decode cL_follows 343 = .ok (.isub, 1) := by decide +kernel
theorem dL_follows_344 : decode cL_follows 344 = .ok (.if_icmp .ne 84, 3) := by decide +kernel
theorem dL_follows_347 : decode cL_follows 347 = .ok (.aload_n 0, 1) := by decide +kernel
theorem dL_follows_348 : decode cL_follows 348 = .ok (.invokevirtual 157, 3) := by decide +kernel
theorem dL_follows_351 : decode cL_follows 351 = .ok (.iload_n 3, 1) := by decide +kernel
theorem dL_follows_352 : decode cL_follows 352 = .ok (.if_icmp .gt 76, 3) := by decide +kernel
theorem dL_follows_355 : decode cL_follows 355 = .ok (.aload_n 0, 1) := by decide +kernel
theorem dL_follows_356 : decode cL_follows 356 = .ok (.invokevirtual 157, 3) := by decide +kernel
theorem dL_follows_359 : decode cL_follows 359 = .ok (.iload_n 3, 1) := by decide +kernel
theorem dL_follows_360 : decode cL_follows 360 = .ok (.iload 10, 2) := by decide +kernel
theorem dL_follows_362 : decode cL_follows 362 = .ok (.isub, 1) := by decide +kernel
theorem dL_follows_363 : decode cL_follows 363 = .ok (.if_icmp .lt 65, 3) := by decide +kernel
theorem dL_follows_366 : decode cL_follows 366 = .ok (.iload 6, 2) := by decide +kernel
theorem dL_follows_368 : decode cL_follows 368 = .ok (.iload 9, 2) := by decide +kernel
theorem dL_follows_370 : decode cL_follows 370 = .ok (.ishr, 1) := by decide +kernel
theorem dL_follows_371 : decode cL_follows 371 = .ok (.iconst 1, 1) := by decide +kernel
theorem dL_follows_372 : decode cL_follows 372 = .ok (.iand, 1) := by decide +kernel
theorem dL_follows_373 : decode cL_follows 373 = .ok (.iconst 1, 1) := by decide +kernel
theorem dL_follows_374 : decode cL_follows 374 = .ok (.if_icmp .eq 11, 3) := by decide +kernel
theorem dL_follows_377 : decode cL_follows 377 = .ok (.aload_n 0, 1) := by decide +kernel
theorem dL_follows_378 : decode cL_follows 378 = .ok (.invokevirtual 157, 3) := by decide +kernel
theorem dL_follows_381 : decode cL_follows 381 = .ok (.iload_n 3, 1) := by decide +kernel
theorem dL_follows_382 : decode cL_follows 382 = .ok (.if_icmp .ne 46, 3) := by decide +kernel
theorem dL_follows_385 : decode cL_follows 385 = .ok (.aload_n 0, 1) := by decide +kernel
theorem dL_follows_386 : decode cL_follows 386 = .ok (.invokevirtual 160, 3) := by decide +kernel
theorem dL_follows_389 : decode cL_follows 389 = .ok (.iload 13, 2) := by decide +kernel
theorem dL_follows_391 : decode cL_follows 391 = .ok (.ifCond .eq 11, 3) := by decide +kernel
theorem dL_follows_394 : decode cL_follows 394 = .ok (.iload 4, 2) := by decide +kernel
theorem dL_follows_396 : decode cL_follows 396 = .ok (.iload 10, 2) := by decide +kernel
theorem dL_follows_398 : decode cL_follows 398 = .ok (.isub, 1) := by decide +kernel
theorem dL_follows_399 : decode cL_follows 399 = .ok (.goto 5, 3) := by decide +kernel
theorem dL_follows_402 : decode cL_follows 402 = .ok (.iload 4, 2) := by decide +kernel
theorem dL_follows_404 : decode cL_follows 404 = .ok (.if_icmp .ne 24, 3) := by decide +kernel
theorem dL_follows_407 : decode cL_follows 407 = .ok (.aload_n 0, 1) := by decide +kernel
theorem dL_follows_408 : decode cL_follows 408 = .ok (.invokestatic 185, 3) := by decide +kernel
theorem dL_follows_411 : decode cL_follows 411 = .ok (.lconst 0, 1) := by decide +kernel
theorem dL_follows_412 : decode cL_follows 412 = .ok (.lcmp, 1) := by decide +kernel
theorem dL_follows_413 : decode cL_follows 413 = .ok (.ifCond .ne 15, 3) := by decide +kernel
theorem dL_follows_416 : decode cL_follows 416 = .ok (.aload_n 0, 1) := by decide +kernel
theorem dL_follows_417 : decode cL_follows 417 = .ok (.invokevirtual 94, 3) := by decide +kernel
theorem dL_follows_420 : decode cL_follows 420 = .ok (.iload_n 2, 1) := by decide +kernel
theorem dL_follows_421 : decode cL_follows 421 = .ok (.if_icmp .ne 7, 3) := by decide +kernel
theorem dL_follows_424 : decode cL_follows 424 = .ok (.iconst 1, 1) := by decide +kernel
theorem dL_follows_425 : decode cL_follows 425 = .ok (.goto 4, 3) := by decide +kernel
theorem dL_follows_428 : decode cL_follows 428 = .ok (.iconst 0, 1) := by decide +kernel
theorem dL_follows_429 : decode cL_follows 429 = .ok (.istore 7, 2) := by decide +kernel
theorem dL_follows_431 : decode cL_follows 431 = .ok (.iload 7, 2) := by decide +kernel
theorem dL_follows_433 : decode cL_follows 433 = .ok (.ifCond .eq 71, 3) := by decide +kernel
theorem dL_follows_436 : decode cL_follows 436 = .ok (.aload_n 0, 1) := by decide +kernel
theorem dL_follows_437 : decode cL_follows 437 = .ok (.iload 9, 2) := by decide +kernel
theorem dL_follows_439 : decode cL_follows 439 = .ok (.bipush 50, 2) := by decide +kernel
theorem dL_follows_441 : decode cL_follows 441 = .ok (.invokestatic 107, 3) := by decide +kernel
theorem dL_follows_444 : decode cL_follows 444 = .ok (.iload 10, 2) := by decide +kernel
theorem dL_follows_446 : decode cL_follows 446 = .ok (.i2l, 1) := by decide +kernel
theorem dL_follows_447 : decode cL_follows 447 = .ok (.lcmp, 1) := by decide +kernel
theorem dL_follows_448 : decode cL_follows 448 = .ok (.ifCond .ne 56, 3) := by decide +kernel
theorem dL_follows_451 : decode cL_follows 451 = .ok (.aload_n 0, 1) := by decide +kernel
theorem dL_follows_452 : decode cL_follows 452 = .ok (.iload 9, 2) := by decide +kernel
theorem dL_follows_454 : decode cL_follows 454 = .ok (.invokestatic 137, 3) := by decide +kernel
theorem dL_follows_457 : decode cL_follows 457 = .ok (.iload 12, 2) := by decide +kernel
theorem dL_follows_459 : decode cL_follows 459 = .ok (.bipush 50, 2) := by decide +kernel
theorem dL_follows_461 : decode cL_follows 461 = .ok (.iadd, 1) := by decide +kernel
theorem dL_follows_462 : decode cL_follows 462 = .ok (.iload 10, 2) := by decide +kernel
theorem dL_follows_464 : decode cL_follows 464 = .ok (.isub, 1) := by decide +kernel
theorem dL_follows_465 : decode cL_follows 465 = .ok (.i2l, 1) := by decide +kernel
theorem dL_follows_466 : decode cL_follows 466 = .ok (.lcmp, 1) := by decide +kernel
theorem dL_follows_467 : decode cL_follows 467 = .ok (.ifCond .ne 37, 3) := by decide +kernel
theorem dL_follows_470 : decode cL_follows 470 = .ok (.aload_n 0, 1) := by decide +kernel
theorem dL_follows_471 : decode cL_follows 471 = .ok (.invokevirtual 157, 3) := by decide +kernel
theorem dL_follows_474 : decode cL_follows 474 = .ok (.iload_n 3, 1) := by decide +kernel
theorem dL_follows_475 : decode cL_follows 475 = .ok (.if_icmp .lt 29, 3) := by decide +kernel
theorem dL_follows_478 : decode cL_follows 478 = .ok (.aload_n 0, 1) := by decide +kernel
theorem dL_follows_479 : decode cL_follows 479 = .ok (.invokestatic 185, 3) := by decide +kernel
theorem dL_follows_482 : decode cL_follows 482 = .ok (.lconst 0, 1) := by decide +kernel
theorem dL_follows_483 : decode cL_follows 483 = .ok (.lcmp, 1) := by decide +kernel
theorem dL_follows_484 : decode cL_follows 484 = .ok (.ifCond .ne 20, 3) := by decide +kernel
theorem dL_follows_487 : decode cL_follows 487 = .ok (.aload_n 0, 1) := by decide +kernel
theorem dL_follows_488 : decode cL_follows 488 = .ok (.iload 9, 2) := by decide +kernel
theorem dL_follows_490 : decode cL_follows 490 = .ok (.invokestatic 126, 3) := by decide +kernel
theorem dL_follows_493 : decode cL_follows 493 = .ok (.iload 10, 2) := by decide +kernel
theorem dL_follows_495 : decode cL_follows 495 = .ok (.i2l, 1) := by decide +kernel
theorem dL_follows_496 : decode cL_follows 496 = .ok (.lcmp, 1) := by decide +kernel
theorem dL_follows_497 : decode cL_follows 497 = .ok (.ifCond .ne 7, 3) := by decide +kernel
theorem dL_follows_500 : decode cL_follows 500 = .ok (.iconst 1, 1) := by decide +kernel
theorem dL_follows_501 : decode cL_follows 501 = .ok (.goto 4, 3) := by decide +kernel
theorem dL_follows_504 : decode cL_follows 504 = .ok (.iconst 0, 1) := by decide +kernel
theorem dL_follows_505 : decode cL_follows 505 = .ok (.istore 7, 2) := by decide +kernel
theorem dL_follows_507 : decode cL_follows 507 = .ok (.iinc 9 1, 3) := by decide +kernel
theorem dL_follows_510 : decode cL_follows 510 = .ok (.goto (-343), 3) := by decide +kernel
theorem dL_follows_513 : decode cL_follows 513 = .ok (.iload 7, 2) := by decide +kernel
theorem dL_follows_515 : decode cL_follows 515 = .ok (.ifCond .eq 118, 3) := by decide +kernel
theorem dL_follows_518 : decode cL_follows 518 = .ok (.iload_n 2, 1) := by decide +kernel
theorem dL_follows_519 : decode cL_follows 519 = .ok (.bipush 14, 2) := by decide +kernel
theorem dL_follows_521 : decode cL_follows 521 = .ok (.if_icmp .ge 112, 3) := by decide +kernel
theorem dL_follows_524 : decode cL_follows 524 = .ok (.iload_n 1, 1) := by decide +kernel
theorem dL_follows_525 : decode cL_follows 525 = .ok (.bipush 95, 2) := by decide +kernel
theorem dL_follows_527 : decode cL_follows 527 = .ok (.irem, 1) := by decide +kernel
theorem dL_follows_528 : decode cL_follows 528 = .ok (.istore 9, 2) := by decide +kernel
theorem dL_follows_530 : decode cL_follows 530 = .ok (.aload_n 0, 1) := by decide +kernel
theorem dL_follows_531 : decode cL_follows 531 = .ok (.iload 9, 2) := by decide +kernel
theorem dL_follows_533 : decode cL_follows 533 = .ok (.iload 9, 2) := by decide +kernel
theorem dL_follows_535 : decode cL_follows 535 = .ok (.iconst 1, 1) := by decide +kernel
theorem dL_follows_536 : decode cL_follows 536 = .ok (.iadd, 1) := by decide +kernel
theorem dL_follows_537 : decode cL_follows 537 = .ok (.iconst 1, 1) := by decide +kernel
theorem dL_follows_538 : decode cL_follows 538 = .ok (.iload_n 1, 1) := by decide +kernel
theorem dL_follows_539 : decode cL_follows 539 = .ok (.bipush 50, 2) := by decide +kernel
theorem dL_follows_541 : decode cL_follows 541 = .ok (.irem, 1) := by decide +kernel
theorem dL_follows_542 : decode cL_follows 542 = .ok (.iadd, 1) := by decide +kernel
theorem dL_follows_543 : decode cL_follows 543 = .ok (.invokestatic 97, 3) := by decide +kernel
theorem dL_follows_546 : decode cL_follows 546 = .ok (.iload_n 2, 1) := by decide +kernel
theorem dL_follows_547 : decode cL_follows 547 = .ok (.i2l, 1) := by decide +kernel
theorem dL_follows_548 : decode cL_follows 548 = .ok (.lcmp, 1) := by decide +kernel
theorem dL_follows_549 : decode cL_follows 549 = .ok (.ifCond .ne 81, 3) := by decide +kernel
theorem dL_follows_552 : decode cL_follows 552 = .ok (.aload_n 0, 1) := by decide +kernel
theorem dL_follows_553 : decode cL_follows 553 = .ok (.invokevirtual 157, 3) := by decide +kernel
theorem dL_follows_556 : decode cL_follows 556 = .ok (.iload_n 3, 1) := by decide +kernel
theorem dL_follows_557 : decode cL_follows 557 = .ok (.if_icmp .lt 73, 3) := by decide +kernel
theorem dL_follows_560 : decode cL_follows 560 = .ok (.aload_n 0, 1) := by decide +kernel
theorem dL_follows_561 : decode cL_follows 561 = .ok (.invokevirtual 157, 3) := by decide +kernel
theorem dL_follows_564 : decode cL_follows 564 = .ok (.iload_n 3, 1) := by decide +kernel
theorem dL_follows_565 : decode cL_follows 565 = .ok (.iconst 1, 1) := by decide +kernel
theorem dL_follows_566 : decode cL_follows 566 = .ok (.iadd, 1) := by decide +kernel
theorem dL_follows_567 : decode cL_follows 567 = .ok (.iload_n 1, 1) := by decide +kernel
theorem dL_follows_568 : decode cL_follows 568 = .ok (.bipush 50, 2) := by decide +kernel
theorem dL_follows_570 : decode cL_follows 570 = .ok (.irem, 1) := by decide +kernel
theorem dL_follows_571 : decode cL_follows 571 = .ok (.iadd, 1) := by decide +kernel
theorem dL_follows_572 : decode cL_follows 572 = .ok (.if_icmp .gt 58, 3) := by decide +kernel
theorem dL_follows_575 : decode cL_follows 575 = .ok (.aload_n 0, 1) := by decide +kernel
theorem dL_follows_576 : decode cL_follows 576 = .ok (.iload_n 2, 1) := by decide +kernel
theorem dL_follows_577 : decode cL_follows 577 = .ok (.invokestatic 137, 3) := by decide +kernel
theorem dL_follows_580 : decode cL_follows 580 = .ok (.iload_n 1, 1) := by decide +kernel
theorem dL_follows_581 : decode cL_follows 581 = .ok (.bipush 50, 2) := by decide +kernel
theorem dL_follows_583 : decode cL_follows 583 = .ok (.irem, 1) := by decide +kernel
theorem dL_follows_584 : decode cL_follows 584 = .ok (.i2l, 1) := by decide +kernel
theorem dL_follows_585 : decode cL_follows 585 = .ok (.lcmp, 1) := by decide +kernel
theorem dL_follows_586 : decode cL_follows 586 = .ok (.ifCond .le 44, 3) := by decide +kernel
theorem dL_follows_589 : decode cL_follows 589 = .ok (.aload_n 0, 1) := by decide +kernel
theorem dL_follows_590 : decode cL_follows 590 = .ok (.iload_n 2, 1) := by decide +kernel
theorem dL_follows_591 : decode cL_follows 591 = .ok (.invokestatic 128, 3) := by decide +kernel
theorem dL_follows_594 : decode cL_follows 594 = .ok (.lconst 0, 1) := by decide +kernel
theorem dL_follows_595 : decode cL_follows 595 = .ok (.lcmp, 1) := by decide +kernel
theorem dL_follows_596 : decode cL_follows 596 = .ok (.ifCond .ne 34, 3) := by decide +kernel
theorem dL_follows_599 : decode cL_follows 599 = .ok (.aload_n 0, 1) := by decide +kernel
theorem dL_follows_600 : decode cL_follows 600 = .ok (.invokevirtual 142, 3) := by decide +kernel
theorem dL_follows_603 : decode cL_follows 603 = .ok (.i2l, 1) := by decide +kernel
theorem dL_follows_604 : decode cL_follows 604 = .ok (.iload 5, 2) := by decide +kernel
theorem dL_follows_606 : decode cL_follows 606 = .ok (.i2l, 1) := by decide +kernel
theorem dL_follows_607 : decode cL_follows 607 = .ok (.aload_n 0, 1) := by decide +kernel
theorem dL_follows_608 : decode cL_follows 608 = .ok (.iload_n 2, 1) := by decide +kernel
theorem dL_follows_609 : decode cL_follows 609 = .ok (.invokestatic 133, 3) := by decide +kernel
theorem dL_follows_612 : decode cL_follows 612 = .ok (.ladd, 1) := by decide +kernel
theorem dL_follows_613 : decode cL_follows 613 = .ok (.lcmp, 1) := by decide +kernel
theorem dL_follows_614 : decode cL_follows 614 = .ok (.ifCond .ne 16, 3) := by decide +kernel
theorem dL_follows_617 : decode cL_follows 617 = .ok (.aload_n 0, 1) := by decide +kernel
theorem dL_follows_618 : decode cL_follows 618 = .ok (.invokestatic 185, 3) := by decide +kernel
theorem dL_follows_621 : decode cL_follows 621 = .ok (.lconst 0, 1) := by decide +kernel
theorem dL_follows_622 : decode cL_follows 622 = .ok (.lcmp, 1) := by decide +kernel
theorem dL_follows_623 : decode cL_follows 623 = .ok (.ifCond .ne 7, 3) := by decide +kernel
theorem dL_follows_626 : decode cL_follows 626 = .ok (.iconst 1, 1) := by decide +kernel
theorem dL_follows_627 : decode cL_follows 627 = .ok (.goto 4, 3) := by decide +kernel
theorem dL_follows_630 : decode cL_follows 630 = .ok (.iconst 0, 1) := by decide +kernel
theorem dL_follows_631 : decode cL_follows 631 = .ok (.istore 7, 2) := by decide +kernel
theorem dL_follows_633 : decode cL_follows 633 = .ok (.aload_n 0, 1) := by decide +kernel
theorem dL_follows_634 : decode cL_follows 634 = .ok (.invokevirtual 188, 3) := by decide +kernel
theorem dL_follows_637 : decode cL_follows 637 = .ok (.istore 9, 2) := by decide +kernel
theorem dL_follows_639 : decode cL_follows 639 = .ok (.aload_n 0, 1) := by decide +kernel
theorem dL_follows_640 : decode cL_follows 640 = .ok (.iconst 0, 1) := by decide +kernel
theorem dL_follows_641 : decode cL_follows 641 = .ok (.invokestatic 110, 3) := by decide +kernel
theorem dL_follows_644 : decode cL_follows 644 = .ok (.lstore 10, 2) := by decide +kernel
theorem dL_follows_646 : decode cL_follows 646 = .ok (.iload 7, 2) := by decide +kernel
theorem dL_follows_648 : decode cL_follows 648 = .ok (.ifCond .eq 51, 3) := by decide +kernel
theorem dL_follows_651 : decode cL_follows 651 = .ok (.lload 10, 2) := by decide +kernel
theorem dL_follows_653 : decode cL_follows 653 = .ok (.iload 9, 2) := by decide +kernel
theorem dL_follows_655 : decode cL_follows 655 = .ok (.i2l, 1) := by decide +kernel
theorem dL_follows_656 : decode cL_follows 656 = .ok (.lcmp, 1) := by decide +kernel
theorem dL_follows_657 : decode cL_follows 657 = .ok (.ifCond .ne 42, 3) := by decide +kernel
theorem dL_follows_660 : decode cL_follows 660 = .ok (.aload_n 0, 1) := by decide +kernel
theorem dL_follows_661 : decode cL_follows 661 = .ok (.invokevirtual 142, 3) := by decide +kernel
theorem dL_follows_664 : decode cL_follows 664 = .ok (.iload 5, 2) := by decide +kernel
theorem dL_follows_666 : decode cL_follows 666 = .ok (.if_icmp .gt 33, 3) := by decide +kernel
theorem dL_follows_669 : decode cL_follows 669 = .ok (.aload_n 0, 1) := by decide +kernel
theorem dL_follows_670 : decode cL_follows 670 = .ok (.invokevirtual 157, 3) := by decide +kernel
theorem dL_follows_673 : decode cL_follows 673 = .ok (.iload_n 3, 1) := by decide +kernel
theorem dL_follows_674 : decode cL_follows 674 = .ok (.if_icmp .lt 25, 3) := by decide +kernel
theorem dL_follows_677 : decode cL_follows 677 = .ok (.aload_n 0, 1) := by decide +kernel
theorem dL_follows_678 : decode cL_follows 678 = .ok (.invokestatic 185, 3) := by decide +kernel
theorem dL_follows_681 : decode cL_follows 681 = .ok (.lconst 0, 1) := by decide +kernel
theorem dL_follows_682 : decode cL_follows 682 = .ok (.lcmp, 1) := by decide +kernel
theorem dL_follows_683 : decode cL_follows 683 = .ok (.ifCond .ne 16, 3) := by decide +kernel
theorem dL_follows_686 : decode cL_follows 686 = .ok (.aload_n 0, 1) := by decide +kernel
theorem dL_follows_687 : decode cL_follows 687 = .ok (.invokevirtual 188, 3) := by decide +kernel
theorem dL_follows_690 : decode cL_follows 690 = .ok (.iload 9, 2) := by decide +kernel
theorem dL_follows_692 : decode cL_follows 692 = .ok (.if_icmp .ne 7, 3) := by decide +kernel
theorem dL_follows_695 : decode cL_follows 695 = .ok (.iconst 1, 1) := by decide +kernel
theorem dL_follows_696 : decode cL_follows 696 = .ok (.goto 4, 3) := by decide +kernel
theorem dL_follows_699 : decode cL_follows 699 = .ok (.iconst 0, 1) := by decide +kernel
theorem dL_follows_700 : decode cL_follows 700 = .ok (.istore 7, 2) := by decide +kernel
theorem dL_follows_702 : decode cL_follows 702 = .ok (.iload 7, 2) := by decide +kernel
theorem dL_follows_704 : decode cL_follows 704 = .ok (.ifCond .eq 60, 3) := by decide +kernel
theorem dL_follows_707 : decode cL_follows 707 = .ok (.aload_n 0, 1) := by decide +kernel
theorem dL_follows_708 : decode cL_follows 708 = .ok (.invokevirtual 157, 3) := by decide +kernel
theorem dL_follows_711 : decode cL_follows 711 = .ok (.iload_n 3, 1) := by decide +kernel
theorem dL_follows_712 : decode cL_follows 712 = .ok (.if_icmp .ne 52, 3) := by decide +kernel
theorem dL_follows_715 : decode cL_follows 715 = .ok (.aload_n 0, 1) := by decide +kernel
theorem dL_follows_716 : decode cL_follows 716 = .ok (.invokevirtual 160, 3) := by decide +kernel
theorem dL_follows_719 : decode cL_follows 719 = .ok (.iload 4, 2) := by decide +kernel
theorem dL_follows_721 : decode cL_follows 721 = .ok (.if_icmp .ne 43, 3) := by decide +kernel
theorem dL_follows_724 : decode cL_follows 724 = .ok (.aload_n 0, 1) := by decide +kernel
theorem dL_follows_725 : decode cL_follows 725 = .ok (.iconst 1, 1) := by decide +kernel
theorem dL_follows_726 : decode cL_follows 726 = .ok (.invokestatic 120, 3) := by decide +kernel
theorem dL_follows_729 : decode cL_follows 729 = .ok (.lconst 0, 1) := by decide +kernel
theorem dL_follows_730 : decode cL_follows 730 = .ok (.lcmp, 1) := by decide +kernel
theorem dL_follows_731 : decode cL_follows 731 = .ok (.ifCond .ne 33, 3) := by decide +kernel
theorem dL_follows_734 : decode cL_follows 734 = .ok (.aload_n 0, 1) := by decide +kernel
theorem dL_follows_735 : decode cL_follows 735 = .ok (.invokevirtual 94, 3) := by decide +kernel
theorem dL_follows_738 : decode cL_follows 738 = .ok (.iload_n 2, 1) := by decide +kernel
theorem dL_follows_739 : decode cL_follows 739 = .ok (.if_icmp .ne 25, 3) := by decide +kernel
theorem dL_follows_742 : decode cL_follows 742 = .ok (.aload_n 0, 1) := by decide +kernel
theorem dL_follows_743 : decode cL_follows 743 = .ok (.invokevirtual 160, 3) := by decide +kernel
theorem dL_follows_746 : decode cL_follows 746 = .ok (.iload 4, 2) := by decide +kernel
theorem dL_follows_748 : decode cL_follows 748 = .ok (.if_icmp .ne 16, 3) := by decide +kernel
theorem dL_follows_751 : decode cL_follows 751 = .ok (.aload_n 0, 1) := by decide +kernel
theorem dL_follows_752 : decode cL_follows 752 = .ok (.invokestatic 185, 3) := by decide +kernel
theorem dL_follows_755 : decode cL_follows 755 = .ok (.lconst 0, 1) := by decide +kernel
theorem dL_follows_756 : decode cL_follows 756 = .ok (.lcmp, 1) := by decide +kernel
theorem dL_follows_757 : decode cL_follows 757 = .ok (.ifCond .ne 7, 3) := by decide +kernel
theorem dL_follows_760 : decode cL_follows 760 = .ok (.iconst 1, 1) := by decide +kernel
theorem dL_follows_761 : decode cL_follows 761 = .ok (.goto 4, 3) := by decide +kernel
theorem dL_follows_764 : decode cL_follows 764 = .ok (.iconst 0, 1) := by decide +kernel
theorem dL_follows_765 : decode cL_follows 765 = .ok (.ireturn, 1) := by decide +kernel
set_option maxRecDepth 20000 in
theorem ggL_alike_X5_digest : GoodIn wsL_alike wsX5_digest := goodIn_ca (goodIn_r _ [5, 6, 7, 8, 9, 10, 11, 12, 13, 14, 15, 4, 16, 17, 18, 19, 20, 21, 22, 23, 24, 25, 26, 27, 28, 29, 30, 31, 32, 33, 34, 35, 36, 37, 38, 39, 40, 41, 42, 43, 44, 45, 46, 47, 48, 49, 50, 51, 52, 53, 54, 55, 56, 57, 58, 59, 60, 61, 62, 63, 64, 65, 66, 67, 68, 69, 70, 71, 72, 73, 74, 75, 76, 77, 78, 79, 80, 81, 82, 83, 84, 85, 86, 87, 88, 89, 90, 91, 92, 93, 94, 95, 96, 97, 98, 99, 100, 101, 102, 103, 104, 105, 106, 107, 108, 109, 110, 111, 112, 113, 114, 115, 116, 117, 118, 119, 120, 121, 122, 123, 124, 125, 126, 127, 128, 129, 130, 131, 132, 133, 134, 135, 136, 137, 138, 139, 140, 141, 142, 143, 144, 145, 146, 147, 148, 149, 150, 151, 152, 153, 154, 155, 156, 157, 158, 159, 160, 161, 162, 163, 164, 165, 166, 167, 168, 169, 170, 171, 172, 173, 174, 175, 176, 177, 178, 179, 180, 181, 182, 183, 184, 185, 186, 187, 188, 189, 190, 191, 192, 193, 194, 195, 196, 197, 198, 199, 200, 201, 202, 203, 204, 205, 206, 207, 208, 209, 210, 211, 212, 213, 214, 215, 216, 217, 218, 219, 220, 221, 222, 223, 224, 225, 226, 227, 228, 229, 230, 231, 232, 233, 234, 235, 236, 237, 238, 239, 240, 241, 242, 243, 244, 245, 246, 247, 248, 249, 250, 251, 252, 253, 254, 255, 256, 257, 258, 259, 260, 261, 262, 263, 264, 265, 266, 267, 268, 269, 270, 271, 304, 305, 306, 307, 308, 309, 310, 311, 312, 313, 314, 315, 316, 317, 318, 319, 320, 321, 322, 323, 324, 325, 326, 327, 328, 329] (by decide +kernel) (by decide +kernel)) (goodIn_sub (fun _ h => List.mem_cons_of_mem _ (List.mem_append_right _ h)) (by decide +kernel))
set_option maxRecDepth 20000 in
theorem gL_alike_X5_digest : GoodIn wsL_alike (wsV RL 90 RX5 yX5_digest wsX5_digest) := goodIn_app (goodIn_of _ (by decide +kernel)) ggL_alike_X5_digest
set_option maxRecDepth 20000 in
theorem ggL_alike_X5_firstError : GoodIn wsL_alike wsX5_firstError := goodIn_r _ [275, 10, 276, 277, 278, 279, 280, 281, 282, 283, 284, 285, 286, 287, 288, 289, 290, 291, 292, 293, 294, 295, 296, 297, 298, 299, 300, 301, 302, 303, 304, 305, 306, 307, 308, 309, 310, 317, 318, 319, 320, 321] (by decide +kernel) (by decide +kernel)
set_option maxRecDepth 20000 in
theorem gL_alike_X5_firstError : GoodIn wsL_alike (wsV RL 191 RX5 yX5_firstError wsX5_firstError) := goodIn_app (goodIn_of _ (by decide +kernel)) ggL_alike_X5_firstError
theorem dL_alike_0 : decode cL_alike 0 = .ok (.aload_n 0, 1) := by decide +kernel
theorem dL_alike_1 : decode cL_alike 1 = .ok (.invokevirtual 90, 3) := by decide +kernel
theorem dL_alike_4 : decode cL_alike 4 = .ok (.aload_n 1, 1) := by decide +kernel
theorem dL_alike_5 : decode cL_alike 5 = .ok (.invokevirtual 90, 3) := by decide +kernel
theorem dL_alike_8 : decode cL_alike 8 = .ok (.lcmp, 1) := by decide +kernel
theorem dL_alike_9 : decode cL_alike 9 = .ok (.ifCond .ne 18, 3) := by decide +kernel
theorem dL_alike_12 : decode cL_alike 12 = .ok (.aload_n 0, 1) := by decide +kernel
theorem dL_alike_13 : decode cL_alike 13 = .ok (.invokevirtual 191, 3) := by decide +kernel
theorem dL_alike_16 : decode cL_alike 16 = .ok (.aload_n 1, 1) := by decide +kernel
theorem dL_alike_17 : decode cL_alike 17 = .ok (.invokevirtual 191, 3) := by decide +kernel
theorem dL_alike_20 : decode cL_alike 20 = .ok (.if_icmp .ne 7, 3) := by decide +kernel
theorem dL_alike_23 : decode cL_alike 23 = .ok (.iconst 1, 1) := by decide +kernel
theorem dL_alike_24 : decode cL_alike 24 = .ok (.goto 4, 3) := by decide +kernel
theorem dL_alike_27 : decode cL_alike 27 = .ok (.iconst 0, 1) := by decide +kernel
theorem dL_alike_28 : decode cL_alike 28 = .ok (.ireturn, 1) := by decide +kernel
set_option maxRecDepth 20000 in
theorem ggL_number_L_append : GoodIn wsL_number wsL_append := goodIn_ca (goodIn_ca (goodIn_r _ [4, 5, 6, 7, 8, 9, 10, 11, 12, 13, 14, 15, 16, 17, 18, 19, 20, 21, 22, 23, 24, 25, 26, 27, 28, 29, 30, 31, 32, 33, 34, 35, 36, 37, 38] (by decide +kernel) (by decide +kernel)) (goodIn_sub (fun _ h => List.mem_cons_of_mem _ (List.mem_append_left _ (List.mem_append_right _ h))) (by decide +kernel))) (goodIn_sub (fun _ h => List.mem_cons_of_mem _ (List.mem_append_right _ h)) (by decide +kernel))
set_option maxRecDepth 20000 in
theorem gL_number_L_append : GoodIn wsL_number (va_wsS RL 116 yL_append wsL_append) := goodIn_app (goodIn_of _ (by decide +kernel)) ggL_number_L_append
theorem dL_number_0 : decode cL_number 0 = .ok (.iload_n 1, 1) := by decide +kernel
theorem dL_number_1 : decode cL_number 1 = .ok (.bipush 10, 2) := by decide +kernel
theorem dL_number_3 : decode cL_number 3 = .ok (.if_icmp .lt 19, 3) := by decide +kernel
theorem dL_number_6 : decode cL_number 6 = .ok (.aload_n 0, 1) := by decide +kernel
theorem dL_number_7 : decode cL_number 7 = .ok (.bipush 48, 2) := by decide +kernel
theorem dL_number_9 : decode cL_number 9 = .ok (.iload_n 1, 1) := by decide +kernel
theorem dL_number_10 : decode cL_number 10 = .ok (.bipush 10, 2) := by decide +kernel
theorem dL_number_12 : decode cL_number 12 = .ok (.idiv, 1) := by decide +kernel
theorem dL_number_13 : decode cL_number 13 = .ok (.iadd, 1) := by decide +kernel
theorem dL_number_14 : decode cL_number 14 = .ok (.invokestatic 116, 3) := by decide +kernel
theorem dL_number_17 : decode cL_number 17 = .ok (.lconst 0, 1) := by decide +kernel
theorem dL_number_18 : decode cL_number 18 = .ok (.lcmp, 1) := by decide +kernel
theorem dL_number_19 : decode cL_number 19 = .ok (.ifCond .le 23, 3) := by decide +kernel
theorem dL_number_22 : decode cL_number 22 = .ok (.aload_n 0, 1) := by decide +kernel
theorem dL_number_23 : decode cL_number 23 = .ok (.bipush 48, 2) := by decide +kernel
theorem dL_number_25 : decode cL_number 25 = .ok (.iload_n 1, 1) := by decide +kernel
theorem dL_number_26 : decode cL_number 26 = .ok (.bipush 10, 2) := by decide +kernel
theorem dL_number_28 : decode cL_number 28 = .ok (.irem, 1) := by decide +kernel
theorem dL_number_29 : decode cL_number 29 = .ok (.iadd, 1) := by decide +kernel
theorem dL_number_30 : decode cL_number 30 = .ok (.invokestatic 116, 3) := by decide +kernel
theorem dL_number_33 : decode cL_number 33 = .ok (.lconst 0, 1) := by decide +kernel
theorem dL_number_34 : decode cL_number 34 = .ok (.lcmp, 1) := by decide +kernel
theorem dL_number_35 : decode cL_number 35 = .ok (.ifCond .le 7, 3) := by decide +kernel
theorem dL_number_38 : decode cL_number 38 = .ok (.iconst 1, 1) := by decide +kernel
theorem dL_number_39 : decode cL_number 39 = .ok (.goto 4, 3) := by decide +kernel
theorem dL_number_42 : decode cL_number 42 = .ok (.iconst 0, 1) := by decide +kernel
theorem dL_number_43 : decode cL_number 43 = .ok (.ireturn, 1) := by decide +kernel
set_option maxRecDepth 20000 in
theorem ggL_told_X5_clearBuffer : GoodIn wsL_told wsX5_clearBuffer := goodIn_r _ [6, 7, 8, 128, 129, 130, 131, 132, 133, 134, 135, 136, 137, 138, 139] (by decide +kernel) (by decide +kernel)
set_option maxRecDepth 20000 in
theorem gL_told_X5_clearBuffer : GoodIn wsL_told (wsV RL 194 RX5 yX5_clearBuffer wsX5_clearBuffer) := goodIn_app (goodIn_of _ (by decide +kernel)) ggL_told_X5_clearBuffer
set_option maxRecDepth 20000 in
theorem ggL_told_L_append : GoodIn wsL_told wsL_append := goodIn_ca (goodIn_ca (goodIn_r _ [12, 13, 14, 15, 16, 17, 18, 19, 5, 20, 21, 22, 23, 24, 7, 8, 25, 26, 27, 28, 29, 30, 31, 128, 129, 130, 131, 132, 133, 134, 135, 136, 137, 138, 139] (by decide +kernel) (by decide +kernel)) (goodIn_sub (fun _ h => List.mem_cons_of_mem _ (List.mem_append_left _ (List.mem_append_right _ h))) (by decide +kernel))) (goodIn_sub (fun _ h => List.mem_cons_of_mem _ (List.mem_append_right _ h)) (by decide +kernel))
set_option maxRecDepth 20000 in
theorem gL_told_L_append : GoodIn wsL_told (va_wsS RL 116 yL_append wsL_append) := goodIn_app (goodIn_of _ (by decide +kernel)) ggL_told_L_append
set_option maxRecDepth 20000 in
theorem ggL_told_L_number : GoodIn wsL_told wsL_number := goodIn_ca (goodIn_ca (goodIn_r _ [34, 9, 10, 11, 12, 13, 14, 15, 16, 17, 18, 19, 5, 20, 21, 22, 23, 24, 7, 8, 25, 26, 27, 28, 29, 30, 31, 128, 129, 130, 131, 132, 133, 134, 135, 136, 137, 138, 139] (by decide +kernel) (by decide +kernel)) (goodIn_sub (fun _ h => List.mem_cons_of_mem _ (List.mem_append_left _ (List.mem_append_right _ h))) (by decide +kernel))) (goodIn_sub (fun _ h => List.mem_cons_of_mem _ (List.mem_append_right _ h)) (by decide +kernel))
set_option maxRecDepth 20000 in
theorem gL_told_L_number : GoodIn wsL_told (va_wsS RL 197 yL_number wsL_number) := goodIn_app (goodIn_of _ (by decide +kernel)) ggL_told_L_number
set_option maxRecDepth 20000 in
theorem ggL_told_L_read : GoodIn wsL_told wsL_read := goodIn_ca (goodIn_ca (goodIn_r _ [37, 13, 14, 15, 16, 38, 39, 40, 5, 41, 21, 22, 7, 42, 43, 8, 44, 45, 46, 47, 28, 48, 31, 49, 50, 51, 52, 53, 54, 30, 55, 56, 57, 58, 59, 60, 61, 62, 63, 64, 65, 66, 67, 68, 69, 70, 71, 72, 73, 74, 75, 76, 77, 78, 79, 80, 81, 82, 83, 84, 85, 86, 87, 88, 89, 90, 91, 92, 93, 94, 23, 24, 95, 96, 97, 98, 99, 100, 101, 102, 103, 104, 105, 106, 107, 108, 109, 110, 111, 112, 113, 114, 115, 116, 117, 118, 119, 120, 121, 122, 123, 124, 125, 126, 127, 128, 129, 130, 131, 132, 133, 134, 135, 136, 137, 138, 139, 140, 141, 142, 143, 144, 145, 146, 147, 148] (by decide +kernel) (by decide +kernel)) (goodIn_sub (fun _ h => List.mem_cons_of_mem _ (List.mem_append_left _ (List.mem_append_right _ h))) (by decide +kernel))) (goodIn_sub (fun _ h => List.mem_cons_of_mem _ (List.mem_append_right _ h)) (by decide +kernel))
set_option maxRecDepth 20000 in
theorem gL_told_L_read : GoodIn wsL_told (va_wsS RL 201 yL_read wsL_read) := goodIn_app (goodIn_of _ (by decide +kernel)) ggL_told_L_read
theorem dL_told_0 : decode cL_told 0 = .ok (.aload_n 0, 1) := by decide +kernel
theorem dL_told_1 : decode cL_told 1 = .ok (.invokevirtual 194, 3) := by decide +kernel
theorem dL_told_4 : decode cL_told 4 = .ok (.ifCond .lt 7, 3) := by decide +kernel
theorem dL_told_7 : decode cL_told 7 = .ok (.iconst 1, 1) := by decide +kernel
theorem dL_told_8 : decode cL_told 8 = .ok (.goto 4, 3) := by decide +kernel
theorem dL_told_11 : decode cL_told 11 = .ok (.iconst 0, 1) := by decide +kernel
theorem dL_told_12 : decode cL_told 12 = .ok (.istore_n 2, 1) := by decide +kernel
theorem dL_told_13 : decode cL_told 13 = .ok (.iconst 0, 1) := by decide +kernel
theorem dL_told_14 : decode cL_told 14 = .ok (.istore_n 3, 1) := by decide +kernel
theorem dL_told_15 : decode cL_told 15 = .ok (.iload_n 3, 1) := by decide +kernel
theorem dL_told_16 : decode cL_told 16 = .ok (.iconst 1, 1) := by decide +kernel
theorem dL_told_17 : decode cL_told 17 = .ok (.iload_n 1, 1) := by decide +kernel
theorem dL_told_18 : decode cL_told 18 = .ok (.iconst 4, 1) := by decide +kernel
theorem dL_told_19 : decode cL_told 19 = .ok (.irem, 1) := by decide +kernel
theorem dL_told_20 : decode cL_told 20 = .ok (.iadd, 1) := by decide +kernel
theorem dL_told_21 : decode cL_told 21 = .ok (.if_icmp .ge 114, 3) := by decide +kernel
theorem dL_told_24 : decode cL_told 24 = .ok (.iload_n 2, 1) := by decide +kernel
theorem dL_told_25 : decode cL_told 25 = .ok (.ifCond .eq 110, 3) := by decide +kernel
theorem dL_told_28 : decode cL_told 28 = .ok (.iload_n 1, 1) := by decide +kernel
theorem dL_told_29 : decode cL_told 29 = .ok (.iload_n 3, 1) := by decide +kernel
theorem dL_told_30 : decode cL_told 30 = .ok (.ishr, 1) := by decide +kernel
theorem dL_told_31 : decode cL_told 31 = .ok (.istore 4, 2) := by decide +kernel
theorem dL_told_33 : decode cL_told 33 = .ok (.iload 4, 2) := by decide +kernel
theorem dL_told_35 : decode cL_told 35 = .ok (.bipush 40, 2) := by decide +kernel
theorem dL_told_37 : decode cL_told 37 = .ok (.irem, 1) := by decide +kernel
theorem dL_told_38 : decode cL_told 38 = .ok (.istore 5, 2) := by decide +kernel
theorem dL_told_40 : decode cL_told 40 = .ok (.iload_n 3, 1) := by decide +kernel
theorem dL_told_41 : decode cL_told 41 = .ok (.ifCond .eq 14, 3) := by decide +kernel
theorem dL_told_44 : decode cL_told 44 = .ok (.aload_n 0, 1) := by decide +kernel
theorem dL_told_45 : decode cL_told 45 = .ok (.bipush 59, 2) := by decide +kernel
theorem dL_told_47 : decode cL_told 47 = .ok (.invokestatic 116, 3) := by decide +kernel
theorem dL_told_50 : decode cL_told 50 = .ok (.lconst 0, 1) := by decide +kernel
theorem dL_told_51 : decode cL_told 51 = .ok (.lcmp, 1) := by decide +kernel
theorem dL_told_52 : decode cL_told 52 = .ok (.ifCond .le 75, 3) := by decide +kernel
theorem dL_told_55 : decode cL_told 55 = .ok (.aload_n 0, 1) := by decide +kernel
theorem dL_told_56 : decode cL_told 56 = .ok (.iload 5, 2) := by decide +kernel
theorem dL_told_58 : decode cL_told 58 = .ok (.invokestatic 197, 3) := by decide +kernel
theorem dL_told_61 : decode cL_told 61 = .ok (.ifCond .eq 66, 3) := by decide +kernel
theorem dL_told_64 : decode cL_told 64 = .ok (.aload_n 0, 1) := by decide +kernel
theorem dL_told_65 : decode cL_told 65 = .ok (.bipush 45, 2) := by decide +kernel
theorem dL_told_67 : decode cL_told 67 = .ok (.invokestatic 116, 3) := by decide +kernel
theorem dL_told_70 : decode cL_told 70 = .ok (.lconst 0, 1) := by decide +kernel
theorem dL_told_71 : decode cL_told 71 = .ok (.lcmp, 1) := by decide +kernel
theorem dL_told_72 : decode cL_told 72 = .ok (.ifCond .le 55, 3) := by decide +kernel
theorem dL_told_75 : decode cL_told 75 = .ok (.aload_n 0, 1) := by decide +kernel
theorem dL_told_76 : decode cL_told 76 = .ok (.iload 5, 2) := by decide +kernel
theorem dL_told_78 : decode cL_told 78 = .ok (.iconst 1, 1) := by decide +kernel
theorem dL_told_79 : decode cL_told 79 = .ok (.iadd, 1) := by decide +kernel
theorem dL_told_80 : decode cL_told 80 = .ok (.iload 4, 2) := by decide +kernel
theorem dL_told_82 : decode cL_told 82 = .ok (.bipush 40, 2) := by decide +kernel
theorem dL_told_84 : decode cL_told 84 = .ok (.idiv, 1) := by decide +kernel
theorem dL_told_85 : decode cL_told 85 = .ok (.bipush 9, 2) := by decide +kernel
theorem dL_told_87 : decode cL_told 87 = .ok (.irem, 1) := by decide +kernel
theorem dL_told_88 : decode cL_told 88 = .ok (.iadd, 1) := by decide +kernel
theorem dL_told_89 : decode cL_told 89 = .ok (.invokestatic 197, 3) := by decide +kernel
theorem dL_told_92 : decode cL_told 92 = .ok (.ifCond .eq 35, 3) := by decide +kernel
theorem dL_told_95 : decode cL_told 95 = .ok (.aload_n 0, 1) := by decide +kernel
theorem dL_told_96 : decode cL_told 96 = .ok (.bipush 42, 2) := by decide +kernel
theorem dL_told_98 : decode cL_told 98 = .ok (.invokestatic 116, 3) := by decide +kernel
theorem dL_told_101 : decode cL_told 101 = .ok (.lconst 0, 1) := by decide +kernel
theorem dL_told_102 : decode cL_told 102 = .ok (.lcmp, 1) := by decide +kernel
theorem dL_told_103 : decode cL_told 103 = .ok (.ifCond .le 24, 3) := by decide +kernel
theorem dL_told_106 : decode cL_told 106 = .ok (.aload_n 0, 1) := by decide +kernel
theorem dL_told_107 : decode cL_told 107 = .ok (.iconst 1, 1) := by decide +kernel
theorem dL_told_108 : decode cL_told 108 = .ok (.iload 4, 2) := by decide +kernel
theorem dL_told_110 : decode cL_told 110 = .ok (.bipush 7, 2) := by decide +kernel
theorem dL_told_112 : decode cL_told 112 = .ok (.idiv, 1) := by decide +kernel
theorem dL_told_113 : decode cL_told 113 = .ok (.bipush 50, 2) := by decide +kernel
theorem dL_told_115 : decode cL_told 115 = .ok (.irem, 1) := by decide +kernel
theorem dL_told_116 : decode cL_told 116 = .ok (.iadd, 1) := by decide +kernel
theorem dL_told_117 : decode cL_told 117 = .ok (.invokestatic 197, 3) := by decide +kernel
theorem dL_told_120 : decode cL_told 120 = .ok (.ifCond .eq 7, 3) := by decide +kernel
theorem dL_told_123 : decode cL_told 123 = .ok (.iconst 1, 1) := by decide +kernel
theorem dL_told_124 : decode cL_told 124 = .ok (.goto 4, 3) := by decide +kernel
theorem dL_told_127 : decode cL_told 127 = .ok (.iconst 0, 1) := by decide +kernel
theorem dL_told_128 : decode cL_told 128 = .ok (.istore_n 2, 1) := by decide +kernel
theorem dL_told_129 : decode cL_told 129 = .ok (.iinc 3 1, 3) := by decide +kernel
theorem dL_told_132 : decode cL_told 132 = .ok (.goto (-117), 3) := by decide +kernel
theorem dL_told_135 : decode cL_told 135 = .ok (.iload_n 2, 1) := by decide +kernel
theorem dL_told_136 : decode cL_told 136 = .ok (.ifCond .eq 10, 3) := by decide +kernel
theorem dL_told_139 : decode cL_told 139 = .ok (.aload_n 0, 1) := by decide +kernel
theorem dL_told_140 : decode cL_told 140 = .ok (.invokestatic 201, 3) := by decide +kernel
theorem dL_told_143 : decode cL_told 143 = .ok (.goto 6, 3) := by decide +kernel
theorem dL_told_146 : decode cL_told 146 = .ok (.ldc2_w 203, 3) := by decide +kernel
theorem dL_told_149 : decode cL_told 149 = .ok (.lreturn, 1) := by decide +kernel
set_option maxRecDepth 20000 in
theorem ggL_act_X5_rehearsals : GoodIn wsL_act wsX5_rehearsals := goodIn_r _ [5, 6, 7, 319, 320, 321, 322, 323, 324, 325, 326, 327, 328, 329, 330, 331] (by decide +kernel) (by decide +kernel)
set_option maxRecDepth 20000 in
theorem gL_act_X5_rehearsals : GoodIn wsL_act (wsV RL 94 RX5 yX5_rehearsals wsX5_rehearsals) := goodIn_app (goodIn_of _ (by decide +kernel)) ggL_act_X5_rehearsals
set_option maxRecDepth 20000 in
theorem ggL_act_L_add : GoodIn wsL_act wsL_add := goodIn_ca (goodIn_ca (goodIn_r _ [11, 12, 13, 14, 15, 16, 17, 18, 4, 19, 20, 6, 7, 21, 22, 23, 24, 25, 26, 27, 28, 29, 30, 31, 32, 33, 34, 35, 36, 37, 38, 39, 40, 41, 42, 43, 44, 45, 46, 47, 48, 49, 50, 51, 52, 53, 54, 55, 56, 57, 58, 59, 60, 61, 319, 320, 321, 322, 323, 324, 325, 326, 327, 328, 329, 330, 331, 332, 333, 334] (by decide +kernel) (by decide +kernel)) (goodIn_sub (fun _ h => List.mem_cons_of_mem _ (List.mem_append_left _ (List.mem_append_left _ (List.mem_append_right _ h)))) (by decide +kernel))) (goodIn_sub (fun _ h => List.mem_cons_of_mem _ (List.mem_append_left _ (List.mem_append_right _ h))) (by decide +kernel))
set_option maxRecDepth 20000 in
theorem gL_act_L_add : GoodIn wsL_act (va_wsS RL 97 yL_add wsL_add) := goodIn_app (goodIn_of _ (by decide +kernel)) ggL_act_L_add
set_option maxRecDepth 20000 in
theorem ggL_act_L_strike : GoodIn wsL_act wsL_strike := goodIn_ca (goodIn_r _ [64, 65, 66, 67, 68, 69, 4, 70, 6, 71, 20, 72, 73, 74, 75, 76, 77, 7, 35, 36, 37, 38, 39, 40, 41, 42, 43, 44, 45, 46, 47, 48, 49, 50, 51, 52, 53, 54, 55, 56, 57, 78, 79, 80, 81, 82, 83, 319, 320, 321, 322, 323, 324, 325, 326, 327, 328, 329, 330, 331, 332, 333, 334] (by decide +kernel) (by decide +kernel)) (goodIn_sub (fun _ h => List.mem_cons_of_mem _ (List.mem_append_right _ h)) (by decide +kernel))
set_option maxRecDepth 20000 in
theorem gL_act_L_strike : GoodIn wsL_act (va_wsS RL 102 yL_strike wsL_strike) := goodIn_app (goodIn_of _ (by decide +kernel)) ggL_act_L_strike
set_option maxRecDepth 20000 in
theorem ggL_act_L_move : GoodIn wsL_act wsL_move := goodIn_ca (goodIn_ca (goodIn_ca (goodIn_r _ [86, 65, 12, 13, 66, 14, 15, 87, 88, 89, 4, 90, 33, 34, 6, 20, 91, 92, 72, 73, 74, 75, 76, 77, 7, 21, 22, 23, 24, 25, 93, 94, 95, 46, 96, 50, 97, 98, 99, 82, 83, 100, 101, 102, 103, 48, 49, 104, 105, 106, 107, 108, 56, 55, 109, 110, 111, 112, 35, 36, 37, 38, 39, 40, 41, 42, 43, 44, 45, 47, 51, 52, 53, 54, 57, 319, 320, 321, 322, 323, 324, 325, 326, 327, 328, 329, 330, 331, 332, 333, 334] (by decide +kernel) (by decide +kernel)) (goodIn_sub (fun _ h => List.mem_cons_of_mem _ (List.mem_append_left _ (List.mem_append_right _ h))) (by decide +kernel))) (goodIn_sub (fun _ h => List.mem_cons_of_mem _ (List.mem_append_right _ h)) (by decide +kernel))) (goodIn_sub (fun _ h => List.mem_cons_of_mem _ (List.mem_append_left _ (List.mem_append_left _ (List.mem_append_right _ h)))) (by decide +kernel))
set_option maxRecDepth 20000 in
theorem gL_act_L_move : GoodIn wsL_act (va_wsS RL 105 yL_move wsL_move) := goodIn_app (goodIn_of _ (by decide +kernel)) ggL_act_L_move
set_option maxRecDepth 20000 in
theorem ggL_act_L_changeFame : GoodIn wsL_act wsL_changeFame := goodIn_ca (goodIn_ca (goodIn_r _ [115, 65, 12, 66, 14, 116, 117, 118, 4, 119, 6, 71, 20, 72, 73, 74, 75, 76, 77, 7, 26, 27, 28, 24, 25, 35, 36, 37, 38, 39, 40, 41, 42, 43, 44, 45, 46, 47, 48, 49, 50, 51, 52, 53, 54, 55, 56, 57, 319, 320, 321, 322, 323, 324, 325, 326, 327, 328, 329, 330, 331, 332, 333, 334] (by decide +kernel) (by decide +kernel)) (goodIn_sub (fun _ h => List.mem_cons_of_mem _ (List.mem_append_right _ h)) (by decide +kernel))) (goodIn_sub (fun _ h => List.mem_cons_of_mem _ (List.mem_append_left _ (List.mem_append_left _ (List.mem_append_right _ h)))) (by decide +kernel))
set_option maxRecDepth 20000 in
theorem gL_act_L_changeFame : GoodIn wsL_act (va_wsS RL 107 yL_changeFame wsL_changeFame) := goodIn_app (goodIn_of _ (by decide +kernel)) ggL_act_L_changeFame
set_option maxRecDepth 20000 in
theorem ggL_act_L_changePause : GoodIn wsL_act wsL_changePause := goodIn_ca (goodIn_ca (goodIn_r _ [122, 12, 13, 14, 15, 123, 124, 125, 4, 126, 24, 25, 33, 34, 6, 127, 20, 128, 129, 130, 46, 131, 48, 55, 56, 104, 94, 95, 96, 50, 97, 98, 99, 82, 83, 105, 106, 107, 108, 35, 36, 37, 38, 39, 40, 41, 42, 43, 44, 45, 47, 49, 51, 52, 53, 54, 57, 319, 320, 321, 322, 323, 324, 325, 326, 327, 328, 329, 330, 331, 332, 333, 334] (by decide +kernel) (by decide +kernel)) (goodIn_sub (fun _ h => List.mem_cons_of_mem _ (List.mem_append_left _ (List.mem_append_left _ (List.mem_append_right _ h)))) (by decide +kernel))) (goodIn_sub (fun _ h => List.mem_cons_of_mem _ (List.mem_append_left _ (List.mem_append_right _ h))) (by decide +kernel))
set_option maxRecDepth 20000 in
theorem gL_act_L_changePause : GoodIn wsL_act (va_wsS RL 110 yL_changePause wsL_changePause) := goodIn_app (goodIn_of _ (by decide +kernel)) ggL_act_L_changePause
set_option maxRecDepth 20000 in
theorem ggL_act_L_book : GoodIn wsL_act wsL_book := goodIn_ca (goodIn_ca (goodIn_r _ [134, 65, 13, 66, 15, 135, 136, 137, 4, 138, 33, 34, 6, 139, 20, 72, 73, 74, 75, 76, 77, 7, 93, 94, 95, 46, 96, 50, 97, 98, 99, 82, 83, 140, 141, 142, 143, 48, 144, 145, 146, 147, 55, 56, 49, 105, 106, 107, 108, 35, 36, 37, 38, 39, 40, 41, 42, 43, 44, 45, 47, 51, 52, 53, 54, 57, 148, 149, 150, 151, 319, 320, 321, 322, 323, 324, 325, 326, 327, 328, 329, 330, 331, 332, 333, 334] (by decide +kernel) (by decide +kernel)) (goodIn_sub (fun _ h => List.mem_cons_of_mem _ (List.mem_append_left _ (List.mem_append_right _ h))) (by decide +kernel))) (goodIn_sub (fun _ h => List.mem_cons_of_mem _ (List.mem_append_right _ h)) (by decide +kernel))
set_option maxRecDepth 20000 in
theorem gL_act_L_book : GoodIn wsL_act (va_wsS RL 112 yL_book wsL_book) := goodIn_app (goodIn_of _ (by decide +kernel)) ggL_act_L_book
set_option maxRecDepth 20000 in
theorem ggL_act_L_cancel : GoodIn wsL_act wsL_cancel := goodIn_ca (goodIn_ca (goodIn_r _ [154, 65, 13, 66, 15, 155, 156, 157, 4, 158, 33, 34, 6, 20, 139, 72, 73, 74, 75, 76, 77, 7, 93, 94, 95, 46, 96, 50, 97, 98, 99, 82, 83, 35, 36, 37, 38, 39, 40, 41, 42, 43, 44, 45, 47, 48, 49, 51, 52, 53, 54, 55, 56, 57, 148, 149, 150, 151, 319, 320, 321, 322, 323, 324, 325, 326, 327, 328, 329, 330, 331, 332, 333, 334] (by decide +kernel) (by decide +kernel)) (goodIn_sub (fun _ h => List.mem_cons_of_mem _ (List.mem_append_left _ (List.mem_append_right _ h))) (by decide +kernel))) (goodIn_sub (fun _ h => List.mem_cons_of_mem _ (List.mem_append_right _ h)) (by decide +kernel))
set_option maxRecDepth 20000 in
theorem gL_act_L_cancel : GoodIn wsL_act (va_wsS RL 114 yL_cancel wsL_cancel) := goodIn_app (goodIn_of _ (by decide +kernel)) ggL_act_L_cancel
set_option maxRecDepth 20000 in
theorem ggL_act_X5_bookBest : GoodIn wsL_act wsX5_bookBest := goodIn_r _ [162, 20, 6, 163, 139, 35, 36, 37, 38, 39, 40, 41, 42, 43, 44, 45, 46, 47, 48, 49, 50, 51, 52, 53, 54, 55, 56, 57, 164, 165, 166, 167, 168, 169, 170, 171, 172, 173, 82, 4, 83, 174, 175, 176, 177, 178, 179, 180, 181, 182, 183, 184, 185, 186, 187, 188, 97, 98, 99, 189, 190, 191, 192, 193, 194, 195, 196, 197, 198, 199, 200, 319, 320, 321, 322, 323, 324, 325, 326, 327, 328, 329, 330, 331, 332, 333, 334, 335, 336, 337] (by decide +kernel) (by decide +kernel)
set_option maxRecDepth 20000 in
theorem gL_act_X5_bookBest : GoodIn wsL_act (wsV RL 182 RX5 yX5_bookBest wsX5_bookBest) := goodIn_app (goodIn_of _ (by decide +kernel)) ggL_act_X5_bookBest
set_option maxRecDepth 20000 in
theorem ggL_act_L_told : GoodIn wsL_act wsL_told := goodIn_ca (goodIn_ca (goodIn_r _ [203, 204, 205, 206, 207, 4, 208, 209, 210, 211, 212, 10, 213, 12, 13, 14, 15, 214, 215, 216, 217, 24, 25, 33, 34, 218, 219, 220, 221, 222, 223, 224, 225, 226, 227, 228, 229, 230, 231, 232, 233, 234, 20, 6, 7, 235, 236, 237, 238, 239, 240, 241, 242, 243, 244, 245, 246, 247, 248, 249, 250, 251, 252, 253, 254, 255, 256, 257, 258, 259, 260, 261, 262, 263, 264, 265, 266, 267, 268, 269, 270, 271, 272, 273, 274, 275, 276, 277, 278, 279, 280, 29, 30, 31, 32, 35, 36, 37, 38, 39, 40, 41, 42, 43, 44, 45, 46, 47, 48, 49, 50, 51, 52, 53, 54, 55, 56, 57, 281, 282, 283, 284, 285, 286, 58, 59, 60, 61, 319, 320, 321, 322, 323, 324, 325, 338, 339, 340, 341, 342, 326, 327, 328, 329, 330, 331, 332, 333, 334] (by decide +kernel) (by decide +kernel)) (goodIn_sub (fun _ h => List.mem_cons_of_mem _ (List.mem_append_left _ (List.mem_append_left _ (List.mem_append_right _ h)))) (by decide +kernel))) (goodIn_sub (fun _ h => List.mem_cons_of_mem _ (List.mem_append_left _ (List.mem_append_right _ h))) (by decide +kernel))
set_option maxRecDepth 20000 in
theorem gL_act_L_told : GoodIn wsL_act (va_wsS RL 205 yL_told wsL_told) := goodIn_app (goodIn_of _ (by decide +kernel)) ggL_act_L_told
set_option maxRecDepth 20000 in
theorem ggL_act_L_undo : GoodIn wsL_act wsL_undo := goodIn_ca (goodIn_r _ [289, 13, 15, 290, 291, 292, 4, 293, 33, 34, 20, 294, 6, 295, 296, 297, 38, 298, 40, 42, 41, 43, 44, 45, 46, 47, 48, 49, 50, 51, 52, 53, 54, 55, 56, 57, 319, 320, 321, 322, 323, 324, 325, 332, 333, 334, 326, 327, 328, 329, 330, 331] (by decide +kernel) (by decide +kernel)) (goodIn_sub (fun _ h => List.mem_cons_of_mem _ (List.mem_append_left _ (List.mem_append_right _ h))) (by decide +kernel))
set_option maxRecDepth 20000 in
theorem gL_act_L_undo : GoodIn wsL_act (va_wsS RL 185 yL_undo wsL_undo) := goodIn_app (goodIn_of _ (by decide +kernel)) ggL_act_L_undo
set_option maxRecDepth 20000 in
theorem ggL_act_L_keep : GoodIn wsL_act wsL_keep := goodIn_ca (goodIn_r _ [301, 12, 14, 302, 303, 304, 4, 305, 306, 6, 307, 308, 309, 310, 24, 25, 311, 44, 45, 46, 47, 48, 49, 50, 51, 52, 53, 54, 55, 56, 57, 319, 320, 321, 322, 323, 324, 325, 326, 327, 328, 329, 330, 331] (by decide +kernel) (by decide +kernel)) (goodIn_sub (fun _ h => List.mem_cons_of_mem _ (List.mem_append_left _ (List.mem_append_left _ (List.mem_append_right _ h)))) (by decide +kernel))
set_option maxRecDepth 20000 in
theorem gL_act_L_keep : GoodIn wsL_act (va_wsS RL 118 yL_keep wsL_keep) := goodIn_app (goodIn_of _ (by decide +kernel)) ggL_act_L_keep
set_option maxRecDepth 20000 in
theorem ggL_act_L_goBack : GoodIn wsL_act wsL_goBack := goodIn_ca (goodIn_ca (goodIn_r _ [314, 12, 13, 14, 15, 315, 316, 317, 4, 318, 33, 34, 307, 20, 6, 306, 308, 309, 310, 24, 25, 35, 36, 37, 38, 39, 40, 41, 42, 43, 44, 45, 46, 47, 48, 49, 50, 51, 52, 53, 54, 55, 56, 57, 311, 319, 320, 321, 322, 323, 324, 325, 332, 333, 334, 326, 327, 328, 329, 330, 331] (by decide +kernel) (by decide +kernel)) (goodIn_sub (fun _ h => List.mem_cons_of_mem _ (List.mem_append_left _ (List.mem_append_right _ h))) (by decide +kernel))) (goodIn_sub (fun _ h => List.mem_cons_of_mem _ (List.mem_append_left _ (List.mem_append_left _ (List.mem_append_right _ h)))) (by decide +kernel))
set_option maxRecDepth 20000 in
theorem gL_act_L_goBack : GoodIn wsL_act (va_wsS RL 120 yL_goBack wsL_goBack) := goodIn_app (goodIn_of _ (by decide +kernel)) ggL_act_L_goBack
theorem dL_act_0 : decode cL_act 0 = .ok (.aload_n 0, 1) := by decide +kernel
theorem dL_act_1 : decode cL_act 1 = .ok (.invokevirtual 94, 3) := by decide +kernel
theorem dL_act_4 : decode cL_act 4 = .ok (.istore_n 3, 1) := by decide +kernel
theorem dL_act_5 : decode cL_act 5 = .ok (.iload_n 3, 1) := by decide +kernel
theorem dL_act_6 : decode cL_act 6 = .ok (.ifCond .ne 7, 3) := by decide +kernel
theorem dL_act_9 : decode cL_act 9 = .ok (.iconst 0, 1) := by decide +kernel
theorem dL_act_10 : decode cL_act 10 = .ok (.goto 6, 3) := by decide +kernel
theorem dL_act_13 : decode cL_act 13 = .ok (.iload_n 2, 1) := by decide +kernel
theorem dL_act_14 : decode cL_act 14 = .ok (.iload_n 3, 1) := by decide +kernel
theorem dL_act_15 : decode cL_act 15 = .ok (.irem, 1) := by decide +kernel
theorem dL_act_16 : decode cL_act 16 = .ok (.istore 4, 2) := by decide +kernel
theorem dL_act_18 : decode cL_act 18 = .ok (.iload_n 2, 1) := by decide +kernel
theorem dL_act_19 : decode cL_act 19 = .ok (.bipush 14, 2) := by decide +kernel
theorem dL_act_21 : decode cL_act 21 = .ok (.idiv, 1) := by decide +kernel
theorem dL_act_22 : decode cL_act 22 = .ok (.istore 5, 2) := by decide +kernel
theorem dL_act_24 : decode cL_act 24 = .ok (.iload 5, 2) := by decide +kernel
theorem dL_act_26 : decode cL_act 26 = .ok (.iload 5, 2) := by decide +kernel
theorem dL_act_28 : decode cL_act 28 = .ok (.iconst 3, 1) := by decide +kernel
theorem dL_act_29 : decode cL_act 29 = .ok (.irem, 1) := by decide +kernel
theorem dL_act_30 : decode cL_act 30 = .ok (.ifCond .ne 8, 3) := by decide +kernel
theorem dL_act_33 : decode cL_act 33 = .ok (.bipush 90, 2) := by decide +kernel
theorem dL_act_35 : decode cL_act 35 = .ok (.goto 5, 3) := by decide +kernel
theorem dL_act_38 : decode cL_act 38 = .ok (.bipush 30, 2) := by decide +kernel
theorem dL_act_40 : decode cL_act 40 = .ok (.irem, 1) := by decide +kernel
theorem dL_act_41 : decode cL_act 41 = .ok (.istore 6, 2) := by decide +kernel
theorem dL_act_43 : decode cL_act 43 = .ok (.iload 6, 2) := by decide +kernel
theorem dL_act_45 : decode cL_act 45 = .ok (.iconst 1, 1) := by decide +kernel
theorem dL_act_46 : decode cL_act 46 = .ok (.iadd, 1) := by decide +kernel
theorem dL_act_47 : decode cL_act 47 = .ok (.iload 5, 2) := by decide +kernel
theorem dL_act_49 : decode cL_act 49 = .ok (.bipush 90, 2) := by decide +kernel
theorem dL_act_51 : decode cL_act 51 = .ok (.idiv, 1) := by decide +kernel
theorem dL_act_52 : decode cL_act 52 = .ok (.bipush 6, 2) := by decide +kernel
theorem dL_act_54 : decode cL_act 54 = .ok (.irem, 1) := by decide +kernel
theorem dL_act_55 : decode cL_act 55 = .ok (.iadd, 1) := by decide +kernel
theorem dL_act_56 : decode cL_act 56 = .ok (.istore 7, 2) := by decide +kernel
theorem dL_act_58 : decode cL_act 58 = .ok (.iload_n 1, 1) := by decide +kernel
theorem dL_act_59 : decode cL_act 59 = .ok (.bipush 24, 2) := by decide +kernel
theorem dL_act_61 : decode cL_act 61 = .ok (.irem, 1) := by decide +kernel
theorem dL_act_62 : decode cL_act 62 = .ok (.tableswitch 235 0 22 #[106, 106, 106, 106, 106, 121, 128, 128, 128, 139, 139, 153, 153, 163, 163, 163, 163, 170, 170, 177, 199, 199, 204], 106) := by decide +kernel
theorem dL_act_168 : decode cL_act 168 = .ok (.aload_n 0, 1) := by decide +kernel
theorem dL_act_169 : decode cL_act 169 = .ok (.iload 6, 2) := by decide +kernel
theorem dL_act_171 : decode cL_act 171 = .ok (.iload 7, 2) := by decide +kernel
theorem dL_act_173 : decode cL_act 173 = .ok (.iconst 1, 1) := by decide +kernel
theorem dL_act_174 : decode cL_act 174 = .ok (.iload_n 2, 1) := by decide +kernel
theorem dL_act_175 : decode cL_act 175 = .ok (.bipush 50, 2) := by decide +kernel
theorem dL_act_177 : decode cL_act 177 = .ok (.irem, 1) := by decide +kernel
theorem dL_act_178 : decode cL_act 178 = .ok (.iadd, 1) := by decide +kernel
theorem dL_act_179 : decode cL_act 179 = .ok (.invokestatic 97, 3) := by decide +kernel
theorem dL_act_182 : decode cL_act 182 = .ok (.lreturn, 1) := by decide +kernel
theorem dL_act_183 : decode cL_act 183 = .ok (.aload_n 0, 1) := by decide +kernel
theorem dL_act_184 : decode cL_act 184 = .ok (.iload 4, 2) := by decide +kernel
theorem dL_act_186 : decode cL_act 186 = .ok (.invokestatic 102, 3) := by decide +kernel
theorem dL_act_189 : decode cL_act 189 = .ok (.lreturn, 1) := by decide +kernel
theorem dL_act_190 : decode cL_act 190 = .ok (.aload_n 0, 1) := by decide +kernel
theorem dL_act_191 : decode cL_act 191 = .ok (.iload 4, 2) := by decide +kernel
theorem dL_act_193 : decode cL_act 193 = .ok (.iload 6, 2) := by decide +kernel
theorem dL_act_195 : decode cL_act 195 = .ok (.iload 7, 2) := by decide +kernel
theorem dL_act_197 : decode cL_act 197 = .ok (.invokestatic 105, 3) := by decide +kernel
theorem dL_act_200 : decode cL_act 200 = .ok (.lreturn, 1) := by decide +kernel
theorem dL_act_201 : decode cL_act 201 = .ok (.aload_n 0, 1) := by decide +kernel
theorem dL_act_202 : decode cL_act 202 = .ok (.iload 4, 2) := by decide +kernel
theorem dL_act_204 : decode cL_act 204 = .ok (.iconst 1, 1) := by decide +kernel
theorem dL_act_205 : decode cL_act 205 = .ok (.iload 5, 2) := by decide +kernel
theorem dL_act_207 : decode cL_act 207 = .ok (.bipush 50, 2) := by decide +kernel
theorem dL_act_209 : decode cL_act 209 = .ok (.irem, 1) := by decide +kernel
theorem dL_act_210 : decode cL_act 210 = .ok (.iadd, 1) := by decide +kernel
theorem dL_act_211 : decode cL_act 211 = .ok (.invokestatic 107, 3) := by decide +kernel
theorem dL_act_214 : decode cL_act 214 = .ok (.lreturn, 1) := by decide +kernel
theorem dL_act_215 : decode cL_act 215 = .ok (.aload_n 0, 1) := by decide +kernel
theorem dL_act_216 : decode cL_act 216 = .ok (.iload 5, 2) := by decide +kernel
theorem dL_act_218 : decode cL_act 218 = .ok (.bipush 9, 2) := by decide +kernel
theorem dL_act_220 : decode cL_act 220 = .ok (.irem, 1) := by decide +kernel
theorem dL_act_221 : decode cL_act 221 = .ok (.invokestatic 110, 3) := by decide +kernel
theorem dL_act_224 : decode cL_act 224 = .ok (.lreturn, 1) := by decide +kernel
theorem dL_act_225 : decode cL_act 225 = .ok (.aload_n 0, 1) := by decide +kernel
theorem dL_act_226 : decode cL_act 226 = .ok (.iload 4, 2) := by decide +kernel
theorem dL_act_228 : decode cL_act 228 = .ok (.invokestatic 112, 3) := by decide +kernel
theorem dL_act_231 : decode cL_act 231 = .ok (.lreturn, 1) := by decide +kernel
theorem dL_act_232 : decode cL_act 232 = .ok (.aload_n 0, 1) := by decide +kernel
theorem dL_act_233 : decode cL_act 233 = .ok (.iload 4, 2) := by decide +kernel
theorem dL_act_235 : decode cL_act 235 = .ok (.invokestatic 114, 3) := by decide +kernel
theorem dL_act_238 : decode cL_act 238 = .ok (.lreturn, 1) := by decide +kernel
theorem dL_act_239 : decode cL_act 239 = .ok (.iload 5, 2) := by decide +kernel
theorem dL_act_241 : decode cL_act 241 = .ok (.iconst 2, 1) := by decide +kernel
theorem dL_act_242 : decode cL_act 242 = .ok (.irem, 1) := by decide +kernel
theorem dL_act_243 : decode cL_act 243 = .ok (.ifCond .ne 11, 3) := by decide +kernel
theorem dL_act_246 : decode cL_act 246 = .ok (.aload_n 0, 1) := by decide +kernel
theorem dL_act_247 : decode cL_act 247 = .ok (.invokevirtual 182, 3) := by decide +kernel
theorem dL_act_250 : decode cL_act 250 = .ok (.i2l, 1) := by decide +kernel
theorem dL_act_251 : decode cL_act 251 = .ok (.goto 9, 3) := by decide +kernel
theorem dL_act_254 : decode cL_act 254 = .ok (.aload_n 0, 1) := by decide +kernel
theorem dL_act_255 : decode cL_act 255 = .ok (.iload 5, 2) := by decide +kernel
theorem dL_act_257 : decode cL_act 257 = .ok (.invokestatic 205, 3) := by decide +kernel
theorem dL_act_260 : decode cL_act 260 = .ok (.lreturn, 1) := by decide +kernel
theorem dL_act_261 : decode cL_act 261 = .ok (.aload_n 0, 1) := by decide +kernel
theorem dL_act_262 : decode cL_act 262 = .ok (.invokestatic 185, 3) := by decide +kernel
theorem dL_act_265 : decode cL_act 265 = .ok (.lreturn, 1) := by decide +kernel
theorem dL_act_266 : decode cL_act 266 = .ok (.iload 5, 2) := by decide +kernel
theorem dL_act_268 : decode cL_act 268 = .ok (.iconst 2, 1) := by decide +kernel
theorem dL_act_269 : decode cL_act 269 = .ok (.irem, 1) := by decide +kernel
theorem dL_act_270 : decode cL_act 270 = .ok (.ifCond .ne 16, 3) := by decide +kernel
theorem dL_act_273 : decode cL_act 273 = .ok (.aload_n 0, 1) := by decide +kernel
theorem dL_act_274 : decode cL_act 274 = .ok (.iload 5, 2) := by decide +kernel
theorem dL_act_276 : decode cL_act 276 = .ok (.iconst 2, 1) := by decide +kernel
theorem dL_act_277 : decode cL_act 277 = .ok (.idiv, 1) := by decide +kernel
theorem dL_act_278 : decode cL_act 278 = .ok (.iconst 1, 1) := by decide +kernel
theorem dL_act_279 : decode cL_act 279 = .ok (.iand, 1) := by decide +kernel
theorem dL_act_280 : decode cL_act 280 = .ok (.invokestatic 118, 3) := by decide +kernel
theorem dL_act_283 : decode cL_act 283 = .ok (.goto 13, 3) := by decide +kernel
theorem dL_act_286 : decode cL_act 286 = .ok (.aload_n 0, 1) := by decide +kernel
theorem dL_act_287 : decode cL_act 287 = .ok (.iload 5, 2) := by decide +kernel
theorem dL_act_289 : decode cL_act 289 = .ok (.iconst 2, 1) := by decide +kernel
theorem dL_act_290 : decode cL_act 290 = .ok (.idiv, 1) := by decide +kernel
theorem dL_act_291 : decode cL_act 291 = .ok (.iconst 1, 1) := by decide +kernel
theorem dL_act_292 : decode cL_act 292 = .ok (.iand, 1) := by decide +kernel
theorem dL_act_293 : decode cL_act 293 = .ok (.invokestatic 120, 3) := by decide +kernel
theorem dL_act_296 : decode cL_act 296 = .ok (.lreturn, 1) := by decide +kernel
theorem dL_act_297 : decode cL_act 297 = .ok (.aload_n 0, 1) := by decide +kernel
theorem dL_act_298 : decode cL_act 298 = .ok (.iload 5, 2) := by decide +kernel
theorem dL_act_300 : decode cL_act 300 = .ok (.invokestatic 205, 3) := by decide +kernel
theorem dL_act_303 : decode cL_act 303 = .ok (.lreturn, 1) := by decide +kernel
set_option maxRecDepth 20000 in
theorem ggL_law_X5_init : GoodIn wsL_law wsX5_init := goodIn_r _ [5, 6, 7, 8, 9, 10, 11, 12, 13, 14, 15, 16, 17, 18, 19, 20, 21, 22, 23, 24, 25, 26, 27, 28, 29, 30, 31, 32, 33, 34, 35, 36, 37, 38, 39, 40, 41, 42, 43, 44, 45, 46, 47, 48, 49, 50, 51, 52, 53, 54, 55, 56, 57, 58, 59, 60, 61, 62, 63, 64, 65, 66, 67, 68, 615, 616, 617, 618, 619, 620, 608, 609, 610, 611, 612, 613, 614, 621, 622, 623, 624, 625, 626, 627, 628, 629, 630, 631, 632, 633] (by decide +kernel) (by decide +kernel)
set_option maxRecDepth 20000 in
theorem gL_law_X5_init : GoodIn wsL_law (wsX5_init) := ggL_law_X5_init
set_option maxRecDepth 20000 in
theorem ggL_law_L_draw : GoodIn wsL_law wsL_draw := goodIn_r _ [537, 538, 539] (by decide +kernel) (by decide +kernel)
set_option maxRecDepth 20000 in
theorem gL_law_L_draw : GoodIn wsL_law (va_wsS RL 220 yL_draw wsL_draw) := goodIn_app (goodIn_of _ (by decide +kernel)) ggL_law_L_draw
set_option maxRecDepth 20000 in
theorem ggL_law_L_keep : GoodIn wsL_law wsL_keep := goodIn_ca (goodIn_r _ [464, 359, 352, 465, 466, 467, 2, 468, 17, 12, 19, 469, 470, 471, 368, 369, 472, 384, 385, 11, 386, 39, 40, 41, 387, 388, 389, 390, 36, 37, 38, 608, 609, 610, 611, 612, 613, 614, 615, 616, 617, 618, 619, 620] (by decide +kernel) (by decide +kernel)) (goodIn_sub (fun _ h => List.mem_append_left _ (List.mem_append_right _ h)) (by decide +kernel))
set_option maxRecDepth 20000 in
theorem gL_law_L_keep : GoodIn wsL_law (va_wsS RL 118 yL_keep wsL_keep) := goodIn_app (goodIn_of _ (by decide +kernel)) ggL_law_L_keep
set_option maxRecDepth 20000 in
theorem ggL_law_L_goBack : GoodIn wsL_law wsL_goBack := goodIn_ca (goodIn_ca (goodIn_r _ [475, 359, 360, 352, 353, 476, 477, 478, 2, 479, 377, 378, 19, 16, 12, 17, 469, 470, 471, 368, 369, 379, 380, 381, 15, 382, 49, 48, 47, 383, 384, 385, 11, 386, 39, 40, 41, 387, 388, 389, 390, 36, 37, 38, 472, 608, 609, 610, 611, 612, 613, 614, 621, 622, 623, 615, 616, 617, 618, 619, 620] (by decide +kernel) (by decide +kernel)) (goodIn_sub (fun _ h => List.mem_append_right _ h) (by decide +kernel))) (goodIn_sub (fun _ h => List.mem_append_left _ (List.mem_append_right _ h)) (by decide +kernel))
set_option maxRecDepth 20000 in
theorem gL_law_L_goBack : GoodIn wsL_law (va_wsS RL 120 yL_goBack wsL_goBack) := goodIn_app (goodIn_of _ (by decide +kernel)) ggL_law_L_goBack
theorem dL_law_0 : decode cL_law 0 = .ok (.new 10, 3) := by decide +kernel
theorem dL_law_3 : decode cL_law 3 = .ok (.dup, 1) := by decide +kernel
theorem dL_law_4 : decode cL_law 4 = .ok (.invokespecial 208, 3) := by decide +kernel
theorem dL_law_7 : decode cL_law 7 = .ok (.astore_n 1, 1) := by decide +kernel
theorem dL_law_8 : decode cL_law 8 = .ok (.new 10, 3) := by decide +kernel
theorem dL_law_11 : decode cL_law 11 = .ok (.dup, 1) := by decide +kernel
theorem dL_law_12 : decode cL_law 12 = .ok (.invokespecial 208, 3) := by decide +kernel
theorem dL_law_15 : decode cL_law 15 = .ok (.astore_n 2, 1) := by decide +kernel
theorem dL_law_16 : decode cL_law 16 = .ok (.aload_n 1, 1) := by decide +kernel
theorem dL_law_17 : decode cL_law 17 = .ok (.aload_n 2, 1) := by decide +kernel
theorem dL_law_18 : decode cL_law 18 = .ok (.invokestatic 209, 3) := by decide +kernel
theorem dL_law_21 : decode cL_law 21 = .ok (.ifCond .eq 21, 3) := by decide +kernel
theorem dL_law_24 : decode cL_law 24 = .ok (.aload_n 1, 1) := by decide +kernel
theorem dL_law_25 : decode cL_law 25 = .ok (.invokestatic 213, 3) := by decide +kernel
theorem dL_law_28 : decode cL_law 28 = .ok (.ifCond .eq 14, 3) := by decide +kernel
theorem dL_law_31 : decode cL_law 31 = .ok (.aload_n 1, 1) := by decide +kernel
theorem dL_law_32 : decode cL_law 32 = .ok (.invokestatic 217, 3) := by decide +kernel
theorem dL_law_35 : decode cL_law 35 = .ok (.ifCond .eq 7, 3) := by decide +kernel
theorem dL_law_38 : decode cL_law 38 = .ok (.iconst 1, 1) := by decide +kernel
theorem dL_law_39 : decode cL_law 39 = .ok (.goto 4, 3) := by decide +kernel
theorem dL_law_42 : decode cL_law 42 = .ok (.iconst 0, 1) := by decide +kernel
theorem dL_law_43 : decode cL_law 43 = .ok (.istore_n 3, 1) := by decide +kernel
theorem dL_law_44 : decode cL_law 44 = .ok (.iconst 0, 1) := by decide +kernel
theorem dL_law_45 : decode cL_law 45 = .ok (.istore 4, 2) := by decide +kernel
theorem dL_law_47 : decode cL_law 47 = .ok (.iload 4, 2) := by decide +kernel
theorem dL_law_49 : decode cL_law 49 = .ok (.bipush 40, 2) := by decide +kernel
theorem dL_law_51 : decode cL_law 51 = .ok (.if_icmp .ge 199, 3) := by decide +kernel
theorem dL_law_54 : decode cL_law 54 = .ok (.iload_n 3, 1) := by decide +kernel
theorem dL_law_55 : decode cL_law 55 = .ok (.ifCond .eq 195, 3) := by decide +kernel
theorem dL_law_58 : decode cL_law 58 = .ok (.aload_n 0, 1) := by decide +kernel
theorem dL_law_59 : decode cL_law 59 = .ok (.iconst 2, 1) := by decide +kernel
theorem dL_law_60 : decode cL_law 60 = .ok (.iload 4, 2) := by decide +kernel
theorem dL_law_62 : decode cL_law 62 = .ok (.imul, 1) := by decide +kernel
theorem dL_law_63 : decode cL_law 63 = .ok (.invokestatic 220, 3) := by decide +kernel
theorem dL_law_66 : decode cL_law 66 = .ok (.istore 5, 2) := by decide +kernel
theorem dL_law_68 : decode cL_law 68 = .ok (.aload_n 0, 1) := by decide +kernel
theorem dL_law_69 : decode cL_law 69 = .ok (.iconst 2, 1) := by decide +kernel
theorem dL_law_70 : decode cL_law 70 = .ok (.iload 4, 2) := by decide +kernel
theorem dL_law_72 : decode cL_law 72 = .ok (.imul, 1) := by decide +kernel
theorem dL_law_73 : decode cL_law 73 = .ok (.iconst 1, 1) := by decide +kernel
theorem dL_law_74 : decode cL_law 74 = .ok (.iadd, 1) := by decide +kernel
theorem dL_law_75 : decode cL_law 75 = .ok (.invokestatic 220, 3) := by decide +kernel
theorem dL_law_78 : decode cL_law 78 = .ok (.istore 6, 2) := by decide +kernel
theorem dL_law_80 : decode cL_law 80 = .ok (.aload_n 1, 1) := by decide +kernel
theorem dL_law_81 : decode cL_law 81 = .ok (.iload 5, 2) := by decide +kernel
theorem dL_law_83 : decode cL_law 83 = .ok (.iload 6, 2) := by decide +kernel
theorem dL_law_85 : decode cL_law 85 = .ok (.invokestatic 224, 3) := by decide +kernel
theorem dL_law_88 : decode cL_law 88 = .ok (.aload_n 2, 1) := by decide +kernel
theorem dL_law_89 : decode cL_law 89 = .ok (.iload 5, 2) := by decide +kernel
theorem dL_law_91 : decode cL_law 91 = .ok (.iload 6, 2) := by decide +kernel
theorem dL_law_93 : decode cL_law 93 = .ok (.invokestatic 224, 3) := by decide +kernel
theorem dL_law_96 : decode cL_law 96 = .ok (.lcmp, 1) := by decide +kernel
theorem dL_law_97 : decode cL_law 97 = .ok (.ifCond .ne 7, 3) := by decide +kernel
theorem dL_law_100 : decode cL_law 100 = .ok (.iconst 1, 1) := by decide +kernel
theorem dL_law_101 : decode cL_law 101 = .ok (.goto 4, 3) := by decide +kernel
theorem dL_law_104 : decode cL_law 104 = .ok (.iconst 0, 1) := by decide +kernel
theorem dL_law_105 : decode cL_law 105 = .ok (.istore_n 3, 1) := by decide +kernel
theorem dL_law_106 : decode cL_law 106 = .ok (.iload 4, 2) := by decide +kernel
theorem dL_law_108 : decode cL_law 108 = .ok (.bipush 8, 2) := by decide +kernel
theorem dL_law_110 : decode cL_law 110 = .ok (.irem, 1) := by decide +kernel
theorem dL_law_111 : decode cL_law 111 = .ok (.iconst 3, 1) := by decide +kernel
theorem dL_law_112 : decode cL_law 112 = .ok (.if_icmp .ne 27, 3) := by decide +kernel
theorem dL_law_115 : decode cL_law 115 = .ok (.iload_n 3, 1) := by decide +kernel
theorem dL_law_116 : decode cL_law 116 = .ok (.ifCond .eq 21, 3) := by decide +kernel
theorem dL_law_119 : decode cL_law 119 = .ok (.aload_n 2, 1) := by decide +kernel
theorem dL_law_120 : decode cL_law 120 = .ok (.invokestatic 213, 3) := by decide +kernel
theorem dL_law_123 : decode cL_law 123 = .ok (.ifCond .eq 14, 3) := by decide +kernel
theorem dL_law_126 : decode cL_law 126 = .ok (.aload_n 2, 1) := by decide +kernel
theorem dL_law_127 : decode cL_law 127 = .ok (.invokestatic 217, 3) := by decide +kernel
theorem dL_law_130 : decode cL_law 130 = .ok (.ifCond .eq 7, 3) := by decide +kernel
theorem dL_law_133 : decode cL_law 133 = .ok (.iconst 1, 1) := by decide +kernel
theorem dL_law_134 : decode cL_law 134 = .ok (.goto 4, 3) := by decide +kernel
theorem dL_law_137 : decode cL_law 137 = .ok (.iconst 0, 1) := by decide +kernel
theorem dL_law_138 : decode cL_law 138 = .ok (.istore_n 3, 1) := by decide +kernel
theorem dL_law_139 : decode cL_law 139 = .ok (.iload 4, 2) := by decide +kernel
theorem dL_law_141 : decode cL_law 141 = .ok (.bipush 13, 2) := by decide +kernel
theorem dL_law_143 : decode cL_law 143 = .ok (.irem, 1) := by decide +kernel
theorem dL_law_144 : decode cL_law 144 = .ok (.bipush 12, 2) := by decide +kernel
theorem dL_law_146 : decode cL_law 146 = .ok (.if_icmp .ne 72, 3) := by decide +kernel
theorem dL_law_149 : decode cL_law 149 = .ok (.iload_n 3, 1) := by decide +kernel
theorem dL_law_150 : decode cL_law 150 = .ok (.ifCond .eq 26, 3) := by decide +kernel
theorem dL_law_153 : decode cL_law 153 = .ok (.aload_n 2, 1) := by decide +kernel
theorem dL_law_154 : decode cL_law 154 = .ok (.iload 6, 2) := by decide +kernel
theorem dL_law_156 : decode cL_law 156 = .ok (.invokestatic 227, 3) := by decide +kernel
theorem dL_law_159 : decode cL_law 159 = .ok (.ifCond .eq 17, 3) := by decide +kernel
theorem dL_law_162 : decode cL_law 162 = .ok (.aload_n 1, 1) := by decide +kernel
theorem dL_law_163 : decode cL_law 163 = .ok (.iconst 1, 1) := by decide +kernel
theorem dL_law_164 : decode cL_law 164 = .ok (.invokestatic 118, 3) := by decide +kernel
theorem dL_law_167 : decode cL_law 167 = .ok (.lconst 0, 1) := by decide +kernel
theorem dL_law_168 : decode cL_law 168 = .ok (.lcmp, 1) := by decide +kernel
theorem dL_law_169 : decode cL_law 169 = .ok (.ifCond .ne 7, 3) := by decide +kernel
theorem dL_law_172 : decode cL_law 172 = .ok (.iconst 1, 1) := by decide +kernel
theorem dL_law_173 : decode cL_law 173 = .ok (.goto 4, 3) := by decide +kernel
theorem dL_law_176 : decode cL_law 176 = .ok (.iconst 0, 1) := by decide +kernel
theorem dL_law_177 : decode cL_law 177 = .ok (.istore_n 3, 1) := by decide +kernel
theorem dL_law_178 : decode cL_law 178 = .ok (.iconst 0, 1) := by decide +kernel
theorem dL_law_179 : decode cL_law 179 = .ok (.istore 7, 2) := by decide +kernel
theorem dL_law_181 : decode cL_law 181 = .ok (.iload 7, 2) := by decide +kernel
theorem dL_law_183 : decode cL_law 183 = .ok (.bipush 6, 2) := by decide +kernel
theorem dL_law_185 : decode cL_law 185 = .ok (.if_icmp .ge 33, 3) := by decide +kernel
theorem dL_law_188 : decode cL_law 188 = .ok (.iload_n 3, 1) := by decide +kernel
theorem dL_law_189 : decode cL_law 189 = .ok (.ifCond .eq 29, 3) := by decide +kernel
theorem dL_law_192 : decode cL_law 192 = .ok (.aload_n 1, 1) := by decide +kernel
theorem dL_law_193 : decode cL_law 193 = .ok (.iconst 1, 1) := by decide +kernel
theorem dL_law_194 : decode cL_law 194 = .ok (.invokestatic 120, 3) := by decide +kernel
theorem dL_law_197 : decode cL_law 197 = .ok (.aload_n 2, 1) := by decide +kernel
theorem dL_law_198 : decode cL_law 198 = .ok (.iconst 1, 1) := by decide +kernel
theorem dL_law_199 : decode cL_law 199 = .ok (.invokestatic 120, 3) := by decide +kernel
theorem dL_law_202 : decode cL_law 202 = .ok (.lcmp, 1) := by decide +kernel
theorem dL_law_203 : decode cL_law 203 = .ok (.ifCond .ne 7, 3) := by decide +kernel
theorem dL_law_206 : decode cL_law 206 = .ok (.iconst 1, 1) := by decide +kernel
theorem dL_law_207 : decode cL_law 207 = .ok (.goto 4, 3) := by decide +kernel
theorem dL_law_210 : decode cL_law 210 = .ok (.iconst 0, 1) := by decide +kernel
theorem dL_law_211 : decode cL_law 211 = .ok (.istore_n 3, 1) := by decide +kernel
theorem dL_law_212 : decode cL_law 212 = .ok (.iinc 7 1, 3) := by decide +kernel
theorem dL_law_215 : decode cL_law 215 = .ok (.goto (-34), 3) := by decide +kernel
theorem dL_law_218 : decode cL_law 218 = .ok (.iload_n 3, 1) := by decide +kernel
theorem dL_law_219 : decode cL_law 219 = .ok (.ifCond .eq 23, 3) := by decide +kernel
theorem dL_law_222 : decode cL_law 222 = .ok (.iload 4, 2) := by decide +kernel
theorem dL_law_224 : decode cL_law 224 = .ok (.bipush 10, 2) := by decide +kernel
theorem dL_law_226 : decode cL_law 226 = .ok (.irem, 1) := by decide +kernel
theorem dL_law_227 : decode cL_law 227 = .ok (.ifCond .gt 11, 3) := by decide +kernel
theorem dL_law_230 : decode cL_law 230 = .ok (.aload_n 1, 1) := by decide +kernel
theorem dL_law_231 : decode cL_law 231 = .ok (.aload_n 2, 1) := by decide +kernel
theorem dL_law_232 : decode cL_law 232 = .ok (.invokestatic 209, 3) := by decide +kernel
theorem dL_law_235 : decode cL_law 235 = .ok (.ifCond .eq 7, 3) := by decide +kernel
theorem dL_law_238 : decode cL_law 238 = .ok (.iconst 1, 1) := by decide +kernel
theorem dL_law_239 : decode cL_law 239 = .ok (.goto 4, 3) := by decide +kernel
theorem dL_law_242 : decode cL_law 242 = .ok (.iconst 0, 1) := by decide +kernel
theorem dL_law_243 : decode cL_law 243 = .ok (.istore_n 3, 1) := by decide +kernel
theorem dL_law_244 : decode cL_law 244 = .ok (.iinc 4 1, 3) := by decide +kernel
theorem dL_law_247 : decode cL_law 247 = .ok (.goto (-200), 3) := by decide +kernel
theorem dL_law_250 : decode cL_law 250 = .ok (.iload_n 3, 1) := by decide +kernel
theorem dL_law_251 : decode cL_law 251 = .ok (.ifCond .eq 15, 3) := by decide +kernel
theorem dL_law_254 : decode cL_law 254 = .ok (.aload_n 1, 1) := by decide +kernel
theorem dL_law_255 : decode cL_law 255 = .ok (.aload_n 2, 1) := by decide +kernel
theorem dL_law_256 : decode cL_law 256 = .ok (.invokestatic 209, 3) := by decide +kernel
theorem dL_law_259 : decode cL_law 259 = .ok (.ifCond .eq 7, 3) := by decide +kernel
theorem dL_law_262 : decode cL_law 262 = .ok (.iconst 1, 1) := by decide +kernel
theorem dL_law_263 : decode cL_law 263 = .ok (.goto 4, 3) := by decide +kernel
theorem dL_law_266 : decode cL_law 266 = .ok (.iconst 0, 1) := by decide +kernel
theorem dL_law_267 : decode cL_law 267 = .ok (.ireturn, 1) := by decide +kernel
