set_option maxRecDepth 20000 in
theorem ggX5_add_X5_requireFame : GoodIn wsX5_add wsX5_requireFame := goodIn_ca (goodIn_r _ [12, 8, 9] (by decide +kernel) (by decide +kernel)) (goodIn_sub (fun _ h => List.mem_cons_of_mem _ (List.mem_append_left _ (List.mem_append_right _ h))) (by decide +kernel))
set_option maxRecDepth 20000 in
theorem gX5_add_X5_requireFame : GoodIn wsX5_add (va_wsS RX5 56 yX5_requireFame wsX5_requireFame) := goodIn_app (goodIn_of _ (by decide +kernel)) ggX5_add_X5_requireFame
set_option maxRecDepth 20000 in
theorem ggX5_add_X5_requirePlacesFor : GoodIn wsX5_add wsX5_requirePlacesFor := goodIn_ca (goodIn_r _ [16, 17, 18, 2, 3, 46, 47, 48, 49, 50, 51, 52, 53, 54, 55, 56, 57, 58] (by decide +kernel) (by decide +kernel)) (goodIn_sub (fun _ h => List.mem_cons_of_mem _ (List.mem_append_right _ h)) (by decide +kernel))
set_option maxRecDepth 20000 in
theorem gX5_add_X5_requirePlacesFor : GoodIn wsX5_add (wsV RX5 60 RX5 yX5_requirePlacesFor wsX5_requirePlacesFor) := goodIn_app (goodIn_of _ (by decide +kernel)) ggX5_add_X5_requirePlacesFor
set_option maxRecDepth 20000 in
theorem ggX5_add_X3_save : GoodIn wsX5_add wsX3_save := goodIn_r _ [23, 24, 25, 26, 27, 28, 29, 30, 31, 32, 33, 34, 35, 36, 37, 38, 39, 40, 41, 59, 60, 61, 53, 54, 55, 56, 57, 58] (by decide +kernel) (by decide +kernel)
set_option maxRecDepth 20000 in
theorem gX5_add_X3_save : GoodIn wsX5_add (wsV RX5 63 RX3 yX3_save wsX3_save) := goodIn_app (goodIn_of _ (by decide +kernel)) ggX5_add_X3_save
set_option maxRecDepth 20000 in
theorem ggX5_add_X1_takeOn : GoodIn wsX5_add wsX1_takeOn := goodIn_r _ [45, 39, 32, 40, 41, 53, 54, 55, 56, 57, 58] (by decide +kernel) (by decide +kernel)
set_option maxRecDepth 20000 in
theorem gX5_add_X1_takeOn : GoodIn wsX5_add (wsV RX5 67 RX1 yX1_takeOn wsX1_takeOn) := goodIn_app (goodIn_of _ (by decide +kernel)) ggX5_add_X1_takeOn
theorem dX5_add_0 : decode cX5_add 0 = .ok (.iload_n 1, 1) := by decide +kernel
theorem dX5_add_1 : decode cX5_add 1 = .ok (.iload_n 2, 1) := by decide +kernel
theorem dX5_add_2 : decode cX5_add 2 = .ok (.invokestatic 52, 3) := by decide +kernel
theorem dX5_add_5 : decode cX5_add 5 = .ok (.iload_n 3, 1) := by decide +kernel
theorem dX5_add_6 : decode cX5_add 6 = .ok (.invokestatic 56, 3) := by decide +kernel
theorem dX5_add_9 : decode cX5_add 9 = .ok (.aload_n 0, 1) := by decide +kernel
theorem dX5_add_10 : decode cX5_add 10 = .ok (.iconst 1, 1) := by decide +kernel
theorem dX5_add_11 : decode cX5_add 11 = .ok (.invokevirtual 60, 3) := by decide +kernel
theorem dX5_add_14 : decode cX5_add 14 = .ok (.aload_n 0, 1) := by decide +kernel
theorem dX5_add_15 : decode cX5_add 15 = .ok (.getfield 19, 3) := by decide +kernel
theorem dX5_add_18 : decode cX5_add 18 = .ok (.aload_n 0, 1) := by decide +kernel
theorem dX5_add_19 : decode cX5_add 19 = .ok (.getfield 10, 3) := by decide +kernel
theorem dX5_add_22 : decode cX5_add 22 = .ok (.invokevirtual 63, 3) := by decide +kernel
theorem dX5_add_25 : decode cX5_add 25 = .ok (.aload_n 0, 1) := by decide +kernel
theorem dX5_add_26 : decode cX5_add 26 = .ok (.getfield 10, 3) := by decide +kernel
theorem dX5_add_29 : decode cX5_add 29 = .ok (.iload_n 1, 1) := by decide +kernel
theorem dX5_add_30 : decode cX5_add 30 = .ok (.iload_n 2, 1) := by decide +kernel
theorem dX5_add_31 : decode cX5_add 31 = .ok (.iload_n 3, 1) := by decide +kernel
theorem dX5_add_32 : decode cX5_add 32 = .ok (.invokevirtual 67, 3) := by decide +kernel
theorem dX5_add_35 : decode cX5_add 35 = .ok (.aload_n 0, 1) := by decide +kernel
theorem dX5_add_36 : decode cX5_add 36 = .ok (.getfield 10, 3) := by decide +kernel
theorem dX5_add_39 : decode cX5_add 39 = .ok (.getfield 71, 3) := by decide +kernel
theorem dX5_add_42 : decode cX5_add 42 = .ok (.iconst 1, 1) := by decide +kernel
theorem dX5_add_43 : decode cX5_add 43 = .ok (.isub, 1) := by decide +kernel
theorem dX5_add_44 : decode cX5_add 44 = .ok (.ireturn, 1) := by decide +kernel
set_option maxRecDepth 20000 in
theorem ggX5_strike_X5_requireRehearsal : GoodIn wsX5_strike wsX5_requireRehearsal := goodIn_ca (goodIn_r _ [8, 9, 10, 1, 11, 41, 42, 43, 44, 45, 46, 47, 48, 49, 50, 51, 52, 53] (by decide +kernel) (by decide +kernel)) (goodIn_sub (fun _ h => List.mem_cons_of_mem _ (List.mem_append_right _ h)) (by decide +kernel))
set_option maxRecDepth 20000 in
theorem gX5_strike_X5_requireRehearsal : GoodIn wsX5_strike (wsV RX5 75 RX5 yX5_requireRehearsal wsX5_requireRehearsal) := goodIn_app (goodIn_of _ (by decide +kernel)) ggX5_strike_X5_requireRehearsal
set_option maxRecDepth 20000 in
theorem ggX5_strike_X3_save : GoodIn wsX5_strike wsX3_save := goodIn_r _ [16, 17, 18, 19, 20, 21, 22, 23, 24, 25, 26, 27, 28, 29, 30, 31, 32, 33, 34, 54, 55, 56, 48, 49, 50, 51, 52, 53] (by decide +kernel) (by decide +kernel)
set_option maxRecDepth 20000 in
theorem gX5_strike_X3_save : GoodIn wsX5_strike (wsV RX5 63 RX3 yX3_save wsX3_save) := goodIn_app (goodIn_of _ (by decide +kernel)) ggX5_strike_X3_save
set_option maxRecDepth 20000 in
theorem ggX5_strike_X1_takeOut : GoodIn wsX5_strike wsX1_takeOut := goodIn_r _ [38, 25, 27, 28, 29, 30, 23, 31, 32, 33, 34, 39, 7, 40, 48, 49, 50, 51, 52, 53] (by decide +kernel) (by decide +kernel)
set_option maxRecDepth 20000 in
theorem gX5_strike_X1_takeOut : GoodIn wsX5_strike (wsV RX5 82 RX1 yX1_takeOut wsX1_takeOut) := goodIn_app (goodIn_of _ (by decide +kernel)) ggX5_strike_X1_takeOut
theorem dX5_strike_0 : decode cX5_strike 0 = .ok (.aload_n 0, 1) := by decide +kernel
theorem dX5_strike_1 : decode cX5_strike 1 = .ok (.iload_n 1, 1) := by decide +kernel
theorem dX5_strike_2 : decode cX5_strike 2 = .ok (.invokevirtual 75, 3) := by decide +kernel
theorem dX5_strike_5 : decode cX5_strike 5 = .ok (.aload_n 0, 1) := by decide +kernel
theorem dX5_strike_6 : decode cX5_strike 6 = .ok (.getfield 10, 3) := by decide +kernel
theorem dX5_strike_9 : decode cX5_strike 9 = .ok (.getfield 78, 3) := by decide +kernel
theorem dX5_strike_12 : decode cX5_strike 12 = .ok (.iload_n 1, 1) := by decide +kernel
theorem dX5_strike_13 : decode cX5_strike 13 = .ok (.iaload, 1) := by decide +kernel
theorem dX5_strike_14 : decode cX5_strike 14 = .ok (.istore_n 2, 1) := by decide +kernel
theorem dX5_strike_15 : decode cX5_strike 15 = .ok (.aload_n 0, 1) := by decide +kernel
theorem dX5_strike_16 : decode cX5_strike 16 = .ok (.getfield 19, 3) := by decide +kernel
theorem dX5_strike_19 : decode cX5_strike 19 = .ok (.aload_n 0, 1) := by decide +kernel
theorem dX5_strike_20 : decode cX5_strike 20 = .ok (.getfield 10, 3) := by decide +kernel
theorem dX5_strike_23 : decode cX5_strike 23 = .ok (.invokevirtual 63, 3) := by decide +kernel
theorem dX5_strike_26 : decode cX5_strike 26 = .ok (.aload_n 0, 1) := by decide +kernel
theorem dX5_strike_27 : decode cX5_strike 27 = .ok (.getfield 10, 3) := by decide +kernel
theorem dX5_strike_30 : decode cX5_strike 30 = .ok (.iload_n 1, 1) := by decide +kernel
theorem dX5_strike_31 : decode cX5_strike 31 = .ok (.invokevirtual 82, 3) := by decide +kernel
theorem dX5_strike_34 : decode cX5_strike 34 = .ok (.iload_n 2, 1) := by decide +kernel
theorem dX5_strike_35 : decode cX5_strike 35 = .ok (.ireturn, 1) := by decide +kernel
set_option maxRecDepth 20000 in
theorem ggX5_move_X5_requireRehearsal : GoodIn wsX5_move wsX5_requireRehearsal := goodIn_ca (goodIn_r _ [11, 12, 13, 3, 14, 65, 66, 67, 68, 69, 70, 71, 72, 73, 74, 75, 76, 77] (by decide +kernel) (by decide +kernel)) (goodIn_sub (fun _ h => List.mem_cons_of_mem _ (List.mem_append_left _ (List.mem_append_right _ h))) (by decide +kernel))
set_option maxRecDepth 20000 in
theorem gX5_move_X5_requireRehearsal : GoodIn wsX5_move (wsV RX5 75 RX5 yX5_requireRehearsal wsX5_requireRehearsal) := goodIn_app (goodIn_of _ (by decide +kernel)) ggX5_move_X5_requireRehearsal
set_option maxRecDepth 20000 in
theorem ggX5_move_X5_requireTimes : GoodIn wsX5_move wsX5_requireTimes := goodIn_ca (goodIn_r _ [17, 18, 19] (by decide +kernel) (by decide +kernel)) (goodIn_sub (fun _ h => List.mem_cons_of_mem _ (List.mem_append_right _ h)) (by decide +kernel))
set_option maxRecDepth 20000 in
theorem gX5_move_X5_requireTimes : GoodIn wsX5_move (va_wsS RX5 52 yX5_requireTimes wsX5_requireTimes) := goodIn_app (goodIn_of _ (by decide +kernel)) ggX5_move_X5_requireTimes
set_option maxRecDepth 20000 in
theorem ggX5_move_X1_hasBooked : GoodIn wsX5_move wsX1_hasBooked := goodIn_r _ [24, 25, 26, 10, 27, 28, 29, 30, 72, 73, 74, 75, 76, 77] (by decide +kernel) (by decide +kernel)
set_option maxRecDepth 20000 in
theorem gX5_move_X1_hasBooked : GoodIn wsX5_move (wsV RX5 85 RX1 yX1_hasBooked wsX1_hasBooked) := goodIn_app (goodIn_of _ (by decide +kernel)) ggX5_move_X1_hasBooked
set_option maxRecDepth 20000 in
theorem ggX5_move_X1_bookingsAllow : GoodIn wsX5_move wsX1_bookingsAllow := goodIn_r _ [34, 35, 36, 37, 21, 22, 23, 24, 25, 26, 10, 27, 28, 29, 30, 38, 39, 40, 41, 42, 43, 72, 73, 74, 75, 76, 77] (by decide +kernel) (by decide +kernel)
set_option maxRecDepth 20000 in
theorem gX5_move_X1_bookingsAllow : GoodIn wsX5_move (wsV RX5 89 RX1 yX1_bookingsAllow wsX1_bookingsAllow) := goodIn_app (goodIn_of _ (by decide +kernel)) ggX5_move_X1_bookingsAllow
set_option maxRecDepth 20000 in
theorem ggX5_move_X1_quartersOf : GoodIn wsX5_move wsX1_quartersOf := goodIn_r _ [47, 42, 43, 72, 73, 74, 75, 76, 77] (by decide +kernel) (by decide +kernel)
set_option maxRecDepth 20000 in
theorem gX5_move_X1_quartersOf : GoodIn wsX5_move (wsV RX5 100 RX1 yX1_quartersOf wsX1_quartersOf) := goodIn_app (goodIn_of _ (by decide +kernel)) ggX5_move_X1_quartersOf
set_option maxRecDepth 20000 in
theorem ggX5_move_X3_save : GoodIn wsX5_move wsX3_save := goodIn_r _ [52, 53, 54, 55, 56, 57, 58, 23, 59, 35, 36, 25, 60, 61, 62, 63, 43, 42, 64, 78, 79, 80, 72, 73, 74, 75, 76, 77] (by decide +kernel) (by decide +kernel)
set_option maxRecDepth 20000 in
theorem gX5_move_X3_save : GoodIn wsX5_move (wsV RX5 63 RX3 yX3_save wsX3_save) := goodIn_app (goodIn_of _ (by decide +kernel)) ggX5_move_X3_save
theorem dX5_move_0 : decode cX5_move 0 = .ok (.aload_n 0, 1) := by decide +kernel
theorem dX5_move_1 : decode cX5_move 1 = .ok (.iload_n 1, 1) := by decide +kernel
theorem dX5_move_2 : decode cX5_move 2 = .ok (.invokevirtual 75, 3) := by decide +kernel
theorem dX5_move_5 : decode cX5_move 5 = .ok (.iload_n 2, 1) := by decide +kernel
theorem dX5_move_6 : decode cX5_move 6 = .ok (.iload_n 3, 1) := by decide +kernel
theorem dX5_move_7 : decode cX5_move 7 = .ok (.invokestatic 52, 3) := by decide +kernel
theorem dX5_move_10 : decode cX5_move 10 = .ok (.aload_n 0, 1) := by decide +kernel
theorem dX5_move_11 : decode cX5_move 11 = .ok (.getfield 10, 3) := by decide +kernel
theorem dX5_move_14 : decode cX5_move 14 = .ok (.iload_n 1, 1) := by decide +kernel
theorem dX5_move_15 : decode cX5_move 15 = .ok (.invokevirtual 85, 3) := by decide +kernel
theorem dX5_move_18 : decode cX5_move 18 = .ok (.ifCond .eq 26, 3) := by decide +kernel
theorem dX5_move_21 : decode cX5_move 21 = .ok (.aload_n 0, 1) := by decide +kernel
theorem dX5_move_22 : decode cX5_move 22 = .ok (.getfield 10, 3) := by decide +kernel
theorem dX5_move_25 : decode cX5_move 25 = .ok (.iload_n 1, 1) := by decide +kernel
theorem dX5_move_26 : decode cX5_move 26 = .ok (.iload_n 2, 1) := by decide +kernel
theorem dX5_move_27 : decode cX5_move 27 = .ok (.iload_n 3, 1) := by decide +kernel
theorem dX5_move_28 : decode cX5_move 28 = .ok (.invokevirtual 89, 3) := by decide +kernel
theorem dX5_move_31 : decode cX5_move 31 = .ok (.ifCond .ne 13, 3) := by decide +kernel
theorem dX5_move_34 : decode cX5_move 34 = .ok (.new 93, 3) := by decide +kernel
theorem dX5_move_37 : decode cX5_move 37 = .ok (.dup, 1) := by decide +kernel
theorem dX5_move_38 : decode cX5_move 38 = .ok (.ldc 95, 2) := by decide +kernel
theorem dX5_move_40 : decode cX5_move 40 = .ok (.invokespecial 97, 3) := by decide +kernel
theorem dX5_move_43 : decode cX5_move 43 = .ok (.athrow, 1) := by decide +kernel
theorem dX5_move_44 : decode cX5_move 44 = .ok (.aload_n 0, 1) := by decide +kernel
theorem dX5_move_45 : decode cX5_move 45 = .ok (.getfield 10, 3) := by decide +kernel
theorem dX5_move_48 : decode cX5_move 48 = .ok (.iload_n 1, 1) := by decide +kernel
theorem dX5_move_49 : decode cX5_move 49 = .ok (.invokevirtual 100, 3) := by decide +kernel
theorem dX5_move_52 : decode cX5_move 52 = .ok (.istore 4, 2) := by decide +kernel
theorem dX5_move_54 : decode cX5_move 54 = .ok (.aload_n 0, 1) := by decide +kernel
theorem dX5_move_55 : decode cX5_move 55 = .ok (.getfield 19, 3) := by decide +kernel
theorem dX5_move_58 : decode cX5_move 58 = .ok (.aload_n 0, 1) := by decide +kernel
theorem dX5_move_59 : decode cX5_move 59 = .ok (.getfield 10, 3) := by decide +kernel
theorem dX5_move_62 : decode cX5_move 62 = .ok (.invokevirtual 63, 3) := by decide +kernel
theorem dX5_move_65 : decode cX5_move 65 = .ok (.aload_n 0, 1) := by decide +kernel
theorem dX5_move_66 : decode cX5_move 66 = .ok (.getfield 10, 3) := by decide +kernel
theorem dX5_move_69 : decode cX5_move 69 = .ok (.getfield 104, 3) := by decide +kernel
theorem dX5_move_72 : decode cX5_move 72 = .ok (.iload_n 1, 1) := by decide +kernel
theorem dX5_move_73 : decode cX5_move 73 = .ok (.iload_n 2, 1) := by decide +kernel
theorem dX5_move_74 : decode cX5_move 74 = .ok (.iastore, 1) := by decide +kernel
theorem dX5_move_75 : decode cX5_move 75 = .ok (.aload_n 0, 1) := by decide +kernel
theorem dX5_move_76 : decode cX5_move 76 = .ok (.getfield 10, 3) := by decide +kernel
theorem dX5_move_79 : decode cX5_move 79 = .ok (.getfield 107, 3) := by decide +kernel
theorem dX5_move_82 : decode cX5_move 82 = .ok (.iload_n 1, 1) := by decide +kernel
theorem dX5_move_83 : decode cX5_move 83 = .ok (.iload_n 3, 1) := by decide +kernel
theorem dX5_move_84 : decode cX5_move 84 = .ok (.iastore, 1) := by decide +kernel
theorem dX5_move_85 : decode cX5_move 85 = .ok (.aload_n 0, 1) := by decide +kernel
theorem dX5_move_86 : decode cX5_move 86 = .ok (.getfield 10, 3) := by decide +kernel
theorem dX5_move_89 : decode cX5_move 89 = .ok (.iload_n 1, 1) := by decide +kernel
theorem dX5_move_90 : decode cX5_move 90 = .ok (.invokevirtual 100, 3) := by decide +kernel
theorem dX5_move_93 : decode cX5_move 93 = .ok (.iload 4, 2) := by decide +kernel
theorem dX5_move_95 : decode cX5_move 95 = .ok (.isub, 1) := by decide +kernel
theorem dX5_move_96 : decode cX5_move 96 = .ok (.ireturn, 1) := by decide +kernel
set_option maxRecDepth 20000 in
theorem ggX5_changeFame_X5_requireRehearsal : GoodIn wsX5_changeFame wsX5_requireRehearsal := goodIn_ca (goodIn_r _ [8, 9, 10, 1, 11, 40, 41, 42, 43, 44, 45, 46, 47, 48, 49, 50, 51, 52] (by decide +kernel) (by decide +kernel)) (goodIn_sub (fun _ h => List.mem_cons_of_mem _ (List.mem_append_left _ (List.mem_append_right _ h))) (by decide +kernel))
set_option maxRecDepth 20000 in
theorem gX5_changeFame_X5_requireRehearsal : GoodIn wsX5_changeFame (wsV RX5 75 RX5 yX5_requireRehearsal wsX5_requireRehearsal) := goodIn_app (goodIn_of _ (by decide +kernel)) ggX5_changeFame_X5_requireRehearsal
set_option maxRecDepth 20000 in
theorem ggX5_changeFame_X5_requireFame : GoodIn wsX5_changeFame wsX5_requireFame := goodIn_ca (goodIn_r _ [14, 15, 16] (by decide +kernel) (by decide +kernel)) (goodIn_sub (fun _ h => List.mem_cons_of_mem _ (List.mem_append_right _ h)) (by decide +kernel))
set_option maxRecDepth 20000 in
theorem gX5_changeFame_X5_requireFame : GoodIn wsX5_changeFame (va_wsS RX5 56 yX5_requireFame wsX5_requireFame) := goodIn_app (goodIn_of _ (by decide +kernel)) ggX5_changeFame_X5_requireFame
set_option maxRecDepth 20000 in
theorem ggX5_changeFame_X3_save : GoodIn wsX5_changeFame wsX3_save := goodIn_r _ [21, 22, 23, 24, 25, 26, 27, 28, 29, 30, 31, 32, 33, 34, 35, 36, 37, 38, 39, 53, 54, 55, 47, 48, 49, 50, 51, 52] (by decide +kernel) (by decide +kernel)
set_option maxRecDepth 20000 in
theorem gX5_changeFame_X3_save : GoodIn wsX5_changeFame (wsV RX5 63 RX3 yX3_save wsX3_save) := goodIn_app (goodIn_of _ (by decide +kernel)) ggX5_changeFame_X3_save
theorem dX5_changeFame_0 : decode cX5_changeFame 0 = .ok (.aload_n 0, 1) := by decide +kernel
theorem dX5_changeFame_1 : decode cX5_changeFame 1 = .ok (.iload_n 1, 1) := by decide +kernel
theorem dX5_changeFame_2 : decode cX5_changeFame 2 = .ok (.invokevirtual 75, 3) := by decide +kernel
theorem dX5_changeFame_5 : decode cX5_changeFame 5 = .ok (.iload_n 2, 1) := by decide +kernel
theorem dX5_changeFame_6 : decode cX5_changeFame 6 = .ok (.invokestatic 56, 3) := by decide +kernel
theorem dX5_changeFame_9 : decode cX5_changeFame 9 = .ok (.aload_n 0, 1) := by decide +kernel
theorem dX5_changeFame_10 : decode cX5_changeFame 10 = .ok (.getfield 10, 3) := by decide +kernel
theorem dX5_changeFame_13 : decode cX5_changeFame 13 = .ok (.getfield 78, 3) := by decide +kernel
theorem dX5_changeFame_16 : decode cX5_changeFame 16 = .ok (.iload_n 1, 1) := by decide +kernel
theorem dX5_changeFame_17 : decode cX5_changeFame 17 = .ok (.iaload, 1) := by decide +kernel
theorem dX5_changeFame_18 : decode cX5_changeFame 18 = .ok (.istore_n 3, 1) := by decide +kernel
theorem dX5_changeFame_19 : decode cX5_changeFame 19 = .ok (.aload_n 0, 1) := by decide +kernel
theorem dX5_changeFame_20 : decode cX5_changeFame 20 = .ok (.getfield 19, 3) := by decide +kernel
theorem dX5_changeFame_23 : decode cX5_changeFame 23 = .ok (.aload_n 0, 1) := by decide +kernel
theorem dX5_changeFame_24 : decode cX5_changeFame 24 = .ok (.getfield 10, 3) := by decide +kernel
theorem dX5_changeFame_27 : decode cX5_changeFame 27 = .ok (.invokevirtual 63, 3) := by decide +kernel
theorem dX5_changeFame_30 : decode cX5_changeFame 30 = .ok (.aload_n 0, 1) := by decide +kernel
theorem dX5_changeFame_31 : decode cX5_changeFame 31 = .ok (.getfield 10, 3) := by decide +kernel
theorem dX5_changeFame_34 : decode cX5_changeFame 34 = .ok (.getfield 78, 3) := by decide +kernel
theorem dX5_changeFame_37 : decode cX5_changeFame 37 = .ok (.iload_n 1, 1) := by decide +kernel
theorem dX5_changeFame_38 : decode cX5_changeFame 38 = .ok (.iload_n 2, 1) := by decide +kernel
theorem dX5_changeFame_39 : decode cX5_changeFame 39 = .ok (.iastore, 1) := by decide +kernel
theorem dX5_changeFame_40 : decode cX5_changeFame 40 = .ok (.iload_n 3, 1) := by decide +kernel
theorem dX5_changeFame_41 : decode cX5_changeFame 41 = .ok (.ireturn, 1) := by decide +kernel
set_option maxRecDepth 20000 in
theorem ggX5_changePause_X1_bookingsAllowPause : GoodIn wsX5_changePause wsX1_bookingsAllowPause := goodIn_r _ [12, 13, 14, 15, 16, 17, 18, 11, 19, 20, 21, 22, 23, 24, 25, 26, 27, 28, 29, 30, 56, 57, 58, 59, 60, 61] (by decide +kernel) (by decide +kernel)
set_option maxRecDepth 20000 in
theorem gX5_changePause_X1_bookingsAllowPause : GoodIn wsX5_changePause (wsV RX5 115 RX1 yX1_bookingsAllowPause wsX1_bookingsAllowPause) := goodIn_app (goodIn_of _ (by decide +kernel)) ggX5_changePause_X1_bookingsAllowPause
set_option maxRecDepth 20000 in
theorem ggX5_changePause_X3_save : GoodIn wsX5_changePause wsX3_save := goodIn_r _ [35, 36, 37, 38, 39, 40, 41, 11, 42, 13, 43, 20, 44, 45, 46, 47, 14, 15, 48, 62, 63, 64, 56, 57, 58, 59, 60, 61] (by decide +kernel) (by decide +kernel)
set_option maxRecDepth 20000 in
theorem gX5_changePause_X3_save : GoodIn wsX5_changePause (wsV RX5 63 RX3 yX3_save wsX3_save) := goodIn_app (goodIn_of _ (by decide +kernel)) ggX5_changePause_X3_save
theorem dX5_changePause_0 : decode cX5_changePause 0 = .ok (.iload_n 1, 1) := by decide +kernel
theorem dX5_changePause_1 : decode cX5_changePause 1 = .ok (.ifCond .lt 9, 3) := by decide +kernel
theorem dX5_changePause_4 : decode cX5_changePause 4 = .ok (.iload_n 1, 1) := by decide +kernel
theorem dX5_changePause_5 : decode cX5_changePause 5 = .ok (.bipush 8, 2) := by decide +kernel
theorem dX5_changePause_7 : decode cX5_changePause 7 = .ok (.if_icmp .le 13, 3) := by decide +kernel
theorem dX5_changePause_10 : decode cX5_changePause 10 = .ok (.new 110, 3) := by decide +kernel
theorem dX5_changePause_13 : decode cX5_changePause 13 = .ok (.dup, 1) := by decide +kernel
theorem dX5_changePause_14 : decode cX5_changePause 14 = .ok (.ldc 112, 2) := by decide +kernel
theorem dX5_changePause_16 : decode cX5_changePause 16 = .ok (.invokespecial 114, 3) := by decide +kernel
theorem dX5_changePause_19 : decode cX5_changePause 19 = .ok (.athrow, 1) := by decide +kernel
theorem dX5_changePause_20 : decode cX5_changePause 20 = .ok (.aload_n 0, 1) := by decide +kernel
theorem dX5_changePause_21 : decode cX5_changePause 21 = .ok (.getfield 10, 3) := by decide +kernel
theorem dX5_changePause_24 : decode cX5_changePause 24 = .ok (.iload_n 1, 1) := by decide +kernel
theorem dX5_changePause_25 : decode cX5_changePause 25 = .ok (.invokevirtual 115, 3) := by decide +kernel
theorem dX5_changePause_28 : decode cX5_changePause 28 = .ok (.ifCond .ne 13, 3) := by decide +kernel
theorem dX5_changePause_31 : decode cX5_changePause 31 = .ok (.new 93, 3) := by decide +kernel
theorem dX5_changePause_34 : decode cX5_changePause 34 = .ok (.dup, 1) := by decide +kernel
theorem dX5_changePause_35 : decode cX5_changePause 35 = .ok (.ldc 118, 2) := by decide +kernel
theorem dX5_changePause_37 : decode cX5_changePause 37 = .ok (.invokespecial 97, 3) := by decide +kernel
theorem dX5_changePause_40 : decode cX5_changePause 40 = .ok (.athrow, 1) := by decide +kernel
theorem dX5_changePause_41 : decode cX5_changePause 41 = .ok (.aload_n 0, 1) := by decide +kernel
theorem dX5_changePause_42 : decode cX5_changePause 42 = .ok (.getfield 10, 3) := by decide +kernel
theorem dX5_changePause_45 : decode cX5_changePause 45 = .ok (.getfield 120, 3) := by decide +kernel
theorem dX5_changePause_48 : decode cX5_changePause 48 = .ok (.istore_n 2, 1) := by decide +kernel
theorem dX5_changePause_49 : decode cX5_changePause 49 = .ok (.aload_n 0, 1) := by decide +kernel
theorem dX5_changePause_50 : decode cX5_changePause 50 = .ok (.getfield 19, 3) := by decide +kernel
theorem dX5_changePause_53 : decode cX5_changePause 53 = .ok (.aload_n 0, 1) := by decide +kernel
theorem dX5_changePause_54 : decode cX5_changePause 54 = .ok (.getfield 10, 3) := by decide +kernel
theorem dX5_changePause_57 : decode cX5_changePause 57 = .ok (.invokevirtual 63, 3) := by decide +kernel
theorem dX5_changePause_60 : decode cX5_changePause 60 = .ok (.aload_n 0, 1) := by decide +kernel
theorem dX5_changePause_61 : decode cX5_changePause 61 = .ok (.getfield 10, 3) := by decide +kernel
theorem dX5_changePause_64 : decode cX5_changePause 64 = .ok (.iload_n 1, 1) := by decide +kernel
theorem dX5_changePause_65 : decode cX5_changePause 65 = .ok (.putfield 120, 3) := by decide +kernel
theorem dX5_changePause_68 : decode cX5_changePause 68 = .ok (.iload_n 2, 1) := by decide +kernel
theorem dX5_changePause_69 : decode cX5_changePause 69 = .ok (.ireturn, 1) := by decide +kernel
set_option maxRecDepth 20000 in
theorem ggX5_book_X5_requireRehearsal : GoodIn wsX5_book wsX5_requireRehearsal := goodIn_ca (goodIn_r _ [10, 11, 12, 3, 13, 62, 63, 64, 65, 66, 67, 68, 69, 70, 71, 72, 73, 74] (by decide +kernel) (by decide +kernel)) (goodIn_sub (fun _ h => List.mem_cons_of_mem _ (List.mem_append_right _ h)) (by decide +kernel))
set_option maxRecDepth 20000 in
theorem gX5_book_X5_requireRehearsal : GoodIn wsX5_book (wsV RX5 75 RX5 yX5_requireRehearsal wsX5_requireRehearsal) := goodIn_app (goodIn_of _ (by decide +kernel)) ggX5_book_X5_requireRehearsal
set_option maxRecDepth 20000 in
theorem ggX5_book_X1_hasBooked : GoodIn wsX5_book wsX1_hasBooked := goodIn_r _ [18, 19, 20, 9, 21, 22, 23, 24, 69, 70, 71, 72, 73, 74] (by decide +kernel) (by decide +kernel)
set_option maxRecDepth 20000 in
theorem gX5_book_X1_hasBooked : GoodIn wsX5_book (wsV RX5 85 RX1 yX1_hasBooked wsX1_hasBooked) := goodIn_app (goodIn_of _ (by decide +kernel)) ggX5_book_X1_hasBooked
set_option maxRecDepth 20000 in
theorem ggX5_book_X1_conflictsWith : GoodIn wsX5_book wsX1_conflictsWith := goodIn_r _ [28, 29, 30, 31, 32, 17, 33, 34, 35, 36, 37, 38, 39, 40, 23, 9, 24, 69, 70, 71, 72, 73, 74] (by decide +kernel) (by decide +kernel)
set_option maxRecDepth 20000 in
theorem gX5_book_X1_conflictsWith : GoodIn wsX5_book (wsV RX5 125 RX1 yX1_conflictsWith wsX1_conflictsWith) := goodIn_app (goodIn_of _ (by decide +kernel)) ggX5_book_X1_conflictsWith
set_option maxRecDepth 20000 in
theorem ggX5_book_X3_save : GoodIn wsX5_book wsX3_save := goodIn_r _ [45, 46, 47, 48, 49, 50, 51, 17, 52, 29, 36, 19, 53, 54, 55, 56, 34, 35, 57, 75, 76, 77, 69, 70, 71, 72, 73, 74] (by decide +kernel) (by decide +kernel)
set_option maxRecDepth 20000 in
theorem gX5_book_X3_save : GoodIn wsX5_book (wsV RX5 63 RX3 yX3_save wsX3_save) := goodIn_app (goodIn_of _ (by decide +kernel)) ggX5_book_X3_save
set_option maxRecDepth 20000 in
theorem ggX5_book_X5_bit : GoodIn wsX5_book wsX5_bit := goodIn_r _ [24] (by decide +kernel) (by decide +kernel)
set_option maxRecDepth 20000 in
theorem gX5_book_X5_bit : GoodIn wsX5_book (va_wsS RX5 131 yX5_bit wsX5_bit) := goodIn_app (goodIn_of _ (by decide +kernel)) ggX5_book_X5_bit
set_option maxRecDepth 20000 in
theorem ggX5_book_X1_fameOfSet : GoodIn wsX5_book wsX1_fameOfSet := goodIn_r _ [61, 29, 57, 20, 9, 21, 22, 23, 24, 69, 70, 71, 72, 73, 74] (by decide +kernel) (by decide +kernel)
set_option maxRecDepth 20000 in
theorem gX5_book_X1_fameOfSet : GoodIn wsX5_book (wsV RX5 134 RX1 yX1_fameOfSet wsX1_fameOfSet) := goodIn_app (goodIn_of _ (by decide +kernel)) ggX5_book_X1_fameOfSet
theorem dX5_book_0 : decode cX5_book 0 = .ok (.aload_n 0, 1) := by decide +kernel
theorem dX5_book_1 : decode cX5_book 1 = .ok (.iload_n 1, 1) := by decide +kernel
theorem dX5_book_2 : decode cX5_book 2 = .ok (.invokevirtual 75, 3) := by decide +kernel
theorem dX5_book_5 : decode cX5_book 5 = .ok (.aload_n 0, 1) := by decide +kernel
theorem dX5_book_6 : decode cX5_book 6 = .ok (.getfield 10, 3) := by decide +kernel
theorem dX5_book_9 : decode cX5_book 9 = .ok (.iload_n 1, 1) := by decide +kernel
theorem dX5_book_10 : decode cX5_book 10 = .ok (.invokevirtual 85, 3) := by decide +kernel
theorem dX5_book_13 : decode cX5_book 13 = .ok (.ifCond .eq 13, 3) := by decide +kernel
theorem dX5_book_16 : decode cX5_book 16 = .ok (.new 93, 3) := by decide +kernel
theorem dX5_book_19 : decode cX5_book 19 = .ok (.dup, 1) := by decide +kernel
theorem dX5_book_20 : decode cX5_book 20 = .ok (.ldc 123, 2) := by decide +kernel
theorem dX5_book_22 : decode cX5_book 22 = .ok (.invokespecial 97, 3) := by decide +kernel
theorem dX5_book_25 : decode cX5_book 25 = .ok (.athrow, 1) := by decide +kernel
theorem dX5_book_26 : decode cX5_book 26 = .ok (.aload_n 0, 1) := by decide +kernel
theorem dX5_book_27 : decode cX5_book 27 = .ok (.getfield 10, 3) := by decide +kernel
theorem dX5_book_30 : decode cX5_book 30 = .ok (.iload_n 1, 1) := by decide +kernel
theorem dX5_book_31 : decode cX5_book 31 = .ok (.invokevirtual 125, 3) := by decide +kernel
theorem dX5_book_34 : decode cX5_book 34 = .ok (.aload_n 0, 1) := by decide +kernel
theorem dX5_book_35 : decode cX5_book 35 = .ok (.getfield 10, 3) := by decide +kernel
theorem dX5_book_38 : decode cX5_book 38 = .ok (.getfield 128, 3) := by decide +kernel
theorem dX5_book_41 : decode cX5_book 41 = .ok (.iand, 1) := by decide +kernel
theorem dX5_book_42 : decode cX5_book 42 = .ok (.ifCond .eq 13, 3) := by decide +kernel
theorem dX5_book_45 : decode cX5_book 45 = .ok (.new 93, 3) := by decide +kernel
theorem dX5_book_48 : decode cX5_book 48 = .ok (.dup, 1) := by decide +kernel
theorem dX5_book_49 : decode cX5_book 49 = .ok (.ldc 95, 2) := by decide +kernel
theorem dX5_book_51 : decode cX5_book 51 = .ok (.invokespecial 97, 3) := by decide +kernel
theorem dX5_book_54 : decode cX5_book 54 = .ok (.athrow, 1) := by decide +kernel
theorem dX5_book_55 : decode cX5_book 55 = .ok (.aload_n 0, 1) := by decide +kernel
theorem dX5_book_56 : decode cX5_book 56 = .ok (.getfield 19, 3) := by decide +kernel
theorem dX5_book_59 : decode cX5_book 59 = .ok (.aload_n 0, 1) := by decide +kernel
theorem dX5_book_60 : decode cX5_book 60 = .ok (.getfield 10, 3) := by decide +kernel
theorem dX5_book_63 : decode cX5_book 63 = .ok (.invokevirtual 63, 3) := by decide +kernel
theorem dX5_book_66 : decode cX5_book 66 = .ok (.aload_n 0, 1) := by decide +kernel
theorem dX5_book_67 : decode cX5_book 67 = .ok (.getfield 10, 3) := by decide +kernel
theorem dX5_book_70 : decode cX5_book 70 = .ok (.dup, 1) := by decide +kernel
theorem dX5_book_71 : decode cX5_book 71 = .ok (.getfield 128, 3) := by decide +kernel
theorem dX5_book_74 : decode cX5_book 74 = .ok (.iload_n 1, 1) := by decide +kernel
theorem dX5_book_75 : decode cX5_book 75 = .ok (.invokestatic 131, 3) := by decide +kernel
theorem dX5_book_78 : decode cX5_book 78 = .ok (.ior, 1) := by decide +kernel
theorem dX5_book_79 : decode cX5_book 79 = .ok (.putfield 128, 3) := by decide +kernel
theorem dX5_book_82 : decode cX5_book 82 = .ok (.aload_n 0, 1) := by decide +kernel
theorem dX5_book_83 : decode cX5_book 83 = .ok (.getfield 10, 3) := by decide +kernel
theorem dX5_book_86 : decode cX5_book 86 = .ok (.aload_n 0, 1) := by decide +kernel
theorem dX5_book_87 : decode cX5_book 87 = .ok (.getfield 10, 3) := by decide +kernel
theorem dX5_book_90 : decode cX5_book 90 = .ok (.getfield 128, 3) := by decide +kernel
theorem dX5_book_93 : decode cX5_book 93 = .ok (.invokevirtual 134, 3) := by decide +kernel
theorem dX5_book_96 : decode cX5_book 96 = .ok (.ireturn, 1) := by decide +kernel
set_option maxRecDepth 20000 in
theorem ggX5_cancel_X5_requireRehearsal : GoodIn wsX5_cancel wsX5_requireRehearsal := goodIn_ca (goodIn_r _ [10, 11, 12, 3, 13, 50, 51, 52, 53, 54, 55, 56, 57, 58, 59, 60, 61, 62] (by decide +kernel) (by decide +kernel)) (goodIn_sub (fun _ h => List.mem_cons_of_mem _ (List.mem_append_right _ h)) (by decide +kernel))
set_option maxRecDepth 20000 in
theorem gX5_cancel_X5_requireRehearsal : GoodIn wsX5_cancel (wsV RX5 75 RX5 yX5_requireRehearsal wsX5_requireRehearsal) := goodIn_app (goodIn_of _ (by decide +kernel)) ggX5_cancel_X5_requireRehearsal
set_option maxRecDepth 20000 in
theorem ggX5_cancel_X1_hasBooked : GoodIn wsX5_cancel wsX1_hasBooked := goodIn_r _ [18, 19, 20, 9, 21, 22, 23, 24, 57, 58, 59, 60, 61, 62] (by decide +kernel) (by decide +kernel)
set_option maxRecDepth 20000 in
theorem gX5_cancel_X1_hasBooked : GoodIn wsX5_cancel (wsV RX5 85 RX1 yX1_hasBooked wsX1_hasBooked) := goodIn_app (goodIn_of _ (by decide +kernel)) ggX5_cancel_X1_hasBooked
set_option maxRecDepth 20000 in
theorem ggX5_cancel_X3_save : GoodIn wsX5_cancel wsX3_save := goodIn_r _ [29, 30, 31, 32, 33, 34, 35, 17, 36, 37, 38, 19, 39, 40, 41, 42, 43, 44, 45, 63, 64, 65, 57, 58, 59, 60, 61, 62] (by decide +kernel) (by decide +kernel)
set_option maxRecDepth 20000 in
theorem gX5_cancel_X3_save : GoodIn wsX5_cancel (wsV RX5 63 RX3 yX3_save wsX3_save) := goodIn_app (goodIn_of _ (by decide +kernel)) ggX5_cancel_X3_save
set_option maxRecDepth 20000 in
theorem ggX5_cancel_X5_bit : GoodIn wsX5_cancel wsX5_bit := goodIn_r _ [24] (by decide +kernel) (by decide +kernel)
set_option maxRecDepth 20000 in
theorem gX5_cancel_X5_bit : GoodIn wsX5_cancel (va_wsS RX5 131 yX5_bit wsX5_bit) := goodIn_app (goodIn_of _ (by decide +kernel)) ggX5_cancel_X5_bit
set_option maxRecDepth 20000 in
theorem ggX5_cancel_X1_fameOfSet : GoodIn wsX5_cancel wsX1_fameOfSet := goodIn_r _ [49, 37, 45, 20, 9, 21, 22, 23, 24, 57, 58, 59, 60, 61, 62] (by decide +kernel) (by decide +kernel)
set_option maxRecDepth 20000 in
theorem gX5_cancel_X1_fameOfSet : GoodIn wsX5_cancel (wsV RX5 134 RX1 yX1_fameOfSet wsX1_fameOfSet) := goodIn_app (goodIn_of _ (by decide +kernel)) ggX5_cancel_X1_fameOfSet
theorem dX5_cancel_0 : decode cX5_cancel 0 = .ok (.aload_n 0, 1) := by decide +kernel
theorem dX5_cancel_1 : decode cX5_cancel 1 = .ok (.iload_n 1, 1) := by decide +kernel
theorem dX5_cancel_2 : decode cX5_cancel 2 = .ok (.invokevirtual 75, 3) := by decide +kernel
theorem dX5_cancel_5 : decode cX5_cancel 5 = .ok (.aload_n 0, 1) := by decide +kernel
theorem dX5_cancel_6 : decode cX5_cancel 6 = .ok (.getfield 10, 3) := by decide +kernel
theorem dX5_cancel_9 : decode cX5_cancel 9 = .ok (.iload_n 1, 1) := by decide +kernel
theorem dX5_cancel_10 : decode cX5_cancel 10 = .ok (.invokevirtual 85, 3) := by decide +kernel
theorem dX5_cancel_13 : decode cX5_cancel 13 = .ok (.ifCond .ne 13, 3) := by decide +kernel
theorem dX5_cancel_16 : decode cX5_cancel 16 = .ok (.new 93, 3) := by decide +kernel
theorem dX5_cancel_19 : decode cX5_cancel 19 = .ok (.dup, 1) := by decide +kernel
theorem dX5_cancel_20 : decode cX5_cancel 20 = .ok (.ldc 137, 2) := by decide +kernel
theorem dX5_cancel_22 : decode cX5_cancel 22 = .ok (.invokespecial 97, 3) := by decide +kernel
theorem dX5_cancel_25 : decode cX5_cancel 25 = .ok (.athrow, 1) := by decide +kernel
theorem dX5_cancel_26 : decode cX5_cancel 26 = .ok (.aload_n 0, 1) := by decide +kernel
theorem dX5_cancel_27 : decode cX5_cancel 27 = .ok (.getfield 19, 3) := by decide +kernel
theorem dX5_cancel_30 : decode cX5_cancel 30 = .ok (.aload_n 0, 1) := by decide +kernel
theorem dX5_cancel_31 : decode cX5_cancel 31 = .ok (.getfield 10, 3) := by decide +kernel
theorem dX5_cancel_34 : decode cX5_cancel 34 = .ok (.invokevirtual 63, 3) := by decide +kernel
theorem dX5_cancel_37 : decode cX5_cancel 37 = .ok (.aload_n 0, 1) := by decide +kernel
theorem dX5_cancel_38 : decode cX5_cancel 38 = .ok (.getfield 10, 3) := by decide +kernel
theorem dX5_cancel_41 : decode cX5_cancel 41 = .ok (.dup, 1) := by decide +kernel
theorem dX5_cancel_42 : decode cX5_cancel 42 = .ok (.getfield 128, 3) := by decide +kernel
theorem dX5_cancel_45 : decode cX5_cancel 45 = .ok (.iload_n 1, 1) := by decide +kernel
theorem dX5_cancel_46 : decode cX5_cancel 46 = .ok (.invokestatic 131, 3) := by decide +kernel
theorem dX5_cancel_49 : decode cX5_cancel 49 = .ok (.iconst (-1), 1) := by decide +kernel
theorem dX5_cancel_50 : decode cX5_cancel 50 = .ok (.ixor, 1) := by decide +kernel
theorem dX5_cancel_51 : decode cX5_cancel 51 = .ok (.iand, 1) := by decide +kernel
theorem dX5_cancel_52 : decode cX5_cancel 52 = .ok (.putfield 128, 3) := by decide +kernel
theorem dX5_cancel_55 : decode cX5_cancel 55 = .ok (.aload_n 0, 1) := by decide +kernel
theorem dX5_cancel_56 : decode cX5_cancel 56 = .ok (.getfield 10, 3) := by decide +kernel
theorem dX5_cancel_59 : decode cX5_cancel 59 = .ok (.aload_n 0, 1) := by decide +kernel
theorem dX5_cancel_60 : decode cX5_cancel 60 = .ok (.getfield 10, 3) := by decide +kernel
theorem dX5_cancel_63 : decode cX5_cancel 63 = .ok (.getfield 128, 3) := by decide +kernel
theorem dX5_cancel_66 : decode cX5_cancel 66 = .ok (.invokevirtual 134, 3) := by decide +kernel
theorem dX5_cancel_69 : decode cX5_cancel 69 = .ok (.ireturn, 1) := by decide +kernel
set_option maxRecDepth 20000 in
theorem ggX5_bookBest_X3_save : GoodIn wsX5_bookBest wsX3_save := goodIn_r _ [9, 10, 11, 12, 13, 14, 15, 16, 17, 18, 19, 20, 21, 22, 23, 24, 25, 26, 27, 84, 85, 86, 78, 79, 80, 81, 82, 83] (by decide +kernel) (by decide +kernel)
set_option maxRecDepth 20000 in
theorem gX5_bookBest_X3_save : GoodIn wsX5_bookBest (wsV RX5 63 RX3 yX3_save wsX3_save) := goodIn_app (goodIn_of _ (by decide +kernel)) ggX5_bookBest_X3_save
set_option maxRecDepth 20000 in
theorem ggX5_bookBest_X0_bestSet : GoodIn wsX5_bookBest wsX0_bestSet := goodIn_r _ [32, 33, 34, 35, 36, 16, 37, 18, 38, 39, 40, 41, 42, 43, 31, 44, 45, 46, 47, 48, 49, 50, 51, 52, 53, 54, 55, 56, 57, 58, 59, 60, 61, 62, 63, 78, 79, 80, 81, 82, 83, 87, 88, 89] (by decide +kernel) (by decide +kernel)
set_option maxRecDepth 20000 in
theorem gX5_bookBest_X0_bestSet : GoodIn wsX5_bookBest (wsV RX5 139 RX0 yX0_bestSet wsX0_bestSet) := goodIn_app (goodIn_of _ (by decide +kernel)) ggX5_bookBest_X0_bestSet
set_option maxRecDepth 20000 in
theorem ggX5_bookBest_J6_bitCount_0f7a4 : GoodIn wsX5_bookBest wsJ6_bitCount_0f7a4 := goodIn_r _ [67, 68, 69, 70] (by decide +kernel) (by decide +kernel)
set_option maxRecDepth 20000 in
theorem gX5_bookBest_J6_bitCount_0f7a4 : GoodIn wsX5_bookBest (va_wsS RX5 143 yJ6_bitCount_0f7a4 wsJ6_bitCount_0f7a4) := goodIn_app (goodIn_of _ (by decide +kernel)) ggX5_bookBest_J6_bitCount_0f7a4
theorem dX5_bookBest_0 : decode cX5_bookBest 0 = .ok (.aload_n 0, 1) := by decide +kernel
theorem dX5_bookBest_1 : decode cX5_bookBest 1 = .ok (.getfield 19, 3) := by decide +kernel
theorem dX5_bookBest_4 : decode cX5_bookBest 4 = .ok (.aload_n 0, 1) := by decide +kernel
theorem dX5_bookBest_5 : decode cX5_bookBest 5 = .ok (.getfield 10, 3) := by decide +kernel
theorem dX5_bookBest_8 : decode cX5_bookBest 8 = .ok (.invokevirtual 63, 3) := by decide +kernel
theorem dX5_bookBest_11 : decode cX5_bookBest 11 = .ok (.aload_n 0, 1) := by decide +kernel
theorem dX5_bookBest_12 : decode cX5_bookBest 12 = .ok (.getfield 10, 3) := by decide +kernel
theorem dX5_bookBest_15 : decode cX5_bookBest 15 = .ok (.aload_n 0, 1) := by decide +kernel
theorem dX5_bookBest_16 : decode cX5_bookBest 16 = .ok (.getfield 48, 3) := by decide +kernel
theorem dX5_bookBest_19 : decode cX5_bookBest 19 = .ok (.aload_n 0, 1) := by decide +kernel
theorem dX5_bookBest_20 : decode cX5_bookBest 20 = .ok (.getfield 10, 3) := by decide +kernel
theorem dX5_bookBest_23 : decode cX5_bookBest 23 = .ok (.invokevirtual 139, 3) := by decide +kernel
theorem dX5_bookBest_26 : decode cX5_bookBest 26 = .ok (.putfield 128, 3) := by decide +kernel
theorem dX5_bookBest_29 : decode cX5_bookBest 29 = .ok (.aload_n 0, 1) := by decide +kernel
theorem dX5_bookBest_30 : decode cX5_bookBest 30 = .ok (.getfield 10, 3) := by decide +kernel
theorem dX5_bookBest_33 : decode cX5_bookBest 33 = .ok (.getfield 128, 3) := by decide +kernel
theorem dX5_bookBest_36 : decode cX5_bookBest 36 = .ok (.invokestatic 143, 3) := by decide +kernel
theorem dX5_bookBest_39 : decode cX5_bookBest 39 = .ok (.ireturn, 1) := by decide +kernel
set_option maxRecDepth 20000 in
theorem ggX5_append_X4_put : GoodIn wsX5_append wsX4_put := goodIn_r _ [11, 12, 13, 21, 22, 23, 24, 25] (by decide +kernel) (by decide +kernel)
set_option maxRecDepth 20000 in
theorem gX5_append_X4_put : GoodIn wsX5_append (wsV RX5 155 RX4 yX4_put wsX4_put) := goodIn_app (goodIn_of _ (by decide +kernel)) ggX5_append_X4_put
theorem dX5_append_0 : decode cX5_append 0 = .ok (.iload_n 1, 1) := by decide +kernel
theorem dX5_append_1 : decode cX5_append 1 = .ok (.bipush 33, 2) := by decide +kernel
theorem dX5_append_3 : decode cX5_append 3 = .ok (.if_icmp .lt 9, 3) := by decide +kernel
theorem dX5_append_6 : decode cX5_append 6 = .ok (.iload_n 1, 1) := by decide +kernel
theorem dX5_append_7 : decode cX5_append 7 = .ok (.bipush 126, 2) := by decide +kernel
theorem dX5_append_9 : decode cX5_append 9 = .ok (.if_icmp .le 13, 3) := by decide +kernel
theorem dX5_append_12 : decode cX5_append 12 = .ok (.new 110, 3) := by decide +kernel
theorem dX5_append_15 : decode cX5_append 15 = .ok (.dup, 1) := by decide +kernel
theorem dX5_append_16 : decode cX5_append 16 = .ok (.ldc 148, 2) := by decide +kernel
theorem dX5_append_18 : decode cX5_append 18 = .ok (.invokespecial 114, 3) := by decide +kernel
theorem dX5_append_21 : decode cX5_append 21 = .ok (.athrow, 1) := by decide +kernel
theorem dX5_append_22 : decode cX5_append 22 = .ok (.aload_n 0, 1) := by decide +kernel
theorem dX5_append_23 : decode cX5_append 23 = .ok (.getfield 34, 3) := by decide +kernel
theorem dX5_append_26 : decode cX5_append 26 = .ok (.getfield 150, 3) := by decide +kernel
theorem dX5_append_29 : decode cX5_append 29 = .ok (.bipush 60, 2) := by decide +kernel
theorem dX5_append_31 : decode cX5_append 31 = .ok (.if_icmp .lt 13, 3) := by decide +kernel
theorem dX5_append_34 : decode cX5_append 34 = .ok (.new 93, 3) := by decide +kernel
theorem dX5_append_37 : decode cX5_append 37 = .ok (.dup, 1) := by decide +kernel
theorem dX5_append_38 : decode cX5_append 38 = .ok (.ldc 153, 2) := by decide +kernel
theorem dX5_append_40 : decode cX5_append 40 = .ok (.invokespecial 97, 3) := by decide +kernel
theorem dX5_append_43 : decode cX5_append 43 = .ok (.athrow, 1) := by decide +kernel
theorem dX5_append_44 : decode cX5_append 44 = .ok (.aload_n 0, 1) := by decide +kernel
theorem dX5_append_45 : decode cX5_append 45 = .ok (.getfield 34, 3) := by decide +kernel
theorem dX5_append_48 : decode cX5_append 48 = .ok (.iload_n 1, 1) := by decide +kernel
theorem dX5_append_49 : decode cX5_append 49 = .ok (.invokevirtual 155, 3) := by decide +kernel
theorem dX5_append_52 : decode cX5_append 52 = .ok (.aload_n 0, 1) := by decide +kernel
theorem dX5_append_53 : decode cX5_append 53 = .ok (.getfield 34, 3) := by decide +kernel
theorem dX5_append_56 : decode cX5_append 56 = .ok (.getfield 150, 3) := by decide +kernel
theorem dX5_append_59 : decode cX5_append 59 = .ok (.ireturn, 1) := by decide +kernel
theorem dX5_clearBuffer_0 : decode cX5_clearBuffer 0 = .ok (.aload_n 0, 1) := by decide +kernel
theorem dX5_clearBuffer_1 : decode cX5_clearBuffer 1 = .ok (.getfield 34, 3) := by decide +kernel
theorem dX5_clearBuffer_4 : decode cX5_clearBuffer 4 = .ok (.getfield 150, 3) := by decide +kernel
theorem dX5_clearBuffer_7 : decode cX5_clearBuffer 7 = .ok (.istore_n 1, 1) := by decide +kernel
theorem dX5_clearBuffer_8 : decode cX5_clearBuffer 8 = .ok (.aload_n 0, 1) := by decide +kernel
theorem dX5_clearBuffer_9 : decode cX5_clearBuffer 9 = .ok (.getfield 34, 3) := by decide +kernel
theorem dX5_clearBuffer_12 : decode cX5_clearBuffer 12 = .ok (.iconst 0, 1) := by decide +kernel
theorem dX5_clearBuffer_13 : decode cX5_clearBuffer 13 = .ok (.putfield 150, 3) := by decide +kernel
theorem dX5_clearBuffer_16 : decode cX5_clearBuffer 16 = .ok (.iload_n 1, 1) := by decide +kernel
theorem dX5_clearBuffer_17 : decode cX5_clearBuffer 17 = .ok (.ireturn, 1) := by decide +kernel
set_option maxRecDepth 20000 in
theorem ggX5_firstError_X4_scan : GoodIn wsX5_firstError wsX4_scan := goodIn_r _ [6, 7, 8, 9, 10, 11, 12, 13, 5, 14, 15, 16, 17, 18, 19, 20, 21, 22, 23, 24, 25, 26, 27, 28, 29, 37, 38, 39, 40, 41] (by decide +kernel) (by decide +kernel)
set_option maxRecDepth 20000 in
theorem gX5_firstError_X4_scan : GoodIn wsX5_firstError (wsV RX5 158 RX4 yX4_scan wsX4_scan) := goodIn_app (goodIn_of _ (by decide +kernel)) ggX5_firstError_X4_scan
theorem dX5_firstError_0 : decode cX5_firstError 0 = .ok (.aload_n 0, 1) := by decide +kernel
theorem dX5_firstError_1 : decode cX5_firstError 1 = .ok (.getfield 34, 3) := by decide +kernel
theorem dX5_firstError_4 : decode cX5_firstError 4 = .ok (.invokevirtual 158, 3) := by decide +kernel
theorem dX5_firstError_7 : decode cX5_firstError 7 = .ok (.ireturn, 1) := by decide +kernel
set_option maxRecDepth 20000 in
theorem ggX5_read_X4_tellsRehearsals : GoodIn wsX5_read wsX4_tellsRehearsals := goodIn_r _ [12, 13, 14, 15, 16, 17, 11, 18, 19, 20, 21, 22, 23, 24, 25, 26, 27, 28, 29, 30, 31, 32, 33, 34, 35, 36, 37, 38, 39, 104, 105, 106, 107, 108] (by decide +kernel) (by decide +kernel)
set_option maxRecDepth 20000 in
theorem gX5_read_X4_tellsRehearsals : GoodIn wsX5_read (wsV RX5 162 RX4 yX4_tellsRehearsals wsX4_tellsRehearsals) := goodIn_app (goodIn_of _ (by decide +kernel)) ggX5_read_X4_tellsRehearsals
set_option maxRecDepth 20000 in
theorem ggX5_read_X4_endsFit : GoodIn wsX5_read wsX4_endsFit := goodIn_r _ [43, 44, 45, 46, 11, 47, 19, 48, 49, 50, 51, 39, 52, 53, 54, 55, 104, 105, 106, 107, 108] (by decide +kernel) (by decide +kernel)
set_option maxRecDepth 20000 in
theorem gX5_read_X4_endsFit : GoodIn wsX5_read (wsV RX5 166 RX4 yX4_endsFit wsX4_endsFit) := goodIn_app (goodIn_of _ (by decide +kernel)) ggX5_read_X4_endsFit
set_option maxRecDepth 20000 in
theorem ggX5_read_X4_parts : GoodIn wsX5_read wsX4_parts := goodIn_r _ [47, 19, 104, 105, 106, 107, 108] (by decide +kernel) (by decide +kernel)
set_option maxRecDepth 20000 in
theorem gX5_read_X4_parts : GoodIn wsX5_read (wsV RX5 171 RX4 yX4_parts wsX4_parts) := goodIn_app (goodIn_of _ (by decide +kernel)) ggX5_read_X4_parts
set_option maxRecDepth 20000 in
theorem ggX5_read_X5_requirePlacesFor : GoodIn wsX5_read wsX5_requirePlacesFor := goodIn_ca (goodIn_r _ [61, 62, 63, 5, 7, 97, 98, 99, 100, 101, 102, 103, 109, 110, 111, 112, 113, 114] (by decide +kernel) (by decide +kernel)) (goodIn_sub (fun _ h => List.mem_cons_of_mem _ (List.mem_append_right _ h)) (by decide +kernel))
set_option maxRecDepth 20000 in
theorem gX5_read_X5_requirePlacesFor : GoodIn wsX5_read (wsV RX5 60 RX5 yX5_requirePlacesFor wsX5_requirePlacesFor) := goodIn_app (goodIn_of _ (by decide +kernel)) ggX5_read_X5_requirePlacesFor
set_option maxRecDepth 20000 in
theorem ggX5_read_X3_save : GoodIn wsX5_read wsX3_save := goodIn_r _ [68, 69, 70, 71, 72, 73, 74, 75, 76, 77, 78, 79, 80, 81, 82, 83, 84, 85, 86, 115, 116, 117, 109, 110, 111, 112, 113, 114] (by decide +kernel) (by decide +kernel)
set_option maxRecDepth 20000 in
theorem gX5_read_X3_save : GoodIn wsX5_read (wsV RX5 63 RX3 yX3_save wsX3_save) := goodIn_app (goodIn_of _ (by decide +kernel)) ggX5_read_X3_save
set_option maxRecDepth 20000 in
theorem ggX5_read_X4_beginIn : GoodIn wsX5_read wsX4_beginIn := goodIn_r _ [55, 39, 104, 105, 106, 107, 108] (by decide +kernel) (by decide +kernel)
set_option maxRecDepth 20000 in
theorem gX5_read_X4_beginIn : GoodIn wsX5_read (wsV RX5 174 RX4 yX4_beginIn wsX4_beginIn) := goodIn_app (goodIn_of _ (by decide +kernel)) ggX5_read_X4_beginIn
set_option maxRecDepth 20000 in
theorem ggX5_read_X4_endIn : GoodIn wsX5_read wsX4_endIn := goodIn_r _ [51, 39, 104, 105, 106, 107, 108] (by decide +kernel) (by decide +kernel)
set_option maxRecDepth 20000 in
theorem gX5_read_X4_endIn : GoodIn wsX5_read (wsV RX5 177 RX4 yX4_endIn wsX4_endIn) := goodIn_app (goodIn_of _ (by decide +kernel)) ggX5_read_X4_endIn
set_option maxRecDepth 20000 in
theorem ggX5_read_X4_fameIn : GoodIn wsX5_read wsX4_fameIn := goodIn_r _ [92, 39, 104, 105, 106, 107, 108] (by decide +kernel) (by decide +kernel)
set_option maxRecDepth 20000 in
theorem gX5_read_X4_fameIn : GoodIn wsX5_read (wsV RX5 180 RX4 yX4_fameIn wsX4_fameIn) := goodIn_app (goodIn_of _ (by decide +kernel)) ggX5_read_X4_fameIn
set_option maxRecDepth 20000 in
theorem ggX5_read_X1_takeOn : GoodIn wsX5_read wsX1_takeOn := goodIn_r _ [96, 84, 77, 85, 86, 109, 110, 111, 112, 113, 114] (by decide +kernel) (by decide +kernel)
set_option maxRecDepth 20000 in
theorem gX5_read_X1_takeOn : GoodIn wsX5_read (wsV RX5 67 RX1 yX1_takeOn wsX1_takeOn) := goodIn_app (goodIn_of _ (by decide +kernel)) ggX5_read_X1_takeOn
theorem dX5_read_0 : decode cX5_read 0 = .ok (.aload_n 0, 1) := by decide +kernel
theorem dX5_read_1 : decode cX5_read 1 = .ok (.getfield 34, 3) := by decide +kernel
theorem dX5_read_4 : decode cX5_read 4 = .ok (.invokevirtual 162, 3) := by decide +kernel
theorem dX5_read_7 : decode cX5_read 7 = .ok (.ifCond .eq 13, 3) := by decide +kernel
theorem dX5_read_10 : decode cX5_read 10 = .ok (.aload_n 0, 1) := by decide +kernel
theorem dX5_read_11 : decode cX5_read 11 = .ok (.getfield 34, 3) := by decide +kernel
theorem dX5_read_14 : decode cX5_read 14 = .ok (.invokevirtual 166, 3) := by decide +kernel
theorem dX5_read_17 : decode cX5_read 17 = .ok (.ifCond .ne 13, 3) := by decide +kernel
theorem dX5_read_20 : decode cX5_read 20 = .ok (.new 110, 3) := by decide +kernel
theorem dX5_read_23 : decode cX5_read 23 = .ok (.dup, 1) := by decide +kernel
theorem dX5_read_24 : decode cX5_read 24 = .ok (.ldc 169, 2) := by decide +kernel
theorem dX5_read_26 : decode cX5_read 26 = .ok (.invokespecial 114, 3) := by decide +kernel
theorem dX5_read_29 : decode cX5_read 29 = .ok (.athrow, 1) := by decide +kernel
theorem dX5_read_30 : decode cX5_read 30 = .ok (.aload_n 0, 1) := by decide +kernel
theorem dX5_read_31 : decode cX5_read 31 = .ok (.aload_n 0, 1) := by decide +kernel
theorem dX5_read_32 : decode cX5_read 32 = .ok (.getfield 34, 3) := by decide +kernel
theorem dX5_read_35 : decode cX5_read 35 = .ok (.invokevirtual 171, 3) := by decide +kernel
theorem dX5_read_38 : decode cX5_read 38 = .ok (.invokevirtual 60, 3) := by decide +kernel
theorem dX5_read_41 : decode cX5_read 41 = .ok (.aload_n 0, 1) := by decide +kernel
theorem dX5_read_42 : decode cX5_read 42 = .ok (.getfield 19, 3) := by decide +kernel
theorem dX5_read_45 : decode cX5_read 45 = .ok (.aload_n 0, 1) := by decide +kernel
theorem dX5_read_46 : decode cX5_read 46 = .ok (.getfield 10, 3) := by decide +kernel
theorem dX5_read_49 : decode cX5_read 49 = .ok (.invokevirtual 63, 3) := by decide +kernel
theorem dX5_read_52 : decode cX5_read 52 = .ok (.iconst 0, 1) := by decide +kernel
theorem dX5_read_53 : decode cX5_read 53 = .ok (.istore_n 1, 1) := by decide +kernel
theorem dX5_read_54 : decode cX5_read 54 = .ok (.iload_n 1, 1) := by decide +kernel
theorem dX5_read_55 : decode cX5_read 55 = .ok (.aload_n 0, 1) := by decide +kernel
theorem dX5_read_56 : decode cX5_read 56 = .ok (.getfield 34, 3) := by decide +kernel
theorem dX5_read_59 : decode cX5_read 59 = .ok (.invokevirtual 171, 3) := by decide +kernel
theorem dX5_read_62 : decode cX5_read 62 = .ok (.if_icmp .ge 40, 3) := by decide +kernel
theorem dX5_read_65 : decode cX5_read 65 = .ok (.aload_n 0, 1) := by decide +kernel
theorem dX5_read_66 : decode cX5_read 66 = .ok (.getfield 10, 3) := by decide +kernel
theorem dX5_read_69 : decode cX5_read 69 = .ok (.aload_n 0, 1) := by decide +kernel
theorem dX5_read_70 : decode cX5_read 70 = .ok (.getfield 34, 3) := by decide +kernel
theorem dX5_read_73 : decode cX5_read 73 = .ok (.iload_n 1, 1) := by decide +kernel
theorem dX5_read_74 : decode cX5_read 74 = .ok (.invokevirtual 174, 3) := by decide +kernel
theorem dX5_read_77 : decode cX5_read 77 = .ok (.aload_n 0, 1) := by decide +kernel
theorem dX5_read_78 : decode cX5_read 78 = .ok (.getfield 34, 3) := by decide +kernel
theorem dX5_read_81 : decode cX5_read 81 = .ok (.iload_n 1, 1) := by decide +kernel
theorem dX5_read_82 : decode cX5_read 82 = .ok (.invokevirtual 177, 3) := by decide +kernel
theorem dX5_read_85 : decode cX5_read 85 = .ok (.aload_n 0, 1) := by decide +kernel
theorem dX5_read_86 : decode cX5_read 86 = .ok (.getfield 34, 3) := by decide +kernel
theorem dX5_read_89 : decode cX5_read 89 = .ok (.iload_n 1, 1) := by decide +kernel
theorem dX5_read_90 : decode cX5_read 90 = .ok (.invokevirtual 180, 3) := by decide +kernel
theorem dX5_read_93 : decode cX5_read 93 = .ok (.invokevirtual 67, 3) := by decide +kernel
theorem dX5_read_96 : decode cX5_read 96 = .ok (.iinc 1 1, 3) := by decide +kernel
theorem dX5_read_99 : decode cX5_read 99 = .ok (.goto (-45), 3) := by decide +kernel
theorem dX5_read_102 : decode cX5_read 102 = .ok (.aload_n 0, 1) := by decide +kernel
theorem dX5_read_103 : decode cX5_read 103 = .ok (.getfield 34, 3) := by decide +kernel
theorem dX5_read_106 : decode cX5_read 106 = .ok (.iconst 0, 1) := by decide +kernel
theorem dX5_read_107 : decode cX5_read 107 = .ok (.putfield 150, 3) := by decide +kernel
theorem dX5_read_110 : decode cX5_read 110 = .ok (.aload_n 0, 1) := by decide +kernel
theorem dX5_read_111 : decode cX5_read 111 = .ok (.getfield 10, 3) := by decide +kernel
theorem dX5_read_114 : decode cX5_read 114 = .ok (.getfield 71, 3) := by decide +kernel
theorem dX5_read_117 : decode cX5_read 117 = .ok (.ireturn, 1) := by decide +kernel
set_option maxRecDepth 20000 in
theorem ggX5_keep_X5_requireSlot : GoodIn wsX5_keep wsX5_requireSlot := goodIn_ca (goodIn_r _ [7, 8, 9] (by decide +kernel) (by decide +kernel)) (goodIn_sub (fun _ h => List.mem_cons_of_mem _ (List.mem_append_right _ h)) (by decide +kernel))
set_option maxRecDepth 20000 in
theorem gX5_keep_X5_requireSlot : GoodIn wsX5_keep (va_wsS RX5 183 yX5_requireSlot wsX5_requireSlot) := goodIn_app (goodIn_of _ (by decide +kernel)) ggX5_keep_X5_requireSlot
set_option maxRecDepth 20000 in
theorem ggX5_keep_X1_copyFrom : GoodIn wsX5_keep wsX1_copyFrom := goodIn_r _ [14, 15, 16, 17, 18, 19, 20, 13, 21, 22, 23, 24, 32, 33, 34, 35, 36, 37] (by decide +kernel) (by decide +kernel)
set_option maxRecDepth 20000 in
theorem gX5_keep_X1_copyFrom : GoodIn wsX5_keep (wsV RX5 186 RX1 yX1_copyFrom wsX1_copyFrom) := goodIn_app (goodIn_of _ (by decide +kernel)) ggX5_keep_X1_copyFrom
theorem dX5_keep_0 : decode cX5_keep 0 = .ok (.iload_n 1, 1) := by decide +kernel
theorem dX5_keep_1 : decode cX5_keep 1 = .ok (.invokestatic 183, 3) := by decide +kernel
theorem dX5_keep_4 : decode cX5_keep 4 = .ok (.aload_n 0, 1) := by decide +kernel
theorem dX5_keep_5 : decode cX5_keep 5 = .ok (.getfield 23, 3) := by decide +kernel
theorem dX5_keep_8 : decode cX5_keep 8 = .ok (.iload_n 1, 1) := by decide +kernel
theorem dX5_keep_9 : decode cX5_keep 9 = .ok (.aaload, 1) := by decide +kernel
theorem dX5_keep_10 : decode cX5_keep 10 = .ok (.aload_n 0, 1) := by decide +kernel
theorem dX5_keep_11 : decode cX5_keep 11 = .ok (.getfield 10, 3) := by decide +kernel
theorem dX5_keep_14 : decode cX5_keep 14 = .ok (.invokevirtual 186, 3) := by decide +kernel
theorem dX5_keep_17 : decode cX5_keep 17 = .ok (.aload_n 0, 1) := by decide +kernel
theorem dX5_keep_18 : decode cX5_keep 18 = .ok (.getfield 27, 3) := by decide +kernel
theorem dX5_keep_21 : decode cX5_keep 21 = .ok (.iload_n 1, 1) := by decide +kernel
theorem dX5_keep_22 : decode cX5_keep 22 = .ok (.iconst 1, 1) := by decide +kernel
theorem dX5_keep_23 : decode cX5_keep 23 = .ok (.bastore, 1) := by decide +kernel
theorem dX5_keep_24 : decode cX5_keep 24 = .ok (.return_, 1) := by decide +kernel
set_option maxRecDepth 20000 in
theorem ggX5_goBack_X5_requireSlot : GoodIn wsX5_goBack wsX5_requireSlot := goodIn_ca (goodIn_r _ [10, 11, 12] (by decide +kernel) (by decide +kernel)) (goodIn_sub (fun _ h => List.mem_cons_of_mem _ (List.mem_append_right _ h)) (by decide +kernel))
set_option maxRecDepth 20000 in
theorem gX5_goBack_X5_requireSlot : GoodIn wsX5_goBack (va_wsS RX5 183 yX5_requireSlot wsX5_requireSlot) := goodIn_app (goodIn_of _ (by decide +kernel)) ggX5_goBack_X5_requireSlot
set_option maxRecDepth 20000 in
theorem ggX5_goBack_X3_save : GoodIn wsX5_goBack wsX3_save := goodIn_r _ [17, 18, 19, 20, 21, 22, 23, 24, 25, 26, 27, 28, 29, 30, 31, 32, 33, 34, 35, 44, 45, 46, 47, 48, 49, 50, 51, 52] (by decide +kernel) (by decide +kernel)
set_option maxRecDepth 20000 in
theorem gX5_goBack_X3_save : GoodIn wsX5_goBack (wsV RX5 63 RX3 yX3_save wsX3_save) := goodIn_app (goodIn_of _ (by decide +kernel)) ggX5_goBack_X3_save
set_option maxRecDepth 20000 in
theorem ggX5_goBack_X1_copyFrom : GoodIn wsX5_goBack wsX1_copyFrom := goodIn_r _ [25, 26, 27, 28, 29, 30, 31, 24, 32, 33, 34, 35, 47, 48, 49, 50, 51, 52] (by decide +kernel) (by decide +kernel)
set_option maxRecDepth 20000 in
theorem gX5_goBack_X1_copyFrom : GoodIn wsX5_goBack (wsV RX5 186 RX1 yX1_copyFrom wsX1_copyFrom) := goodIn_app (goodIn_of _ (by decide +kernel)) ggX5_goBack_X1_copyFrom
theorem dX5_goBack_0 : decode cX5_goBack 0 = .ok (.iload_n 1, 1) := by decide +kernel
theorem dX5_goBack_1 : decode cX5_goBack 1 = .ok (.invokestatic 183, 3) := by decide +kernel
theorem dX5_goBack_4 : decode cX5_goBack 4 = .ok (.aload_n 0, 1) := by decide +kernel
theorem dX5_goBack_5 : decode cX5_goBack 5 = .ok (.getfield 27, 3) := by decide +kernel
theorem dX5_goBack_8 : decode cX5_goBack 8 = .ok (.iload_n 1, 1) := by decide +kernel
theorem dX5_goBack_9 : decode cX5_goBack 9 = .ok (.baload, 1) := by decide +kernel
theorem dX5_goBack_10 : decode cX5_goBack 10 = .ok (.ifCond .ne 13, 3) := by decide +kernel
theorem dX5_goBack_13 : decode cX5_goBack 13 = .ok (.new 93, 3) := by decide +kernel
theorem dX5_goBack_16 : decode cX5_goBack 16 = .ok (.dup, 1) := by decide +kernel
theorem dX5_goBack_17 : decode cX5_goBack 17 = .ok (.ldc 189, 2) := by decide +kernel
theorem dX5_goBack_19 : decode cX5_goBack 19 = .ok (.invokespecial 97, 3) := by decide +kernel
theorem dX5_goBack_22 : decode cX5_goBack 22 = .ok (.athrow, 1) := by decide +kernel
theorem dX5_goBack_23 : decode cX5_goBack 23 = .ok (.aload_n 0, 1) := by decide +kernel
theorem dX5_goBack_24 : decode cX5_goBack 24 = .ok (.getfield 19, 3) := by decide +kernel
theorem dX5_goBack_27 : decode cX5_goBack 27 = .ok (.aload_n 0, 1) := by decide +kernel
theorem dX5_goBack_28 : decode cX5_goBack 28 = .ok (.getfield 10, 3) := by decide +kernel
theorem dX5_goBack_31 : decode cX5_goBack 31 = .ok (.invokevirtual 63, 3) := by decide +kernel
theorem dX5_goBack_34 : decode cX5_goBack 34 = .ok (.aload_n 0, 1) := by decide +kernel
theorem dX5_goBack_35 : decode cX5_goBack 35 = .ok (.getfield 10, 3) := by decide +kernel
theorem dX5_goBack_38 : decode cX5_goBack 38 = .ok (.aload_n 0, 1) := by decide +kernel
theorem dX5_goBack_39 : decode cX5_goBack 39 = .ok (.getfield 23, 3) := by decide +kernel
theorem dX5_goBack_42 : decode cX5_goBack 42 = .ok (.iload_n 1, 1) := by decide +kernel
theorem dX5_goBack_43 : decode cX5_goBack 43 = .ok (.aaload, 1) := by decide +kernel
theorem dX5_goBack_44 : decode cX5_goBack 44 = .ok (.invokevirtual 186, 3) := by decide +kernel
theorem dX5_goBack_47 : decode cX5_goBack 47 = .ok (.return_, 1) := by decide +kernel
set_option maxRecDepth 20000 in
theorem ggX5_undo_X3_restoreLatest : GoodIn wsX5_undo wsX3_restoreLatest := goodIn_r _ [10, 11, 12, 13, 14, 15, 16, 17, 18, 19, 20, 21, 22, 23, 24, 25, 26, 27, 28, 36, 37, 38, 39, 40, 41, 42, 43, 44] (by decide +kernel) (by decide +kernel)
set_option maxRecDepth 20000 in
theorem gX5_undo_X3_restoreLatest : GoodIn wsX5_undo (wsV RX5 194 RX3 yX3_restoreLatest wsX3_restoreLatest) := goodIn_app (goodIn_of _ (by decide +kernel)) ggX5_undo_X3_restoreLatest
theorem dX5_undo_0 : decode cX5_undo 0 = .ok (.aload_n 0, 1) := by decide +kernel
theorem dX5_undo_1 : decode cX5_undo 1 = .ok (.getfield 19, 3) := by decide +kernel
theorem dX5_undo_4 : decode cX5_undo 4 = .ok (.getfield 191, 3) := by decide +kernel
theorem dX5_undo_7 : decode cX5_undo 7 = .ok (.ifCond .ne 13, 3) := by decide +kernel
theorem dX5_undo_10 : decode cX5_undo 10 = .ok (.new 93, 3) := by decide +kernel
theorem dX5_undo_13 : decode cX5_undo 13 = .ok (.dup, 1) := by decide +kernel
theorem dX5_undo_14 : decode cX5_undo 14 = .ok (.ldc 192, 2) := by decide +kernel
theorem dX5_undo_16 : decode cX5_undo 16 = .ok (.invokespecial 97, 3) := by decide +kernel
theorem dX5_undo_19 : decode cX5_undo 19 = .ok (.athrow, 1) := by decide +kernel
theorem dX5_undo_20 : decode cX5_undo 20 = .ok (.aload_n 0, 1) := by decide +kernel
theorem dX5_undo_21 : decode cX5_undo 21 = .ok (.getfield 19, 3) := by decide +kernel
theorem dX5_undo_24 : decode cX5_undo 24 = .ok (.aload_n 0, 1) := by decide +kernel
theorem dX5_undo_25 : decode cX5_undo 25 = .ok (.getfield 10, 3) := by decide +kernel
theorem dX5_undo_28 : decode cX5_undo 28 = .ok (.invokevirtual 194, 3) := by decide +kernel
theorem dX5_undo_31 : decode cX5_undo 31 = .ok (.return_, 1) := by decide +kernel
theorem dX5_savedStates_0 : decode cX5_savedStates 0 = .ok (.aload_n 0, 1) := by decide +kernel
theorem dX5_savedStates_1 : decode cX5_savedStates 1 = .ok (.getfield 19, 3) := by decide +kernel
theorem dX5_savedStates_4 : decode cX5_savedStates 4 = .ok (.getfield 191, 3) := by decide +kernel
theorem dX5_savedStates_7 : decode cX5_savedStates 7 = .ok (.ireturn, 1) := by decide +kernel
theorem dX5_rehearsals_0 : decode cX5_rehearsals 0 = .ok (.aload_n 0, 1) := by decide +kernel
theorem dX5_rehearsals_1 : decode cX5_rehearsals 1 = .ok (.getfield 10, 3) := by decide +kernel
theorem dX5_rehearsals_4 : decode cX5_rehearsals 4 = .ok (.getfield 71, 3) := by decide +kernel
theorem dX5_rehearsals_7 : decode cX5_rehearsals 7 = .ok (.ireturn, 1) := by decide +kernel
set_option maxRecDepth 20000 in
theorem ggX5_beginOf_X5_requireRehearsal : GoodIn wsX5_beginOf wsX5_requireRehearsal := goodIn_ca (goodIn_r _ [7, 8, 9, 1, 10, 11, 12, 13, 14, 15, 16, 17, 18, 19, 20, 21, 22, 23] (by decide +kernel) (by decide +kernel)) (goodIn_sub (fun _ h => List.mem_cons_of_mem _ (List.mem_append_right _ h)) (by decide +kernel))
set_option maxRecDepth 20000 in
theorem gX5_beginOf_X5_requireRehearsal : GoodIn wsX5_beginOf (wsV RX5 75 RX5 yX5_requireRehearsal wsX5_requireRehearsal) := goodIn_app (goodIn_of _ (by decide +kernel)) ggX5_beginOf_X5_requireRehearsal
theorem dX5_beginOf_0 : decode cX5_beginOf 0 = .ok (.aload_n 0, 1) := by decide +kernel
theorem dX5_beginOf_1 : decode cX5_beginOf 1 = .ok (.iload_n 1, 1) := by decide +kernel
theorem dX5_beginOf_2 : decode cX5_beginOf 2 = .ok (.invokevirtual 75, 3) := by decide +kernel
theorem dX5_beginOf_5 : decode cX5_beginOf 5 = .ok (.aload_n 0, 1) := by decide +kernel
theorem dX5_beginOf_6 : decode cX5_beginOf 6 = .ok (.getfield 10, 3) := by decide +kernel
theorem dX5_beginOf_9 : decode cX5_beginOf 9 = .ok (.getfield 104, 3) := by decide +kernel
theorem dX5_beginOf_12 : decode cX5_beginOf 12 = .ok (.iload_n 1, 1) := by decide +kernel
theorem dX5_beginOf_13 : decode cX5_beginOf 13 = .ok (.iaload, 1) := by decide +kernel
theorem dX5_beginOf_14 : decode cX5_beginOf 14 = .ok (.ireturn, 1) := by decide +kernel
set_option maxRecDepth 20000 in
theorem ggX5_endOf_X5_requireRehearsal : GoodIn wsX5_endOf wsX5_requireRehearsal := goodIn_ca (goodIn_r _ [7, 8, 9, 1, 10, 11, 12, 13, 14, 15, 16, 17, 18, 19, 20, 21, 22, 23] (by decide +kernel) (by decide +kernel)) (goodIn_sub (fun _ h => List.mem_cons_of_mem _ (List.mem_append_right _ h)) (by decide +kernel))
set_option maxRecDepth 20000 in
theorem gX5_endOf_X5_requireRehearsal : GoodIn wsX5_endOf (wsV RX5 75 RX5 yX5_requireRehearsal wsX5_requireRehearsal) := goodIn_app (goodIn_of _ (by decide +kernel)) ggX5_endOf_X5_requireRehearsal
theorem dX5_endOf_0 : decode cX5_endOf 0 = .ok (.aload_n 0, 1) := by decide +kernel
theorem dX5_endOf_1 : decode cX5_endOf 1 = .ok (.iload_n 1, 1) := by decide +kernel
theorem dX5_endOf_2 : decode cX5_endOf 2 = .ok (.invokevirtual 75, 3) := by decide +kernel
theorem dX5_endOf_5 : decode cX5_endOf 5 = .ok (.aload_n 0, 1) := by decide +kernel
theorem dX5_endOf_6 : decode cX5_endOf 6 = .ok (.getfield 10, 3) := by decide +kernel
theorem dX5_endOf_9 : decode cX5_endOf 9 = .ok (.getfield 107, 3) := by decide +kernel
theorem dX5_endOf_12 : decode cX5_endOf 12 = .ok (.iload_n 1, 1) := by decide +kernel
theorem dX5_endOf_13 : decode cX5_endOf 13 = .ok (.iaload, 1) := by decide +kernel
theorem dX5_endOf_14 : decode cX5_endOf 14 = .ok (.ireturn, 1) := by decide +kernel
set_option maxRecDepth 20000 in
theorem ggX5_fameOf_X5_requireRehearsal : GoodIn wsX5_fameOf wsX5_requireRehearsal := goodIn_ca (goodIn_r _ [7, 8, 9, 1, 10, 11, 12, 13, 14, 15, 16, 17, 18, 19, 20, 21, 22, 23] (by decide +kernel) (by decide +kernel)) (goodIn_sub (fun _ h => List.mem_cons_of_mem _ (List.mem_append_right _ h)) (by decide +kernel))
set_option maxRecDepth 20000 in
theorem gX5_fameOf_X5_requireRehearsal : GoodIn wsX5_fameOf (wsV RX5 75 RX5 yX5_requireRehearsal wsX5_requireRehearsal) := goodIn_app (goodIn_of _ (by decide +kernel)) ggX5_fameOf_X5_requireRehearsal
theorem dX5_fameOf_0 : decode cX5_fameOf 0 = .ok (.aload_n 0, 1) := by decide +kernel
theorem dX5_fameOf_1 : decode cX5_fameOf 1 = .ok (.iload_n 1, 1) := by decide +kernel
theorem dX5_fameOf_2 : decode cX5_fameOf 2 = .ok (.invokevirtual 75, 3) := by decide +kernel
theorem dX5_fameOf_5 : decode cX5_fameOf 5 = .ok (.aload_n 0, 1) := by decide +kernel
theorem dX5_fameOf_6 : decode cX5_fameOf 6 = .ok (.getfield 10, 3) := by decide +kernel
theorem dX5_fameOf_9 : decode cX5_fameOf 9 = .ok (.getfield 78, 3) := by decide +kernel
theorem dX5_fameOf_12 : decode cX5_fameOf 12 = .ok (.iload_n 1, 1) := by decide +kernel
theorem dX5_fameOf_13 : decode cX5_fameOf 13 = .ok (.iaload, 1) := by decide +kernel
theorem dX5_fameOf_14 : decode cX5_fameOf 14 = .ok (.ireturn, 1) := by decide +kernel
set_option maxRecDepth 20000 in
theorem ggX5_famePerQuarter_X5_requireRehearsal : GoodIn wsX5_famePerQuarter wsX5_requireRehearsal := goodIn_ca (goodIn_r _ [7, 8, 9, 1, 10, 18, 19, 20, 21, 22, 23, 24, 25, 26, 27, 28, 29, 30] (by decide +kernel) (by decide +kernel)) (goodIn_sub (fun _ h => List.mem_cons_of_mem _ (List.mem_append_right _ h)) (by decide +kernel))
set_option maxRecDepth 20000 in
theorem gX5_famePerQuarter_X5_requireRehearsal : GoodIn wsX5_famePerQuarter (wsV RX5 75 RX5 yX5_requireRehearsal wsX5_requireRehearsal) := goodIn_app (goodIn_of _ (by decide +kernel)) ggX5_famePerQuarter_X5_requireRehearsal
set_option maxRecDepth 20000 in
theorem ggX5_famePerQuarter_X1_quartersOf : GoodIn wsX5_famePerQuarter wsX1_quartersOf := goodIn_r _ [15, 16, 17, 25, 26, 27, 28, 29, 30] (by decide +kernel) (by decide +kernel)
set_option maxRecDepth 20000 in
theorem gX5_famePerQuarter_X1_quartersOf : GoodIn wsX5_famePerQuarter (wsV RX5 100 RX1 yX1_quartersOf wsX1_quartersOf) := goodIn_app (goodIn_of _ (by decide +kernel)) ggX5_famePerQuarter_X1_quartersOf
theorem dX5_famePerQuarter_0 : decode cX5_famePerQuarter 0 = .ok (.aload_n 0, 1) := by decide +kernel
theorem dX5_famePerQuarter_1 : decode cX5_famePerQuarter 1 = .ok (.iload_n 1, 1) := by decide +kernel
theorem dX5_famePerQuarter_2 : decode cX5_famePerQuarter 2 = .ok (.invokevirtual 75, 3) := by decide +kernel
theorem dX5_famePerQuarter_5 : decode cX5_famePerQuarter 5 = .ok (.aload_n 0, 1) := by decide +kernel
theorem dX5_famePerQuarter_6 : decode cX5_famePerQuarter 6 = .ok (.getfield 10, 3) := by decide +kernel
theorem dX5_famePerQuarter_9 : decode cX5_famePerQuarter 9 = .ok (.getfield 78, 3) := by decide +kernel
theorem dX5_famePerQuarter_12 : decode cX5_famePerQuarter 12 = .ok (.iload_n 1, 1) := by decide +kernel
theorem dX5_famePerQuarter_13 : decode cX5_famePerQuarter 13 = .ok (.iaload, 1) := by decide +kernel
theorem dX5_famePerQuarter_14 : decode cX5_famePerQuarter 14 = .ok (.i2f, 1) := by decide +kernel
theorem dX5_famePerQuarter_15 : decode cX5_famePerQuarter 15 = .ok (.aload_n 0, 1) := by decide +kernel
theorem dX5_famePerQuarter_16 : decode cX5_famePerQuarter 16 = .ok (.getfield 10, 3) := by decide +kernel
theorem dX5_famePerQuarter_19 : decode cX5_famePerQuarter 19 = .ok (.iload_n 1, 1) := by decide +kernel
theorem dX5_famePerQuarter_20 : decode cX5_famePerQuarter 20 = .ok (.invokevirtual 100, 3) := by decide +kernel
theorem dX5_famePerQuarter_23 : decode cX5_famePerQuarter 23 = .ok (.i2f, 1) := by decide +kernel
theorem dX5_famePerQuarter_24 : decode cX5_famePerQuarter 24 = .ok (.fdiv, 1) := by decide +kernel
theorem dX5_famePerQuarter_25 : decode cX5_famePerQuarter 25 = .ok (.freturn, 1) := by decide +kernel
set_option maxRecDepth 20000 in
theorem ggX5_isBooked_X5_requireRehearsal : GoodIn wsX5_isBooked wsX5_requireRehearsal := goodIn_ca (goodIn_r _ [6, 7, 8, 1, 9, 21, 22, 23, 24, 25, 26, 27, 28, 29, 30, 31, 32, 33] (by decide +kernel) (by decide +kernel)) (goodIn_sub (fun _ h => List.mem_cons_of_mem _ (List.mem_append_right _ h)) (by decide +kernel))
set_option maxRecDepth 20000 in
theorem gX5_isBooked_X5_requireRehearsal : GoodIn wsX5_isBooked (wsV RX5 75 RX5 yX5_requireRehearsal wsX5_requireRehearsal) := goodIn_app (goodIn_of _ (by decide +kernel)) ggX5_isBooked_X5_requireRehearsal
set_option maxRecDepth 20000 in
theorem ggX5_isBooked_X1_hasBooked : GoodIn wsX5_isBooked wsX1_hasBooked := goodIn_r _ [14, 15, 16, 5, 17, 18, 19, 20, 28, 29, 30, 31, 32, 33] (by decide +kernel) (by decide +kernel)
set_option maxRecDepth 20000 in
theorem gX5_isBooked_X1_hasBooked : GoodIn wsX5_isBooked (wsV RX5 85 RX1 yX1_hasBooked wsX1_hasBooked) := goodIn_app (goodIn_of _ (by decide +kernel)) ggX5_isBooked_X1_hasBooked
theorem dX5_isBooked_0 : decode cX5_isBooked 0 = .ok (.aload_n 0, 1) := by decide +kernel
theorem dX5_isBooked_1 : decode cX5_isBooked 1 = .ok (.iload_n 1, 1) := by decide +kernel
theorem dX5_isBooked_2 : decode cX5_isBooked 2 = .ok (.invokevirtual 75, 3) := by decide +kernel
theorem dX5_isBooked_5 : decode cX5_isBooked 5 = .ok (.aload_n 0, 1) := by decide +kernel
theorem dX5_isBooked_6 : decode cX5_isBooked 6 = .ok (.getfield 10, 3) := by decide +kernel
theorem dX5_isBooked_9 : decode cX5_isBooked 9 = .ok (.iload_n 1, 1) := by decide +kernel
theorem dX5_isBooked_10 : decode cX5_isBooked 10 = .ok (.invokevirtual 85, 3) := by decide +kernel
theorem dX5_isBooked_13 : decode cX5_isBooked 13 = .ok (.ireturn, 1) := by decide +kernel
theorem dX5_pause_0 : decode cX5_pause 0 = .ok (.aload_n 0, 1) := by decide +kernel
theorem dX5_pause_1 : decode cX5_pause 1 = .ok (.getfield 10, 3) := by decide +kernel
theorem dX5_pause_4 : decode cX5_pause 4 = .ok (.getfield 120, 3) := by decide +kernel
theorem dX5_pause_7 : decode cX5_pause 7 = .ok (.ireturn, 1) := by decide +kernel
set_option maxRecDepth 20000 in
theorem ggX5_booked_J6_bitCount_0f7a4 : GoodIn wsX5_booked wsJ6_bitCount_0f7a4 := goodIn_r _ [6, 7, 8, 9] (by decide +kernel) (by decide +kernel)
set_option maxRecDepth 20000 in
theorem gX5_booked_J6_bitCount_0f7a4 : GoodIn wsX5_booked (va_wsS RX5 143 yJ6_bitCount_0f7a4 wsJ6_bitCount_0f7a4) := goodIn_app (goodIn_of _ (by decide +kernel)) ggX5_booked_J6_bitCount_0f7a4
theorem dX5_booked_0 : decode cX5_booked 0 = .ok (.aload_n 0, 1) := by decide +kernel
theorem dX5_booked_1 : decode cX5_booked 1 = .ok (.getfield 10, 3) := by decide +kernel
theorem dX5_booked_4 : decode cX5_booked 4 = .ok (.getfield 128, 3) := by decide +kernel
theorem dX5_booked_7 : decode cX5_booked 7 = .ok (.invokestatic 143, 3) := by decide +kernel
theorem dX5_booked_10 : decode cX5_booked 10 = .ok (.ireturn, 1) := by decide +kernel
set_option maxRecDepth 20000 in
theorem ggX5_bookedFame_X1_fameOfSet : GoodIn wsX5_bookedFame wsX1_fameOfSet := goodIn_r _ [7, 8, 9, 10, 11, 12, 13, 14, 15, 23, 24, 25, 26, 27, 28] (by decide +kernel) (by decide +kernel)
set_option maxRecDepth 20000 in
theorem gX5_bookedFame_X1_fameOfSet : GoodIn wsX5_bookedFame (wsV RX5 134 RX1 yX1_fameOfSet wsX1_fameOfSet) := goodIn_app (goodIn_of _ (by decide +kernel)) ggX5_bookedFame_X1_fameOfSet
theorem dX5_bookedFame_0 : decode cX5_bookedFame 0 = .ok (.aload_n 0, 1) := by decide +kernel
theorem dX5_bookedFame_1 : decode cX5_bookedFame 1 = .ok (.getfield 10, 3) := by decide +kernel
theorem dX5_bookedFame_4 : decode cX5_bookedFame 4 = .ok (.aload_n 0, 1) := by decide +kernel
theorem dX5_bookedFame_5 : decode cX5_bookedFame 5 = .ok (.getfield 10, 3) := by decide +kernel
theorem dX5_bookedFame_8 : decode cX5_bookedFame 8 = .ok (.getfield 128, 3) := by decide +kernel
theorem dX5_bookedFame_11 : decode cX5_bookedFame 11 = .ok (.invokevirtual 134, 3) := by decide +kernel
theorem dX5_bookedFame_14 : decode cX5_bookedFame 14 = .ok (.ireturn, 1) := by decide +kernel
set_option maxRecDepth 20000 in
theorem ggX5_areInConflict_X5_requireRehearsal : GoodIn wsX5_areInConflict wsX5_requireRehearsal := goodIn_ca (goodIn_r _ [6, 7, 8, 1, 9, 22, 23, 24, 25, 26, 27, 28, 29, 30, 31, 32, 33, 34] (by decide +kernel) (by decide +kernel)) (goodIn_sub (fun _ h => List.mem_cons_of_mem _ (List.mem_append_right _ h)) (by decide +kernel))
set_option maxRecDepth 20000 in
theorem gX5_areInConflict_X5_requireRehearsal : GoodIn wsX5_areInConflict (wsV RX5 75 RX5 yX5_requireRehearsal wsX5_requireRehearsal) := goodIn_app (goodIn_of _ (by decide +kernel)) ggX5_areInConflict_X5_requireRehearsal
set_option maxRecDepth 20000 in
theorem ggX5_areInConflict_X1_clash : GoodIn wsX5_areInConflict wsX1_clash := goodIn_r _ [14, 15, 16, 17, 18, 19, 20, 13, 21, 29, 30, 31, 32, 33, 34] (by decide +kernel) (by decide +kernel)
set_option maxRecDepth 20000 in
theorem gX5_areInConflict_X1_clash : GoodIn wsX5_areInConflict (wsV RX5 197 RX1 yX1_clash wsX1_clash) := goodIn_app (goodIn_of _ (by decide +kernel)) ggX5_areInConflict_X1_clash
theorem dX5_areInConflict_0 : decode cX5_areInConflict 0 = .ok (.aload_n 0, 1) := by decide +kernel
theorem dX5_areInConflict_1 : decode cX5_areInConflict 1 = .ok (.iload_n 1, 1) := by decide +kernel
theorem dX5_areInConflict_2 : decode cX5_areInConflict 2 = .ok (.invokevirtual 75, 3) := by decide +kernel
theorem dX5_areInConflict_5 : decode cX5_areInConflict 5 = .ok (.aload_n 0, 1) := by decide +kernel
theorem dX5_areInConflict_6 : decode cX5_areInConflict 6 = .ok (.iload_n 2, 1) := by decide +kernel
theorem dX5_areInConflict_7 : decode cX5_areInConflict 7 = .ok (.invokevirtual 75, 3) := by decide +kernel
theorem dX5_areInConflict_10 : decode cX5_areInConflict 10 = .ok (.aload_n 0, 1) := by decide +kernel
theorem dX5_areInConflict_11 : decode cX5_areInConflict 11 = .ok (.getfield 10, 3) := by decide +kernel
theorem dX5_areInConflict_14 : decode cX5_areInConflict 14 = .ok (.iload_n 1, 1) := by decide +kernel
theorem dX5_areInConflict_15 : decode cX5_areInConflict 15 = .ok (.iload_n 2, 1) := by decide +kernel
theorem dX5_areInConflict_16 : decode cX5_areInConflict 16 = .ok (.invokevirtual 197, 3) := by decide +kernel
theorem dX5_areInConflict_19 : decode cX5_areInConflict 19 = .ok (.ireturn, 1) := by decide +kernel
set_option maxRecDepth 20000 in
theorem ggX5_conflictsOf_X5_requireRehearsal : GoodIn wsX5_conflictsOf wsX5_requireRehearsal := goodIn_ca (goodIn_r _ [6, 7, 8, 1, 9, 36, 37, 38, 39, 40, 41, 42, 43, 44, 45, 46, 47, 48] (by decide +kernel) (by decide +kernel)) (goodIn_sub (fun _ h => List.mem_cons_of_mem _ (List.mem_append_right _ h)) (by decide +kernel))
set_option maxRecDepth 20000 in
theorem gX5_conflictsOf_X5_requireRehearsal : GoodIn wsX5_conflictsOf (wsV RX5 75 RX5 yX5_requireRehearsal wsX5_requireRehearsal) := goodIn_app (goodIn_of _ (by decide +kernel)) ggX5_conflictsOf_X5_requireRehearsal
set_option maxRecDepth 20000 in
theorem ggX5_conflictsOf_X1_conflictsWith : GoodIn wsX5_conflictsOf wsX1_conflictsWith := goodIn_r _ [14, 15, 16, 17, 18, 13, 19, 20, 21, 22, 23, 24, 25, 26, 27, 5, 28, 43, 44, 45, 46, 47, 48] (by decide +kernel) (by decide +kernel)
set_option maxRecDepth 20000 in
theorem gX5_conflictsOf_X1_conflictsWith : GoodIn wsX5_conflictsOf (wsV RX5 125 RX1 yX1_conflictsWith wsX1_conflictsWith) := goodIn_app (goodIn_of _ (by decide +kernel)) ggX5_conflictsOf_X1_conflictsWith
set_option maxRecDepth 20000 in
theorem ggX5_conflictsOf_J6_bitCount_0f7a4 : GoodIn wsX5_conflictsOf wsJ6_bitCount_0f7a4 := goodIn_r _ [32, 33, 34, 35] (by decide +kernel) (by decide +kernel)
set_option maxRecDepth 20000 in
theorem gX5_conflictsOf_J6_bitCount_0f7a4 : GoodIn wsX5_conflictsOf (va_wsS RX5 143 yJ6_bitCount_0f7a4 wsJ6_bitCount_0f7a4) := goodIn_app (goodIn_of _ (by decide +kernel)) ggX5_conflictsOf_J6_bitCount_0f7a4
theorem dX5_conflictsOf_0 : decode cX5_conflictsOf 0 = .ok (.aload_n 0, 1) := by decide +kernel
theorem dX5_conflictsOf_1 : decode cX5_conflictsOf 1 = .ok (.iload_n 1, 1) := by decide +kernel
theorem dX5_conflictsOf_2 : decode cX5_conflictsOf 2 = .ok (.invokevirtual 75, 3) := by decide +kernel
theorem dX5_conflictsOf_5 : decode cX5_conflictsOf 5 = .ok (.aload_n 0, 1) := by decide +kernel
theorem dX5_conflictsOf_6 : decode cX5_conflictsOf 6 = .ok (.getfield 10, 3) := by decide +kernel
theorem dX5_conflictsOf_9 : decode cX5_conflictsOf 9 = .ok (.iload_n 1, 1) := by decide +kernel
theorem dX5_conflictsOf_10 : decode cX5_conflictsOf 10 = .ok (.invokevirtual 125, 3) := by decide +kernel
theorem dX5_conflictsOf_13 : decode cX5_conflictsOf 13 = .ok (.invokestatic 143, 3) := by decide +kernel
theorem dX5_conflictsOf_16 : decode cX5_conflictsOf 16 = .ok (.ireturn, 1) := by decide +kernel
set_option maxRecDepth 20000 in
theorem ggX5_conflictsByPairs_X1_clash : GoodIn wsX5_conflictsByPairs wsX1_clash := goodIn_r _ [7, 8, 9, 10, 11, 12, 13, 6, 14, 22, 23, 24, 25, 26, 27] (by decide +kernel) (by decide +kernel)
set_option maxRecDepth 20000 in
theorem gX5_conflictsByPairs_X1_clash : GoodIn wsX5_conflictsByPairs (wsV RX5 197 RX1 yX1_clash wsX1_clash) := goodIn_app (goodIn_of _ (by decide +kernel)) ggX5_conflictsByPairs_X1_clash
theorem dX5_conflictsByPairs_0 : decode cX5_conflictsByPairs 0 = .ok (.iconst 0, 1) := by decide +kernel
theorem dX5_conflictsByPairs_1 : decode cX5_conflictsByPairs 1 = .ok (.istore_n 1, 1) := by decide +kernel
theorem dX5_conflictsByPairs_2 : decode cX5_conflictsByPairs 2 = .ok (.iconst 0, 1) := by decide +kernel
theorem dX5_conflictsByPairs_3 : decode cX5_conflictsByPairs 3 = .ok (.istore_n 2, 1) := by decide +kernel
theorem dX5_conflictsByPairs_4 : decode cX5_conflictsByPairs 4 = .ok (.iload_n 2, 1) := by decide +kernel
theorem dX5_conflictsByPairs_5 : decode cX5_conflictsByPairs 5 = .ok (.aload_n 0, 1) := by decide +kernel
theorem dX5_conflictsByPairs_6 : decode cX5_conflictsByPairs 6 = .ok (.getfield 10, 3) := by decide +kernel
theorem dX5_conflictsByPairs_9 : decode cX5_conflictsByPairs 9 = .ok (.getfield 71, 3) := by decide +kernel
theorem dX5_conflictsByPairs_12 : decode cX5_conflictsByPairs 12 = .ok (.if_icmp .ge 45, 3) := by decide +kernel
theorem dX5_conflictsByPairs_15 : decode cX5_conflictsByPairs 15 = .ok (.iload_n 2, 1) := by decide +kernel
theorem dX5_conflictsByPairs_16 : decode cX5_conflictsByPairs 16 = .ok (.iconst 1, 1) := by decide +kernel
theorem dX5_conflictsByPairs_17 : decode cX5_conflictsByPairs 17 = .ok (.iadd, 1) := by decide +kernel
theorem dX5_conflictsByPairs_18 : decode cX5_conflictsByPairs 18 = .ok (.istore_n 3, 1) := by decide +kernel
theorem dX5_conflictsByPairs_19 : decode cX5_conflictsByPairs 19 = .ok (.iload_n 3, 1) := by decide +kernel
theorem dX5_conflictsByPairs_20 : decode cX5_conflictsByPairs 20 = .ok (.aload_n 0, 1) := by decide +kernel
theorem dX5_conflictsByPairs_21 : decode cX5_conflictsByPairs 21 = .ok (.getfield 10, 3) := by decide +kernel
theorem dX5_conflictsByPairs_24 : decode cX5_conflictsByPairs 24 = .ok (.getfield 71, 3) := by decide +kernel
theorem dX5_conflictsByPairs_27 : decode cX5_conflictsByPairs 27 = .ok (.if_icmp .ge 24, 3) := by decide +kernel
theorem dX5_conflictsByPairs_30 : decode cX5_conflictsByPairs 30 = .ok (.aload_n 0, 1) := by decide +kernel
theorem dX5_conflictsByPairs_31 : decode cX5_conflictsByPairs 31 = .ok (.getfield 10, 3) := by decide +kernel
theorem dX5_conflictsByPairs_34 : decode cX5_conflictsByPairs 34 = .ok (.iload_n 2, 1) := by decide +kernel
theorem dX5_conflictsByPairs_35 : decode cX5_conflictsByPairs 35 = .ok (.iload_n 3, 1) := by decide +kernel
theorem dX5_conflictsByPairs_36 : decode cX5_conflictsByPairs 36 = .ok (.invokevirtual 197, 3) := by decide +kernel
theorem dX5_conflictsByPairs_39 : decode cX5_conflictsByPairs 39 = .ok (.ifCond .eq 6, 3) := by decide +kernel
theorem dX5_conflictsByPairs_42 : decode cX5_conflictsByPairs 42 = .ok (.iinc 1 1, 3) := by decide +kernel
theorem dX5_conflictsByPairs_45 : decode cX5_conflictsByPairs 45 = .ok (.iinc 3 1, 3) := by decide +kernel
theorem dX5_conflictsByPairs_48 : decode cX5_conflictsByPairs 48 = .ok (.goto (-29), 3) := by decide +kernel
theorem dX5_conflictsByPairs_51 : decode cX5_conflictsByPairs 51 = .ok (.iinc 2 1, 3) := by decide +kernel
theorem dX5_conflictsByPairs_54 : decode cX5_conflictsByPairs 54 = .ok (.goto (-50), 3) := by decide +kernel
theorem dX5_conflictsByPairs_57 : decode cX5_conflictsByPairs 57 = .ok (.iload_n 1, 1) := by decide +kernel
theorem dX5_conflictsByPairs_58 : decode cX5_conflictsByPairs 58 = .ok (.ireturn, 1) := by decide +kernel
set_option maxRecDepth 20000 in
theorem ggX5_conflictsBySweep_X2_sweptPairs : GoodIn wsX5_conflictsBySweep wsX2_sweptPairs := goodIn_r _ [7, 8, 9, 10, 11, 12, 13, 14, 15, 16, 17, 18, 19, 20, 28, 29, 30, 31, 32, 33] (by decide +kernel) (by decide +kernel)
set_option maxRecDepth 20000 in
theorem gX5_conflictsBySweep_X2_sweptPairs : GoodIn wsX5_conflictsBySweep (wsV RX5 201 RX2 yX2_sweptPairs wsX2_sweptPairs) := goodIn_app (goodIn_of _ (by decide +kernel)) ggX5_conflictsBySweep_X2_sweptPairs
theorem dX5_conflictsBySweep_0 : decode cX5_conflictsBySweep 0 = .ok (.aload_n 0, 1) := by decide +kernel
theorem dX5_conflictsBySweep_1 : decode cX5_conflictsBySweep 1 = .ok (.getfield 41, 3) := by decide +kernel
theorem dX5_conflictsBySweep_4 : decode cX5_conflictsBySweep 4 = .ok (.aload_n 0, 1) := by decide +kernel
theorem dX5_conflictsBySweep_5 : decode cX5_conflictsBySweep 5 = .ok (.getfield 10, 3) := by decide +kernel
theorem dX5_conflictsBySweep_8 : decode cX5_conflictsBySweep 8 = .ok (.invokevirtual 201, 3) := by decide +kernel
theorem dX5_conflictsBySweep_11 : decode cX5_conflictsBySweep 11 = .ok (.ireturn, 1) := by decide +kernel
set_option maxRecDepth 20000 in
theorem ggX5_roomsBySweep_X2_sweptRooms : GoodIn wsX5_roomsBySweep wsX2_sweptRooms := goodIn_r _ [7, 8, 9, 10, 11, 12, 13, 14, 15, 16, 17, 18, 19, 20, 21, 22, 23, 24, 32, 33, 34, 35, 36, 37] (by decide +kernel) (by decide +kernel)
set_option maxRecDepth 20000 in
theorem gX5_roomsBySweep_X2_sweptRooms : GoodIn wsX5_roomsBySweep (wsV RX5 204 RX2 yX2_sweptRooms wsX2_sweptRooms) := goodIn_app (goodIn_of _ (by decide +kernel)) ggX5_roomsBySweep_X2_sweptRooms
theorem dX5_roomsBySweep_0 : decode cX5_roomsBySweep 0 = .ok (.aload_n 0, 1) := by decide +kernel
theorem dX5_roomsBySweep_1 : decode cX5_roomsBySweep 1 = .ok (.getfield 41, 3) := by decide +kernel
theorem dX5_roomsBySweep_4 : decode cX5_roomsBySweep 4 = .ok (.aload_n 0, 1) := by decide +kernel
theorem dX5_roomsBySweep_5 : decode cX5_roomsBySweep 5 = .ok (.getfield 10, 3) := by decide +kernel
theorem dX5_roomsBySweep_8 : decode cX5_roomsBySweep 8 = .ok (.invokevirtual 204, 3) := by decide +kernel
theorem dX5_roomsBySweep_11 : decode cX5_roomsBySweep 11 = .ok (.ireturn, 1) := by decide +kernel
set_option maxRecDepth 20000 in
theorem ggX5_roomsByGiving_X2_givenRooms : GoodIn wsX5_roomsByGiving wsX2_givenRooms := goodIn_r _ [7, 8, 9, 10, 11, 12, 13, 14, 15, 16, 6, 17, 18, 19, 20, 21, 22, 23, 24, 25, 26, 27, 28, 29, 30, 31, 32, 33, 34, 35, 36, 37, 38, 39, 40, 41, 42, 43, 51, 52, 53, 54, 55, 56, 57, 58] (by decide +kernel) (by decide +kernel)
set_option maxRecDepth 20000 in
theorem gX5_roomsByGiving_X2_givenRooms : GoodIn wsX5_roomsByGiving (wsV RX5 207 RX2 yX2_givenRooms wsX2_givenRooms) := goodIn_app (goodIn_of _ (by decide +kernel)) ggX5_roomsByGiving_X2_givenRooms
theorem dX5_roomsByGiving_0 : decode cX5_roomsByGiving 0 = .ok (.aload_n 0, 1) := by decide +kernel
theorem dX5_roomsByGiving_1 : decode cX5_roomsByGiving 1 = .ok (.getfield 41, 3) := by decide +kernel
theorem dX5_roomsByGiving_4 : decode cX5_roomsByGiving 4 = .ok (.aload_n 0, 1) := by decide +kernel
theorem dX5_roomsByGiving_5 : decode cX5_roomsByGiving 5 = .ok (.getfield 10, 3) := by decide +kernel
theorem dX5_roomsByGiving_8 : decode cX5_roomsByGiving 8 = .ok (.invokevirtual 207, 3) := by decide +kernel
theorem dX5_roomsByGiving_11 : decode cX5_roomsByGiving 11 = .ok (.ireturn, 1) := by decide +kernel
set_option maxRecDepth 20000 in
theorem ggX5_roomOf_X5_requireRehearsal : GoodIn wsX5_roomOf wsX5_requireRehearsal := goodIn_ca (goodIn_r _ [7, 8, 9, 2, 10, 47, 48, 49, 50, 51, 52, 53, 54, 55, 56, 57, 58, 59] (by decide +kernel) (by decide +kernel)) (goodIn_sub (fun _ h => List.mem_cons_of_mem _ (List.mem_append_right _ h)) (by decide +kernel))
set_option maxRecDepth 20000 in
theorem gX5_roomOf_X5_requireRehearsal : GoodIn wsX5_roomOf (wsV RX5 75 RX5 yX5_requireRehearsal wsX5_requireRehearsal) := goodIn_app (goodIn_of _ (by decide +kernel)) ggX5_roomOf_X5_requireRehearsal
set_option maxRecDepth 20000 in
theorem ggX5_roomOf_X2_givenTo : GoodIn wsX5_roomOf wsX2_givenTo := goodIn_r _ [15, 16, 17, 18, 19, 14, 20, 21, 22, 23, 24, 6, 25, 26, 27, 28, 29, 30, 31, 32, 33, 34, 35, 36, 37, 38, 39, 40, 41, 42, 43, 44, 45, 46, 60, 61, 54, 55, 56, 57, 58, 59] (by decide +kernel) (by decide +kernel)
set_option maxRecDepth 20000 in
theorem gX5_roomOf_X2_givenTo : GoodIn wsX5_roomOf (wsV RX5 210 RX2 yX2_givenTo wsX2_givenTo) := goodIn_app (goodIn_of _ (by decide +kernel)) ggX5_roomOf_X2_givenTo
theorem dX5_roomOf_0 : decode cX5_roomOf 0 = .ok (.aload_n 0, 1) := by decide +kernel
theorem dX5_roomOf_1 : decode cX5_roomOf 1 = .ok (.iload_n 1, 1) := by decide +kernel
theorem dX5_roomOf_2 : decode cX5_roomOf 2 = .ok (.invokevirtual 75, 3) := by decide +kernel
theorem dX5_roomOf_5 : decode cX5_roomOf 5 = .ok (.aload_n 0, 1) := by decide +kernel
theorem dX5_roomOf_6 : decode cX5_roomOf 6 = .ok (.getfield 41, 3) := by decide +kernel
theorem dX5_roomOf_9 : decode cX5_roomOf 9 = .ok (.aload_n 0, 1) := by decide +kernel
theorem dX5_roomOf_10 : decode cX5_roomOf 10 = .ok (.getfield 10, 3) := by decide +kernel
theorem dX5_roomOf_13 : decode cX5_roomOf 13 = .ok (.iload_n 1, 1) := by decide +kernel
theorem dX5_roomOf_14 : decode cX5_roomOf 14 = .ok (.invokevirtual 210, 3) := by decide +kernel
theorem dX5_roomOf_17 : decode cX5_roomOf 17 = .ok (.ireturn, 1) := by decide +kernel
set_option maxRecDepth 20000 in
theorem ggX5_bestByTrying_X0_triedFame : GoodIn wsX5_bestByTrying wsX0_triedFame := goodIn_r _ [7, 8, 9, 10, 11, 12, 13, 14, 15, 16, 17, 18, 19, 20, 21, 22, 23, 24, 25, 26, 27, 28, 29, 30, 31, 32, 6, 33, 34, 35, 36, 37, 38, 39, 40, 48, 49, 50, 51, 52, 53, 54, 55, 56] (by decide +kernel) (by decide +kernel)
set_option maxRecDepth 20000 in
theorem gX5_bestByTrying_X0_triedFame : GoodIn wsX5_bestByTrying (wsV RX5 214 RX0 yX0_triedFame wsX0_triedFame) := goodIn_app (goodIn_of _ (by decide +kernel)) ggX5_bestByTrying_X0_triedFame
theorem dX5_bestByTrying_0 : decode cX5_bestByTrying 0 = .ok (.aload_n 0, 1) := by decide +kernel
theorem dX5_bestByTrying_1 : decode cX5_bestByTrying 1 = .ok (.getfield 48, 3) := by decide +kernel
theorem dX5_bestByTrying_4 : decode cX5_bestByTrying 4 = .ok (.aload_n 0, 1) := by decide +kernel
theorem dX5_bestByTrying_5 : decode cX5_bestByTrying 5 = .ok (.getfield 10, 3) := by decide +kernel
theorem dX5_bestByTrying_8 : decode cX5_bestByTrying 8 = .ok (.invokevirtual 214, 3) := by decide +kernel
theorem dX5_bestByTrying_11 : decode cX5_bestByTrying 11 = .ok (.ireturn, 1) := by decide +kernel
set_option maxRecDepth 20000 in
theorem ggX5_bestByTable_X1_all : GoodIn wsX5_bestByTable wsX1_all := goodIn_r _ [7, 8, 9, 10, 11, 44, 45, 46, 47, 48, 49] (by decide +kernel) (by decide +kernel)
set_option maxRecDepth 20000 in
theorem gX5_bestByTable_X1_all : GoodIn wsX5_bestByTable (wsV RX5 217 RX1 yX1_all wsX1_all) := goodIn_app (goodIn_of _ (by decide +kernel)) ggX5_bestByTable_X1_all
set_option maxRecDepth 20000 in
theorem ggX5_bestByTable_X0_fameAmong : GoodIn wsX5_bestByTable wsX0_fameAmong := goodIn_r _ [16, 17, 18, 19, 20, 21, 22, 23, 24, 25, 26, 27, 10, 28, 29, 30, 31, 9, 11, 32, 33, 34, 15, 35, 36, 44, 45, 46, 47, 48, 49, 50, 51, 52] (by decide +kernel) (by decide +kernel)
set_option maxRecDepth 20000 in
theorem gX5_bestByTable_X0_fameAmong : GoodIn wsX5_bestByTable (wsV RX5 220 RX0 yX0_fameAmong wsX0_fameAmong) := goodIn_app (goodIn_of _ (by decide +kernel)) ggX5_bestByTable_X0_fameAmong
theorem dX5_bestByTable_0 : decode cX5_bestByTable 0 = .ok (.aload_n 0, 1) := by decide +kernel
theorem dX5_bestByTable_1 : decode cX5_bestByTable 1 = .ok (.getfield 48, 3) := by decide +kernel
theorem dX5_bestByTable_4 : decode cX5_bestByTable 4 = .ok (.aload_n 0, 1) := by decide +kernel
theorem dX5_bestByTable_5 : decode cX5_bestByTable 5 = .ok (.getfield 10, 3) := by decide +kernel
theorem dX5_bestByTable_8 : decode cX5_bestByTable 8 = .ok (.aload_n 0, 1) := by decide +kernel
theorem dX5_bestByTable_9 : decode cX5_bestByTable 9 = .ok (.getfield 10, 3) := by decide +kernel
theorem dX5_bestByTable_12 : decode cX5_bestByTable 12 = .ok (.invokevirtual 217, 3) := by decide +kernel
theorem dX5_bestByTable_15 : decode cX5_bestByTable 15 = .ok (.invokevirtual 220, 3) := by decide +kernel
theorem dX5_bestByTable_18 : decode cX5_bestByTable 18 = .ok (.ireturn, 1) := by decide +kernel
set_option maxRecDepth 20000 in
theorem ggX5_bestChoice_X0_bestSet : GoodIn wsX5_bestChoice wsX0_bestSet := goodIn_r _ [7, 8, 9, 10, 11, 12, 13, 14, 15, 16, 17, 18, 19, 20, 6, 21, 22, 23, 24, 25, 26, 27, 28, 29, 30, 31, 32, 33, 34, 35, 36, 37, 38, 39, 40, 48, 49, 50, 51, 52, 53, 54, 55, 56] (by decide +kernel) (by decide +kernel)
set_option maxRecDepth 20000 in
theorem gX5_bestChoice_X0_bestSet : GoodIn wsX5_bestChoice (wsV RX5 139 RX0 yX0_bestSet wsX0_bestSet) := goodIn_app (goodIn_of _ (by decide +kernel)) ggX5_bestChoice_X0_bestSet
theorem dX5_bestChoice_0 : decode cX5_bestChoice 0 = .ok (.aload_n 0, 1) := by decide +kernel
theorem dX5_bestChoice_1 : decode cX5_bestChoice 1 = .ok (.getfield 48, 3) := by decide +kernel
theorem dX5_bestChoice_4 : decode cX5_bestChoice 4 = .ok (.aload_n 0, 1) := by decide +kernel
theorem dX5_bestChoice_5 : decode cX5_bestChoice 5 = .ok (.getfield 10, 3) := by decide +kernel
theorem dX5_bestChoice_8 : decode cX5_bestChoice 8 = .ok (.invokevirtual 139, 3) := by decide +kernel
theorem dX5_bestChoice_11 : decode cX5_bestChoice 11 = .ok (.ireturn, 1) := by decide +kernel
set_option maxRecDepth 20000 in
theorem ggX5_mostRehearsals_X0_mostInOne : GoodIn wsX5_mostRehearsals wsX0_mostInOne := goodIn_r _ [7, 8, 9, 10, 11, 12, 13, 14, 15, 23, 24, 25, 26, 27, 28, 29, 30, 31] (by decide +kernel) (by decide +kernel)
set_option maxRecDepth 20000 in
theorem gX5_mostRehearsals_X0_mostInOne : GoodIn wsX5_mostRehearsals (wsV RX5 223 RX0 yX0_mostInOne wsX0_mostInOne) := goodIn_app (goodIn_of _ (by decide +kernel)) ggX5_mostRehearsals_X0_mostInOne
theorem dX5_mostRehearsals_0 : decode cX5_mostRehearsals 0 = .ok (.aload_n 0, 1) := by decide +kernel
theorem dX5_mostRehearsals_1 : decode cX5_mostRehearsals 1 = .ok (.getfield 48, 3) := by decide +kernel
theorem dX5_mostRehearsals_4 : decode cX5_mostRehearsals 4 = .ok (.aload_n 0, 1) := by decide +kernel
theorem dX5_mostRehearsals_5 : decode cX5_mostRehearsals 5 = .ok (.getfield 10, 3) := by decide +kernel
theorem dX5_mostRehearsals_8 : decode cX5_mostRehearsals 8 = .ok (.invokevirtual 223, 3) := by decide +kernel
theorem dX5_mostRehearsals_11 : decode cX5_mostRehearsals 11 = .ok (.ireturn, 1) := by decide +kernel
set_option maxRecDepth 20000 in
theorem ggX5_bestWith_X5_requireRehearsal : GoodIn wsX5_bestWith wsX5_requireRehearsal := goodIn_ca (goodIn_r _ [8, 9, 10, 1, 11, 60, 61, 62, 63, 64, 65, 66, 67, 68, 69, 70, 71, 72] (by decide +kernel) (by decide +kernel)) (goodIn_sub (fun _ h => List.mem_cons_of_mem _ (List.mem_append_right _ h)) (by decide +kernel))
set_option maxRecDepth 20000 in
theorem gX5_bestWith_X5_requireRehearsal : GoodIn wsX5_bestWith (wsV RX5 75 RX5 yX5_requireRehearsal wsX5_requireRehearsal) := goodIn_app (goodIn_of _ (by decide +kernel)) ggX5_bestWith_X5_requireRehearsal
set_option maxRecDepth 20000 in
theorem ggX5_bestWith_X1_all : GoodIn wsX5_bestWith wsX1_all := goodIn_r _ [16, 17, 18, 7, 19, 67, 68, 69, 70, 71, 72] (by decide +kernel) (by decide +kernel)
set_option maxRecDepth 20000 in
theorem gX5_bestWith_X1_all : GoodIn wsX5_bestWith (wsV RX5 217 RX1 yX1_all wsX1_all) := goodIn_app (goodIn_of _ (by decide +kernel)) ggX5_bestWith_X1_all
set_option maxRecDepth 20000 in
theorem ggX5_bestWith_X5_bit : GoodIn wsX5_bestWith wsX5_bit := goodIn_r _ [19] (by decide +kernel) (by decide +kernel)
set_option maxRecDepth 20000 in
theorem gX5_bestWith_X5_bit : GoodIn wsX5_bestWith (va_wsS RX5 131 yX5_bit wsX5_bit) := goodIn_app (goodIn_of _ (by decide +kernel)) ggX5_bestWith_X5_bit
set_option maxRecDepth 20000 in
theorem ggX5_bestWith_X1_conflictsWith : GoodIn wsX5_bestWith wsX1_conflictsWith := goodIn_r _ [24, 17, 25, 26, 27, 15, 28, 29, 30, 31, 32, 33, 34, 35, 18, 7, 19, 67, 68, 69, 70, 71, 72] (by decide +kernel) (by decide +kernel)
set_option maxRecDepth 20000 in
theorem gX5_bestWith_X1_conflictsWith : GoodIn wsX5_bestWith (wsV RX5 125 RX1 yX1_conflictsWith wsX1_conflictsWith) := goodIn_app (goodIn_of _ (by decide +kernel)) ggX5_bestWith_X1_conflictsWith
set_option maxRecDepth 20000 in
theorem ggX5_bestWith_X0_fameAmong : GoodIn wsX5_bestWith wsX0_fameAmong := goodIn_r _ [40, 41, 42, 43, 44, 45, 46, 47, 48, 49, 50, 51, 7, 52, 53, 54, 20, 18, 19, 55, 56, 57, 39, 58, 59, 67, 68, 69, 70, 71, 72, 73, 74, 75] (by decide +kernel) (by decide +kernel)
set_option maxRecDepth 20000 in
theorem gX5_bestWith_X0_fameAmong : GoodIn wsX5_bestWith (wsV RX5 220 RX0 yX0_fameAmong wsX0_fameAmong) := goodIn_app (goodIn_of _ (by decide +kernel)) ggX5_bestWith_X0_fameAmong
theorem dX5_bestWith_0 : decode cX5_bestWith 0 = .ok (.aload_n 0, 1) := by decide +kernel
theorem dX5_bestWith_1 : decode cX5_bestWith 1 = .ok (.iload_n 1, 1) := by decide +kernel
theorem dX5_bestWith_2 : decode cX5_bestWith 2 = .ok (.invokevirtual 75, 3) := by decide +kernel
theorem dX5_bestWith_5 : decode cX5_bestWith 5 = .ok (.aload_n 0, 1) := by decide +kernel
theorem dX5_bestWith_6 : decode cX5_bestWith 6 = .ok (.getfield 10, 3) := by decide +kernel
theorem dX5_bestWith_9 : decode cX5_bestWith 9 = .ok (.invokevirtual 217, 3) := by decide +kernel
theorem dX5_bestWith_12 : decode cX5_bestWith 12 = .ok (.iload_n 1, 1) := by decide +kernel
theorem dX5_bestWith_13 : decode cX5_bestWith 13 = .ok (.invokestatic 131, 3) := by decide +kernel
theorem dX5_bestWith_16 : decode cX5_bestWith 16 = .ok (.iconst (-1), 1) := by decide +kernel
theorem dX5_bestWith_17 : decode cX5_bestWith 17 = .ok (.ixor, 1) := by decide +kernel
theorem dX5_bestWith_18 : decode cX5_bestWith 18 = .ok (.iand, 1) := by decide +kernel
theorem dX5_bestWith_19 : decode cX5_bestWith 19 = .ok (.aload_n 0, 1) := by decide +kernel
theorem dX5_bestWith_20 : decode cX5_bestWith 20 = .ok (.getfield 10, 3) := by decide +kernel
theorem dX5_bestWith_23 : decode cX5_bestWith 23 = .ok (.iload_n 1, 1) := by decide +kernel
theorem dX5_bestWith_24 : decode cX5_bestWith 24 = .ok (.invokevirtual 125, 3) := by decide +kernel
theorem dX5_bestWith_27 : decode cX5_bestWith 27 = .ok (.iconst (-1), 1) := by decide +kernel
theorem dX5_bestWith_28 : decode cX5_bestWith 28 = .ok (.ixor, 1) := by decide +kernel
theorem dX5_bestWith_29 : decode cX5_bestWith 29 = .ok (.iand, 1) := by decide +kernel
theorem dX5_bestWith_30 : decode cX5_bestWith 30 = .ok (.istore_n 2, 1) := by decide +kernel
theorem dX5_bestWith_31 : decode cX5_bestWith 31 = .ok (.aload_n 0, 1) := by decide +kernel
theorem dX5_bestWith_32 : decode cX5_bestWith 32 = .ok (.getfield 10, 3) := by decide +kernel
theorem dX5_bestWith_35 : decode cX5_bestWith 35 = .ok (.getfield 78, 3) := by decide +kernel
theorem dX5_bestWith_38 : decode cX5_bestWith 38 = .ok (.iload_n 1, 1) := by decide +kernel
theorem dX5_bestWith_39 : decode cX5_bestWith 39 = .ok (.iaload, 1) := by decide +kernel
theorem dX5_bestWith_40 : decode cX5_bestWith 40 = .ok (.aload_n 0, 1) := by decide +kernel
theorem dX5_bestWith_41 : decode cX5_bestWith 41 = .ok (.getfield 48, 3) := by decide +kernel
theorem dX5_bestWith_44 : decode cX5_bestWith 44 = .ok (.aload_n 0, 1) := by decide +kernel
theorem dX5_bestWith_45 : decode cX5_bestWith 45 = .ok (.getfield 10, 3) := by decide +kernel
theorem dX5_bestWith_48 : decode cX5_bestWith 48 = .ok (.iload_n 2, 1) := by decide +kernel
theorem dX5_bestWith_49 : decode cX5_bestWith 49 = .ok (.invokevirtual 220, 3) := by decide +kernel
theorem dX5_bestWith_52 : decode cX5_bestWith 52 = .ok (.iadd, 1) := by decide +kernel
theorem dX5_bestWith_53 : decode cX5_bestWith 53 = .ok (.ireturn, 1) := by decide +kernel
set_option maxRecDepth 20000 in
theorem ggX5_bookedShare_X1_quartersOfSet : GoodIn wsX5_bookedShare wsX1_quartersOfSet := goodIn_r _ [8, 9, 10, 11, 12, 13, 14, 15, 16, 17, 18, 7, 19, 20, 21, 29, 30, 31, 32, 33, 34] (by decide +kernel) (by decide +kernel)
set_option maxRecDepth 20000 in
theorem gX5_bookedShare_X1_quartersOfSet : GoodIn wsX5_bookedShare (wsV RX5 226 RX1 yX1_quartersOfSet wsX1_quartersOfSet) := goodIn_app (goodIn_of _ (by decide +kernel)) ggX5_bookedShare_X1_quartersOfSet
theorem dX5_bookedShare_0 : decode cX5_bookedShare 0 = .ok (.aload_n 0, 1) := by decide +kernel
theorem dX5_bookedShare_1 : decode cX5_bookedShare 1 = .ok (.getfield 10, 3) := by decide +kernel
theorem dX5_bookedShare_4 : decode cX5_bookedShare 4 = .ok (.aload_n 0, 1) := by decide +kernel
theorem dX5_bookedShare_5 : decode cX5_bookedShare 5 = .ok (.getfield 10, 3) := by decide +kernel
theorem dX5_bookedShare_8 : decode cX5_bookedShare 8 = .ok (.getfield 128, 3) := by decide +kernel
theorem dX5_bookedShare_11 : decode cX5_bookedShare 11 = .ok (.invokevirtual 226, 3) := by decide +kernel
theorem dX5_bookedShare_14 : decode cX5_bookedShare 14 = .ok (.i2d, 1) := by decide +kernel
theorem dX5_bookedShare_15 : decode cX5_bookedShare 15 = .ok (.ldc2_w 229, 3) := by decide +kernel
theorem dX5_bookedShare_18 : decode cX5_bookedShare 18 = .ok (.ddiv, 1) := by decide +kernel
theorem dX5_bookedShare_19 : decode cX5_bookedShare 19 = .ok (.dreturn, 1) := by decide +kernel
set_option maxRecDepth 20000 in
theorem ggX5_digest_X5_rehearsals : GoodIn wsX5_digest wsX5_rehearsals := goodIn_r _ [12, 2, 3, 268, 269, 270, 271, 272, 273, 274, 275, 276, 277, 278, 279, 280] (by decide +kernel) (by decide +kernel)
set_option maxRecDepth 20000 in
theorem gX5_digest_X5_rehearsals : GoodIn wsX5_digest (wsV RX5 233 RX5 yX5_rehearsals wsX5_rehearsals) := goodIn_app (goodIn_of _ (by decide +kernel)) ggX5_digest_X5_rehearsals
set_option maxRecDepth 20000 in
theorem ggX5_digest_X5_mix : GoodIn wsX5_digest wsX5_mix := goodIn_r _ [15, 16] (by decide +kernel) (by decide +kernel)
set_option maxRecDepth 20000 in
theorem gX5_digest_X5_mix : GoodIn wsX5_digest (va_wsS RX5 236 yX5_mix wsX5_mix) := goodIn_app (goodIn_of _ (by decide +kernel)) ggX5_digest_X5_mix
set_option maxRecDepth 20000 in
theorem ggX5_digest_X5_mixRehearsal : GoodIn wsX5_digest wsX5_mixRehearsal := goodIn_ca (goodIn_r _ [20, 21, 22, 23, 11, 24, 2, 25, 26, 27, 28, 29, 30, 31, 3, 13, 14, 15, 16, 32, 33, 34, 35, 36, 37, 38, 39, 40, 41, 42, 43, 44, 45, 46, 47, 48, 49, 50, 51, 52, 53, 54, 55, 56, 57, 58, 59, 60, 61, 62, 63, 64, 65, 66, 67, 68, 69, 70, 71, 72, 73, 74, 75, 76, 77, 78, 79, 80, 81, 82, 83, 84, 85, 86, 87, 88, 89, 90, 91, 92, 93, 94, 95, 96, 97, 98, 99, 100, 101, 102, 103, 104, 105, 106, 107, 108, 109, 110, 111, 112, 113, 114, 115, 116, 117, 118, 119, 120, 121, 122, 123, 124, 125, 126, 127, 128, 129, 130, 131, 132, 133, 134, 135, 136, 137, 138, 139, 140, 141, 142, 143, 144, 145, 146, 147, 148, 149, 150, 151, 152, 268, 269, 270, 271, 272, 273, 274, 275, 276, 277, 278, 279, 280, 286, 287, 288, 289, 290] (by decide +kernel) (by decide +kernel)) (goodIn_sub (fun _ h => List.mem_cons_of_mem _ (List.mem_append_right _ h)) (by decide +kernel))
set_option maxRecDepth 20000 in
theorem gX5_digest_X5_mixRehearsal : GoodIn wsX5_digest (wsV RX5 240 RX5 yX5_mixRehearsal wsX5_mixRehearsal) := goodIn_app (goodIn_of _ (by decide +kernel)) ggX5_digest_X5_mixRehearsal
set_option maxRecDepth 20000 in
theorem ggX5_digest_X5_mixWhole : GoodIn wsX5_digest wsX5_mixWhole := goodIn_r _ [156, 157, 158, 159, 11, 160, 2, 161, 13, 14, 15, 16, 162, 163, 164, 165, 166, 92, 93, 94, 95, 96, 97, 98, 167, 168, 169, 170, 171, 172, 173, 49, 174, 82, 175, 69, 70, 71, 72, 73, 176, 177, 178, 179, 3, 180, 84, 85, 86, 52, 51, 87, 88, 89, 90, 91, 181, 182, 183, 184, 103, 185, 186, 187, 107, 188, 189, 190, 191, 192, 193, 194, 195, 196, 197, 198, 199, 200, 201, 202, 203, 204, 205, 145, 146, 147, 206, 207, 208, 209, 210, 211, 212, 213, 115, 109, 110, 111, 112, 113, 114, 116, 117, 118, 119, 120, 121, 122, 123, 214, 215, 216, 217, 128, 218, 219, 220, 136, 221, 139, 222, 142, 223, 79, 80, 81, 83, 224, 225, 226, 144, 227, 228, 229, 230, 129, 130, 131, 132, 133, 134, 135, 137, 138, 140, 141, 143, 148, 149, 150, 151, 152, 231, 232, 233, 234, 235, 236, 237, 238, 239, 240, 241, 242, 243, 244, 245, 246, 247, 248, 249, 250, 251, 252, 253, 254, 255, 256, 257, 258, 259, 260, 261, 262, 263, 264, 47, 48, 50, 265, 266, 267, 56, 57, 58, 59, 268, 269, 270, 271, 272, 273, 274, 275, 276, 277, 278, 279, 280, 286, 287, 288, 289, 290, 291, 292, 293] (by decide +kernel) (by decide +kernel)
set_option maxRecDepth 20000 in
theorem gX5_digest_X5_mixWhole : GoodIn wsX5_digest (wsV RX5 244 RX5 yX5_mixWhole wsX5_mixWhole) := goodIn_app (goodIn_of _ (by decide +kernel)) ggX5_digest_X5_mixWhole
theorem dX5_digest_0 : decode cX5_digest 0 = .ok (.ldc2_w 231, 3) := by decide +kernel
theorem dX5_digest_3 : decode cX5_digest 3 = .ok (.aload_n 0, 1) := by decide +kernel
theorem dX5_digest_4 : decode cX5_digest 4 = .ok (.invokevirtual 233, 3) := by decide +kernel
theorem dX5_digest_7 : decode cX5_digest 7 = .ok (.i2l, 1) := by decide +kernel
theorem dX5_digest_8 : decode cX5_digest 8 = .ok (.invokestatic 236, 3) := by decide +kernel
theorem dX5_digest_11 : decode cX5_digest 11 = .ok (.lstore_n 1, 1) := by decide +kernel
theorem dX5_digest_12 : decode cX5_digest 12 = .ok (.iconst 0, 1) := by decide +kernel
theorem dX5_digest_13 : decode cX5_digest 13 = .ok (.istore_n 3, 1) := by decide +kernel
theorem dX5_digest_14 : decode cX5_digest 14 = .ok (.iload_n 3, 1) := by decide +kernel
theorem dX5_digest_15 : decode cX5_digest 15 = .ok (.aload_n 0, 1) := by decide +kernel
theorem dX5_digest_16 : decode cX5_digest 16 = .ok (.getfield 10, 3) := by decide +kernel
theorem dX5_digest_19 : decode cX5_digest 19 = .ok (.getfield 71, 3) := by decide +kernel
theorem dX5_digest_22 : decode cX5_digest 22 = .ok (.if_icmp .ge 16, 3) := by decide +kernel
theorem dX5_digest_25 : decode cX5_digest 25 = .ok (.aload_n 0, 1) := by decide +kernel
theorem dX5_digest_26 : decode cX5_digest 26 = .ok (.lload_n 1, 1) := by decide +kernel
theorem dX5_digest_27 : decode cX5_digest 27 = .ok (.iload_n 3, 1) := by decide +kernel
theorem dX5_digest_28 : decode cX5_digest 28 = .ok (.invokevirtual 240, 3) := by decide +kernel
theorem dX5_digest_31 : decode cX5_digest 31 = .ok (.lstore_n 1, 1) := by decide +kernel
theorem dX5_digest_32 : decode cX5_digest 32 = .ok (.iinc 3 1, 3) := by decide +kernel
theorem dX5_digest_35 : decode cX5_digest 35 = .ok (.goto (-21), 3) := by decide +kernel
theorem dX5_digest_38 : decode cX5_digest 38 = .ok (.aload_n 0, 1) := by decide +kernel
theorem dX5_digest_39 : decode cX5_digest 39 = .ok (.lload_n 1, 1) := by decide +kernel
theorem dX5_digest_40 : decode cX5_digest 40 = .ok (.invokevirtual 244, 3) := by decide +kernel
theorem dX5_digest_43 : decode cX5_digest 43 = .ok (.lstore_n 1, 1) := by decide +kernel
theorem dX5_digest_44 : decode cX5_digest 44 = .ok (.iconst 0, 1) := by decide +kernel
theorem dX5_digest_45 : decode cX5_digest 45 = .ok (.istore_n 3, 1) := by decide +kernel
theorem dX5_digest_46 : decode cX5_digest 46 = .ok (.iload_n 3, 1) := by decide +kernel
theorem dX5_digest_47 : decode cX5_digest 47 = .ok (.iconst 2, 1) := by decide +kernel
theorem dX5_digest_48 : decode cX5_digest 48 = .ok (.if_icmp .ge 28, 3) := by decide +kernel
theorem dX5_digest_51 : decode cX5_digest 51 = .ok (.lload_n 1, 1) := by decide +kernel
theorem dX5_digest_52 : decode cX5_digest 52 = .ok (.aload_n 0, 1) := by decide +kernel
theorem dX5_digest_53 : decode cX5_digest 53 = .ok (.getfield 27, 3) := by decide +kernel
theorem dX5_digest_56 : decode cX5_digest 56 = .ok (.iload_n 3, 1) := by decide +kernel
theorem dX5_digest_57 : decode cX5_digest 57 = .ok (.baload, 1) := by decide +kernel
theorem dX5_digest_58 : decode cX5_digest 58 = .ok (.ifCond .eq 7, 3) := by decide +kernel
theorem dX5_digest_61 : decode cX5_digest 61 = .ok (.lconst 1, 1) := by decide +kernel
theorem dX5_digest_62 : decode cX5_digest 62 = .ok (.goto 4, 3) := by decide +kernel
theorem dX5_digest_65 : decode cX5_digest 65 = .ok (.lconst 0, 1) := by decide +kernel
theorem dX5_digest_66 : decode cX5_digest 66 = .ok (.invokestatic 236, 3) := by decide +kernel
theorem dX5_digest_69 : decode cX5_digest 69 = .ok (.lstore_n 1, 1) := by decide +kernel
theorem dX5_digest_70 : decode cX5_digest 70 = .ok (.iinc 3 1, 3) := by decide +kernel
theorem dX5_digest_73 : decode cX5_digest 73 = .ok (.goto (-27), 3) := by decide +kernel
theorem dX5_digest_76 : decode cX5_digest 76 = .ok (.lload_n 1, 1) := by decide +kernel
theorem dX5_digest_77 : decode cX5_digest 77 = .ok (.aload_n 0, 1) := by decide +kernel
theorem dX5_digest_78 : decode cX5_digest 78 = .ok (.getfield 34, 3) := by decide +kernel
theorem dX5_digest_81 : decode cX5_digest 81 = .ok (.getfield 150, 3) := by decide +kernel
theorem dX5_digest_84 : decode cX5_digest 84 = .ok (.i2l, 1) := by decide +kernel
theorem dX5_digest_85 : decode cX5_digest 85 = .ok (.invokestatic 236, 3) := by decide +kernel
theorem dX5_digest_88 : decode cX5_digest 88 = .ok (.lstore_n 1, 1) := by decide +kernel
theorem dX5_digest_89 : decode cX5_digest 89 = .ok (.iconst 0, 1) := by decide +kernel
theorem dX5_digest_90 : decode cX5_digest 90 = .ok (.istore_n 3, 1) := by decide +kernel
theorem dX5_digest_91 : decode cX5_digest 91 = .ok (.iload_n 3, 1) := by decide +kernel
theorem dX5_digest_92 : decode cX5_digest 92 = .ok (.aload_n 0, 1) := by decide +kernel
theorem dX5_digest_93 : decode cX5_digest 93 = .ok (.getfield 34, 3) := by decide +kernel
theorem dX5_digest_96 : decode cX5_digest 96 = .ok (.getfield 150, 3) := by decide +kernel
theorem dX5_digest_99 : decode cX5_digest 99 = .ok (.if_icmp .ge 24, 3) := by decide +kernel
theorem dX5_digest_102 : decode cX5_digest 102 = .ok (.lload_n 1, 1) := by decide +kernel
theorem dX5_digest_103 : decode cX5_digest 103 = .ok (.aload_n 0, 1) := by decide +kernel
theorem dX5_digest_104 : decode cX5_digest 104 = .ok (.getfield 34, 3) := by decide +kernel
theorem dX5_digest_107 : decode cX5_digest 107 = .ok (.getfield 248, 3) := by decide +kernel
theorem dX5_digest_110 : decode cX5_digest 110 = .ok (.iload_n 3, 1) := by decide +kernel
theorem dX5_digest_111 : decode cX5_digest 111 = .ok (.iaload, 1) := by decide +kernel
theorem dX5_digest_112 : decode cX5_digest 112 = .ok (.i2l, 1) := by decide +kernel
theorem dX5_digest_113 : decode cX5_digest 113 = .ok (.invokestatic 236, 3) := by decide +kernel
theorem dX5_digest_116 : decode cX5_digest 116 = .ok (.lstore_n 1, 1) := by decide +kernel
theorem dX5_digest_117 : decode cX5_digest 117 = .ok (.iinc 3 1, 3) := by decide +kernel
theorem dX5_digest_120 : decode cX5_digest 120 = .ok (.goto (-29), 3) := by decide +kernel
theorem dX5_digest_123 : decode cX5_digest 123 = .ok (.lload_n 1, 1) := by decide +kernel
theorem dX5_digest_124 : decode cX5_digest 124 = .ok (.lreturn, 1) := by decide +kernel
set_option maxRecDepth 20000 in
theorem ggX5_mixRehearsal_X5_beginOf : GoodIn wsX5_mixRehearsal wsX5_beginOf := goodIn_ca (goodIn_r _ [5, 6, 7, 8, 9, 10, 4, 11, 12, 13, 14, 140, 141, 142, 143, 144, 145, 146, 147, 148, 149, 150, 151, 152] (by decide +kernel) (by decide +kernel)) (goodIn_sub (fun _ h => List.mem_cons_of_mem _ (List.mem_append_right _ h)) (by decide +kernel))
set_option maxRecDepth 20000 in
theorem gX5_mixRehearsal_X5_beginOf : GoodIn wsX5_mixRehearsal (wsV RX5 251 RX5 yX5_beginOf wsX5_beginOf) := goodIn_app (goodIn_of _ (by decide +kernel)) ggX5_mixRehearsal_X5_beginOf
set_option maxRecDepth 20000 in
theorem ggX5_mixRehearsal_X5_mix : GoodIn wsX5_mixRehearsal wsX5_mix := goodIn_r _ [17, 18] (by decide +kernel) (by decide +kernel)
set_option maxRecDepth 20000 in
theorem gX5_mixRehearsal_X5_mix : GoodIn wsX5_mixRehearsal (va_wsS RX5 236 yX5_mix wsX5_mix) := goodIn_app (goodIn_of _ (by decide +kernel)) ggX5_mixRehearsal_X5_mix
set_option maxRecDepth 20000 in
theorem ggX5_mixRehearsal_X5_endOf : GoodIn wsX5_mixRehearsal wsX5_endOf := goodIn_ca (goodIn_r _ [22, 6, 23, 8, 9, 10, 4, 11, 12, 13, 14, 140, 141, 142, 143, 144, 145, 146, 147, 148, 149, 150, 151, 152] (by decide +kernel) (by decide +kernel)) (goodIn_sub (fun _ h => List.mem_cons_of_mem _ (List.mem_append_right _ h)) (by decide +kernel))
set_option maxRecDepth 20000 in
theorem gX5_mixRehearsal_X5_endOf : GoodIn wsX5_mixRehearsal (wsV RX5 254 RX5 yX5_endOf wsX5_endOf) := goodIn_app (goodIn_of _ (by decide +kernel)) ggX5_mixRehearsal_X5_endOf
set_option maxRecDepth 20000 in
theorem ggX5_mixRehearsal_X5_fameOf : GoodIn wsX5_mixRehearsal wsX5_fameOf := goodIn_ca (goodIn_r _ [27, 6, 28, 8, 9, 10, 4, 11, 12, 13, 14, 140, 141, 142, 143, 144, 145, 146, 147, 148, 149, 150, 151, 152] (by decide +kernel) (by decide +kernel)) (goodIn_sub (fun _ h => List.mem_cons_of_mem _ (List.mem_append_right _ h)) (by decide +kernel))
set_option maxRecDepth 20000 in
theorem gX5_mixRehearsal_X5_fameOf : GoodIn wsX5_mixRehearsal (wsV RX5 257 RX5 yX5_fameOf wsX5_fameOf) := goodIn_app (goodIn_of _ (by decide +kernel)) ggX5_mixRehearsal_X5_fameOf
set_option maxRecDepth 20000 in
theorem ggX5_mixRehearsal_X5_famePerQuarter : GoodIn wsX5_mixRehearsal wsX5_famePerQuarter := goodIn_ca (goodIn_r _ [32, 6, 28, 8, 9, 10, 4, 11, 12, 13, 14, 33, 34, 35, 36, 37, 38, 39, 140, 141, 142, 143, 144, 145, 146, 147, 148, 149, 150, 151, 152] (by decide +kernel) (by decide +kernel)) (goodIn_sub (fun _ h => List.mem_cons_of_mem _ (List.mem_append_right _ h)) (by decide +kernel))
set_option maxRecDepth 20000 in
theorem gX5_mixRehearsal_X5_famePerQuarter : GoodIn wsX5_mixRehearsal (wsV RX5 260 RX5 yX5_famePerQuarter wsX5_famePerQuarter) := goodIn_app (goodIn_of _ (by decide +kernel)) ggX5_mixRehearsal_X5_famePerQuarter
set_option maxRecDepth 20000 in
theorem ggX5_mixRehearsal_X5_floatBits : GoodIn wsX5_mixRehearsal wsX5_floatBits := goodIn_r _ [42, 43, 44, 4, 45, 46] (by decide +kernel) (by decide +kernel)
set_option maxRecDepth 20000 in
theorem gX5_mixRehearsal_X5_floatBits : GoodIn wsX5_mixRehearsal (va_wsS RX5 264 yX5_floatBits wsX5_floatBits) := goodIn_app (goodIn_of _ (by decide +kernel)) ggX5_mixRehearsal_X5_floatBits
set_option maxRecDepth 20000 in
theorem ggX5_mixRehearsal_X5_isBooked : GoodIn wsX5_mixRehearsal wsX5_isBooked := goodIn_ca (goodIn_r _ [50, 6, 8, 9, 10, 4, 11, 12, 13, 14, 51, 52, 53, 36, 54, 55, 56, 57, 58, 59, 60, 140, 141, 142, 143, 144, 145, 146, 147, 148, 149, 150, 151, 152] (by decide +kernel) (by decide +kernel)) (goodIn_sub (fun _ h => List.mem_cons_of_mem _ (List.mem_append_right _ h)) (by decide +kernel))
set_option maxRecDepth 20000 in
theorem gX5_mixRehearsal_X5_isBooked : GoodIn wsX5_mixRehearsal (wsV RX5 268 RX5 yX5_isBooked wsX5_isBooked) := goodIn_app (goodIn_of _ (by decide +kernel)) ggX5_mixRehearsal_X5_isBooked
set_option maxRecDepth 20000 in
theorem ggX5_mixRehearsal_X5_conflictsOf : GoodIn wsX5_mixRehearsal wsX5_conflictsOf := goodIn_ca (goodIn_r _ [64, 6, 8, 9, 10, 4, 11, 12, 13, 14, 65, 66, 67, 36, 68, 69, 70, 71, 72, 73, 39, 38, 74, 75, 76, 77, 78, 59, 60, 79, 80, 81, 82, 83, 84, 85, 140, 141, 142, 143, 144, 145, 146, 147, 148, 149, 150, 151, 152] (by decide +kernel) (by decide +kernel)) (goodIn_sub (fun _ h => List.mem_cons_of_mem _ (List.mem_append_right _ h)) (by decide +kernel))
set_option maxRecDepth 20000 in
theorem gX5_mixRehearsal_X5_conflictsOf : GoodIn wsX5_mixRehearsal (wsV RX5 271 RX5 yX5_conflictsOf wsX5_conflictsOf) := goodIn_app (goodIn_of _ (by decide +kernel)) ggX5_mixRehearsal_X5_conflictsOf
set_option maxRecDepth 20000 in
theorem ggX5_mixRehearsal_X5_roomOf : GoodIn wsX5_mixRehearsal wsX5_roomOf := goodIn_ca (goodIn_r _ [89, 90, 6, 8, 9, 10, 4, 11, 12, 13, 14, 91, 92, 93, 94, 95, 96, 97, 98, 99, 100, 101, 102, 103, 104, 105, 106, 107, 108, 109, 110, 71, 72, 36, 73, 39, 38, 74, 75, 76, 77, 78, 59, 60, 56, 57, 58, 140, 141, 142, 143, 144, 145, 146, 147, 148, 149, 150, 151, 152, 153, 154] (by decide +kernel) (by decide +kernel)) (goodIn_sub (fun _ h => List.mem_cons_of_mem _ (List.mem_append_right _ h)) (by decide +kernel))
set_option maxRecDepth 20000 in
theorem gX5_mixRehearsal_X5_roomOf : GoodIn wsX5_mixRehearsal (wsV RX5 274 RX5 yX5_roomOf wsX5_roomOf) := goodIn_app (goodIn_of _ (by decide +kernel)) ggX5_mixRehearsal_X5_roomOf
set_option maxRecDepth 20000 in
theorem ggX5_mixRehearsal_X5_bestWith : GoodIn wsX5_mixRehearsal wsX5_bestWith := goodIn_ca (goodIn_r _ [114, 6, 28, 115, 8, 9, 10, 4, 11, 12, 13, 14, 116, 117, 118, 36, 119, 69, 59, 60, 58, 65, 66, 67, 68, 70, 71, 72, 73, 39, 38, 74, 75, 76, 77, 78, 120, 121, 122, 123, 124, 125, 126, 127, 128, 129, 130, 131, 132, 133, 134, 104, 105, 56, 57, 135, 136, 137, 138, 139, 140, 141, 142, 143, 144, 145, 146, 147, 148, 149, 150, 151, 152, 155, 156, 157] (by decide +kernel) (by decide +kernel)) (goodIn_sub (fun _ h => List.mem_cons_of_mem _ (List.mem_append_right _ h)) (by decide +kernel))
set_option maxRecDepth 20000 in
theorem gX5_mixRehearsal_X5_bestWith : GoodIn wsX5_mixRehearsal (wsV RX5 277 RX5 yX5_bestWith wsX5_bestWith) := goodIn_app (goodIn_of _ (by decide +kernel)) ggX5_mixRehearsal_X5_bestWith
theorem dX5_mixRehearsal_0 : decode cX5_mixRehearsal 0 = .ok (.lload_n 1, 1) := by decide +kernel
theorem dX5_mixRehearsal_1 : decode cX5_mixRehearsal 1 = .ok (.aload_n 0, 1) := by decide +kernel
theorem dX5_mixRehearsal_2 : decode cX5_mixRehearsal 2 = .ok (.iload_n 3, 1) := by decide +kernel
theorem dX5_mixRehearsal_3 : decode cX5_mixRehearsal 3 = .ok (.invokevirtual 251, 3) := by decide +kernel
theorem dX5_mixRehearsal_6 : decode cX5_mixRehearsal 6 = .ok (.i2l, 1) := by decide +kernel
theorem dX5_mixRehearsal_7 : decode cX5_mixRehearsal 7 = .ok (.invokestatic 236, 3) := by decide +kernel
theorem dX5_mixRehearsal_10 : decode cX5_mixRehearsal 10 = .ok (.lstore 4, 2) := by decide +kernel
theorem dX5_mixRehearsal_12 : decode cX5_mixRehearsal 12 = .ok (.lload 4, 2) := by decide +kernel
theorem dX5_mixRehearsal_14 : decode cX5_mixRehearsal 14 = .ok (.aload_n 0, 1) := by decide +kernel
theorem dX5_mixRehearsal_15 : decode cX5_mixRehearsal 15 = .ok (.iload_n 3, 1) := by decide +kernel
theorem dX5_mixRehearsal_16 : decode cX5_mixRehearsal 16 = .ok (.invokevirtual 254, 3) := by decide +kernel
theorem dX5_mixRehearsal_19 : decode cX5_mixRehearsal 19 = .ok (.i2l, 1) := by decide +kernel
theorem dX5_mixRehearsal_20 : decode cX5_mixRehearsal 20 = .ok (.invokestatic 236, 3) := by decide +kernel
theorem dX5_mixRehearsal_23 : decode cX5_mixRehearsal 23 = .ok (.lstore 4, 2) := by decide +kernel
theorem dX5_mixRehearsal_25 : decode cX5_mixRehearsal 25 = .ok (.lload 4, 2) := by decide +kernel
theorem dX5_mixRehearsal_27 : decode cX5_mixRehearsal 27 = .ok (.aload_n 0, 1) := by decide +kernel
theorem dX5_mixRehearsal_28 : decode cX5_mixRehearsal 28 = .ok (.iload_n 3, 1) := by decide +kernel
theorem dX5_mixRehearsal_29 : decode cX5_mixRehearsal 29 = .ok (.invokevirtual 257, 3) := by decide +kernel
theorem dX5_mixRehearsal_32 : decode cX5_mixRehearsal 32 = .ok (.i2l, 1) := by decide +kernel
theorem dX5_mixRehearsal_33 : decode cX5_mixRehearsal 33 = .ok (.invokestatic 236, 3) := by decide +kernel
theorem dX5_mixRehearsal_36 : decode cX5_mixRehearsal 36 = .ok (.lstore 4, 2) := by decide +kernel
theorem dX5_mixRehearsal_38 : decode cX5_mixRehearsal 38 = .ok (.lload 4, 2) := by decide +kernel
theorem dX5_mixRehearsal_40 : decode cX5_mixRehearsal 40 = .ok (.aload_n 0, 1) := by decide +kernel
theorem dX5_mixRehearsal_41 : decode cX5_mixRehearsal 41 = .ok (.iload_n 3, 1) := by decide +kernel
theorem dX5_mixRehearsal_42 : decode cX5_mixRehearsal 42 = .ok (.invokevirtual 260, 3) := by decide +kernel
theorem dX5_mixRehearsal_45 : decode cX5_mixRehearsal 45 = .ok (.invokestatic 264, 3) := by decide +kernel
theorem dX5_mixRehearsal_48 : decode cX5_mixRehearsal 48 = .ok (.invokestatic 236, 3) := by decide +kernel
theorem dX5_mixRehearsal_51 : decode cX5_mixRehearsal 51 = .ok (.lstore 4, 2) := by decide +kernel
theorem dX5_mixRehearsal_53 : decode cX5_mixRehearsal 53 = .ok (.lload 4, 2) := by decide +kernel
theorem dX5_mixRehearsal_55 : decode cX5_mixRehearsal 55 = .ok (.aload_n 0, 1) := by decide +kernel
theorem dX5_mixRehearsal_56 : decode cX5_mixRehearsal 56 = .ok (.iload_n 3, 1) := by decide +kernel
theorem dX5_mixRehearsal_57 : decode cX5_mixRehearsal 57 = .ok (.invokevirtual 268, 3) := by decide +kernel
theorem dX5_mixRehearsal_60 : decode cX5_mixRehearsal 60 = .ok (.ifCond .eq 7, 3) := by decide +kernel
theorem dX5_mixRehearsal_63 : decode cX5_mixRehearsal 63 = .ok (.lconst 1, 1) := by decide +kernel
theorem dX5_mixRehearsal_64 : decode cX5_mixRehearsal 64 = .ok (.goto 4, 3) := by decide +kernel
theorem dX5_mixRehearsal_67 : decode cX5_mixRehearsal 67 = .ok (.lconst 0, 1) := by decide +kernel
theorem dX5_mixRehearsal_68 : decode cX5_mixRehearsal 68 = .ok (.invokestatic 236, 3) := by decide +kernel
theorem dX5_mixRehearsal_71 : decode cX5_mixRehearsal 71 = .ok (.lstore 4, 2) := by decide +kernel
theorem dX5_mixRehearsal_73 : decode cX5_mixRehearsal 73 = .ok (.lload 4, 2) := by decide +kernel
theorem dX5_mixRehearsal_75 : decode cX5_mixRehearsal 75 = .ok (.aload_n 0, 1) := by decide +kernel
theorem dX5_mixRehearsal_76 : decode cX5_mixRehearsal 76 = .ok (.iload_n 3, 1) := by decide +kernel
theorem dX5_mixRehearsal_77 : decode cX5_mixRehearsal 77 = .ok (.invokevirtual 271, 3) := by decide +kernel
theorem dX5_mixRehearsal_80 : decode cX5_mixRehearsal 80 = .ok (.i2l, 1) := by decide +kernel
theorem dX5_mixRehearsal_81 : decode cX5_mixRehearsal 81 = .ok (.invokestatic 236, 3) := by decide +kernel
theorem dX5_mixRehearsal_84 : decode cX5_mixRehearsal 84 = .ok (.lstore 4, 2) := by decide +kernel
theorem dX5_mixRehearsal_86 : decode cX5_mixRehearsal 86 = .ok (.lload 4, 2) := by decide +kernel
theorem dX5_mixRehearsal_88 : decode cX5_mixRehearsal 88 = .ok (.aload_n 0, 1) := by decide +kernel
theorem dX5_mixRehearsal_89 : decode cX5_mixRehearsal 89 = .ok (.iload_n 3, 1) := by decide +kernel
theorem dX5_mixRehearsal_90 : decode cX5_mixRehearsal 90 = .ok (.invokevirtual 274, 3) := by decide +kernel
theorem dX5_mixRehearsal_93 : decode cX5_mixRehearsal 93 = .ok (.i2l, 1) := by decide +kernel
theorem dX5_mixRehearsal_94 : decode cX5_mixRehearsal 94 = .ok (.invokestatic 236, 3) := by decide +kernel
theorem dX5_mixRehearsal_97 : decode cX5_mixRehearsal 97 = .ok (.lstore 4, 2) := by decide +kernel
theorem dX5_mixRehearsal_99 : decode cX5_mixRehearsal 99 = .ok (.lload 4, 2) := by decide +kernel
theorem dX5_mixRehearsal_101 : decode cX5_mixRehearsal 101 = .ok (.aload_n 0, 1) := by decide +kernel
theorem dX5_mixRehearsal_102 : decode cX5_mixRehearsal 102 = .ok (.iload_n 3, 1) := by decide +kernel
theorem dX5_mixRehearsal_103 : decode cX5_mixRehearsal 103 = .ok (.invokevirtual 277, 3) := by decide +kernel
theorem dX5_mixRehearsal_106 : decode cX5_mixRehearsal 106 = .ok (.i2l, 1) := by decide +kernel
theorem dX5_mixRehearsal_107 : decode cX5_mixRehearsal 107 = .ok (.invokestatic 236, 3) := by decide +kernel
theorem dX5_mixRehearsal_110 : decode cX5_mixRehearsal 110 = .ok (.lreturn, 1) := by decide +kernel
set_option maxRecDepth 20000 in
theorem ggX5_mixWhole_X5_pause : GoodIn wsX5_mixWhole wsX5_pause := goodIn_r _ [5, 6, 7, 196, 197, 198, 199, 200, 201, 202, 203, 204, 205, 206, 207, 208] (by decide +kernel) (by decide +kernel)
set_option maxRecDepth 20000 in
theorem gX5_mixWhole_X5_pause : GoodIn wsX5_mixWhole (wsV RX5 280 RX5 yX5_pause wsX5_pause) := goodIn_app (goodIn_of _ (by decide +kernel)) ggX5_mixWhole_X5_pause
set_option maxRecDepth 20000 in
theorem ggX5_mixWhole_X5_mix : GoodIn wsX5_mixWhole wsX5_mix := goodIn_r _ [10, 11] (by decide +kernel) (by decide +kernel)
set_option maxRecDepth 20000 in
theorem gX5_mixWhole_X5_mix : GoodIn wsX5_mixWhole (va_wsS RX5 236 yX5_mix wsX5_mix) := goodIn_app (goodIn_of _ (by decide +kernel)) ggX5_mixWhole_X5_mix
set_option maxRecDepth 20000 in
theorem ggX5_mixWhole_X5_booked : GoodIn wsX5_mixWhole wsX5_booked := goodIn_r _ [15, 6, 16, 17, 18, 19, 20, 21, 22, 23, 196, 197, 198, 199, 200, 201, 202, 203, 204, 205, 206, 207, 208] (by decide +kernel) (by decide +kernel)
set_option maxRecDepth 20000 in
theorem gX5_mixWhole_X5_booked : GoodIn wsX5_mixWhole (wsV RX5 282 RX5 yX5_booked wsX5_booked) := goodIn_app (goodIn_of _ (by decide +kernel)) ggX5_mixWhole_X5_booked
set_option maxRecDepth 20000 in
theorem ggX5_mixWhole_X5_bookedFame : GoodIn wsX5_mixWhole wsX5_bookedFame := goodIn_r _ [27, 6, 16, 28, 29, 30, 31, 32, 33, 34, 35, 4, 36, 37, 38, 39, 196, 197, 198, 199, 200, 201, 202, 203, 204, 205, 206, 207, 208] (by decide +kernel) (by decide +kernel)
set_option maxRecDepth 20000 in
theorem gX5_mixWhole_X5_bookedFame : GoodIn wsX5_mixWhole (wsV RX5 285 RX5 yX5_bookedFame wsX5_bookedFame) := goodIn_app (goodIn_of _ (by decide +kernel)) ggX5_mixWhole_X5_bookedFame
set_option maxRecDepth 20000 in
theorem ggX5_mixWhole_X5_conflictsByPairs : GoodIn wsX5_mixWhole wsX5_conflictsByPairs := goodIn_r _ [43, 6, 44, 45, 46, 47, 31, 48, 49, 50, 51, 52, 53, 54, 55, 196, 197, 198, 199, 200, 201, 202, 203, 204, 205, 206, 207, 208] (by decide +kernel) (by decide +kernel)
set_option maxRecDepth 20000 in
theorem gX5_mixWhole_X5_conflictsByPairs : GoodIn wsX5_mixWhole (wsV RX5 288 RX5 yX5_conflictsByPairs wsX5_conflictsByPairs) := goodIn_app (goodIn_of _ (by decide +kernel)) ggX5_mixWhole_X5_conflictsByPairs
set_option maxRecDepth 20000 in
theorem ggX5_mixWhole_X5_conflictsBySweep : GoodIn wsX5_mixWhole wsX5_conflictsBySweep := goodIn_r _ [59, 60, 6, 61, 62, 63, 64, 65, 66, 67, 68, 31, 69, 33, 50, 51, 70, 71, 72, 73, 49, 196, 197, 198, 199, 200, 201, 202, 203, 204, 205, 206, 207, 208] (by decide +kernel) (by decide +kernel)
set_option maxRecDepth 20000 in
theorem gX5_mixWhole_X5_conflictsBySweep : GoodIn wsX5_mixWhole (wsV RX5 291 RX5 yX5_conflictsBySweep wsX5_conflictsBySweep) := goodIn_app (goodIn_of _ (by decide +kernel)) ggX5_mixWhole_X5_conflictsBySweep
set_option maxRecDepth 20000 in
theorem ggX5_mixWhole_X5_roomsBySweep : GoodIn wsX5_mixWhole wsX5_roomsBySweep := goodIn_r _ [77, 60, 6, 78, 79, 80, 64, 81, 82, 83, 84, 85, 70, 71, 72, 31, 73, 33, 49, 66, 67, 68, 69, 50, 51, 196, 197, 198, 199, 200, 201, 202, 203, 204, 205, 206, 207, 208] (by decide +kernel) (by decide +kernel)
set_option maxRecDepth 20000 in
theorem gX5_mixWhole_X5_roomsBySweep : GoodIn wsX5_mixWhole (wsV RX5 294 RX5 yX5_roomsBySweep wsX5_roomsBySweep) := goodIn_app (goodIn_of _ (by decide +kernel)) ggX5_mixWhole_X5_roomsBySweep
set_option maxRecDepth 20000 in
theorem ggX5_mixWhole_X5_roomsByGiving : GoodIn wsX5_mixWhole wsX5_roomsByGiving := goodIn_r _ [89, 60, 6, 90, 91, 92, 64, 93, 94, 95, 82, 83, 84, 85, 96, 97, 98, 99, 100, 101, 102, 4, 103, 104, 105, 106, 107, 108, 46, 47, 31, 48, 49, 50, 51, 52, 53, 54, 55, 38, 39, 35, 36, 37, 196, 197, 198, 199, 200, 201, 202, 203, 204, 205, 206, 207, 208, 209, 210] (by decide +kernel) (by decide +kernel)
set_option maxRecDepth 20000 in
theorem gX5_mixWhole_X5_roomsByGiving : GoodIn wsX5_mixWhole (wsV RX5 297 RX5 yX5_roomsByGiving wsX5_roomsByGiving) := goodIn_app (goodIn_of _ (by decide +kernel)) ggX5_mixWhole_X5_roomsByGiving
set_option maxRecDepth 20000 in
theorem ggX5_mixWhole_X5_bestByTrying : GoodIn wsX5_mixWhole wsX5_bestByTrying := goodIn_r _ [112, 113, 6, 114, 115, 116, 117, 118, 119, 120, 121, 122, 123, 124, 31, 125, 33, 126, 46, 47, 48, 49, 50, 51, 52, 53, 54, 55, 38, 4, 39, 127, 128, 129, 130, 83, 84, 85, 35, 36, 37, 196, 197, 198, 199, 200, 201, 202, 203, 204, 205, 206, 207, 208, 211, 212, 213] (by decide +kernel) (by decide +kernel)
set_option maxRecDepth 20000 in
theorem gX5_mixWhole_X5_bestByTrying : GoodIn wsX5_mixWhole (wsV RX5 300 RX5 yX5_bestByTrying wsX5_bestByTrying) := goodIn_app (goodIn_of _ (by decide +kernel)) ggX5_mixWhole_X5_bestByTrying
set_option maxRecDepth 20000 in
theorem ggX5_mixWhole_X5_bestByTable : GoodIn wsX5_mixWhole wsX5_bestByTable := goodIn_r _ [134, 113, 6, 135, 136, 137, 31, 138, 33, 38, 4, 39, 139, 140, 141, 117, 142, 143, 119, 144, 145, 121, 146, 130, 83, 84, 85, 102, 103, 35, 36, 37, 147, 148, 149, 150, 151, 196, 197, 198, 199, 200, 201, 202, 203, 204, 205, 206, 207, 208, 211, 212, 213] (by decide +kernel) (by decide +kernel)
set_option maxRecDepth 20000 in
theorem gX5_mixWhole_X5_bestByTable : GoodIn wsX5_mixWhole (wsV RX5 303 RX5 yX5_bestByTable wsX5_bestByTable) := goodIn_app (goodIn_of _ (by decide +kernel)) ggX5_mixWhole_X5_bestByTable
set_option maxRecDepth 20000 in
theorem ggX5_mixWhole_X5_bestChoice : GoodIn wsX5_mixWhole wsX5_bestChoice := goodIn_r _ [155, 113, 6, 156, 157, 158, 117, 159, 119, 160, 136, 137, 31, 138, 33, 38, 4, 39, 161, 140, 141, 142, 143, 144, 145, 121, 146, 130, 83, 84, 85, 102, 103, 35, 36, 37, 147, 148, 149, 150, 151, 196, 197, 198, 199, 200, 201, 202, 203, 204, 205, 206, 207, 208, 211, 212, 213] (by decide +kernel) (by decide +kernel)
set_option maxRecDepth 20000 in
theorem gX5_mixWhole_X5_bestChoice : GoodIn wsX5_mixWhole (wsV RX5 306 RX5 yX5_bestChoice wsX5_bestChoice) := goodIn_app (goodIn_of _ (by decide +kernel)) ggX5_mixWhole_X5_bestChoice
set_option maxRecDepth 20000 in
theorem ggX5_mixWhole_X5_mostRehearsals : GoodIn wsX5_mixWhole wsX5_mostRehearsals := goodIn_r _ [165, 113, 6, 166, 167, 168, 117, 169, 143, 119, 144, 146, 151, 102, 4, 103, 196, 197, 198, 199, 200, 201, 202, 203, 204, 205, 206, 207, 208, 211, 212, 213] (by decide +kernel) (by decide +kernel)
set_option maxRecDepth 20000 in
theorem gX5_mixWhole_X5_mostRehearsals : GoodIn wsX5_mixWhole (wsV RX5 309 RX5 yX5_mostRehearsals wsX5_mostRehearsals) := goodIn_app (goodIn_of _ (by decide +kernel)) ggX5_mixWhole_X5_mostRehearsals
set_option maxRecDepth 20000 in
theorem ggX5_mixWhole_X5_savedStates : GoodIn wsX5_mixWhole wsX5_savedStates := goodIn_r _ [173, 174, 175, 196, 197, 198, 199, 200, 201, 202, 214, 215, 216] (by decide +kernel) (by decide +kernel)
set_option maxRecDepth 20000 in
theorem gX5_mixWhole_X5_savedStates : GoodIn wsX5_mixWhole (wsV RX5 312 RX5 yX5_savedStates wsX5_savedStates) := goodIn_app (goodIn_of _ (by decide +kernel)) ggX5_mixWhole_X5_savedStates
set_option maxRecDepth 20000 in
theorem ggX5_mixWhole_X5_bookedShare : GoodIn wsX5_mixWhole wsX5_bookedShare := goodIn_r _ [179, 6, 16, 180, 181, 182, 183, 31, 184, 33, 35, 4, 36, 37, 38, 39, 185, 186, 187, 188, 50, 49, 196, 197, 198, 199, 200, 201, 202, 203, 204, 205, 206, 207, 208] (by decide +kernel) (by decide +kernel)
set_option maxRecDepth 20000 in
theorem gX5_mixWhole_X5_bookedShare : GoodIn wsX5_mixWhole (wsV RX5 315 RX5 yX5_bookedShare wsX5_bookedShare) := goodIn_app (goodIn_of _ (by decide +kernel)) ggX5_mixWhole_X5_bookedShare
set_option maxRecDepth 20000 in
theorem ggX5_mixWhole_X5_doubleBits : GoodIn wsX5_mixWhole wsX5_doubleBits := goodIn_r _ [191, 192, 193, 4, 194, 195] (by decide +kernel) (by decide +kernel)
set_option maxRecDepth 20000 in
theorem gX5_mixWhole_X5_doubleBits : GoodIn wsX5_mixWhole (va_wsS RX5 319 yX5_doubleBits wsX5_doubleBits) := goodIn_app (goodIn_of _ (by decide +kernel)) ggX5_mixWhole_X5_doubleBits
theorem dX5_mixWhole_0 : decode cX5_mixWhole 0 = .ok (.lload_n 1, 1) := by decide +kernel
theorem dX5_mixWhole_1 : decode cX5_mixWhole 1 = .ok (.aload_n 0, 1) := by decide +kernel
theorem dX5_mixWhole_2 : decode cX5_mixWhole 2 = .ok (.invokevirtual 280, 3) := by decide +kernel
theorem dX5_mixWhole_5 : decode cX5_mixWhole 5 = .ok (.i2l, 1) := by decide +kernel
theorem dX5_mixWhole_6 : decode cX5_mixWhole 6 = .ok (.invokestatic 236, 3) := by decide +kernel
theorem dX5_mixWhole_9 : decode cX5_mixWhole 9 = .ok (.lstore_n 3, 1) := by decide +kernel
theorem dX5_mixWhole_10 : decode cX5_mixWhole 10 = .ok (.lload_n 3, 1) := by decide +kernel
theorem dX5_mixWhole_11 : decode cX5_mixWhole 11 = .ok (.aload_n 0, 1) := by decide +kernel
theorem dX5_mixWhole_12 : decode cX5_mixWhole 12 = .ok (.invokevirtual 282, 3) := by decide +kernel
theorem dX5_mixWhole_15 : decode cX5_mixWhole 15 = .ok (.i2l, 1) := by decide +kernel
theorem dX5_mixWhole_16 : decode cX5_mixWhole 16 = .ok (.invokestatic 236, 3) := by decide +kernel
theorem dX5_mixWhole_19 : decode cX5_mixWhole 19 = .ok (.lstore_n 3, 1) := by decide +kernel
theorem dX5_mixWhole_20 : decode cX5_mixWhole 20 = .ok (.lload_n 3, 1) := by decide +kernel
theorem dX5_mixWhole_21 : decode cX5_mixWhole 21 = .ok (.aload_n 0, 1) := by decide +kernel
theorem dX5_mixWhole_22 : decode cX5_mixWhole 22 = .ok (.invokevirtual 285, 3) := by decide +kernel
theorem dX5_mixWhole_25 : decode cX5_mixWhole 25 = .ok (.i2l, 1) := by decide +kernel
theorem dX5_mixWhole_26 : decode cX5_mixWhole 26 = .ok (.invokestatic 236, 3) := by decide +kernel
theorem dX5_mixWhole_29 : decode cX5_mixWhole 29 = .ok (.lstore_n 3, 1) := by decide +kernel
theorem dX5_mixWhole_30 : decode cX5_mixWhole 30 = .ok (.lload_n 3, 1) := by decide +kernel
theorem dX5_mixWhole_31 : decode cX5_mixWhole 31 = .ok (.aload_n 0, 1) := by decide +kernel
theorem dX5_mixWhole_32 : decode cX5_mixWhole 32 = .ok (.invokevirtual 288, 3) := by decide +kernel
theorem dX5_mixWhole_35 : decode cX5_mixWhole 35 = .ok (.i2l, 1) := by decide +kernel
theorem dX5_mixWhole_36 : decode cX5_mixWhole 36 = .ok (.invokestatic 236, 3) := by decide +kernel
theorem dX5_mixWhole_39 : decode cX5_mixWhole 39 = .ok (.lstore_n 3, 1) := by decide +kernel
theorem dX5_mixWhole_40 : decode cX5_mixWhole 40 = .ok (.lload_n 3, 1) := by decide +kernel
theorem dX5_mixWhole_41 : decode cX5_mixWhole 41 = .ok (.aload_n 0, 1) := by decide +kernel
theorem dX5_mixWhole_42 : decode cX5_mixWhole 42 = .ok (.invokevirtual 291, 3) := by decide +kernel
theorem dX5_mixWhole_45 : decode cX5_mixWhole 45 = .ok (.i2l, 1) := by decide +kernel
theorem dX5_mixWhole_46 : decode cX5_mixWhole 46 = .ok (.invokestatic 236, 3) := by decide +kernel
theorem dX5_mixWhole_49 : decode cX5_mixWhole 49 = .ok (.lstore_n 3, 1) := by decide +kernel
theorem dX5_mixWhole_50 : decode cX5_mixWhole 50 = .ok (.lload_n 3, 1) := by decide +kernel
theorem dX5_mixWhole_51 : decode cX5_mixWhole 51 = .ok (.aload_n 0, 1) := by decide +kernel
theorem dX5_mixWhole_52 : decode cX5_mixWhole 52 = .ok (.invokevirtual 294, 3) := by decide +kernel
theorem dX5_mixWhole_55 : decode cX5_mixWhole 55 = .ok (.i2l, 1) := by decide +kernel
theorem dX5_mixWhole_56 : decode cX5_mixWhole 56 = .ok (.invokestatic 236, 3) := by decide +kernel
theorem dX5_mixWhole_59 : decode cX5_mixWhole 59 = .ok (.lstore_n 3, 1) := by decide +kernel
theorem dX5_mixWhole_60 : decode cX5_mixWhole 60 = .ok (.lload_n 3, 1) := by decide +kernel
theorem dX5_mixWhole_61 : decode cX5_mixWhole 61 = .ok (.aload_n 0, 1) := by decide +kernel
theorem dX5_mixWhole_62 : decode cX5_mixWhole 62 = .ok (.invokevirtual 297, 3) := by decide +kernel
theorem dX5_mixWhole_65 : decode cX5_mixWhole 65 = .ok (.i2l, 1) := by decide +kernel
theorem dX5_mixWhole_66 : decode cX5_mixWhole 66 = .ok (.invokestatic 236, 3) := by decide +kernel
theorem dX5_mixWhole_69 : decode cX5_mixWhole 69 = .ok (.lstore_n 3, 1) := by decide +kernel
theorem dX5_mixWhole_70 : decode cX5_mixWhole 70 = .ok (.lload_n 3, 1) := by decide +kernel
theorem dX5_mixWhole_71 : decode cX5_mixWhole 71 = .ok (.aload_n 0, 1) := by decide +kernel
theorem dX5_mixWhole_72 : decode cX5_mixWhole 72 = .ok (.invokevirtual 300, 3) := by decide +kernel
theorem dX5_mixWhole_75 : decode cX5_mixWhole 75 = .ok (.i2l, 1) := by decide +kernel
theorem dX5_mixWhole_76 : decode cX5_mixWhole 76 = .ok (.invokestatic 236, 3) := by decide +kernel
theorem dX5_mixWhole_79 : decode cX5_mixWhole 79 = .ok (.lstore_n 3, 1) := by decide +kernel
theorem dX5_mixWhole_80 : decode cX5_mixWhole 80 = .ok (.lload_n 3, 1) := by decide +kernel
theorem dX5_mixWhole_81 : decode cX5_mixWhole 81 = .ok (.aload_n 0, 1) := by decide +kernel
theorem dX5_mixWhole_82 : decode cX5_mixWhole 82 = .ok (.invokevirtual 303, 3) := by decide +kernel
theorem dX5_mixWhole_85 : decode cX5_mixWhole 85 = .ok (.i2l, 1) := by decide +kernel
theorem dX5_mixWhole_86 : decode cX5_mixWhole 86 = .ok (.invokestatic 236, 3) := by decide +kernel
theorem dX5_mixWhole_89 : decode cX5_mixWhole 89 = .ok (.lstore_n 3, 1) := by decide +kernel
theorem dX5_mixWhole_90 : decode cX5_mixWhole 90 = .ok (.lload_n 3, 1) := by decide +kernel
theorem dX5_mixWhole_91 : decode cX5_mixWhole 91 = .ok (.aload_n 0, 1) := by decide +kernel
theorem dX5_mixWhole_92 : decode cX5_mixWhole 92 = .ok (.invokevirtual 306, 3) := by decide +kernel
theorem dX5_mixWhole_95 : decode cX5_mixWhole 95 = .ok (.i2l, 1) := by decide +kernel
theorem dX5_mixWhole_96 : decode cX5_mixWhole 96 = .ok (.invokestatic 236, 3) := by decide +kernel
theorem dX5_mixWhole_99 : decode cX5_mixWhole 99 = .ok (.lstore_n 3, 1) := by decide +kernel
theorem dX5_mixWhole_100 : decode cX5_mixWhole 100 = .ok (.lload_n 3, 1) := by decide +kernel
theorem dX5_mixWhole_101 : decode cX5_mixWhole 101 = .ok (.aload_n 0, 1) := by decide +kernel
theorem dX5_mixWhole_102 : decode cX5_mixWhole 102 = .ok (.invokevirtual 309, 3) := by decide +kernel
