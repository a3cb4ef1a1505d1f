set_option maxRecDepth 20000 in
theorem ggX6_isThere_X6_in : GoodIn wsX6_isThere wsX6_in := goodIn_r _ [5] (by decide +kernel) (by decide +kernel)
set_option maxRecDepth 20000 in
theorem gX6_isThere_X6_in : GoodIn wsX6_isThere (va_wsS RX6 42 yX6_in wsX6_in) := goodIn_app (goodIn_of _ (by decide +kernel)) ggX6_isThere_X6_in
theorem dX6_isThere_0 : decode cX6_isThere 0 = .ok (.iload_n 1, 1) := by decide +kernel
theorem dX6_isThere_1 : decode cX6_isThere 1 = .ok (.i2l, 1) := by decide +kernel
theorem dX6_isThere_2 : decode cX6_isThere 2 = .ok (.lconst 0, 1) := by decide +kernel
theorem dX6_isThere_3 : decode cX6_isThere 3 = .ok (.aload_n 0, 1) := by decide +kernel
theorem dX6_isThere_4 : decode cX6_isThere 4 = .ok (.getfield 7, 3) := by decide +kernel
theorem dX6_isThere_7 : decode cX6_isThere 7 = .ok (.bipush 44, 2) := by decide +kernel
theorem dX6_isThere_9 : decode cX6_isThere 9 = .ok (.iaload, 1) := by decide +kernel
theorem dX6_isThere_10 : decode cX6_isThere 10 = .ok (.iconst 1, 1) := by decide +kernel
theorem dX6_isThere_11 : decode cX6_isThere 11 = .ok (.isub, 1) := by decide +kernel
theorem dX6_isThere_12 : decode cX6_isThere 12 = .ok (.i2l, 1) := by decide +kernel
theorem dX6_isThere_13 : decode cX6_isThere 13 = .ok (.invokestatic 42, 3) := by decide +kernel
theorem dX6_isThere_16 : decode cX6_isThere 16 = .ok (.ireturn, 1) := by decide +kernel
set_option maxRecDepth 20000 in
theorem ggX6_isTime_X6_in : GoodIn wsX6_isTime wsX6_in := goodIn_r _ [6] (by decide +kernel) (by decide +kernel)
set_option maxRecDepth 20000 in
theorem gX6_isTime_X6_in : GoodIn wsX6_isTime (va_wsS RX6 42 yX6_in wsX6_in) := goodIn_app (goodIn_of _ (by decide +kernel)) ggX6_isTime_X6_in
theorem dX6_isTime_0 : decode cX6_isTime 0 = .ok (.iload_n 0, 1) := by decide +kernel
theorem dX6_isTime_1 : decode cX6_isTime 1 = .ok (.i2l, 1) := by decide +kernel
theorem dX6_isTime_2 : decode cX6_isTime 2 = .ok (.lconst 0, 1) := by decide +kernel
theorem dX6_isTime_3 : decode cX6_isTime 3 = .ok (.ldc2_w 46, 3) := by decide +kernel
theorem dX6_isTime_6 : decode cX6_isTime 6 = .ok (.invokestatic 42, 3) := by decide +kernel
theorem dX6_isTime_9 : decode cX6_isTime 9 = .ok (.ifCond .eq 24, 3) := by decide +kernel
theorem dX6_isTime_12 : decode cX6_isTime 12 = .ok (.iload_n 1, 1) := by decide +kernel
theorem dX6_isTime_13 : decode cX6_isTime 13 = .ok (.i2l, 1) := by decide +kernel
theorem dX6_isTime_14 : decode cX6_isTime 14 = .ok (.lconst 1, 1) := by decide +kernel
theorem dX6_isTime_15 : decode cX6_isTime 15 = .ok (.ldc2_w 48, 3) := by decide +kernel
theorem dX6_isTime_18 : decode cX6_isTime 18 = .ok (.invokestatic 42, 3) := by decide +kernel
theorem dX6_isTime_21 : decode cX6_isTime 21 = .ok (.ifCond .eq 12, 3) := by decide +kernel
theorem dX6_isTime_24 : decode cX6_isTime 24 = .ok (.iload_n 1, 1) := by decide +kernel
theorem dX6_isTime_25 : decode cX6_isTime 25 = .ok (.iload_n 0, 1) := by decide +kernel
theorem dX6_isTime_26 : decode cX6_isTime 26 = .ok (.if_icmp .le 7, 3) := by decide +kernel
theorem dX6_isTime_29 : decode cX6_isTime 29 = .ok (.iconst 1, 1) := by decide +kernel
theorem dX6_isTime_30 : decode cX6_isTime 30 = .ok (.goto 4, 3) := by decide +kernel
theorem dX6_isTime_33 : decode cX6_isTime 33 = .ok (.iconst 0, 1) := by decide +kernel
theorem dX6_isTime_34 : decode cX6_isTime 34 = .ok (.ireturn, 1) := by decide +kernel
theorem dX6_clash_0 : decode cX6_clash 0 = .ok (.aload_n 0, 1) := by decide +kernel
theorem dX6_clash_1 : decode cX6_clash 1 = .ok (.bipush 14, 2) := by decide +kernel
theorem dX6_clash_3 : decode cX6_clash 3 = .ok (.iload_n 1, 1) := by decide +kernel
theorem dX6_clash_4 : decode cX6_clash 4 = .ok (.iadd, 1) := by decide +kernel
theorem dX6_clash_5 : decode cX6_clash 5 = .ok (.iaload, 1) := by decide +kernel
theorem dX6_clash_6 : decode cX6_clash 6 = .ok (.aload_n 0, 1) := by decide +kernel
theorem dX6_clash_7 : decode cX6_clash 7 = .ok (.bipush 43, 2) := by decide +kernel
theorem dX6_clash_9 : decode cX6_clash 9 = .ok (.iaload, 1) := by decide +kernel
theorem dX6_clash_10 : decode cX6_clash 10 = .ok (.iadd, 1) := by decide +kernel
theorem dX6_clash_11 : decode cX6_clash 11 = .ok (.aload_n 0, 1) := by decide +kernel
theorem dX6_clash_12 : decode cX6_clash 12 = .ok (.iload_n 2, 1) := by decide +kernel
theorem dX6_clash_13 : decode cX6_clash 13 = .ok (.iaload, 1) := by decide +kernel
theorem dX6_clash_14 : decode cX6_clash 14 = .ok (.if_icmp .gt 7, 3) := by decide +kernel
theorem dX6_clash_17 : decode cX6_clash 17 = .ok (.iconst 1, 1) := by decide +kernel
theorem dX6_clash_18 : decode cX6_clash 18 = .ok (.goto 4, 3) := by decide +kernel
theorem dX6_clash_21 : decode cX6_clash 21 = .ok (.iconst 0, 1) := by decide +kernel
theorem dX6_clash_22 : decode cX6_clash 22 = .ok (.istore_n 3, 1) := by decide +kernel
theorem dX6_clash_23 : decode cX6_clash 23 = .ok (.aload_n 0, 1) := by decide +kernel
theorem dX6_clash_24 : decode cX6_clash 24 = .ok (.bipush 14, 2) := by decide +kernel
theorem dX6_clash_26 : decode cX6_clash 26 = .ok (.iload_n 2, 1) := by decide +kernel
theorem dX6_clash_27 : decode cX6_clash 27 = .ok (.iadd, 1) := by decide +kernel
theorem dX6_clash_28 : decode cX6_clash 28 = .ok (.iaload, 1) := by decide +kernel
theorem dX6_clash_29 : decode cX6_clash 29 = .ok (.aload_n 0, 1) := by decide +kernel
theorem dX6_clash_30 : decode cX6_clash 30 = .ok (.bipush 43, 2) := by decide +kernel
theorem dX6_clash_32 : decode cX6_clash 32 = .ok (.iaload, 1) := by decide +kernel
theorem dX6_clash_33 : decode cX6_clash 33 = .ok (.iadd, 1) := by decide +kernel
theorem dX6_clash_34 : decode cX6_clash 34 = .ok (.aload_n 0, 1) := by decide +kernel
theorem dX6_clash_35 : decode cX6_clash 35 = .ok (.iload_n 1, 1) := by decide +kernel
theorem dX6_clash_36 : decode cX6_clash 36 = .ok (.iaload, 1) := by decide +kernel
theorem dX6_clash_37 : decode cX6_clash 37 = .ok (.if_icmp .gt 7, 3) := by decide +kernel
theorem dX6_clash_40 : decode cX6_clash 40 = .ok (.iconst 1, 1) := by decide +kernel
theorem dX6_clash_41 : decode cX6_clash 41 = .ok (.goto 4, 3) := by decide +kernel
theorem dX6_clash_44 : decode cX6_clash 44 = .ok (.iconst 0, 1) := by decide +kernel
theorem dX6_clash_45 : decode cX6_clash 45 = .ok (.istore 4, 2) := by decide +kernel
theorem dX6_clash_47 : decode cX6_clash 47 = .ok (.iload_n 1, 1) := by decide +kernel
theorem dX6_clash_48 : decode cX6_clash 48 = .ok (.iload_n 2, 1) := by decide +kernel
theorem dX6_clash_49 : decode cX6_clash 49 = .ok (.if_icmp .eq 16, 3) := by decide +kernel
theorem dX6_clash_52 : decode cX6_clash 52 = .ok (.iload_n 3, 1) := by decide +kernel
theorem dX6_clash_53 : decode cX6_clash 53 = .ok (.ifCond .ne 12, 3) := by decide +kernel
theorem dX6_clash_56 : decode cX6_clash 56 = .ok (.iload 4, 2) := by decide +kernel
theorem dX6_clash_58 : decode cX6_clash 58 = .ok (.ifCond .ne 7, 3) := by decide +kernel
theorem dX6_clash_61 : decode cX6_clash 61 = .ok (.iconst 1, 1) := by decide +kernel
theorem dX6_clash_62 : decode cX6_clash 62 = .ok (.goto 4, 3) := by decide +kernel
theorem dX6_clash_65 : decode cX6_clash 65 = .ok (.iconst 0, 1) := by decide +kernel
theorem dX6_clash_66 : decode cX6_clash 66 = .ok (.ireturn, 1) := by decide +kernel
set_option maxRecDepth 20000 in
theorem ggX6_foesOf_X6_clash : GoodIn wsX6_foesOf wsX6_clash := goodIn_r _ [4] (by decide +kernel) (by decide +kernel)
set_option maxRecDepth 20000 in
theorem gX6_foesOf_X6_clash : GoodIn wsX6_foesOf (va_wsS RX6 50 yX6_clash wsX6_clash) := goodIn_app (goodIn_of _ (by decide +kernel)) ggX6_foesOf_X6_clash
theorem dX6_foesOf_0 : decode cX6_foesOf 0 = .ok (.iconst 0, 1) := by decide +kernel
theorem dX6_foesOf_1 : decode cX6_foesOf 1 = .ok (.istore_n 2, 1) := by decide +kernel
theorem dX6_foesOf_2 : decode cX6_foesOf 2 = .ok (.iconst 0, 1) := by decide +kernel
theorem dX6_foesOf_3 : decode cX6_foesOf 3 = .ok (.istore_n 3, 1) := by decide +kernel
theorem dX6_foesOf_4 : decode cX6_foesOf 4 = .ok (.iload_n 3, 1) := by decide +kernel
theorem dX6_foesOf_5 : decode cX6_foesOf 5 = .ok (.aload_n 0, 1) := by decide +kernel
theorem dX6_foesOf_6 : decode cX6_foesOf 6 = .ok (.bipush 44, 2) := by decide +kernel
theorem dX6_foesOf_8 : decode cX6_foesOf 8 = .ok (.iaload, 1) := by decide +kernel
theorem dX6_foesOf_9 : decode cX6_foesOf 9 = .ok (.if_icmp .ge 28, 3) := by decide +kernel
theorem dX6_foesOf_12 : decode cX6_foesOf 12 = .ok (.iload_n 2, 1) := by decide +kernel
theorem dX6_foesOf_13 : decode cX6_foesOf 13 = .ok (.aload_n 0, 1) := by decide +kernel
theorem dX6_foesOf_14 : decode cX6_foesOf 14 = .ok (.iload_n 1, 1) := by decide +kernel
theorem dX6_foesOf_15 : decode cX6_foesOf 15 = .ok (.iload_n 3, 1) := by decide +kernel
theorem dX6_foesOf_16 : decode cX6_foesOf 16 = .ok (.invokestatic 50, 3) := by decide +kernel
theorem dX6_foesOf_19 : decode cX6_foesOf 19 = .ok (.ifCond .eq 9, 3) := by decide +kernel
theorem dX6_foesOf_22 : decode cX6_foesOf 22 = .ok (.iconst 1, 1) := by decide +kernel
theorem dX6_foesOf_23 : decode cX6_foesOf 23 = .ok (.iload_n 3, 1) := by decide +kernel
theorem dX6_foesOf_24 : decode cX6_foesOf 24 = .ok (.ishl, 1) := by decide +kernel
theorem dX6_foesOf_25 : decode cX6_foesOf 25 = .ok (.goto 4, 3) := by decide +kernel
theorem dX6_foesOf_28 : decode cX6_foesOf 28 = .ok (.iconst 0, 1) := by decide +kernel
theorem dX6_foesOf_29 : decode cX6_foesOf 29 = .ok (.ior, 1) := by decide +kernel
theorem dX6_foesOf_30 : decode cX6_foesOf 30 = .ok (.istore_n 2, 1) := by decide +kernel
theorem dX6_foesOf_31 : decode cX6_foesOf 31 = .ok (.iinc 3 1, 3) := by decide +kernel
theorem dX6_foesOf_34 : decode cX6_foesOf 34 = .ok (.goto (-30), 3) := by decide +kernel
theorem dX6_foesOf_37 : decode cX6_foesOf 37 = .ok (.iload_n 2, 1) := by decide +kernel
theorem dX6_foesOf_38 : decode cX6_foesOf 38 = .ok (.ireturn, 1) := by decide +kernel
theorem dX6_bits_0 : decode cX6_bits 0 = .ok (.iconst 0, 1) := by decide +kernel
theorem dX6_bits_1 : decode cX6_bits 1 = .ok (.istore_n 1, 1) := by decide +kernel
theorem dX6_bits_2 : decode cX6_bits 2 = .ok (.iconst 0, 1) := by decide +kernel
theorem dX6_bits_3 : decode cX6_bits 3 = .ok (.istore_n 2, 1) := by decide +kernel
theorem dX6_bits_4 : decode cX6_bits 4 = .ok (.iload_n 2, 1) := by decide +kernel
theorem dX6_bits_5 : decode cX6_bits 5 = .ok (.bipush 14, 2) := by decide +kernel
theorem dX6_bits_7 : decode cX6_bits 7 = .ok (.if_icmp .ge 17, 3) := by decide +kernel
theorem dX6_bits_10 : decode cX6_bits 10 = .ok (.iload_n 1, 1) := by decide +kernel
theorem dX6_bits_11 : decode cX6_bits 11 = .ok (.iload_n 0, 1) := by decide +kernel
theorem dX6_bits_12 : decode cX6_bits 12 = .ok (.iload_n 2, 1) := by decide +kernel
theorem dX6_bits_13 : decode cX6_bits 13 = .ok (.ishr, 1) := by decide +kernel
theorem dX6_bits_14 : decode cX6_bits 14 = .ok (.iconst 1, 1) := by decide +kernel
theorem dX6_bits_15 : decode cX6_bits 15 = .ok (.iand, 1) := by decide +kernel
theorem dX6_bits_16 : decode cX6_bits 16 = .ok (.iadd, 1) := by decide +kernel
theorem dX6_bits_17 : decode cX6_bits 17 = .ok (.istore_n 1, 1) := by decide +kernel
theorem dX6_bits_18 : decode cX6_bits 18 = .ok (.iinc 2 1, 3) := by decide +kernel
theorem dX6_bits_21 : decode cX6_bits 21 = .ok (.goto (-17), 3) := by decide +kernel
theorem dX6_bits_24 : decode cX6_bits 24 = .ok (.iload_n 1, 1) := by decide +kernel
theorem dX6_bits_25 : decode cX6_bits 25 = .ok (.ireturn, 1) := by decide +kernel
set_option maxRecDepth 20000 in
theorem ggX6_isChoice_X6_foesOf : GoodIn wsX6_isChoice wsX6_foesOf := goodIn_r _ [4, 5, 6, 3, 7] (by decide +kernel) (by decide +kernel)
set_option maxRecDepth 20000 in
theorem gX6_isChoice_X6_foesOf : GoodIn wsX6_isChoice (va_wsS RX6 54 yX6_foesOf wsX6_foesOf) := goodIn_app (goodIn_of _ (by decide +kernel)) ggX6_isChoice_X6_foesOf
theorem dX6_isChoice_0 : decode cX6_isChoice 0 = .ok (.iconst 1, 1) := by decide +kernel
theorem dX6_isChoice_1 : decode cX6_isChoice 1 = .ok (.istore_n 2, 1) := by decide +kernel
theorem dX6_isChoice_2 : decode cX6_isChoice 2 = .ok (.iconst 0, 1) := by decide +kernel
theorem dX6_isChoice_3 : decode cX6_isChoice 3 = .ok (.istore_n 3, 1) := by decide +kernel
theorem dX6_isChoice_4 : decode cX6_isChoice 4 = .ok (.iload_n 3, 1) := by decide +kernel
theorem dX6_isChoice_5 : decode cX6_isChoice 5 = .ok (.aload_n 0, 1) := by decide +kernel
theorem dX6_isChoice_6 : decode cX6_isChoice 6 = .ok (.bipush 44, 2) := by decide +kernel
theorem dX6_isChoice_8 : decode cX6_isChoice 8 = .ok (.iaload, 1) := by decide +kernel
theorem dX6_isChoice_9 : decode cX6_isChoice 9 = .ok (.if_icmp .ge 37, 3) := by decide +kernel
theorem dX6_isChoice_12 : decode cX6_isChoice 12 = .ok (.iload_n 2, 1) := by decide +kernel
theorem dX6_isChoice_13 : decode cX6_isChoice 13 = .ok (.ifCond .eq 25, 3) := by decide +kernel
theorem dX6_isChoice_16 : decode cX6_isChoice 16 = .ok (.iload_n 1, 1) := by decide +kernel
theorem dX6_isChoice_17 : decode cX6_isChoice 17 = .ok (.iload_n 3, 1) := by decide +kernel
theorem dX6_isChoice_18 : decode cX6_isChoice 18 = .ok (.ishr, 1) := by decide +kernel
theorem dX6_isChoice_19 : decode cX6_isChoice 19 = .ok (.iconst 1, 1) := by decide +kernel
theorem dX6_isChoice_20 : decode cX6_isChoice 20 = .ok (.iand, 1) := by decide +kernel
theorem dX6_isChoice_21 : decode cX6_isChoice 21 = .ok (.ifCond .eq 13, 3) := by decide +kernel
theorem dX6_isChoice_24 : decode cX6_isChoice 24 = .ok (.aload_n 0, 1) := by decide +kernel
theorem dX6_isChoice_25 : decode cX6_isChoice 25 = .ok (.iload_n 3, 1) := by decide +kernel
theorem dX6_isChoice_26 : decode cX6_isChoice 26 = .ok (.invokestatic 54, 3) := by decide +kernel
theorem dX6_isChoice_29 : decode cX6_isChoice 29 = .ok (.iload_n 1, 1) := by decide +kernel
theorem dX6_isChoice_30 : decode cX6_isChoice 30 = .ok (.iand, 1) := by decide +kernel
theorem dX6_isChoice_31 : decode cX6_isChoice 31 = .ok (.ifCond .ne 7, 3) := by decide +kernel
theorem dX6_isChoice_34 : decode cX6_isChoice 34 = .ok (.iconst 1, 1) := by decide +kernel
theorem dX6_isChoice_35 : decode cX6_isChoice 35 = .ok (.goto 4, 3) := by decide +kernel
theorem dX6_isChoice_38 : decode cX6_isChoice 38 = .ok (.iconst 0, 1) := by decide +kernel
theorem dX6_isChoice_39 : decode cX6_isChoice 39 = .ok (.istore_n 2, 1) := by decide +kernel
theorem dX6_isChoice_40 : decode cX6_isChoice 40 = .ok (.iinc 3 1, 3) := by decide +kernel
theorem dX6_isChoice_43 : decode cX6_isChoice 43 = .ok (.goto (-39), 3) := by decide +kernel
theorem dX6_isChoice_46 : decode cX6_isChoice 46 = .ok (.iload_n 2, 1) := by decide +kernel
theorem dX6_isChoice_47 : decode cX6_isChoice 47 = .ok (.ireturn, 1) := by decide +kernel
set_option maxRecDepth 20000 in
theorem ggX6_pairs_X6_foesOf : GoodIn wsX6_pairs wsX6_foesOf := goodIn_r _ [5, 6, 7, 4, 8] (by decide +kernel) (by decide +kernel)
set_option maxRecDepth 20000 in
theorem gX6_pairs_X6_foesOf : GoodIn wsX6_pairs (va_wsS RX6 54 yX6_foesOf wsX6_foesOf) := goodIn_app (goodIn_of _ (by decide +kernel)) ggX6_pairs_X6_foesOf
set_option maxRecDepth 20000 in
theorem ggX6_pairs_X6_bits : GoodIn wsX6_pairs wsX6_bits := goodIn_r _ [11] (by decide +kernel) (by decide +kernel)
set_option maxRecDepth 20000 in
theorem gX6_pairs_X6_bits : GoodIn wsX6_pairs (va_wsS RX6 58 yX6_bits wsX6_bits) := goodIn_app (goodIn_of _ (by decide +kernel)) ggX6_pairs_X6_bits
theorem dX6_pairs_0 : decode cX6_pairs 0 = .ok (.iconst 0, 1) := by decide +kernel
theorem dX6_pairs_1 : decode cX6_pairs 1 = .ok (.istore_n 1, 1) := by decide +kernel
theorem dX6_pairs_2 : decode cX6_pairs 2 = .ok (.iconst 0, 1) := by decide +kernel
theorem dX6_pairs_3 : decode cX6_pairs 3 = .ok (.istore_n 2, 1) := by decide +kernel
theorem dX6_pairs_4 : decode cX6_pairs 4 = .ok (.iload_n 2, 1) := by decide +kernel
theorem dX6_pairs_5 : decode cX6_pairs 5 = .ok (.aload_n 0, 1) := by decide +kernel
theorem dX6_pairs_6 : decode cX6_pairs 6 = .ok (.getfield 7, 3) := by decide +kernel
theorem dX6_pairs_9 : decode cX6_pairs 9 = .ok (.bipush 44, 2) := by decide +kernel
theorem dX6_pairs_11 : decode cX6_pairs 11 = .ok (.iaload, 1) := by decide +kernel
theorem dX6_pairs_12 : decode cX6_pairs 12 = .ok (.if_icmp .ge 23, 3) := by decide +kernel
theorem dX6_pairs_15 : decode cX6_pairs 15 = .ok (.iload_n 1, 1) := by decide +kernel
theorem dX6_pairs_16 : decode cX6_pairs 16 = .ok (.aload_n 0, 1) := by decide +kernel
theorem dX6_pairs_17 : decode cX6_pairs 17 = .ok (.getfield 7, 3) := by decide +kernel
theorem dX6_pairs_20 : decode cX6_pairs 20 = .ok (.iload_n 2, 1) := by decide +kernel
theorem dX6_pairs_21 : decode cX6_pairs 21 = .ok (.invokestatic 54, 3) := by decide +kernel
theorem dX6_pairs_24 : decode cX6_pairs 24 = .ok (.invokestatic 58, 3) := by decide +kernel
theorem dX6_pairs_27 : decode cX6_pairs 27 = .ok (.iadd, 1) := by decide +kernel
theorem dX6_pairs_28 : decode cX6_pairs 28 = .ok (.istore_n 1, 1) := by decide +kernel
theorem dX6_pairs_29 : decode cX6_pairs 29 = .ok (.iinc 2 1, 3) := by decide +kernel
theorem dX6_pairs_32 : decode cX6_pairs 32 = .ok (.goto (-28), 3) := by decide +kernel
theorem dX6_pairs_35 : decode cX6_pairs 35 = .ok (.iload_n 1, 1) := by decide +kernel
theorem dX6_pairs_36 : decode cX6_pairs 36 = .ok (.iconst 2, 1) := by decide +kernel
theorem dX6_pairs_37 : decode cX6_pairs 37 = .ok (.idiv, 1) := by decide +kernel
theorem dX6_pairs_38 : decode cX6_pairs 38 = .ok (.ireturn, 1) := by decide +kernel
set_option maxRecDepth 20000 in
theorem ggX6_give_X6_clash : GoodIn wsX6_give wsX6_clash := goodIn_r _ [6] (by decide +kernel) (by decide +kernel)
set_option maxRecDepth 20000 in
theorem gX6_give_X6_clash : GoodIn wsX6_give (va_wsS RX6 50 yX6_clash wsX6_clash) := goodIn_app (goodIn_of _ (by decide +kernel)) ggX6_give_X6_clash
theorem dX6_give_0 : decode cX6_give 0 = .ok (.iconst 0, 1) := by decide +kernel
theorem dX6_give_1 : decode cX6_give 1 = .ok (.istore_n 1, 1) := by decide +kernel
theorem dX6_give_2 : decode cX6_give 2 = .ok (.iconst 0, 1) := by decide +kernel
theorem dX6_give_3 : decode cX6_give 3 = .ok (.istore_n 2, 1) := by decide +kernel
theorem dX6_give_4 : decode cX6_give 4 = .ok (.iconst 0, 1) := by decide +kernel
theorem dX6_give_5 : decode cX6_give 5 = .ok (.istore_n 3, 1) := by decide +kernel
theorem dX6_give_6 : decode cX6_give 6 = .ok (.iload_n 3, 1) := by decide +kernel
theorem dX6_give_7 : decode cX6_give 7 = .ok (.aload_n 0, 1) := by decide +kernel
theorem dX6_give_8 : decode cX6_give 8 = .ok (.getfield 7, 3) := by decide +kernel
theorem dX6_give_11 : decode cX6_give 11 = .ok (.bipush 44, 2) := by decide +kernel
theorem dX6_give_13 : decode cX6_give 13 = .ok (.iaload, 1) := by decide +kernel
theorem dX6_give_14 : decode cX6_give 14 = .ok (.if_icmp .ge 217, 3) := by decide +kernel
theorem dX6_give_17 : decode cX6_give 17 = .ok (.iconst (-1), 1) := by decide +kernel
theorem dX6_give_18 : decode cX6_give 18 = .ok (.istore 4, 2) := by decide +kernel
theorem dX6_give_20 : decode cX6_give 20 = .ok (.iconst 0, 1) := by decide +kernel
theorem dX6_give_21 : decode cX6_give 21 = .ok (.istore 5, 2) := by decide +kernel
theorem dX6_give_23 : decode cX6_give 23 = .ok (.iload 5, 2) := by decide +kernel
theorem dX6_give_25 : decode cX6_give 25 = .ok (.aload_n 0, 1) := by decide +kernel
theorem dX6_give_26 : decode cX6_give 26 = .ok (.getfield 7, 3) := by decide +kernel
theorem dX6_give_29 : decode cX6_give 29 = .ok (.bipush 44, 2) := by decide +kernel
theorem dX6_give_31 : decode cX6_give 31 = .ok (.iaload, 1) := by decide +kernel
theorem dX6_give_32 : decode cX6_give 32 = .ok (.if_icmp .ge 62, 3) := by decide +kernel
theorem dX6_give_35 : decode cX6_give 35 = .ok (.iload_n 1, 1) := by decide +kernel
theorem dX6_give_36 : decode cX6_give 36 = .ok (.iload 5, 2) := by decide +kernel
theorem dX6_give_38 : decode cX6_give 38 = .ok (.ishr, 1) := by decide +kernel
theorem dX6_give_39 : decode cX6_give 39 = .ok (.iconst 1, 1) := by decide +kernel
theorem dX6_give_40 : decode cX6_give 40 = .ok (.iand, 1) := by decide +kernel
theorem dX6_give_41 : decode cX6_give 41 = .ok (.ifCond .ne 7, 3) := by decide +kernel
theorem dX6_give_44 : decode cX6_give 44 = .ok (.iconst 1, 1) := by decide +kernel
theorem dX6_give_45 : decode cX6_give 45 = .ok (.goto 4, 3) := by decide +kernel
theorem dX6_give_48 : decode cX6_give 48 = .ok (.iconst 0, 1) := by decide +kernel
theorem dX6_give_49 : decode cX6_give 49 = .ok (.istore 6, 2) := by decide +kernel
theorem dX6_give_51 : decode cX6_give 51 = .ok (.iload 6, 2) := by decide +kernel
theorem dX6_give_53 : decode cX6_give 53 = .ok (.ifCond .eq 31, 3) := by decide +kernel
theorem dX6_give_56 : decode cX6_give 56 = .ok (.iload 4, 2) := by decide +kernel
theorem dX6_give_58 : decode cX6_give 58 = .ok (.iconst (-1), 1) := by decide +kernel
theorem dX6_give_59 : decode cX6_give 59 = .ok (.if_icmp .eq 20, 3) := by decide +kernel
theorem dX6_give_62 : decode cX6_give 62 = .ok (.aload_n 0, 1) := by decide +kernel
theorem dX6_give_63 : decode cX6_give 63 = .ok (.getfield 7, 3) := by decide +kernel
theorem dX6_give_66 : decode cX6_give 66 = .ok (.iload 5, 2) := by decide +kernel
theorem dX6_give_68 : decode cX6_give 68 = .ok (.iaload, 1) := by decide +kernel
theorem dX6_give_69 : decode cX6_give 69 = .ok (.aload_n 0, 1) := by decide +kernel
theorem dX6_give_70 : decode cX6_give 70 = .ok (.getfield 7, 3) := by decide +kernel
theorem dX6_give_73 : decode cX6_give 73 = .ok (.iload 4, 2) := by decide +kernel
theorem dX6_give_75 : decode cX6_give 75 = .ok (.iaload, 1) := by decide +kernel
theorem dX6_give_76 : decode cX6_give 76 = .ok (.if_icmp .ge 8, 3) := by decide +kernel
theorem dX6_give_79 : decode cX6_give 79 = .ok (.iload 5, 2) := by decide +kernel
theorem dX6_give_81 : decode cX6_give 81 = .ok (.goto 5, 3) := by decide +kernel
theorem dX6_give_84 : decode cX6_give 84 = .ok (.iload 4, 2) := by decide +kernel
theorem dX6_give_86 : decode cX6_give 86 = .ok (.istore 4, 2) := by decide +kernel
theorem dX6_give_88 : decode cX6_give 88 = .ok (.iinc 5 1, 3) := by decide +kernel
theorem dX6_give_91 : decode cX6_give 91 = .ok (.goto (-68), 3) := by decide +kernel
theorem dX6_give_94 : decode cX6_give 94 = .ok (.iconst 0, 1) := by decide +kernel
theorem dX6_give_95 : decode cX6_give 95 = .ok (.istore 5, 2) := by decide +kernel
theorem dX6_give_97 : decode cX6_give 97 = .ok (.iconst 0, 1) := by decide +kernel
theorem dX6_give_98 : decode cX6_give 98 = .ok (.istore 6, 2) := by decide +kernel
theorem dX6_give_100 : decode cX6_give 100 = .ok (.iload 6, 2) := by decide +kernel
theorem dX6_give_102 : decode cX6_give 102 = .ok (.aload_n 0, 1) := by decide +kernel
theorem dX6_give_103 : decode cX6_give 103 = .ok (.getfield 7, 3) := by decide +kernel
theorem dX6_give_106 : decode cX6_give 106 = .ok (.bipush 44, 2) := by decide +kernel
theorem dX6_give_108 : decode cX6_give 108 = .ok (.iaload, 1) := by decide +kernel
theorem dX6_give_109 : decode cX6_give 109 = .ok (.if_icmp .ge 63, 3) := by decide +kernel
theorem dX6_give_112 : decode cX6_give 112 = .ok (.iload_n 1, 1) := by decide +kernel
theorem dX6_give_113 : decode cX6_give 113 = .ok (.iload 6, 2) := by decide +kernel
theorem dX6_give_115 : decode cX6_give 115 = .ok (.ishr, 1) := by decide +kernel
theorem dX6_give_116 : decode cX6_give 116 = .ok (.iconst 1, 1) := by decide +kernel
theorem dX6_give_117 : decode cX6_give 117 = .ok (.iand, 1) := by decide +kernel
theorem dX6_give_118 : decode cX6_give 118 = .ok (.iconst 1, 1) := by decide +kernel
theorem dX6_give_119 : decode cX6_give 119 = .ok (.if_icmp .ne 21, 3) := by decide +kernel
theorem dX6_give_122 : decode cX6_give 122 = .ok (.aload_n 0, 1) := by decide +kernel
theorem dX6_give_123 : decode cX6_give 123 = .ok (.getfield 7, 3) := by decide +kernel
theorem dX6_give_126 : decode cX6_give 126 = .ok (.iload 4, 2) := by decide +kernel
theorem dX6_give_128 : decode cX6_give 128 = .ok (.iload 6, 2) := by decide +kernel
theorem dX6_give_130 : decode cX6_give 130 = .ok (.invokestatic 50, 3) := by decide +kernel
theorem dX6_give_133 : decode cX6_give 133 = .ok (.ifCond .eq 7, 3) := by decide +kernel
theorem dX6_give_136 : decode cX6_give 136 = .ok (.iconst 1, 1) := by decide +kernel
theorem dX6_give_137 : decode cX6_give 137 = .ok (.goto 4, 3) := by decide +kernel
theorem dX6_give_140 : decode cX6_give 140 = .ok (.iconst 0, 1) := by decide +kernel
theorem dX6_give_141 : decode cX6_give 141 = .ok (.istore 7, 2) := by decide +kernel
theorem dX6_give_143 : decode cX6_give 143 = .ok (.iload 5, 2) := by decide +kernel
theorem dX6_give_145 : decode cX6_give 145 = .ok (.iload 7, 2) := by decide +kernel
theorem dX6_give_147 : decode cX6_give 147 = .ok (.ifCond .eq 15, 3) := by decide +kernel
theorem dX6_give_150 : decode cX6_give 150 = .ok (.iconst 1, 1) := by decide +kernel
theorem dX6_give_151 : decode cX6_give 151 = .ok (.aload_n 0, 1) := by decide +kernel
theorem dX6_give_152 : decode cX6_give 152 = .ok (.getfield 22, 3) := by decide +kernel
theorem dX6_give_155 : decode cX6_give 155 = .ok (.iload 6, 2) := by decide +kernel
theorem dX6_give_157 : decode cX6_give 157 = .ok (.iaload, 1) := by decide +kernel
theorem dX6_give_158 : decode cX6_give 158 = .ok (.ishl, 1) := by decide +kernel
theorem dX6_give_159 : decode cX6_give 159 = .ok (.goto 4, 3) := by decide +kernel
theorem dX6_give_162 : decode cX6_give 162 = .ok (.iconst 0, 1) := by decide +kernel
theorem dX6_give_163 : decode cX6_give 163 = .ok (.ior, 1) := by decide +kernel
theorem dX6_give_164 : decode cX6_give 164 = .ok (.istore 5, 2) := by decide +kernel
theorem dX6_give_166 : decode cX6_give 166 = .ok (.iinc 6 1, 3) := by decide +kernel
theorem dX6_give_169 : decode cX6_give 169 = .ok (.goto (-69), 3) := by decide +kernel
theorem dX6_give_172 : decode cX6_give 172 = .ok (.iconst 0, 1) := by decide +kernel
theorem dX6_give_173 : decode cX6_give 173 = .ok (.istore 6, 2) := by decide +kernel
theorem dX6_give_175 : decode cX6_give 175 = .ok (.iload 5, 2) := by decide +kernel
theorem dX6_give_177 : decode cX6_give 177 = .ok (.iload 6, 2) := by decide +kernel
theorem dX6_give_179 : decode cX6_give 179 = .ok (.ishr, 1) := by decide +kernel
theorem dX6_give_180 : decode cX6_give 180 = .ok (.iconst 1, 1) := by decide +kernel
theorem dX6_give_181 : decode cX6_give 181 = .ok (.iand, 1) := by decide +kernel
theorem dX6_give_182 : decode cX6_give 182 = .ok (.iconst 1, 1) := by decide +kernel
theorem dX6_give_183 : decode cX6_give 183 = .ok (.if_icmp .ne 9, 3) := by decide +kernel
theorem dX6_give_186 : decode cX6_give 186 = .ok (.iinc 6 1, 3) := by decide +kernel
theorem dX6_give_189 : decode cX6_give 189 = .ok (.goto (-14), 3) := by decide +kernel
theorem dX6_give_192 : decode cX6_give 192 = .ok (.aload_n 0, 1) := by decide +kernel
theorem dX6_give_193 : decode cX6_give 193 = .ok (.getfield 22, 3) := by decide +kernel
theorem dX6_give_196 : decode cX6_give 196 = .ok (.iload 4, 2) := by decide +kernel
theorem dX6_give_198 : decode cX6_give 198 = .ok (.iload 6, 2) := by decide +kernel
theorem dX6_give_200 : decode cX6_give 200 = .ok (.iastore, 1) := by decide +kernel
theorem dX6_give_201 : decode cX6_give 201 = .ok (.iload_n 1, 1) := by decide +kernel
theorem dX6_give_202 : decode cX6_give 202 = .ok (.iconst 1, 1) := by decide +kernel
theorem dX6_give_203 : decode cX6_give 203 = .ok (.iload 4, 2) := by decide +kernel
theorem dX6_give_205 : decode cX6_give 205 = .ok (.ishl, 1) := by decide +kernel
theorem dX6_give_206 : decode cX6_give 206 = .ok (.ior, 1) := by decide +kernel
theorem dX6_give_207 : decode cX6_give 207 = .ok (.istore_n 1, 1) := by decide +kernel
theorem dX6_give_208 : decode cX6_give 208 = .ok (.iload 6, 2) := by decide +kernel
theorem dX6_give_210 : decode cX6_give 210 = .ok (.iconst 1, 1) := by decide +kernel
theorem dX6_give_211 : decode cX6_give 211 = .ok (.iadd, 1) := by decide +kernel
theorem dX6_give_212 : decode cX6_give 212 = .ok (.iload_n 2, 1) := by decide +kernel
theorem dX6_give_213 : decode cX6_give 213 = .ok (.if_icmp .le 10, 3) := by decide +kernel
theorem dX6_give_216 : decode cX6_give 216 = .ok (.iload 6, 2) := by decide +kernel
theorem dX6_give_218 : decode cX6_give 218 = .ok (.iconst 1, 1) := by decide +kernel
theorem dX6_give_219 : decode cX6_give 219 = .ok (.iadd, 1) := by decide +kernel
theorem dX6_give_220 : decode cX6_give 220 = .ok (.goto 4, 3) := by decide +kernel
theorem dX6_give_223 : decode cX6_give 223 = .ok (.iload_n 2, 1) := by decide +kernel
theorem dX6_give_224 : decode cX6_give 224 = .ok (.istore_n 2, 1) := by decide +kernel
theorem dX6_give_225 : decode cX6_give 225 = .ok (.iinc 3 1, 3) := by decide +kernel
theorem dX6_give_228 : decode cX6_give 228 = .ok (.goto (-222), 3) := by decide +kernel
theorem dX6_give_231 : decode cX6_give 231 = .ok (.iload_n 2, 1) := by decide +kernel
theorem dX6_give_232 : decode cX6_give 232 = .ok (.ireturn, 1) := by decide +kernel
set_option maxRecDepth 20000 in
theorem ggX6_fill_X6_foesOf : GoodIn wsX6_fill wsX6_foesOf := goodIn_r _ [7, 8, 9, 6, 10] (by decide +kernel) (by decide +kernel)
set_option maxRecDepth 20000 in
theorem gX6_fill_X6_foesOf : GoodIn wsX6_fill (va_wsS RX6 54 yX6_foesOf wsX6_foesOf) := goodIn_app (goodIn_of _ (by decide +kernel)) ggX6_fill_X6_foesOf
theorem dX6_fill_0 : decode cX6_fill 0 = .ok (.iconst 1, 1) := by decide +kernel
theorem dX6_fill_1 : decode cX6_fill 1 = .ok (.aload_n 0, 1) := by decide +kernel
theorem dX6_fill_2 : decode cX6_fill 2 = .ok (.getfield 7, 3) := by decide +kernel
theorem dX6_fill_5 : decode cX6_fill 5 = .ok (.bipush 44, 2) := by decide +kernel
theorem dX6_fill_7 : decode cX6_fill 7 = .ok (.iaload, 1) := by decide +kernel
theorem dX6_fill_8 : decode cX6_fill 8 = .ok (.ishl, 1) := by decide +kernel
theorem dX6_fill_9 : decode cX6_fill 9 = .ok (.istore_n 1, 1) := by decide +kernel
theorem dX6_fill_10 : decode cX6_fill 10 = .ok (.iconst 0, 1) := by decide +kernel
theorem dX6_fill_11 : decode cX6_fill 11 = .ok (.istore_n 2, 1) := by decide +kernel
theorem dX6_fill_12 : decode cX6_fill 12 = .ok (.iload_n 2, 1) := by decide +kernel
theorem dX6_fill_13 : decode cX6_fill 13 = .ok (.aload_n 0, 1) := by decide +kernel
theorem dX6_fill_14 : decode cX6_fill 14 = .ok (.getfield 7, 3) := by decide +kernel
theorem dX6_fill_17 : decode cX6_fill 17 = .ok (.bipush 44, 2) := by decide +kernel
theorem dX6_fill_19 : decode cX6_fill 19 = .ok (.iaload, 1) := by decide +kernel
theorem dX6_fill_20 : decode cX6_fill 20 = .ok (.if_icmp .ge 23, 3) := by decide +kernel
theorem dX6_fill_23 : decode cX6_fill 23 = .ok (.aload_n 0, 1) := by decide +kernel
theorem dX6_fill_24 : decode cX6_fill 24 = .ok (.getfield 19, 3) := by decide +kernel
theorem dX6_fill_27 : decode cX6_fill 27 = .ok (.iload_n 2, 1) := by decide +kernel
theorem dX6_fill_28 : decode cX6_fill 28 = .ok (.aload_n 0, 1) := by decide +kernel
theorem dX6_fill_29 : decode cX6_fill 29 = .ok (.getfield 7, 3) := by decide +kernel
theorem dX6_fill_32 : decode cX6_fill 32 = .ok (.iload_n 2, 1) := by decide +kernel
theorem dX6_fill_33 : decode cX6_fill 33 = .ok (.invokestatic 54, 3) := by decide +kernel
theorem dX6_fill_36 : decode cX6_fill 36 = .ok (.iastore, 1) := by decide +kernel
theorem dX6_fill_37 : decode cX6_fill 37 = .ok (.iinc 2 1, 3) := by decide +kernel
theorem dX6_fill_40 : decode cX6_fill 40 = .ok (.goto (-28), 3) := by decide +kernel
theorem dX6_fill_43 : decode cX6_fill 43 = .ok (.aload_n 0, 1) := by decide +kernel
theorem dX6_fill_44 : decode cX6_fill 44 = .ok (.getfield 16, 3) := by decide +kernel
theorem dX6_fill_47 : decode cX6_fill 47 = .ok (.iconst 0, 1) := by decide +kernel
theorem dX6_fill_48 : decode cX6_fill 48 = .ok (.iconst 0, 1) := by decide +kernel
theorem dX6_fill_49 : decode cX6_fill 49 = .ok (.iastore, 1) := by decide +kernel
theorem dX6_fill_50 : decode cX6_fill 50 = .ok (.iconst 0, 1) := by decide +kernel
theorem dX6_fill_51 : decode cX6_fill 51 = .ok (.istore_n 2, 1) := by decide +kernel
theorem dX6_fill_52 : decode cX6_fill 52 = .ok (.iconst 1, 1) := by decide +kernel
theorem dX6_fill_53 : decode cX6_fill 53 = .ok (.istore_n 3, 1) := by decide +kernel
theorem dX6_fill_54 : decode cX6_fill 54 = .ok (.iload_n 3, 1) := by decide +kernel
theorem dX6_fill_55 : decode cX6_fill 55 = .ok (.iload_n 1, 1) := by decide +kernel
theorem dX6_fill_56 : decode cX6_fill 56 = .ok (.if_icmp .ge 82, 3) := by decide +kernel
theorem dX6_fill_59 : decode cX6_fill 59 = .ok (.iload_n 2, 1) := by decide +kernel
theorem dX6_fill_60 : decode cX6_fill 60 = .ok (.iload_n 3, 1) := by decide +kernel
theorem dX6_fill_61 : decode cX6_fill 61 = .ok (.iload_n 2, 1) := by decide +kernel
theorem dX6_fill_62 : decode cX6_fill 62 = .ok (.iconst 1, 1) := by decide +kernel
theorem dX6_fill_63 : decode cX6_fill 63 = .ok (.iadd, 1) := by decide +kernel
theorem dX6_fill_64 : decode cX6_fill 64 = .ok (.ishr, 1) := by decide +kernel
theorem dX6_fill_65 : decode cX6_fill 65 = .ok (.ifCond .le 7, 3) := by decide +kernel
theorem dX6_fill_68 : decode cX6_fill 68 = .ok (.iconst 1, 1) := by decide +kernel
theorem dX6_fill_69 : decode cX6_fill 69 = .ok (.goto 4, 3) := by decide +kernel
theorem dX6_fill_72 : decode cX6_fill 72 = .ok (.iconst 0, 1) := by decide +kernel
theorem dX6_fill_73 : decode cX6_fill 73 = .ok (.iadd, 1) := by decide +kernel
theorem dX6_fill_74 : decode cX6_fill 74 = .ok (.istore_n 2, 1) := by decide +kernel
theorem dX6_fill_75 : decode cX6_fill 75 = .ok (.iload_n 3, 1) := by decide +kernel
theorem dX6_fill_76 : decode cX6_fill 76 = .ok (.iconst 1, 1) := by decide +kernel
theorem dX6_fill_77 : decode cX6_fill 77 = .ok (.iload_n 2, 1) := by decide +kernel
theorem dX6_fill_78 : decode cX6_fill 78 = .ok (.ishl, 1) := by decide +kernel
theorem dX6_fill_79 : decode cX6_fill 79 = .ok (.isub, 1) := by decide +kernel
theorem dX6_fill_80 : decode cX6_fill 80 = .ok (.istore 4, 2) := by decide +kernel
theorem dX6_fill_82 : decode cX6_fill 82 = .ok (.aload_n 0, 1) := by decide +kernel
theorem dX6_fill_83 : decode cX6_fill 83 = .ok (.getfield 16, 3) := by decide +kernel
theorem dX6_fill_86 : decode cX6_fill 86 = .ok (.iload_n 3, 1) := by decide +kernel
theorem dX6_fill_87 : decode cX6_fill 87 = .ok (.aload_n 0, 1) := by decide +kernel
theorem dX6_fill_88 : decode cX6_fill 88 = .ok (.getfield 16, 3) := by decide +kernel
theorem dX6_fill_91 : decode cX6_fill 91 = .ok (.iload 4, 2) := by decide +kernel
theorem dX6_fill_93 : decode cX6_fill 93 = .ok (.iaload, 1) := by decide +kernel
theorem dX6_fill_94 : decode cX6_fill 94 = .ok (.iconst (-1), 1) := by decide +kernel
theorem dX6_fill_95 : decode cX6_fill 95 = .ok (.if_icmp .eq 15, 3) := by decide +kernel
theorem dX6_fill_98 : decode cX6_fill 98 = .ok (.aload_n 0, 1) := by decide +kernel
theorem dX6_fill_99 : decode cX6_fill 99 = .ok (.getfield 19, 3) := by decide +kernel
theorem dX6_fill_102 : decode cX6_fill 102 = .ok (.iload_n 2, 1) := by decide +kernel
theorem dX6_fill_103 : decode cX6_fill 103 = .ok (.iaload, 1) := by decide +kernel
theorem dX6_fill_104 : decode cX6_fill 104 = .ok (.iload 4, 2) := by decide +kernel
theorem dX6_fill_106 : decode cX6_fill 106 = .ok (.iand, 1) := by decide +kernel
theorem dX6_fill_107 : decode cX6_fill 107 = .ok (.ifCond .eq 7, 3) := by decide +kernel
theorem dX6_fill_110 : decode cX6_fill 110 = .ok (.iconst (-1), 1) := by decide +kernel
theorem dX6_fill_111 : decode cX6_fill 111 = .ok (.goto 20, 3) := by decide +kernel
theorem dX6_fill_114 : decode cX6_fill 114 = .ok (.aload_n 0, 1) := by decide +kernel
theorem dX6_fill_115 : decode cX6_fill 115 = .ok (.getfield 16, 3) := by decide +kernel
theorem dX6_fill_118 : decode cX6_fill 118 = .ok (.iload 4, 2) := by decide +kernel
theorem dX6_fill_120 : decode cX6_fill 120 = .ok (.iaload, 1) := by decide +kernel
theorem dX6_fill_121 : decode cX6_fill 121 = .ok (.aload_n 0, 1) := by decide +kernel
theorem dX6_fill_122 : decode cX6_fill 122 = .ok (.getfield 7, 3) := by decide +kernel
theorem dX6_fill_125 : decode cX6_fill 125 = .ok (.bipush 28, 2) := by decide +kernel
theorem dX6_fill_127 : decode cX6_fill 127 = .ok (.iload_n 2, 1) := by decide +kernel
theorem dX6_fill_128 : decode cX6_fill 128 = .ok (.iadd, 1) := by decide +kernel
theorem dX6_fill_129 : decode cX6_fill 129 = .ok (.iaload, 1) := by decide +kernel
theorem dX6_fill_130 : decode cX6_fill 130 = .ok (.iadd, 1) := by decide +kernel
theorem dX6_fill_131 : decode cX6_fill 131 = .ok (.iastore, 1) := by decide +kernel
theorem dX6_fill_132 : decode cX6_fill 132 = .ok (.iinc 3 1, 3) := by decide +kernel
theorem dX6_fill_135 : decode cX6_fill 135 = .ok (.goto (-81), 3) := by decide +kernel
theorem dX6_fill_138 : decode cX6_fill 138 = .ok (.iload_n 1, 1) := by decide +kernel
theorem dX6_fill_139 : decode cX6_fill 139 = .ok (.ireturn, 1) := by decide +kernel
theorem dX6_bestSet_0 : decode cX6_bestSet 0 = .ok (.iconst (-1), 1) := by decide +kernel
theorem dX6_bestSet_1 : decode cX6_bestSet 1 = .ok (.istore_n 3, 1) := by decide +kernel
theorem dX6_bestSet_2 : decode cX6_bestSet 2 = .ok (.iconst 0, 1) := by decide +kernel
theorem dX6_bestSet_3 : decode cX6_bestSet 3 = .ok (.istore 4, 2) := by decide +kernel
theorem dX6_bestSet_5 : decode cX6_bestSet 5 = .ok (.iload 4, 2) := by decide +kernel
theorem dX6_bestSet_7 : decode cX6_bestSet 7 = .ok (.iload_n 1, 1) := by decide +kernel
theorem dX6_bestSet_8 : decode cX6_bestSet 8 = .ok (.if_icmp .ge 68, 3) := by decide +kernel
theorem dX6_bestSet_11 : decode cX6_bestSet 11 = .ok (.aload_n 0, 1) := by decide +kernel
theorem dX6_bestSet_12 : decode cX6_bestSet 12 = .ok (.getfield 16, 3) := by decide +kernel
theorem dX6_bestSet_15 : decode cX6_bestSet 15 = .ok (.iload 4, 2) := by decide +kernel
theorem dX6_bestSet_17 : decode cX6_bestSet 17 = .ok (.iaload, 1) := by decide +kernel
theorem dX6_bestSet_18 : decode cX6_bestSet 18 = .ok (.iconst (-1), 1) := by decide +kernel
theorem dX6_bestSet_19 : decode cX6_bestSet 19 = .ok (.if_icmp .eq 15, 3) := by decide +kernel
theorem dX6_bestSet_22 : decode cX6_bestSet 22 = .ok (.iload 4, 2) := by decide +kernel
theorem dX6_bestSet_24 : decode cX6_bestSet 24 = .ok (.iload_n 2, 1) := by decide +kernel
theorem dX6_bestSet_25 : decode cX6_bestSet 25 = .ok (.iand, 1) := by decide +kernel
theorem dX6_bestSet_26 : decode cX6_bestSet 26 = .ok (.iload_n 2, 1) := by decide +kernel
theorem dX6_bestSet_27 : decode cX6_bestSet 27 = .ok (.if_icmp .ne 7, 3) := by decide +kernel
theorem dX6_bestSet_30 : decode cX6_bestSet 30 = .ok (.iconst 1, 1) := by decide +kernel
theorem dX6_bestSet_31 : decode cX6_bestSet 31 = .ok (.goto 4, 3) := by decide +kernel
theorem dX6_bestSet_34 : decode cX6_bestSet 34 = .ok (.iconst 0, 1) := by decide +kernel
theorem dX6_bestSet_35 : decode cX6_bestSet 35 = .ok (.istore 5, 2) := by decide +kernel
theorem dX6_bestSet_37 : decode cX6_bestSet 37 = .ok (.iload 5, 2) := by decide +kernel
theorem dX6_bestSet_39 : decode cX6_bestSet 39 = .ok (.ifCond .eq 29, 3) := by decide +kernel
theorem dX6_bestSet_42 : decode cX6_bestSet 42 = .ok (.iload_n 3, 1) := by decide +kernel
theorem dX6_bestSet_43 : decode cX6_bestSet 43 = .ok (.iconst (-1), 1) := by decide +kernel
theorem dX6_bestSet_44 : decode cX6_bestSet 44 = .ok (.if_icmp .eq 19, 3) := by decide +kernel
theorem dX6_bestSet_47 : decode cX6_bestSet 47 = .ok (.aload_n 0, 1) := by decide +kernel
theorem dX6_bestSet_48 : decode cX6_bestSet 48 = .ok (.getfield 16, 3) := by decide +kernel
theorem dX6_bestSet_51 : decode cX6_bestSet 51 = .ok (.iload 4, 2) := by decide +kernel
theorem dX6_bestSet_53 : decode cX6_bestSet 53 = .ok (.iaload, 1) := by decide +kernel
theorem dX6_bestSet_54 : decode cX6_bestSet 54 = .ok (.aload_n 0, 1) := by decide +kernel
theorem dX6_bestSet_55 : decode cX6_bestSet 55 = .ok (.getfield 16, 3) := by decide +kernel
theorem dX6_bestSet_58 : decode cX6_bestSet 58 = .ok (.iload_n 3, 1) := by decide +kernel
theorem dX6_bestSet_59 : decode cX6_bestSet 59 = .ok (.iaload, 1) := by decide +kernel
theorem dX6_bestSet_60 : decode cX6_bestSet 60 = .ok (.if_icmp .le 8, 3) := by decide +kernel
theorem dX6_bestSet_63 : decode cX6_bestSet 63 = .ok (.iload 4, 2) := by decide +kernel
theorem dX6_bestSet_65 : decode cX6_bestSet 65 = .ok (.goto 4, 3) := by decide +kernel
theorem dX6_bestSet_68 : decode cX6_bestSet 68 = .ok (.iload_n 3, 1) := by decide +kernel
theorem dX6_bestSet_69 : decode cX6_bestSet 69 = .ok (.istore_n 3, 1) := by decide +kernel
theorem dX6_bestSet_70 : decode cX6_bestSet 70 = .ok (.iinc 4 1, 3) := by decide +kernel
theorem dX6_bestSet_73 : decode cX6_bestSet 73 = .ok (.goto (-68), 3) := by decide +kernel
theorem dX6_bestSet_76 : decode cX6_bestSet 76 = .ok (.iload_n 3, 1) := by decide +kernel
theorem dX6_bestSet_77 : decode cX6_bestSet 77 = .ok (.ireturn, 1) := by decide +kernel
set_option maxRecDepth 20000 in
theorem ggX6_bestFame_X6_fill : GoodIn wsX6_bestFame wsX6_fill := goodIn_r _ [6, 7, 8, 1, 9, 10, 5, 11, 12, 13, 14, 19, 20, 21, 22, 23, 24, 25, 26, 27, 28, 29, 30, 31, 32, 33, 34] (by decide +kernel) (by decide +kernel)
set_option maxRecDepth 20000 in
theorem gX6_bestFame_X6_fill : GoodIn wsX6_bestFame (wsV RX6 62 RX6 yX6_fill wsX6_fill) := goodIn_app (goodIn_of _ (by decide +kernel)) ggX6_bestFame_X6_fill
set_option maxRecDepth 20000 in
theorem ggX6_bestFame_X6_bestSet : GoodIn wsX6_bestFame wsX6_bestSet := goodIn_r _ [18, 1, 19, 20, 21, 22, 23, 24, 25, 26, 27, 28, 29, 30, 31, 32, 33, 34] (by decide +kernel) (by decide +kernel)
set_option maxRecDepth 20000 in
theorem gX6_bestFame_X6_bestSet : GoodIn wsX6_bestFame (wsV RX6 66 RX6 yX6_bestSet wsX6_bestSet) := goodIn_app (goodIn_of _ (by decide +kernel)) ggX6_bestFame_X6_bestSet
theorem dX6_bestFame_0 : decode cX6_bestFame 0 = .ok (.aload_n 0, 1) := by decide +kernel
theorem dX6_bestFame_1 : decode cX6_bestFame 1 = .ok (.getfield 16, 3) := by decide +kernel
theorem dX6_bestFame_4 : decode cX6_bestFame 4 = .ok (.aload_n 0, 1) := by decide +kernel
theorem dX6_bestFame_5 : decode cX6_bestFame 5 = .ok (.aload_n 0, 1) := by decide +kernel
theorem dX6_bestFame_6 : decode cX6_bestFame 6 = .ok (.invokevirtual 62, 3) := by decide +kernel
theorem dX6_bestFame_9 : decode cX6_bestFame 9 = .ok (.iconst 0, 1) := by decide +kernel
theorem dX6_bestFame_10 : decode cX6_bestFame 10 = .ok (.invokevirtual 66, 3) := by decide +kernel
theorem dX6_bestFame_13 : decode cX6_bestFame 13 = .ok (.iaload, 1) := by decide +kernel
theorem dX6_bestFame_14 : decode cX6_bestFame 14 = .ok (.ireturn, 1) := by decide +kernel
set_option maxRecDepth 20000 in
theorem ggX6_most_X6_fill : GoodIn wsX6_most wsX6_fill := goodIn_r _ [6, 7, 8, 1, 9, 10, 5, 11, 12, 13, 14, 18, 19, 20, 21, 22, 23, 24, 25, 26, 27, 28, 29, 30, 31, 32, 33] (by decide +kernel) (by decide +kernel)
set_option maxRecDepth 20000 in
theorem gX6_most_X6_fill : GoodIn wsX6_most (wsV RX6 62 RX6 yX6_fill wsX6_fill) := goodIn_app (goodIn_of _ (by decide +kernel)) ggX6_most_X6_fill
set_option maxRecDepth 20000 in
theorem ggX6_most_X6_bits : GoodIn wsX6_most wsX6_bits := goodIn_r _ [17] (by decide +kernel) (by decide +kernel)
set_option maxRecDepth 20000 in
theorem gX6_most_X6_bits : GoodIn wsX6_most (va_wsS RX6 58 yX6_bits wsX6_bits) := goodIn_app (goodIn_of _ (by decide +kernel)) ggX6_most_X6_bits
theorem dX6_most_0 : decode cX6_most 0 = .ok (.aload_n 0, 1) := by decide +kernel
theorem dX6_most_1 : decode cX6_most 1 = .ok (.invokevirtual 62, 3) := by decide +kernel
theorem dX6_most_4 : decode cX6_most 4 = .ok (.istore_n 1, 1) := by decide +kernel
theorem dX6_most_5 : decode cX6_most 5 = .ok (.iconst 0, 1) := by decide +kernel
theorem dX6_most_6 : decode cX6_most 6 = .ok (.istore_n 2, 1) := by decide +kernel
theorem dX6_most_7 : decode cX6_most 7 = .ok (.iconst 0, 1) := by decide +kernel
theorem dX6_most_8 : decode cX6_most 8 = .ok (.istore_n 3, 1) := by decide +kernel
theorem dX6_most_9 : decode cX6_most 9 = .ok (.iload_n 3, 1) := by decide +kernel
theorem dX6_most_10 : decode cX6_most 10 = .ok (.iload_n 1, 1) := by decide +kernel
theorem dX6_most_11 : decode cX6_most 11 = .ok (.if_icmp .ge 42, 3) := by decide +kernel
theorem dX6_most_14 : decode cX6_most 14 = .ok (.aload_n 0, 1) := by decide +kernel
theorem dX6_most_15 : decode cX6_most 15 = .ok (.getfield 16, 3) := by decide +kernel
theorem dX6_most_18 : decode cX6_most 18 = .ok (.iload_n 3, 1) := by decide +kernel
theorem dX6_most_19 : decode cX6_most 19 = .ok (.iaload, 1) := by decide +kernel
theorem dX6_most_20 : decode cX6_most 20 = .ok (.iconst (-1), 1) := by decide +kernel
theorem dX6_most_21 : decode cX6_most 21 = .ok (.if_icmp .ne 7, 3) := by decide +kernel
theorem dX6_most_24 : decode cX6_most 24 = .ok (.iconst 0, 1) := by decide +kernel
theorem dX6_most_25 : decode cX6_most 25 = .ok (.goto 7, 3) := by decide +kernel
theorem dX6_most_28 : decode cX6_most 28 = .ok (.iload_n 3, 1) := by decide +kernel
theorem dX6_most_29 : decode cX6_most 29 = .ok (.invokestatic 58, 3) := by decide +kernel
theorem dX6_most_32 : decode cX6_most 32 = .ok (.istore 4, 2) := by decide +kernel
theorem dX6_most_34 : decode cX6_most 34 = .ok (.iload 4, 2) := by decide +kernel
theorem dX6_most_36 : decode cX6_most 36 = .ok (.iload_n 2, 1) := by decide +kernel
theorem dX6_most_37 : decode cX6_most 37 = .ok (.if_icmp .le 8, 3) := by decide +kernel
theorem dX6_most_40 : decode cX6_most 40 = .ok (.iload 4, 2) := by decide +kernel
theorem dX6_most_42 : decode cX6_most 42 = .ok (.goto 4, 3) := by decide +kernel
theorem dX6_most_45 : decode cX6_most 45 = .ok (.iload_n 2, 1) := by decide +kernel
theorem dX6_most_46 : decode cX6_most 46 = .ok (.istore_n 2, 1) := by decide +kernel
theorem dX6_most_47 : decode cX6_most 47 = .ok (.iinc 3 1, 3) := by decide +kernel
theorem dX6_most_50 : decode cX6_most 50 = .ok (.goto (-41), 3) := by decide +kernel
theorem dX6_most_53 : decode cX6_most 53 = .ok (.iload_n 2, 1) := by decide +kernel
theorem dX6_most_54 : decode cX6_most 54 = .ok (.ireturn, 1) := by decide +kernel
theorem dX6_fameOfBooked_0 : decode cX6_fameOfBooked 0 = .ok (.iconst 0, 1) := by decide +kernel
theorem dX6_fameOfBooked_1 : decode cX6_fameOfBooked 1 = .ok (.istore_n 1, 1) := by decide +kernel
theorem dX6_fameOfBooked_2 : decode cX6_fameOfBooked 2 = .ok (.iconst 0, 1) := by decide +kernel
theorem dX6_fameOfBooked_3 : decode cX6_fameOfBooked 3 = .ok (.istore_n 2, 1) := by decide +kernel
theorem dX6_fameOfBooked_4 : decode cX6_fameOfBooked 4 = .ok (.iload_n 2, 1) := by decide +kernel
theorem dX6_fameOfBooked_5 : decode cX6_fameOfBooked 5 = .ok (.aload_n 0, 1) := by decide +kernel
theorem dX6_fameOfBooked_6 : decode cX6_fameOfBooked 6 = .ok (.getfield 7, 3) := by decide +kernel
theorem dX6_fameOfBooked_9 : decode cX6_fameOfBooked 9 = .ok (.bipush 44, 2) := by decide +kernel
theorem dX6_fameOfBooked_11 : decode cX6_fameOfBooked 11 = .ok (.iaload, 1) := by decide +kernel
theorem dX6_fameOfBooked_12 : decode cX6_fameOfBooked 12 = .ok (.if_icmp .ge 40, 3) := by decide +kernel
theorem dX6_fameOfBooked_15 : decode cX6_fameOfBooked 15 = .ok (.iload_n 1, 1) := by decide +kernel
theorem dX6_fameOfBooked_16 : decode cX6_fameOfBooked 16 = .ok (.aload_n 0, 1) := by decide +kernel
theorem dX6_fameOfBooked_17 : decode cX6_fameOfBooked 17 = .ok (.getfield 7, 3) := by decide +kernel
theorem dX6_fameOfBooked_20 : decode cX6_fameOfBooked 20 = .ok (.bipush 42, 2) := by decide +kernel
theorem dX6_fameOfBooked_22 : decode cX6_fameOfBooked 22 = .ok (.iaload, 1) := by decide +kernel
theorem dX6_fameOfBooked_23 : decode cX6_fameOfBooked 23 = .ok (.iload_n 2, 1) := by decide +kernel
theorem dX6_fameOfBooked_24 : decode cX6_fameOfBooked 24 = .ok (.ishr, 1) := by decide +kernel
theorem dX6_fameOfBooked_25 : decode cX6_fameOfBooked 25 = .ok (.iconst 1, 1) := by decide +kernel
theorem dX6_fameOfBooked_26 : decode cX6_fameOfBooked 26 = .ok (.iand, 1) := by decide +kernel
theorem dX6_fameOfBooked_27 : decode cX6_fameOfBooked 27 = .ok (.iconst 1, 1) := by decide +kernel
theorem dX6_fameOfBooked_28 : decode cX6_fameOfBooked 28 = .ok (.if_icmp .ne 15, 3) := by decide +kernel
theorem dX6_fameOfBooked_31 : decode cX6_fameOfBooked 31 = .ok (.aload_n 0, 1) := by decide +kernel
theorem dX6_fameOfBooked_32 : decode cX6_fameOfBooked 32 = .ok (.getfield 7, 3) := by decide +kernel
theorem dX6_fameOfBooked_35 : decode cX6_fameOfBooked 35 = .ok (.bipush 28, 2) := by decide +kernel
theorem dX6_fameOfBooked_37 : decode cX6_fameOfBooked 37 = .ok (.iload_n 2, 1) := by decide +kernel
theorem dX6_fameOfBooked_38 : decode cX6_fameOfBooked 38 = .ok (.iadd, 1) := by decide +kernel
theorem dX6_fameOfBooked_39 : decode cX6_fameOfBooked 39 = .ok (.iaload, 1) := by decide +kernel
theorem dX6_fameOfBooked_40 : decode cX6_fameOfBooked 40 = .ok (.goto 4, 3) := by decide +kernel
theorem dX6_fameOfBooked_43 : decode cX6_fameOfBooked 43 = .ok (.iconst 0, 1) := by decide +kernel
theorem dX6_fameOfBooked_44 : decode cX6_fameOfBooked 44 = .ok (.iadd, 1) := by decide +kernel
theorem dX6_fameOfBooked_45 : decode cX6_fameOfBooked 45 = .ok (.istore_n 1, 1) := by decide +kernel
theorem dX6_fameOfBooked_46 : decode cX6_fameOfBooked 46 = .ok (.iinc 2 1, 3) := by decide +kernel
theorem dX6_fameOfBooked_49 : decode cX6_fameOfBooked 49 = .ok (.goto (-45), 3) := by decide +kernel
theorem dX6_fameOfBooked_52 : decode cX6_fameOfBooked 52 = .ok (.iload_n 1, 1) := by decide +kernel
theorem dX6_fameOfBooked_53 : decode cX6_fameOfBooked 53 = .ok (.ireturn, 1) := by decide +kernel
theorem dX6_save_0 : decode cX6_save 0 = .ok (.aload_n 0, 1) := by decide +kernel
theorem dX6_save_1 : decode cX6_save 1 = .ok (.getfield 70, 3) := by decide +kernel
theorem dX6_save_4 : decode cX6_save 4 = .ok (.bipush 6, 2) := by decide +kernel
theorem dX6_save_6 : decode cX6_save 6 = .ok (.if_icmp .ne 43, 3) := by decide +kernel
theorem dX6_save_9 : decode cX6_save 9 = .ok (.iconst 0, 1) := by decide +kernel
theorem dX6_save_10 : decode cX6_save 10 = .ok (.istore_n 1, 1) := by decide +kernel
theorem dX6_save_11 : decode cX6_save 11 = .ok (.iload_n 1, 1) := by decide +kernel
theorem dX6_save_12 : decode cX6_save 12 = .ok (.sipush 225, 3) := by decide +kernel
theorem dX6_save_15 : decode cX6_save 15 = .ok (.if_icmp .ge 24, 3) := by decide +kernel
theorem dX6_save_18 : decode cX6_save 18 = .ok (.aload_n 0, 1) := by decide +kernel
theorem dX6_save_19 : decode cX6_save 19 = .ok (.getfield 25, 3) := by decide +kernel
theorem dX6_save_22 : decode cX6_save 22 = .ok (.iload_n 1, 1) := by decide +kernel
theorem dX6_save_23 : decode cX6_save 23 = .ok (.aload_n 0, 1) := by decide +kernel
theorem dX6_save_24 : decode cX6_save 24 = .ok (.getfield 25, 3) := by decide +kernel
theorem dX6_save_27 : decode cX6_save 27 = .ok (.bipush 45, 2) := by decide +kernel
theorem dX6_save_29 : decode cX6_save 29 = .ok (.iload_n 1, 1) := by decide +kernel
theorem dX6_save_30 : decode cX6_save 30 = .ok (.iadd, 1) := by decide +kernel
theorem dX6_save_31 : decode cX6_save 31 = .ok (.iaload, 1) := by decide +kernel
theorem dX6_save_32 : decode cX6_save 32 = .ok (.iastore, 1) := by decide +kernel
theorem dX6_save_33 : decode cX6_save 33 = .ok (.iinc 1 1, 3) := by decide +kernel
theorem dX6_save_36 : decode cX6_save 36 = .ok (.goto (-25), 3) := by decide +kernel
theorem dX6_save_39 : decode cX6_save 39 = .ok (.aload_n 0, 1) := by decide +kernel
theorem dX6_save_40 : decode cX6_save 40 = .ok (.dup, 1) := by decide +kernel
theorem dX6_save_41 : decode cX6_save 41 = .ok (.getfield 70, 3) := by decide +kernel
theorem dX6_save_44 : decode cX6_save 44 = .ok (.iconst 1, 1) := by decide +kernel
theorem dX6_save_45 : decode cX6_save 45 = .ok (.isub, 1) := by decide +kernel
theorem dX6_save_46 : decode cX6_save 46 = .ok (.putfield 70, 3) := by decide +kernel
theorem dX6_save_49 : decode cX6_save 49 = .ok (.iconst 0, 1) := by decide +kernel
theorem dX6_save_50 : decode cX6_save 50 = .ok (.istore_n 1, 1) := by decide +kernel
theorem dX6_save_51 : decode cX6_save 51 = .ok (.iload_n 1, 1) := by decide +kernel
theorem dX6_save_52 : decode cX6_save 52 = .ok (.bipush 45, 2) := by decide +kernel
theorem dX6_save_54 : decode cX6_save 54 = .ok (.if_icmp .ge 29, 3) := by decide +kernel
theorem dX6_save_57 : decode cX6_save 57 = .ok (.aload_n 0, 1) := by decide +kernel
theorem dX6_save_58 : decode cX6_save 58 = .ok (.getfield 25, 3) := by decide +kernel
theorem dX6_save_61 : decode cX6_save 61 = .ok (.bipush 45, 2) := by decide +kernel
theorem dX6_save_63 : decode cX6_save 63 = .ok (.aload_n 0, 1) := by decide +kernel
theorem dX6_save_64 : decode cX6_save 64 = .ok (.getfield 70, 3) := by decide +kernel
theorem dX6_save_67 : decode cX6_save 67 = .ok (.imul, 1) := by decide +kernel
theorem dX6_save_68 : decode cX6_save 68 = .ok (.iload_n 1, 1) := by decide +kernel
theorem dX6_save_69 : decode cX6_save 69 = .ok (.iadd, 1) := by decide +kernel
theorem dX6_save_70 : decode cX6_save 70 = .ok (.aload_n 0, 1) := by decide +kernel
theorem dX6_save_71 : decode cX6_save 71 = .ok (.getfield 7, 3) := by decide +kernel
theorem dX6_save_74 : decode cX6_save 74 = .ok (.iload_n 1, 1) := by decide +kernel
theorem dX6_save_75 : decode cX6_save 75 = .ok (.iaload, 1) := by decide +kernel
theorem dX6_save_76 : decode cX6_save 76 = .ok (.iastore, 1) := by decide +kernel
theorem dX6_save_77 : decode cX6_save 77 = .ok (.iinc 1 1, 3) := by decide +kernel
theorem dX6_save_80 : decode cX6_save 80 = .ok (.goto (-29), 3) := by decide +kernel
theorem dX6_save_83 : decode cX6_save 83 = .ok (.aload_n 0, 1) := by decide +kernel
theorem dX6_save_84 : decode cX6_save 84 = .ok (.dup, 1) := by decide +kernel
theorem dX6_save_85 : decode cX6_save 85 = .ok (.getfield 70, 3) := by decide +kernel
theorem dX6_save_88 : decode cX6_save 88 = .ok (.iconst 1, 1) := by decide +kernel
theorem dX6_save_89 : decode cX6_save 89 = .ok (.iadd, 1) := by decide +kernel
theorem dX6_save_90 : decode cX6_save 90 = .ok (.putfield 70, 3) := by decide +kernel
theorem dX6_save_93 : decode cX6_save 93 = .ok (.return_, 1) := by decide +kernel
theorem dX6_goAdd_0 : decode cX6_goAdd 0 = .ok (.aload_n 0, 1) := by decide +kernel
theorem dX6_goAdd_1 : decode cX6_goAdd 1 = .ok (.bipush 44, 2) := by decide +kernel
theorem dX6_goAdd_3 : decode cX6_goAdd 3 = .ok (.iaload, 1) := by decide +kernel
theorem dX6_goAdd_4 : decode cX6_goAdd 4 = .ok (.istore 4, 2) := by decide +kernel
theorem dX6_goAdd_6 : decode cX6_goAdd 6 = .ok (.aload_n 0, 1) := by decide +kernel
theorem dX6_goAdd_7 : decode cX6_goAdd 7 = .ok (.iload 4, 2) := by decide +kernel
theorem dX6_goAdd_9 : decode cX6_goAdd 9 = .ok (.iload_n 1, 1) := by decide +kernel
theorem dX6_goAdd_10 : decode cX6_goAdd 10 = .ok (.iastore, 1) := by decide +kernel
theorem dX6_goAdd_11 : decode cX6_goAdd 11 = .ok (.aload_n 0, 1) := by decide +kernel
theorem dX6_goAdd_12 : decode cX6_goAdd 12 = .ok (.bipush 14, 2) := by decide +kernel
theorem dX6_goAdd_14 : decode cX6_goAdd 14 = .ok (.iload 4, 2) := by decide +kernel
theorem dX6_goAdd_16 : decode cX6_goAdd 16 = .ok (.iadd, 1) := by decide +kernel
theorem dX6_goAdd_17 : decode cX6_goAdd 17 = .ok (.iload_n 2, 1) := by decide +kernel
theorem dX6_goAdd_18 : decode cX6_goAdd 18 = .ok (.iastore, 1) := by decide +kernel
theorem dX6_goAdd_19 : decode cX6_goAdd 19 = .ok (.aload_n 0, 1) := by decide +kernel
theorem dX6_goAdd_20 : decode cX6_goAdd 20 = .ok (.bipush 28, 2) := by decide +kernel
theorem dX6_goAdd_22 : decode cX6_goAdd 22 = .ok (.iload 4, 2) := by decide +kernel
theorem dX6_goAdd_24 : decode cX6_goAdd 24 = .ok (.iadd, 1) := by decide +kernel
theorem dX6_goAdd_25 : decode cX6_goAdd 25 = .ok (.iload_n 3, 1) := by decide +kernel
theorem dX6_goAdd_26 : decode cX6_goAdd 26 = .ok (.iastore, 1) := by decide +kernel
theorem dX6_goAdd_27 : decode cX6_goAdd 27 = .ok (.aload_n 0, 1) := by decide +kernel
theorem dX6_goAdd_28 : decode cX6_goAdd 28 = .ok (.bipush 44, 2) := by decide +kernel
theorem dX6_goAdd_30 : decode cX6_goAdd 30 = .ok (.dup2, 1) := by decide +kernel
theorem dX6_goAdd_31 : decode cX6_goAdd 31 = .ok (.iaload, 1) := by decide +kernel
theorem dX6_goAdd_32 : decode cX6_goAdd 32 = .ok (.iconst 1, 1) := by decide +kernel
theorem dX6_goAdd_33 : decode cX6_goAdd 33 = .ok (.iadd, 1) := by decide +kernel
theorem dX6_goAdd_34 : decode cX6_goAdd 34 = .ok (.iastore, 1) := by decide +kernel
theorem dX6_goAdd_35 : decode cX6_goAdd 35 = .ok (.iload 4, 2) := by decide +kernel
theorem dX6_goAdd_37 : decode cX6_goAdd 37 = .ok (.ireturn, 1) := by decide +kernel
set_option maxRecDepth 20000 in
theorem ggX6_add_X6_isTime : GoodIn wsX6_add wsX6_isTime := goodIn_r _ [6, 7, 8, 9, 10, 5, 11] (by decide +kernel) (by decide +kernel)
set_option maxRecDepth 20000 in
theorem gX6_add_X6_isTime : GoodIn wsX6_add (va_wsS RX6 73 yX6_isTime wsX6_isTime) := goodIn_app (goodIn_of _ (by decide +kernel)) ggX6_add_X6_isTime
set_option maxRecDepth 20000 in
theorem ggX6_add_X6_in : GoodIn wsX6_add wsX6_in := goodIn_r _ [11] (by decide +kernel) (by decide +kernel)
set_option maxRecDepth 20000 in
theorem gX6_add_X6_in : GoodIn wsX6_add (va_wsS RX6 42 yX6_in wsX6_in) := goodIn_app (goodIn_of _ (by decide +kernel)) ggX6_add_X6_in
set_option maxRecDepth 20000 in
theorem ggX6_add_X6_refused : GoodIn wsX6_add wsX6_refused := goodIn_r _ [15, 16, 26, 27, 28, 29, 30, 31, 32, 33, 34, 35, 36, 37, 38, 39, 40, 41] (by decide +kernel) (by decide +kernel)
set_option maxRecDepth 20000 in
theorem gX6_add_X6_refused : GoodIn wsX6_add (wsV RX6 79 RX6 yX6_refused wsX6_refused) := goodIn_app (goodIn_of _ (by decide +kernel)) ggX6_add_X6_refused
set_option maxRecDepth 20000 in
theorem ggX6_add_X6_save : GoodIn wsX6_add wsX6_save := goodIn_r _ [20, 21, 22, 2, 26, 27, 28, 29, 30, 31, 32, 33, 34, 35, 36, 37, 38, 39, 40, 41] (by decide +kernel) (by decide +kernel)
set_option maxRecDepth 20000 in
theorem gX6_add_X6_save : GoodIn wsX6_add (wsV RX6 83 RX6 yX6_save wsX6_save) := goodIn_app (goodIn_of _ (by decide +kernel)) ggX6_add_X6_save
set_option maxRecDepth 20000 in
theorem ggX6_add_X6_goAdd : GoodIn wsX6_add wsX6_goAdd := goodIn_r _ [25] (by decide +kernel) (by decide +kernel)
set_option maxRecDepth 20000 in
theorem gX6_add_X6_goAdd : GoodIn wsX6_add (va_wsS RX6 86 yX6_goAdd wsX6_goAdd) := goodIn_app (goodIn_of _ (by decide +kernel)) ggX6_add_X6_goAdd
theorem dX6_add_0 : decode cX6_add 0 = .ok (.iload_n 1, 1) := by decide +kernel
theorem dX6_add_1 : decode cX6_add 1 = .ok (.iload_n 2, 1) := by decide +kernel
theorem dX6_add_2 : decode cX6_add 2 = .ok (.invokestatic 73, 3) := by decide +kernel
theorem dX6_add_5 : decode cX6_add 5 = .ok (.ifCond .eq 19, 3) := by decide +kernel
theorem dX6_add_8 : decode cX6_add 8 = .ok (.iload_n 3, 1) := by decide +kernel
theorem dX6_add_9 : decode cX6_add 9 = .ok (.i2l, 1) := by decide +kernel
theorem dX6_add_10 : decode cX6_add 10 = .ok (.lconst 1, 1) := by decide +kernel
theorem dX6_add_11 : decode cX6_add 11 = .ok (.ldc2_w 77, 3) := by decide +kernel
theorem dX6_add_14 : decode cX6_add 14 = .ok (.invokestatic 42, 3) := by decide +kernel
theorem dX6_add_17 : decode cX6_add 17 = .ok (.ifCond .eq 7, 3) := by decide +kernel
theorem dX6_add_20 : decode cX6_add 20 = .ok (.iconst 1, 1) := by decide +kernel
theorem dX6_add_21 : decode cX6_add 21 = .ok (.goto 4, 3) := by decide +kernel
theorem dX6_add_24 : decode cX6_add 24 = .ok (.iconst 0, 1) := by decide +kernel
theorem dX6_add_25 : decode cX6_add 25 = .ok (.istore 4, 2) := by decide +kernel
theorem dX6_add_27 : decode cX6_add 27 = .ok (.aload_n 0, 1) := by decide +kernel
theorem dX6_add_28 : decode cX6_add 28 = .ok (.iload 4, 2) := by decide +kernel
theorem dX6_add_30 : decode cX6_add 30 = .ok (.ifCond .ne 7, 3) := by decide +kernel
theorem dX6_add_33 : decode cX6_add 33 = .ok (.iconst 1, 1) := by decide +kernel
theorem dX6_add_34 : decode cX6_add 34 = .ok (.goto 20, 3) := by decide +kernel
theorem dX6_add_37 : decode cX6_add 37 = .ok (.aload_n 0, 1) := by decide +kernel
theorem dX6_add_38 : decode cX6_add 38 = .ok (.getfield 7, 3) := by decide +kernel
theorem dX6_add_41 : decode cX6_add 41 = .ok (.bipush 44, 2) := by decide +kernel
theorem dX6_add_43 : decode cX6_add 43 = .ok (.iaload, 1) := by decide +kernel
theorem dX6_add_44 : decode cX6_add 44 = .ok (.bipush 14, 2) := by decide +kernel
theorem dX6_add_46 : decode cX6_add 46 = .ok (.if_icmp .ne 7, 3) := by decide +kernel
theorem dX6_add_49 : decode cX6_add 49 = .ok (.iconst 2, 1) := by decide +kernel
theorem dX6_add_50 : decode cX6_add 50 = .ok (.goto 4, 3) := by decide +kernel
theorem dX6_add_53 : decode cX6_add 53 = .ok (.iconst 0, 1) := by decide +kernel
theorem dX6_add_54 : decode cX6_add 54 = .ok (.invokevirtual 79, 3) := by decide +kernel
theorem dX6_add_57 : decode cX6_add 57 = .ok (.ifCond .eq 5, 3) := by decide +kernel
theorem dX6_add_60 : decode cX6_add 60 = .ok (.iconst 0, 1) := by decide +kernel
theorem dX6_add_61 : decode cX6_add 61 = .ok (.ireturn, 1) := by decide +kernel
theorem dX6_add_62 : decode cX6_add 62 = .ok (.aload_n 0, 1) := by decide +kernel
theorem dX6_add_63 : decode cX6_add 63 = .ok (.invokevirtual 83, 3) := by decide +kernel
theorem dX6_add_66 : decode cX6_add 66 = .ok (.aload_n 0, 1) := by decide +kernel
theorem dX6_add_67 : decode cX6_add 67 = .ok (.getfield 7, 3) := by decide +kernel
theorem dX6_add_70 : decode cX6_add 70 = .ok (.iload_n 1, 1) := by decide +kernel
theorem dX6_add_71 : decode cX6_add 71 = .ok (.iload_n 2, 1) := by decide +kernel
theorem dX6_add_72 : decode cX6_add 72 = .ok (.iload_n 3, 1) := by decide +kernel
theorem dX6_add_73 : decode cX6_add 73 = .ok (.invokestatic 86, 3) := by decide +kernel
theorem dX6_add_76 : decode cX6_add 76 = .ok (.ireturn, 1) := by decide +kernel
set_option maxRecDepth 20000 in
theorem ggX6_noOne_X6_isThere : GoodIn wsX6_noOne wsX6_isThere := goodIn_r _ [5, 6, 7, 8, 4, 9, 15, 16, 17, 18, 19, 20, 21, 22, 23, 24, 25, 26, 27, 28, 29, 30] (by decide +kernel) (by decide +kernel)
set_option maxRecDepth 20000 in
theorem gX6_noOne_X6_isThere : GoodIn wsX6_noOne (wsV RX6 90 RX6 yX6_isThere wsX6_isThere) := goodIn_app (goodIn_of _ (by decide +kernel)) ggX6_noOne_X6_isThere
set_option maxRecDepth 20000 in
theorem ggX6_noOne_X6_refused : GoodIn wsX6_noOne wsX6_refused := goodIn_r _ [13, 14, 15, 16, 17, 18, 19, 20, 21, 22, 23, 24, 25, 26, 27, 28, 29, 30] (by decide +kernel) (by decide +kernel)
set_option maxRecDepth 20000 in
theorem gX6_noOne_X6_refused : GoodIn wsX6_noOne (wsV RX6 79 RX6 yX6_refused wsX6_refused) := goodIn_app (goodIn_of _ (by decide +kernel)) ggX6_noOne_X6_refused
theorem dX6_noOne_0 : decode cX6_noOne 0 = .ok (.aload_n 0, 1) := by decide +kernel
theorem dX6_noOne_1 : decode cX6_noOne 1 = .ok (.aload_n 0, 1) := by decide +kernel
theorem dX6_noOne_2 : decode cX6_noOne 2 = .ok (.iload_n 1, 1) := by decide +kernel
theorem dX6_noOne_3 : decode cX6_noOne 3 = .ok (.invokevirtual 90, 3) := by decide +kernel
theorem dX6_noOne_6 : decode cX6_noOne 6 = .ok (.ifCond .eq 7, 3) := by decide +kernel
theorem dX6_noOne_9 : decode cX6_noOne 9 = .ok (.iconst 0, 1) := by decide +kernel
theorem dX6_noOne_10 : decode cX6_noOne 10 = .ok (.goto 4, 3) := by decide +kernel
theorem dX6_noOne_13 : decode cX6_noOne 13 = .ok (.iconst 1, 1) := by decide +kernel
theorem dX6_noOne_14 : decode cX6_noOne 14 = .ok (.invokevirtual 79, 3) := by decide +kernel
theorem dX6_noOne_17 : decode cX6_noOne 17 = .ok (.ireturn, 1) := by decide +kernel
set_option maxRecDepth 20000 in
theorem ggX6_strike_X6_noOne : GoodIn wsX6_strike wsX6_noOne := goodIn_r _ [6, 7, 8, 9, 5, 10, 1, 11, 12, 13, 14, 15, 16, 17, 18, 25, 26, 27, 28, 29, 30, 31, 32, 33, 34, 35, 36, 37, 38, 39, 40] (by decide +kernel) (by decide +kernel)
set_option maxRecDepth 20000 in
theorem gX6_strike_X6_noOne : GoodIn wsX6_strike (wsV RX6 93 RX6 yX6_noOne wsX6_noOne) := goodIn_app (goodIn_of _ (by decide +kernel)) ggX6_strike_X6_noOne
set_option maxRecDepth 20000 in
theorem ggX6_strike_X6_save : GoodIn wsX6_strike wsX6_save := goodIn_r _ [22, 23, 24, 1, 25, 26, 27, 28, 29, 30, 31, 32, 33, 34, 35, 36, 37, 38, 39, 40] (by decide +kernel) (by decide +kernel)
set_option maxRecDepth 20000 in
theorem gX6_strike_X6_save : GoodIn wsX6_strike (wsV RX6 83 RX6 yX6_save wsX6_save) := goodIn_app (goodIn_of _ (by decide +kernel)) ggX6_strike_X6_save
theorem dX6_strike_0 : decode cX6_strike 0 = .ok (.aload_n 0, 1) := by decide +kernel
theorem dX6_strike_1 : decode cX6_strike 1 = .ok (.iload_n 1, 1) := by decide +kernel
theorem dX6_strike_2 : decode cX6_strike 2 = .ok (.invokevirtual 93, 3) := by decide +kernel
theorem dX6_strike_5 : decode cX6_strike 5 = .ok (.ifCond .eq 5, 3) := by decide +kernel
theorem dX6_strike_8 : decode cX6_strike 8 = .ok (.iconst 0, 1) := by decide +kernel
theorem dX6_strike_9 : decode cX6_strike 9 = .ok (.ireturn, 1) := by decide +kernel
theorem dX6_strike_10 : decode cX6_strike 10 = .ok (.aload_n 0, 1) := by decide +kernel
theorem dX6_strike_11 : decode cX6_strike 11 = .ok (.invokevirtual 83, 3) := by decide +kernel
theorem dX6_strike_14 : decode cX6_strike 14 = .ok (.aload_n 0, 1) := by decide +kernel
theorem dX6_strike_15 : decode cX6_strike 15 = .ok (.getfield 7, 3) := by decide +kernel
theorem dX6_strike_18 : decode cX6_strike 18 = .ok (.bipush 28, 2) := by decide +kernel
theorem dX6_strike_20 : decode cX6_strike 20 = .ok (.iload_n 1, 1) := by decide +kernel
theorem dX6_strike_21 : decode cX6_strike 21 = .ok (.iadd, 1) := by decide +kernel
theorem dX6_strike_22 : decode cX6_strike 22 = .ok (.iaload, 1) := by decide +kernel
theorem dX6_strike_23 : decode cX6_strike 23 = .ok (.istore_n 2, 1) := by decide +kernel
theorem dX6_strike_24 : decode cX6_strike 24 = .ok (.aload_n 0, 1) := by decide +kernel
theorem dX6_strike_25 : decode cX6_strike 25 = .ok (.getfield 7, 3) := by decide +kernel
theorem dX6_strike_28 : decode cX6_strike 28 = .ok (.bipush 42, 2) := by decide +kernel
theorem dX6_strike_30 : decode cX6_strike 30 = .ok (.iaload, 1) := by decide +kernel
theorem dX6_strike_31 : decode cX6_strike 31 = .ok (.iconst 1, 1) := by decide +kernel
theorem dX6_strike_32 : decode cX6_strike 32 = .ok (.iload_n 1, 1) := by decide +kernel
theorem dX6_strike_33 : decode cX6_strike 33 = .ok (.ishl, 1) := by decide +kernel
theorem dX6_strike_34 : decode cX6_strike 34 = .ok (.iconst 1, 1) := by decide +kernel
theorem dX6_strike_35 : decode cX6_strike 35 = .ok (.isub, 1) := by decide +kernel
theorem dX6_strike_36 : decode cX6_strike 36 = .ok (.iand, 1) := by decide +kernel
theorem dX6_strike_37 : decode cX6_strike 37 = .ok (.istore_n 3, 1) := by decide +kernel
theorem dX6_strike_38 : decode cX6_strike 38 = .ok (.aload_n 0, 1) := by decide +kernel
theorem dX6_strike_39 : decode cX6_strike 39 = .ok (.getfield 7, 3) := by decide +kernel
theorem dX6_strike_42 : decode cX6_strike 42 = .ok (.bipush 42, 2) := by decide +kernel
theorem dX6_strike_44 : decode cX6_strike 44 = .ok (.iaload, 1) := by decide +kernel
theorem dX6_strike_45 : decode cX6_strike 45 = .ok (.iload_n 1, 1) := by decide +kernel
theorem dX6_strike_46 : decode cX6_strike 46 = .ok (.iconst 1, 1) := by decide +kernel
theorem dX6_strike_47 : decode cX6_strike 47 = .ok (.iadd, 1) := by decide +kernel
theorem dX6_strike_48 : decode cX6_strike 48 = .ok (.ishr, 1) := by decide +kernel
theorem dX6_strike_49 : decode cX6_strike 49 = .ok (.istore 4, 2) := by decide +kernel
theorem dX6_strike_51 : decode cX6_strike 51 = .ok (.aload_n 0, 1) := by decide +kernel
theorem dX6_strike_52 : decode cX6_strike 52 = .ok (.getfield 7, 3) := by decide +kernel
theorem dX6_strike_55 : decode cX6_strike 55 = .ok (.bipush 42, 2) := by decide +kernel
theorem dX6_strike_57 : decode cX6_strike 57 = .ok (.iload_n 3, 1) := by decide +kernel
theorem dX6_strike_58 : decode cX6_strike 58 = .ok (.iload 4, 2) := by decide +kernel
theorem dX6_strike_60 : decode cX6_strike 60 = .ok (.iload_n 1, 1) := by decide +kernel
theorem dX6_strike_61 : decode cX6_strike 61 = .ok (.ishl, 1) := by decide +kernel
theorem dX6_strike_62 : decode cX6_strike 62 = .ok (.ior, 1) := by decide +kernel
theorem dX6_strike_63 : decode cX6_strike 63 = .ok (.iastore, 1) := by decide +kernel
theorem dX6_strike_64 : decode cX6_strike 64 = .ok (.aload_n 0, 1) := by decide +kernel
theorem dX6_strike_65 : decode cX6_strike 65 = .ok (.getfield 7, 3) := by decide +kernel
theorem dX6_strike_68 : decode cX6_strike 68 = .ok (.bipush 44, 2) := by decide +kernel
theorem dX6_strike_70 : decode cX6_strike 70 = .ok (.dup2, 1) := by decide +kernel
theorem dX6_strike_71 : decode cX6_strike 71 = .ok (.iaload, 1) := by decide +kernel
theorem dX6_strike_72 : decode cX6_strike 72 = .ok (.iconst 1, 1) := by decide +kernel
theorem dX6_strike_73 : decode cX6_strike 73 = .ok (.isub, 1) := by decide +kernel
theorem dX6_strike_74 : decode cX6_strike 74 = .ok (.iastore, 1) := by decide +kernel
theorem dX6_strike_75 : decode cX6_strike 75 = .ok (.iload_n 1, 1) := by decide +kernel
theorem dX6_strike_76 : decode cX6_strike 76 = .ok (.istore 5, 2) := by decide +kernel
theorem dX6_strike_78 : decode cX6_strike 78 = .ok (.iload 5, 2) := by decide +kernel
theorem dX6_strike_80 : decode cX6_strike 80 = .ok (.aload_n 0, 1) := by decide +kernel
theorem dX6_strike_81 : decode cX6_strike 81 = .ok (.getfield 7, 3) := by decide +kernel
theorem dX6_strike_84 : decode cX6_strike 84 = .ok (.bipush 44, 2) := by decide +kernel
theorem dX6_strike_86 : decode cX6_strike 86 = .ok (.iaload, 1) := by decide +kernel
theorem dX6_strike_87 : decode cX6_strike 87 = .ok (.if_icmp .ge 69, 3) := by decide +kernel
theorem dX6_strike_90 : decode cX6_strike 90 = .ok (.aload_n 0, 1) := by decide +kernel
theorem dX6_strike_91 : decode cX6_strike 91 = .ok (.getfield 7, 3) := by decide +kernel
theorem dX6_strike_94 : decode cX6_strike 94 = .ok (.iload 5, 2) := by decide +kernel
theorem dX6_strike_96 : decode cX6_strike 96 = .ok (.aload_n 0, 1) := by decide +kernel
theorem dX6_strike_97 : decode cX6_strike 97 = .ok (.getfield 7, 3) := by decide +kernel
theorem dX6_strike_100 : decode cX6_strike 100 = .ok (.iload 5, 2) := by decide +kernel
theorem dX6_strike_102 : decode cX6_strike 102 = .ok (.iconst 1, 1) := by decide +kernel
theorem dX6_strike_103 : decode cX6_strike 103 = .ok (.iadd, 1) := by decide +kernel
theorem dX6_strike_104 : decode cX6_strike 104 = .ok (.iaload, 1) := by decide +kernel
theorem dX6_strike_105 : decode cX6_strike 105 = .ok (.iastore, 1) := by decide +kernel
theorem dX6_strike_106 : decode cX6_strike 106 = .ok (.aload_n 0, 1) := by decide +kernel
theorem dX6_strike_107 : decode cX6_strike 107 = .ok (.getfield 7, 3) := by decide +kernel
theorem dX6_strike_110 : decode cX6_strike 110 = .ok (.bipush 14, 2) := by decide +kernel
theorem dX6_strike_112 : decode cX6_strike 112 = .ok (.iload 5, 2) := by decide +kernel
theorem dX6_strike_114 : decode cX6_strike 114 = .ok (.iadd, 1) := by decide +kernel
theorem dX6_strike_115 : decode cX6_strike 115 = .ok (.aload_n 0, 1) := by decide +kernel
theorem dX6_strike_116 : decode cX6_strike 116 = .ok (.getfield 7, 3) := by decide +kernel
theorem dX6_strike_119 : decode cX6_strike 119 = .ok (.bipush 14, 2) := by decide +kernel
theorem dX6_strike_121 : decode cX6_strike 121 = .ok (.iload 5, 2) := by decide +kernel
theorem dX6_strike_123 : decode cX6_strike 123 = .ok (.iadd, 1) := by decide +kernel
theorem dX6_strike_124 : decode cX6_strike 124 = .ok (.iconst 1, 1) := by decide +kernel
theorem dX6_strike_125 : decode cX6_strike 125 = .ok (.iadd, 1) := by decide +kernel
theorem dX6_strike_126 : decode cX6_strike 126 = .ok (.iaload, 1) := by decide +kernel
theorem dX6_strike_127 : decode cX6_strike 127 = .ok (.iastore, 1) := by decide +kernel
theorem dX6_strike_128 : decode cX6_strike 128 = .ok (.aload_n 0, 1) := by decide +kernel
theorem dX6_strike_129 : decode cX6_strike 129 = .ok (.getfield 7, 3) := by decide +kernel
theorem dX6_strike_132 : decode cX6_strike 132 = .ok (.bipush 28, 2) := by decide +kernel
theorem dX6_strike_134 : decode cX6_strike 134 = .ok (.iload 5, 2) := by decide +kernel
theorem dX6_strike_136 : decode cX6_strike 136 = .ok (.iadd, 1) := by decide +kernel
theorem dX6_strike_137 : decode cX6_strike 137 = .ok (.aload_n 0, 1) := by decide +kernel
theorem dX6_strike_138 : decode cX6_strike 138 = .ok (.getfield 7, 3) := by decide +kernel
theorem dX6_strike_141 : decode cX6_strike 141 = .ok (.bipush 28, 2) := by decide +kernel
theorem dX6_strike_143 : decode cX6_strike 143 = .ok (.iload 5, 2) := by decide +kernel
theorem dX6_strike_145 : decode cX6_strike 145 = .ok (.iadd, 1) := by decide +kernel
theorem dX6_strike_146 : decode cX6_strike 146 = .ok (.iconst 1, 1) := by decide +kernel
theorem dX6_strike_147 : decode cX6_strike 147 = .ok (.iadd, 1) := by decide +kernel
theorem dX6_strike_148 : decode cX6_strike 148 = .ok (.iaload, 1) := by decide +kernel
theorem dX6_strike_149 : decode cX6_strike 149 = .ok (.iastore, 1) := by decide +kernel
theorem dX6_strike_150 : decode cX6_strike 150 = .ok (.iinc 5 1, 3) := by decide +kernel
theorem dX6_strike_153 : decode cX6_strike 153 = .ok (.goto (-75), 3) := by decide +kernel
theorem dX6_strike_156 : decode cX6_strike 156 = .ok (.iload_n 2, 1) := by decide +kernel
theorem dX6_strike_157 : decode cX6_strike 157 = .ok (.ireturn, 1) := by decide +kernel
set_option maxRecDepth 20000 in
theorem ggX6_move_X6_isThere : GoodIn wsX6_move wsX6_isThere := goodIn_r _ [7, 1, 8, 9, 6, 10, 39, 40, 41, 42, 43, 44, 45, 46, 47, 48, 49, 50, 51, 52, 53, 54] (by decide +kernel) (by decide +kernel)
set_option maxRecDepth 20000 in
theorem gX6_move_X6_isThere : GoodIn wsX6_move (wsV RX6 90 RX6 yX6_isThere wsX6_isThere) := goodIn_app (goodIn_of _ (by decide +kernel)) ggX6_move_X6_isThere
set_option maxRecDepth 20000 in
theorem ggX6_move_X6_isTime : GoodIn wsX6_move wsX6_isTime := goodIn_r _ [13, 14, 15, 8, 9, 6, 10] (by decide +kernel) (by decide +kernel)
set_option maxRecDepth 20000 in
theorem gX6_move_X6_isTime : GoodIn wsX6_move (va_wsS RX6 73 yX6_isTime wsX6_isTime) := goodIn_app (goodIn_of _ (by decide +kernel)) ggX6_move_X6_isTime
set_option maxRecDepth 20000 in
theorem ggX6_move_X6_copy : GoodIn wsX6_move wsX6_copy := goodIn_r _ [18] (by decide +kernel) (by decide +kernel)
set_option maxRecDepth 20000 in
theorem gX6_move_X6_copy : GoodIn wsX6_move (va_wsS RX6 96 yX6_copy wsX6_copy) := goodIn_app (goodIn_of _ (by decide +kernel)) ggX6_move_X6_copy
set_option maxRecDepth 20000 in
theorem ggX6_move_X6_isChoice : GoodIn wsX6_move wsX6_isChoice := goodIn_r _ [21, 22, 23, 6, 24, 25, 26, 27] (by decide +kernel) (by decide +kernel)
set_option maxRecDepth 20000 in
theorem gX6_move_X6_isChoice : GoodIn wsX6_move (va_wsS RX6 100 yX6_isChoice wsX6_isChoice) := goodIn_app (goodIn_of _ (by decide +kernel)) ggX6_move_X6_isChoice
set_option maxRecDepth 20000 in
theorem ggX6_move_X6_refused : GoodIn wsX6_move wsX6_refused := goodIn_r _ [31, 32, 39, 40, 41, 42, 43, 44, 45, 46, 47, 48, 49, 50, 51, 52, 53, 54] (by decide +kernel) (by decide +kernel)
set_option maxRecDepth 20000 in
theorem gX6_move_X6_refused : GoodIn wsX6_move (wsV RX6 79 RX6 yX6_refused wsX6_refused) := goodIn_app (goodIn_of _ (by decide +kernel)) ggX6_move_X6_refused
set_option maxRecDepth 20000 in
theorem ggX6_move_X6_save : GoodIn wsX6_move wsX6_save := goodIn_r _ [36, 37, 38, 1, 39, 40, 41, 42, 43, 44, 45, 46, 47, 48, 49, 50, 51, 52, 53, 54] (by decide +kernel) (by decide +kernel)
set_option maxRecDepth 20000 in
theorem gX6_move_X6_save : GoodIn wsX6_move (wsV RX6 83 RX6 yX6_save wsX6_save) := goodIn_app (goodIn_of _ (by decide +kernel)) ggX6_move_X6_save
theorem dX6_move_0 : decode cX6_move 0 = .ok (.aload_n 0, 1) := by decide +kernel
theorem dX6_move_1 : decode cX6_move 1 = .ok (.iload_n 1, 1) := by decide +kernel
theorem dX6_move_2 : decode cX6_move 2 = .ok (.invokevirtual 90, 3) := by decide +kernel
theorem dX6_move_5 : decode cX6_move 5 = .ok (.istore 4, 2) := by decide +kernel
theorem dX6_move_7 : decode cX6_move 7 = .ok (.iload_n 2, 1) := by decide +kernel
theorem dX6_move_8 : decode cX6_move 8 = .ok (.iload_n 3, 1) := by decide +kernel
theorem dX6_move_9 : decode cX6_move 9 = .ok (.invokestatic 73, 3) := by decide +kernel
theorem dX6_move_12 : decode cX6_move 12 = .ok (.istore 5, 2) := by decide +kernel
theorem dX6_move_14 : decode cX6_move 14 = .ok (.aload_n 0, 1) := by decide +kernel
theorem dX6_move_15 : decode cX6_move 15 = .ok (.getfield 7, 3) := by decide +kernel
theorem dX6_move_18 : decode cX6_move 18 = .ok (.aload_n 0, 1) := by decide +kernel
theorem dX6_move_19 : decode cX6_move 19 = .ok (.getfield 13, 3) := by decide +kernel
theorem dX6_move_22 : decode cX6_move 22 = .ok (.invokestatic 96, 3) := by decide +kernel
theorem dX6_move_25 : decode cX6_move 25 = .ok (.iload 4, 2) := by decide +kernel
theorem dX6_move_27 : decode cX6_move 27 = .ok (.ifCond .eq 25, 3) := by decide +kernel
theorem dX6_move_30 : decode cX6_move 30 = .ok (.iload 5, 2) := by decide +kernel
theorem dX6_move_32 : decode cX6_move 32 = .ok (.ifCond .eq 20, 3) := by decide +kernel
theorem dX6_move_35 : decode cX6_move 35 = .ok (.aload_n 0, 1) := by decide +kernel
theorem dX6_move_36 : decode cX6_move 36 = .ok (.getfield 13, 3) := by decide +kernel
theorem dX6_move_39 : decode cX6_move 39 = .ok (.iload_n 1, 1) := by decide +kernel
theorem dX6_move_40 : decode cX6_move 40 = .ok (.iload_n 2, 1) := by decide +kernel
theorem dX6_move_41 : decode cX6_move 41 = .ok (.iastore, 1) := by decide +kernel
theorem dX6_move_42 : decode cX6_move 42 = .ok (.aload_n 0, 1) := by decide +kernel
theorem dX6_move_43 : decode cX6_move 43 = .ok (.getfield 13, 3) := by decide +kernel
theorem dX6_move_46 : decode cX6_move 46 = .ok (.bipush 14, 2) := by decide +kernel
theorem dX6_move_48 : decode cX6_move 48 = .ok (.iload_n 1, 1) := by decide +kernel
theorem dX6_move_49 : decode cX6_move 49 = .ok (.iadd, 1) := by decide +kernel
theorem dX6_move_50 : decode cX6_move 50 = .ok (.iload_n 3, 1) := by decide +kernel
theorem dX6_move_51 : decode cX6_move 51 = .ok (.iastore, 1) := by decide +kernel
theorem dX6_move_52 : decode cX6_move 52 = .ok (.aload_n 0, 1) := by decide +kernel
theorem dX6_move_53 : decode cX6_move 53 = .ok (.iload 4, 2) := by decide +kernel
theorem dX6_move_55 : decode cX6_move 55 = .ok (.ifCond .ne 7, 3) := by decide +kernel
theorem dX6_move_58 : decode cX6_move 58 = .ok (.iconst 1, 1) := by decide +kernel
theorem dX6_move_59 : decode cX6_move 59 = .ok (.goto 34, 3) := by decide +kernel
theorem dX6_move_62 : decode cX6_move 62 = .ok (.iload 5, 2) := by decide +kernel
theorem dX6_move_64 : decode cX6_move 64 = .ok (.ifCond .ne 7, 3) := by decide +kernel
theorem dX6_move_67 : decode cX6_move 67 = .ok (.iconst 2, 1) := by decide +kernel
theorem dX6_move_68 : decode cX6_move 68 = .ok (.goto 25, 3) := by decide +kernel
theorem dX6_move_71 : decode cX6_move 71 = .ok (.aload_n 0, 1) := by decide +kernel
theorem dX6_move_72 : decode cX6_move 72 = .ok (.getfield 13, 3) := by decide +kernel
theorem dX6_move_75 : decode cX6_move 75 = .ok (.aload_n 0, 1) := by decide +kernel
theorem dX6_move_76 : decode cX6_move 76 = .ok (.getfield 13, 3) := by decide +kernel
theorem dX6_move_79 : decode cX6_move 79 = .ok (.bipush 42, 2) := by decide +kernel
theorem dX6_move_81 : decode cX6_move 81 = .ok (.iaload, 1) := by decide +kernel
theorem dX6_move_82 : decode cX6_move 82 = .ok (.invokestatic 100, 3) := by decide +kernel
theorem dX6_move_85 : decode cX6_move 85 = .ok (.ifCond .ne 7, 3) := by decide +kernel
theorem dX6_move_88 : decode cX6_move 88 = .ok (.iconst 3, 1) := by decide +kernel
theorem dX6_move_89 : decode cX6_move 89 = .ok (.goto 4, 3) := by decide +kernel
theorem dX6_move_92 : decode cX6_move 92 = .ok (.iconst 0, 1) := by decide +kernel
theorem dX6_move_93 : decode cX6_move 93 = .ok (.invokevirtual 79, 3) := by decide +kernel
theorem dX6_move_96 : decode cX6_move 96 = .ok (.ifCond .eq 5, 3) := by decide +kernel
theorem dX6_move_99 : decode cX6_move 99 = .ok (.iconst 0, 1) := by decide +kernel
theorem dX6_move_100 : decode cX6_move 100 = .ok (.ireturn, 1) := by decide +kernel
theorem dX6_move_101 : decode cX6_move 101 = .ok (.aload_n 0, 1) := by decide +kernel
theorem dX6_move_102 : decode cX6_move 102 = .ok (.invokevirtual 83, 3) := by decide +kernel
theorem dX6_move_105 : decode cX6_move 105 = .ok (.aload_n 0, 1) := by decide +kernel
theorem dX6_move_106 : decode cX6_move 106 = .ok (.getfield 7, 3) := by decide +kernel
theorem dX6_move_109 : decode cX6_move 109 = .ok (.bipush 14, 2) := by decide +kernel
theorem dX6_move_111 : decode cX6_move 111 = .ok (.iload_n 1, 1) := by decide +kernel
theorem dX6_move_112 : decode cX6_move 112 = .ok (.iadd, 1) := by decide +kernel
theorem dX6_move_113 : decode cX6_move 113 = .ok (.iaload, 1) := by decide +kernel
theorem dX6_move_114 : decode cX6_move 114 = .ok (.aload_n 0, 1) := by decide +kernel
theorem dX6_move_115 : decode cX6_move 115 = .ok (.getfield 7, 3) := by decide +kernel
theorem dX6_move_118 : decode cX6_move 118 = .ok (.iload_n 1, 1) := by decide +kernel
theorem dX6_move_119 : decode cX6_move 119 = .ok (.iaload, 1) := by decide +kernel
theorem dX6_move_120 : decode cX6_move 120 = .ok (.isub, 1) := by decide +kernel
theorem dX6_move_121 : decode cX6_move 121 = .ok (.istore 6, 2) := by decide +kernel
theorem dX6_move_123 : decode cX6_move 123 = .ok (.aload_n 0, 1) := by decide +kernel
theorem dX6_move_124 : decode cX6_move 124 = .ok (.getfield 7, 3) := by decide +kernel
theorem dX6_move_127 : decode cX6_move 127 = .ok (.iload_n 1, 1) := by decide +kernel
theorem dX6_move_128 : decode cX6_move 128 = .ok (.iload_n 2, 1) := by decide +kernel
theorem dX6_move_129 : decode cX6_move 129 = .ok (.iastore, 1) := by decide +kernel
theorem dX6_move_130 : decode cX6_move 130 = .ok (.aload_n 0, 1) := by decide +kernel
theorem dX6_move_131 : decode cX6_move 131 = .ok (.getfield 7, 3) := by decide +kernel
theorem dX6_move_134 : decode cX6_move 134 = .ok (.bipush 14, 2) := by decide +kernel
theorem dX6_move_136 : decode cX6_move 136 = .ok (.iload_n 1, 1) := by decide +kernel
theorem dX6_move_137 : decode cX6_move 137 = .ok (.iadd, 1) := by decide +kernel
theorem dX6_move_138 : decode cX6_move 138 = .ok (.iload_n 3, 1) := by decide +kernel
theorem dX6_move_139 : decode cX6_move 139 = .ok (.iastore, 1) := by decide +kernel
theorem dX6_move_140 : decode cX6_move 140 = .ok (.iload_n 3, 1) := by decide +kernel
theorem dX6_move_141 : decode cX6_move 141 = .ok (.iload_n 2, 1) := by decide +kernel
theorem dX6_move_142 : decode cX6_move 142 = .ok (.isub, 1) := by decide +kernel
theorem dX6_move_143 : decode cX6_move 143 = .ok (.iload 6, 2) := by decide +kernel
theorem dX6_move_145 : decode cX6_move 145 = .ok (.isub, 1) := by decide +kernel
theorem dX6_move_146 : decode cX6_move 146 = .ok (.ireturn, 1) := by decide +kernel
set_option maxRecDepth 20000 in
theorem ggX6_changeFame_X6_isThere : GoodIn wsX6_changeFame wsX6_isThere := goodIn_r _ [7, 2, 8, 9, 6, 10, 22, 23, 24, 25, 26, 27, 28, 29, 30, 31, 32, 33, 34, 35, 36, 37] (by decide +kernel) (by decide +kernel)
set_option maxRecDepth 20000 in
theorem gX6_changeFame_X6_isThere : GoodIn wsX6_changeFame (wsV RX6 90 RX6 yX6_isThere wsX6_isThere) := goodIn_app (goodIn_of _ (by decide +kernel)) ggX6_changeFame_X6_isThere
set_option maxRecDepth 20000 in
theorem ggX6_changeFame_X6_in : GoodIn wsX6_changeFame wsX6_in := goodIn_r _ [10] (by decide +kernel) (by decide +kernel)
set_option maxRecDepth 20000 in
theorem gX6_changeFame_X6_in : GoodIn wsX6_changeFame (va_wsS RX6 42 yX6_in wsX6_in) := goodIn_app (goodIn_of _ (by decide +kernel)) ggX6_changeFame_X6_in
set_option maxRecDepth 20000 in
theorem ggX6_changeFame_X6_refused : GoodIn wsX6_changeFame wsX6_refused := goodIn_r _ [14, 15, 22, 23, 24, 25, 26, 27, 28, 29, 30, 31, 32, 33, 34, 35, 36, 37] (by decide +kernel) (by decide +kernel)
set_option maxRecDepth 20000 in
theorem gX6_changeFame_X6_refused : GoodIn wsX6_changeFame (wsV RX6 79 RX6 yX6_refused wsX6_refused) := goodIn_app (goodIn_of _ (by decide +kernel)) ggX6_changeFame_X6_refused
set_option maxRecDepth 20000 in
theorem ggX6_changeFame_X6_save : GoodIn wsX6_changeFame wsX6_save := goodIn_r _ [19, 20, 21, 2, 22, 23, 24, 25, 26, 27, 28, 29, 30, 31, 32, 33, 34, 35, 36, 37] (by decide +kernel) (by decide +kernel)
set_option maxRecDepth 20000 in
theorem gX6_changeFame_X6_save : GoodIn wsX6_changeFame (wsV RX6 83 RX6 yX6_save wsX6_save) := goodIn_app (goodIn_of _ (by decide +kernel)) ggX6_changeFame_X6_save
theorem dX6_changeFame_0 : decode cX6_changeFame 0 = .ok (.aload_n 0, 1) := by decide +kernel
theorem dX6_changeFame_1 : decode cX6_changeFame 1 = .ok (.aload_n 0, 1) := by decide +kernel
theorem dX6_changeFame_2 : decode cX6_changeFame 2 = .ok (.iload_n 1, 1) := by decide +kernel
theorem dX6_changeFame_3 : decode cX6_changeFame 3 = .ok (.invokevirtual 90, 3) := by decide +kernel
theorem dX6_changeFame_6 : decode cX6_changeFame 6 = .ok (.ifCond .ne 7, 3) := by decide +kernel
theorem dX6_changeFame_9 : decode cX6_changeFame 9 = .ok (.iconst 1, 1) := by decide +kernel
theorem dX6_changeFame_10 : decode cX6_changeFame 10 = .ok (.goto 20, 3) := by decide +kernel
theorem dX6_changeFame_13 : decode cX6_changeFame 13 = .ok (.iload_n 2, 1) := by decide +kernel
theorem dX6_changeFame_14 : decode cX6_changeFame 14 = .ok (.i2l, 1) := by decide +kernel
theorem dX6_changeFame_15 : decode cX6_changeFame 15 = .ok (.lconst 1, 1) := by decide +kernel
theorem dX6_changeFame_16 : decode cX6_changeFame 16 = .ok (.ldc2_w 77, 3) := by decide +kernel
theorem dX6_changeFame_19 : decode cX6_changeFame 19 = .ok (.invokestatic 42, 3) := by decide +kernel
theorem dX6_changeFame_22 : decode cX6_changeFame 22 = .ok (.ifCond .ne 7, 3) := by decide +kernel
theorem dX6_changeFame_25 : decode cX6_changeFame 25 = .ok (.iconst 2, 1) := by decide +kernel
theorem dX6_changeFame_26 : decode cX6_changeFame 26 = .ok (.goto 4, 3) := by decide +kernel
theorem dX6_changeFame_29 : decode cX6_changeFame 29 = .ok (.iconst 0, 1) := by decide +kernel
theorem dX6_changeFame_30 : decode cX6_changeFame 30 = .ok (.invokevirtual 79, 3) := by decide +kernel
theorem dX6_changeFame_33 : decode cX6_changeFame 33 = .ok (.ifCond .eq 5, 3) := by decide +kernel
theorem dX6_changeFame_36 : decode cX6_changeFame 36 = .ok (.iconst 0, 1) := by decide +kernel
theorem dX6_changeFame_37 : decode cX6_changeFame 37 = .ok (.ireturn, 1) := by decide +kernel
theorem dX6_changeFame_38 : decode cX6_changeFame 38 = .ok (.aload_n 0, 1) := by decide +kernel
theorem dX6_changeFame_39 : decode cX6_changeFame 39 = .ok (.invokevirtual 83, 3) := by decide +kernel
theorem dX6_changeFame_42 : decode cX6_changeFame 42 = .ok (.aload_n 0, 1) := by decide +kernel
theorem dX6_changeFame_43 : decode cX6_changeFame 43 = .ok (.getfield 7, 3) := by decide +kernel
theorem dX6_changeFame_46 : decode cX6_changeFame 46 = .ok (.bipush 28, 2) := by decide +kernel
theorem dX6_changeFame_48 : decode cX6_changeFame 48 = .ok (.iload_n 1, 1) := by decide +kernel
theorem dX6_changeFame_49 : decode cX6_changeFame 49 = .ok (.iadd, 1) := by decide +kernel
theorem dX6_changeFame_50 : decode cX6_changeFame 50 = .ok (.iaload, 1) := by decide +kernel
theorem dX6_changeFame_51 : decode cX6_changeFame 51 = .ok (.istore_n 3, 1) := by decide +kernel
theorem dX6_changeFame_52 : decode cX6_changeFame 52 = .ok (.aload_n 0, 1) := by decide +kernel
theorem dX6_changeFame_53 : decode cX6_changeFame 53 = .ok (.getfield 7, 3) := by decide +kernel
theorem dX6_changeFame_56 : decode cX6_changeFame 56 = .ok (.bipush 28, 2) := by decide +kernel
theorem dX6_changeFame_58 : decode cX6_changeFame 58 = .ok (.iload_n 1, 1) := by decide +kernel
theorem dX6_changeFame_59 : decode cX6_changeFame 59 = .ok (.iadd, 1) := by decide +kernel
theorem dX6_changeFame_60 : decode cX6_changeFame 60 = .ok (.iload_n 2, 1) := by decide +kernel
theorem dX6_changeFame_61 : decode cX6_changeFame 61 = .ok (.iastore, 1) := by decide +kernel
theorem dX6_changeFame_62 : decode cX6_changeFame 62 = .ok (.iload_n 3, 1) := by decide +kernel
theorem dX6_changeFame_63 : decode cX6_changeFame 63 = .ok (.ireturn, 1) := by decide +kernel
set_option maxRecDepth 20000 in
theorem ggX6_changePause_X6_in : GoodIn wsX6_changePause wsX6_in := goodIn_r _ [7] (by decide +kernel) (by decide +kernel)
set_option maxRecDepth 20000 in
theorem gX6_changePause_X6_in : GoodIn wsX6_changePause (va_wsS RX6 42 yX6_in wsX6_in) := goodIn_app (goodIn_of _ (by decide +kernel)) ggX6_changePause_X6_in
set_option maxRecDepth 20000 in
theorem ggX6_changePause_X6_copy : GoodIn wsX6_changePause wsX6_copy := goodIn_r _ [10] (by decide +kernel) (by decide +kernel)
set_option maxRecDepth 20000 in
theorem gX6_changePause_X6_copy : GoodIn wsX6_changePause (va_wsS RX6 96 yX6_copy wsX6_copy) := goodIn_app (goodIn_of _ (by decide +kernel)) ggX6_changePause_X6_copy
set_option maxRecDepth 20000 in
theorem ggX6_changePause_X6_isChoice : GoodIn wsX6_changePause wsX6_isChoice := goodIn_r _ [13, 14, 15, 6, 16, 17, 18, 19] (by decide +kernel) (by decide +kernel)
set_option maxRecDepth 20000 in
theorem gX6_changePause_X6_isChoice : GoodIn wsX6_changePause (va_wsS RX6 100 yX6_isChoice wsX6_isChoice) := goodIn_app (goodIn_of _ (by decide +kernel)) ggX6_changePause_X6_isChoice
set_option maxRecDepth 20000 in
theorem ggX6_changePause_X6_refused : GoodIn wsX6_changePause wsX6_refused := goodIn_r _ [23, 24, 31, 32, 33, 34, 35, 36, 37, 38, 39, 40, 41, 42, 43, 44, 45, 46] (by decide +kernel) (by decide +kernel)
set_option maxRecDepth 20000 in
theorem gX6_changePause_X6_refused : GoodIn wsX6_changePause (wsV RX6 79 RX6 yX6_refused wsX6_refused) := goodIn_app (goodIn_of _ (by decide +kernel)) ggX6_changePause_X6_refused
set_option maxRecDepth 20000 in
theorem ggX6_changePause_X6_save : GoodIn wsX6_changePause wsX6_save := goodIn_r _ [28, 29, 30, 2, 31, 32, 33, 34, 35, 36, 37, 38, 39, 40, 41, 42, 43, 44, 45, 46] (by decide +kernel) (by decide +kernel)
set_option maxRecDepth 20000 in
theorem gX6_changePause_X6_save : GoodIn wsX6_changePause (wsV RX6 83 RX6 yX6_save wsX6_save) := goodIn_app (goodIn_of _ (by decide +kernel)) ggX6_changePause_X6_save
theorem dX6_changePause_0 : decode cX6_changePause 0 = .ok (.iload_n 1, 1) := by decide +kernel
theorem dX6_changePause_1 : decode cX6_changePause 1 = .ok (.i2l, 1) := by decide +kernel
theorem dX6_changePause_2 : decode cX6_changePause 2 = .ok (.lconst 0, 1) := by decide +kernel
theorem dX6_changePause_3 : decode cX6_changePause 3 = .ok (.ldc2_w 104, 3) := by decide +kernel
theorem dX6_changePause_6 : decode cX6_changePause 6 = .ok (.invokestatic 42, 3) := by decide +kernel
theorem dX6_changePause_9 : decode cX6_changePause 9 = .ok (.istore_n 2, 1) := by decide +kernel
theorem dX6_changePause_10 : decode cX6_changePause 10 = .ok (.aload_n 0, 1) := by decide +kernel
theorem dX6_changePause_11 : decode cX6_changePause 11 = .ok (.getfield 7, 3) := by decide +kernel
theorem dX6_changePause_14 : decode cX6_changePause 14 = .ok (.aload_n 0, 1) := by decide +kernel
theorem dX6_changePause_15 : decode cX6_changePause 15 = .ok (.getfield 13, 3) := by decide +kernel
theorem dX6_changePause_18 : decode cX6_changePause 18 = .ok (.invokestatic 96, 3) := by decide +kernel
theorem dX6_changePause_21 : decode cX6_changePause 21 = .ok (.aload_n 0, 1) := by decide +kernel
theorem dX6_changePause_22 : decode cX6_changePause 22 = .ok (.getfield 13, 3) := by decide +kernel
theorem dX6_changePause_25 : decode cX6_changePause 25 = .ok (.bipush 43, 2) := by decide +kernel
theorem dX6_changePause_27 : decode cX6_changePause 27 = .ok (.iload_n 2, 1) := by decide +kernel
theorem dX6_changePause_28 : decode cX6_changePause 28 = .ok (.ifCond .eq 7, 3) := by decide +kernel
theorem dX6_changePause_31 : decode cX6_changePause 31 = .ok (.iload_n 1, 1) := by decide +kernel
theorem dX6_changePause_32 : decode cX6_changePause 32 = .ok (.goto 4, 3) := by decide +kernel
theorem dX6_changePause_35 : decode cX6_changePause 35 = .ok (.iconst 0, 1) := by decide +kernel
theorem dX6_changePause_36 : decode cX6_changePause 36 = .ok (.iastore, 1) := by decide +kernel
theorem dX6_changePause_37 : decode cX6_changePause 37 = .ok (.aload_n 0, 1) := by decide +kernel
theorem dX6_changePause_38 : decode cX6_changePause 38 = .ok (.iload_n 2, 1) := by decide +kernel
theorem dX6_changePause_39 : decode cX6_changePause 39 = .ok (.ifCond .ne 7, 3) := by decide +kernel
theorem dX6_changePause_42 : decode cX6_changePause 42 = .ok (.iconst 1, 1) := by decide +kernel
theorem dX6_changePause_43 : decode cX6_changePause 43 = .ok (.goto 25, 3) := by decide +kernel
theorem dX6_changePause_46 : decode cX6_changePause 46 = .ok (.aload_n 0, 1) := by decide +kernel
theorem dX6_changePause_47 : decode cX6_changePause 47 = .ok (.getfield 13, 3) := by decide +kernel
theorem dX6_changePause_50 : decode cX6_changePause 50 = .ok (.aload_n 0, 1) := by decide +kernel
theorem dX6_changePause_51 : decode cX6_changePause 51 = .ok (.getfield 13, 3) := by decide +kernel
theorem dX6_changePause_54 : decode cX6_changePause 54 = .ok (.bipush 42, 2) := by decide +kernel
theorem dX6_changePause_56 : decode cX6_changePause 56 = .ok (.iaload, 1) := by decide +kernel
theorem dX6_changePause_57 : decode cX6_changePause 57 = .ok (.invokestatic 100, 3) := by decide +kernel
theorem dX6_changePause_60 : decode cX6_changePause 60 = .ok (.ifCond .ne 7, 3) := by decide +kernel
theorem dX6_changePause_63 : decode cX6_changePause 63 = .ok (.iconst 2, 1) := by decide +kernel
theorem dX6_changePause_64 : decode cX6_changePause 64 = .ok (.goto 4, 3) := by decide +kernel
theorem dX6_changePause_67 : decode cX6_changePause 67 = .ok (.iconst 0, 1) := by decide +kernel
theorem dX6_changePause_68 : decode cX6_changePause 68 = .ok (.invokevirtual 79, 3) := by decide +kernel
theorem dX6_changePause_71 : decode cX6_changePause 71 = .ok (.ifCond .eq 5, 3) := by decide +kernel
theorem dX6_changePause_74 : decode cX6_changePause 74 = .ok (.iconst 0, 1) := by decide +kernel
theorem dX6_changePause_75 : decode cX6_changePause 75 = .ok (.ireturn, 1) := by decide +kernel
theorem dX6_changePause_76 : decode cX6_changePause 76 = .ok (.aload_n 0, 1) := by decide +kernel
theorem dX6_changePause_77 : decode cX6_changePause 77 = .ok (.invokevirtual 83, 3) := by decide +kernel
theorem dX6_changePause_80 : decode cX6_changePause 80 = .ok (.aload_n 0, 1) := by decide +kernel
theorem dX6_changePause_81 : decode cX6_changePause 81 = .ok (.getfield 7, 3) := by decide +kernel
theorem dX6_changePause_84 : decode cX6_changePause 84 = .ok (.bipush 43, 2) := by decide +kernel
theorem dX6_changePause_86 : decode cX6_changePause 86 = .ok (.iaload, 1) := by decide +kernel
theorem dX6_changePause_87 : decode cX6_changePause 87 = .ok (.istore_n 3, 1) := by decide +kernel
theorem dX6_changePause_88 : decode cX6_changePause 88 = .ok (.aload_n 0, 1) := by decide +kernel
theorem dX6_changePause_89 : decode cX6_changePause 89 = .ok (.getfield 7, 3) := by decide +kernel
theorem dX6_changePause_92 : decode cX6_changePause 92 = .ok (.bipush 43, 2) := by decide +kernel
theorem dX6_changePause_94 : decode cX6_changePause 94 = .ok (.iload_n 1, 1) := by decide +kernel
theorem dX6_changePause_95 : decode cX6_changePause 95 = .ok (.iastore, 1) := by decide +kernel
theorem dX6_changePause_96 : decode cX6_changePause 96 = .ok (.iload_n 3, 1) := by decide +kernel
theorem dX6_changePause_97 : decode cX6_changePause 97 = .ok (.ireturn, 1) := by decide +kernel
theorem dX6_isIn_0 : decode cX6_isIn 0 = .ok (.aload_n 0, 1) := by decide +kernel
theorem dX6_isIn_1 : decode cX6_isIn 1 = .ok (.getfield 7, 3) := by decide +kernel
theorem dX6_isIn_4 : decode cX6_isIn 4 = .ok (.bipush 42, 2) := by decide +kernel
theorem dX6_isIn_6 : decode cX6_isIn 6 = .ok (.iaload, 1) := by decide +kernel
theorem dX6_isIn_7 : decode cX6_isIn 7 = .ok (.iload_n 1, 1) := by decide +kernel
theorem dX6_isIn_8 : decode cX6_isIn 8 = .ok (.ishr, 1) := by decide +kernel
theorem dX6_isIn_9 : decode cX6_isIn 9 = .ok (.iconst 1, 1) := by decide +kernel
theorem dX6_isIn_10 : decode cX6_isIn 10 = .ok (.iand, 1) := by decide +kernel
theorem dX6_isIn_11 : decode cX6_isIn 11 = .ok (.iconst 1, 1) := by decide +kernel
theorem dX6_isIn_12 : decode cX6_isIn 12 = .ok (.if_icmp .ne 7, 3) := by decide +kernel
theorem dX6_isIn_15 : decode cX6_isIn 15 = .ok (.iconst 1, 1) := by decide +kernel
theorem dX6_isIn_16 : decode cX6_isIn 16 = .ok (.goto 4, 3) := by decide +kernel
theorem dX6_isIn_19 : decode cX6_isIn 19 = .ok (.iconst 0, 1) := by decide +kernel
theorem dX6_isIn_20 : decode cX6_isIn 20 = .ok (.ireturn, 1) := by decide +kernel
set_option maxRecDepth 20000 in
theorem ggX6_book_X6_isThere : GoodIn wsX6_book wsX6_isThere := goodIn_r _ [6, 1, 7, 8, 5, 9, 35, 36, 37, 38, 39, 40, 41, 42, 43, 44, 45, 46, 47, 48, 49, 50] (by decide +kernel) (by decide +kernel)
set_option maxRecDepth 20000 in
theorem gX6_book_X6_isThere : GoodIn wsX6_book (wsV RX6 90 RX6 yX6_isThere wsX6_isThere) := goodIn_app (goodIn_of _ (by decide +kernel)) ggX6_book_X6_isThere
set_option maxRecDepth 20000 in
theorem ggX6_book_X6_isIn : GoodIn wsX6_book wsX6_isIn := goodIn_r _ [13, 1, 35, 36, 37, 38, 39, 40, 41, 42, 43, 44, 45, 46, 47, 48, 49, 50] (by decide +kernel) (by decide +kernel)
set_option maxRecDepth 20000 in
theorem gX6_book_X6_isIn : GoodIn wsX6_book (wsV RX6 106 RX6 yX6_isIn wsX6_isIn) := goodIn_app (goodIn_of _ (by decide +kernel)) ggX6_book_X6_isIn
set_option maxRecDepth 20000 in
theorem ggX6_book_X6_foesOf : GoodIn wsX6_book wsX6_foesOf := goodIn_r _ [16, 17, 18, 5, 19] (by decide +kernel) (by decide +kernel)
set_option maxRecDepth 20000 in
theorem gX6_book_X6_foesOf : GoodIn wsX6_book (va_wsS RX6 54 yX6_foesOf wsX6_foesOf) := goodIn_app (goodIn_of _ (by decide +kernel)) ggX6_book_X6_foesOf
set_option maxRecDepth 20000 in
theorem ggX6_book_X6_refused : GoodIn wsX6_book wsX6_refused := goodIn_r _ [23, 24, 35, 36, 37, 38, 39, 40, 41, 42, 43, 44, 45, 46, 47, 48, 49, 50] (by decide +kernel) (by decide +kernel)
set_option maxRecDepth 20000 in
theorem gX6_book_X6_refused : GoodIn wsX6_book (wsV RX6 79 RX6 yX6_refused wsX6_refused) := goodIn_app (goodIn_of _ (by decide +kernel)) ggX6_book_X6_refused
set_option maxRecDepth 20000 in
theorem ggX6_book_X6_save : GoodIn wsX6_book wsX6_save := goodIn_r _ [28, 29, 30, 1, 35, 36, 37, 38, 39, 40, 41, 42, 43, 44, 45, 46, 47, 48, 49, 50] (by decide +kernel) (by decide +kernel)
set_option maxRecDepth 20000 in
theorem gX6_book_X6_save : GoodIn wsX6_book (wsV RX6 83 RX6 yX6_save wsX6_save) := goodIn_app (goodIn_of _ (by decide +kernel)) ggX6_book_X6_save
set_option maxRecDepth 20000 in
theorem ggX6_book_X6_fameOfBooked : GoodIn wsX6_book wsX6_fameOfBooked := goodIn_r _ [34, 1, 35, 36, 37, 38, 39, 40, 41, 42, 43, 44, 45, 46, 47, 48, 49, 50] (by decide +kernel) (by decide +kernel)
set_option maxRecDepth 20000 in
theorem gX6_book_X6_fameOfBooked : GoodIn wsX6_book (wsV RX6 109 RX6 yX6_fameOfBooked wsX6_fameOfBooked) := goodIn_app (goodIn_of _ (by decide +kernel)) ggX6_book_X6_fameOfBooked
theorem dX6_book_0 : decode cX6_book 0 = .ok (.aload_n 0, 1) := by decide +kernel
theorem dX6_book_1 : decode cX6_book 1 = .ok (.iload_n 1, 1) := by decide +kernel
theorem dX6_book_2 : decode cX6_book 2 = .ok (.invokevirtual 90, 3) := by decide +kernel
theorem dX6_book_5 : decode cX6_book 5 = .ok (.istore_n 2, 1) := by decide +kernel
theorem dX6_book_6 : decode cX6_book 6 = .ok (.iload_n 2, 1) := by decide +kernel
theorem dX6_book_7 : decode cX6_book 7 = .ok (.ifCond .eq 34, 3) := by decide +kernel
theorem dX6_book_10 : decode cX6_book 10 = .ok (.aload_n 0, 1) := by decide +kernel
theorem dX6_book_11 : decode cX6_book 11 = .ok (.iload_n 1, 1) := by decide +kernel
theorem dX6_book_12 : decode cX6_book 12 = .ok (.invokevirtual 106, 3) := by decide +kernel
theorem dX6_book_15 : decode cX6_book 15 = .ok (.ifCond .ne 26, 3) := by decide +kernel
theorem dX6_book_18 : decode cX6_book 18 = .ok (.aload_n 0, 1) := by decide +kernel
theorem dX6_book_19 : decode cX6_book 19 = .ok (.getfield 7, 3) := by decide +kernel
theorem dX6_book_22 : decode cX6_book 22 = .ok (.iload_n 1, 1) := by decide +kernel
theorem dX6_book_23 : decode cX6_book 23 = .ok (.invokestatic 54, 3) := by decide +kernel
theorem dX6_book_26 : decode cX6_book 26 = .ok (.aload_n 0, 1) := by decide +kernel
theorem dX6_book_27 : decode cX6_book 27 = .ok (.getfield 7, 3) := by decide +kernel
theorem dX6_book_30 : decode cX6_book 30 = .ok (.bipush 42, 2) := by decide +kernel
theorem dX6_book_32 : decode cX6_book 32 = .ok (.iaload, 1) := by decide +kernel
theorem dX6_book_33 : decode cX6_book 33 = .ok (.iand, 1) := by decide +kernel
theorem dX6_book_34 : decode cX6_book 34 = .ok (.ifCond .ne 7, 3) := by decide +kernel
theorem dX6_book_37 : decode cX6_book 37 = .ok (.iconst 1, 1) := by decide +kernel
theorem dX6_book_38 : decode cX6_book 38 = .ok (.goto 4, 3) := by decide +kernel
theorem dX6_book_41 : decode cX6_book 41 = .ok (.iconst 0, 1) := by decide +kernel
theorem dX6_book_42 : decode cX6_book 42 = .ok (.istore_n 3, 1) := by decide +kernel
theorem dX6_book_43 : decode cX6_book 43 = .ok (.aload_n 0, 1) := by decide +kernel
theorem dX6_book_44 : decode cX6_book 44 = .ok (.iload_n 2, 1) := by decide +kernel
theorem dX6_book_45 : decode cX6_book 45 = .ok (.ifCond .ne 7, 3) := by decide +kernel
theorem dX6_book_48 : decode cX6_book 48 = .ok (.iconst 1, 1) := by decide +kernel
theorem dX6_book_49 : decode cX6_book 49 = .ok (.goto 12, 3) := by decide +kernel
theorem dX6_book_52 : decode cX6_book 52 = .ok (.iload_n 3, 1) := by decide +kernel
theorem dX6_book_53 : decode cX6_book 53 = .ok (.ifCond .ne 7, 3) := by decide +kernel
theorem dX6_book_56 : decode cX6_book 56 = .ok (.iconst 2, 1) := by decide +kernel
theorem dX6_book_57 : decode cX6_book 57 = .ok (.goto 4, 3) := by decide +kernel
theorem dX6_book_60 : decode cX6_book 60 = .ok (.iconst 0, 1) := by decide +kernel
theorem dX6_book_61 : decode cX6_book 61 = .ok (.invokevirtual 79, 3) := by decide +kernel
theorem dX6_book_64 : decode cX6_book 64 = .ok (.ifCond .eq 5, 3) := by decide +kernel
theorem dX6_book_67 : decode cX6_book 67 = .ok (.iconst 0, 1) := by decide +kernel
theorem dX6_book_68 : decode cX6_book 68 = .ok (.ireturn, 1) := by decide +kernel
theorem dX6_book_69 : decode cX6_book 69 = .ok (.aload_n 0, 1) := by decide +kernel
theorem dX6_book_70 : decode cX6_book 70 = .ok (.invokevirtual 83, 3) := by decide +kernel
theorem dX6_book_73 : decode cX6_book 73 = .ok (.aload_n 0, 1) := by decide +kernel
theorem dX6_book_74 : decode cX6_book 74 = .ok (.getfield 7, 3) := by decide +kernel
theorem dX6_book_77 : decode cX6_book 77 = .ok (.bipush 42, 2) := by decide +kernel
theorem dX6_book_79 : decode cX6_book 79 = .ok (.dup2, 1) := by decide +kernel
theorem dX6_book_80 : decode cX6_book 80 = .ok (.iaload, 1) := by decide +kernel
theorem dX6_book_81 : decode cX6_book 81 = .ok (.iconst 1, 1) := by decide +kernel
theorem dX6_book_82 : decode cX6_book 82 = .ok (.iload_n 1, 1) := by decide +kernel
theorem dX6_book_83 : decode cX6_book 83 = .ok (.ishl, 1) := by decide +kernel
theorem dX6_book_84 : decode cX6_book 84 = .ok (.ior, 1) := by decide +kernel
theorem dX6_book_85 : decode cX6_book 85 = .ok (.iastore, 1) := by decide +kernel
theorem dX6_book_86 : decode cX6_book 86 = .ok (.aload_n 0, 1) := by decide +kernel
theorem dX6_book_87 : decode cX6_book 87 = .ok (.invokevirtual 109, 3) := by decide +kernel
theorem dX6_book_90 : decode cX6_book 90 = .ok (.ireturn, 1) := by decide +kernel
set_option maxRecDepth 20000 in
theorem ggX6_cancel_X6_isThere : GoodIn wsX6_cancel wsX6_isThere := goodIn_r _ [6, 1, 7, 8, 5, 9, 29, 30, 31, 32, 33, 34, 35, 36, 37, 38, 39, 40, 41, 42, 43, 44] (by decide +kernel) (by decide +kernel)
set_option maxRecDepth 20000 in
theorem gX6_cancel_X6_isThere : GoodIn wsX6_cancel (wsV RX6 90 RX6 yX6_isThere wsX6_isThere) := goodIn_app (goodIn_of _ (by decide +kernel)) ggX6_cancel_X6_isThere
set_option maxRecDepth 20000 in
theorem ggX6_cancel_X6_isIn : GoodIn wsX6_cancel wsX6_isIn := goodIn_r _ [13, 1, 29, 30, 31, 32, 33, 34, 35, 36, 37, 38, 39, 40, 41, 42, 43, 44] (by decide +kernel) (by decide +kernel)
set_option maxRecDepth 20000 in
theorem gX6_cancel_X6_isIn : GoodIn wsX6_cancel (wsV RX6 106 RX6 yX6_isIn wsX6_isIn) := goodIn_app (goodIn_of _ (by decide +kernel)) ggX6_cancel_X6_isIn
set_option maxRecDepth 20000 in
theorem ggX6_cancel_X6_refused : GoodIn wsX6_cancel wsX6_refused := goodIn_r _ [17, 18, 29, 30, 31, 32, 33, 34, 35, 36, 37, 38, 39, 40, 41, 42, 43, 44] (by decide +kernel) (by decide +kernel)
set_option maxRecDepth 20000 in
theorem gX6_cancel_X6_refused : GoodIn wsX6_cancel (wsV RX6 79 RX6 yX6_refused wsX6_refused) := goodIn_app (goodIn_of _ (by decide +kernel)) ggX6_cancel_X6_refused
set_option maxRecDepth 20000 in
theorem ggX6_cancel_X6_save : GoodIn wsX6_cancel wsX6_save := goodIn_r _ [22, 23, 24, 1, 29, 30, 31, 32, 33, 34, 35, 36, 37, 38, 39, 40, 41, 42, 43, 44] (by decide +kernel) (by decide +kernel)
set_option maxRecDepth 20000 in
theorem gX6_cancel_X6_save : GoodIn wsX6_cancel (wsV RX6 83 RX6 yX6_save wsX6_save) := goodIn_app (goodIn_of _ (by decide +kernel)) ggX6_cancel_X6_save
set_option maxRecDepth 20000 in
theorem ggX6_cancel_X6_fameOfBooked : GoodIn wsX6_cancel wsX6_fameOfBooked := goodIn_r _ [28, 1, 29, 30, 31, 32, 33, 34, 35, 36, 37, 38, 39, 40, 41, 42, 43, 44] (by decide +kernel) (by decide +kernel)
set_option maxRecDepth 20000 in
theorem gX6_cancel_X6_fameOfBooked : GoodIn wsX6_cancel (wsV RX6 109 RX6 yX6_fameOfBooked wsX6_fameOfBooked) := goodIn_app (goodIn_of _ (by decide +kernel)) ggX6_cancel_X6_fameOfBooked
theorem dX6_cancel_0 : decode cX6_cancel 0 = .ok (.aload_n 0, 1) := by decide +kernel
theorem dX6_cancel_1 : decode cX6_cancel 1 = .ok (.iload_n 1, 1) := by decide +kernel
theorem dX6_cancel_2 : decode cX6_cancel 2 = .ok (.invokevirtual 90, 3) := by decide +kernel
theorem dX6_cancel_5 : decode cX6_cancel 5 = .ok (.istore_n 2, 1) := by decide +kernel
theorem dX6_cancel_6 : decode cX6_cancel 6 = .ok (.aload_n 0, 1) := by decide +kernel
theorem dX6_cancel_7 : decode cX6_cancel 7 = .ok (.iload_n 2, 1) := by decide +kernel
theorem dX6_cancel_8 : decode cX6_cancel 8 = .ok (.ifCond .ne 7, 3) := by decide +kernel
theorem dX6_cancel_11 : decode cX6_cancel 11 = .ok (.iconst 1, 1) := by decide +kernel
theorem dX6_cancel_12 : decode cX6_cancel 12 = .ok (.goto 16, 3) := by decide +kernel
theorem dX6_cancel_15 : decode cX6_cancel 15 = .ok (.aload_n 0, 1) := by decide +kernel
theorem dX6_cancel_16 : decode cX6_cancel 16 = .ok (.iload_n 1, 1) := by decide +kernel
theorem dX6_cancel_17 : decode cX6_cancel 17 = .ok (.invokevirtual 106, 3) := by decide +kernel
theorem dX6_cancel_20 : decode cX6_cancel 20 = .ok (.ifCond .ne 7, 3) := by decide +kernel
theorem dX6_cancel_23 : decode cX6_cancel 23 = .ok (.iconst 2, 1) := by decide +kernel
theorem dX6_cancel_24 : decode cX6_cancel 24 = .ok (.goto 4, 3) := by decide +kernel
theorem dX6_cancel_27 : decode cX6_cancel 27 = .ok (.iconst 0, 1) := by decide +kernel
theorem dX6_cancel_28 : decode cX6_cancel 28 = .ok (.invokevirtual 79, 3) := by decide +kernel
theorem dX6_cancel_31 : decode cX6_cancel 31 = .ok (.ifCond .eq 5, 3) := by decide +kernel
theorem dX6_cancel_34 : decode cX6_cancel 34 = .ok (.iconst 0, 1) := by decide +kernel
theorem dX6_cancel_35 : decode cX6_cancel 35 = .ok (.ireturn, 1) := by decide +kernel
theorem dX6_cancel_36 : decode cX6_cancel 36 = .ok (.aload_n 0, 1) := by decide +kernel
theorem dX6_cancel_37 : decode cX6_cancel 37 = .ok (.invokevirtual 83, 3) := by decide +kernel
theorem dX6_cancel_40 : decode cX6_cancel 40 = .ok (.aload_n 0, 1) := by decide +kernel
theorem dX6_cancel_41 : decode cX6_cancel 41 = .ok (.getfield 7, 3) := by decide +kernel
theorem dX6_cancel_44 : decode cX6_cancel 44 = .ok (.bipush 42, 2) := by decide +kernel
theorem dX6_cancel_46 : decode cX6_cancel 46 = .ok (.dup2, 1) := by decide +kernel
theorem dX6_cancel_47 : decode cX6_cancel 47 = .ok (.iaload, 1) := by decide +kernel
theorem dX6_cancel_48 : decode cX6_cancel 48 = .ok (.iconst 1, 1) := by decide +kernel
theorem dX6_cancel_49 : decode cX6_cancel 49 = .ok (.iload_n 1, 1) := by decide +kernel
theorem dX6_cancel_50 : decode cX6_cancel 50 = .ok (.ishl, 1) := by decide +kernel
theorem dX6_cancel_51 : decode cX6_cancel 51 = .ok (.isub, 1) := by decide +kernel
theorem dX6_cancel_52 : decode cX6_cancel 52 = .ok (.iastore, 1) := by decide +kernel
theorem dX6_cancel_53 : decode cX6_cancel 53 = .ok (.aload_n 0, 1) := by decide +kernel
theorem dX6_cancel_54 : decode cX6_cancel 54 = .ok (.invokevirtual 109, 3) := by decide +kernel
theorem dX6_cancel_57 : decode cX6_cancel 57 = .ok (.ireturn, 1) := by decide +kernel
set_option maxRecDepth 20000 in
theorem ggX6_bookBest_X6_save : GoodIn wsX6_bookBest wsX6_save := goodIn_r _ [7, 8, 9, 2, 29, 30, 31, 32, 33, 34, 35, 36, 37, 38, 39, 40, 41, 42, 43, 44] (by decide +kernel) (by decide +kernel)
set_option maxRecDepth 20000 in
theorem gX6_bookBest_X6_save : GoodIn wsX6_bookBest (wsV RX6 83 RX6 yX6_save wsX6_save) := goodIn_app (goodIn_of _ (by decide +kernel)) ggX6_bookBest_X6_save
set_option maxRecDepth 20000 in
theorem ggX6_bookBest_X6_fill : GoodIn wsX6_bookBest wsX6_fill := goodIn_r _ [13, 2, 14, 15, 16, 17, 6, 18, 19, 20, 21, 29, 30, 31, 32, 33, 34, 35, 36, 37, 38, 39, 40, 41, 42, 43, 44] (by decide +kernel) (by decide +kernel)
set_option maxRecDepth 20000 in
theorem gX6_bookBest_X6_fill : GoodIn wsX6_bookBest (wsV RX6 62 RX6 yX6_fill wsX6_fill) := goodIn_app (goodIn_of _ (by decide +kernel)) ggX6_bookBest_X6_fill
set_option maxRecDepth 20000 in
theorem ggX6_bookBest_X6_bestSet : GoodIn wsX6_bookBest wsX6_bestSet := goodIn_r _ [25, 15, 29, 30, 31, 32, 33, 34, 35, 36, 37, 38, 39, 40, 41, 42, 43, 44] (by decide +kernel) (by decide +kernel)
set_option maxRecDepth 20000 in
theorem gX6_bookBest_X6_bestSet : GoodIn wsX6_bookBest (wsV RX6 66 RX6 yX6_bestSet wsX6_bestSet) := goodIn_app (goodIn_of _ (by decide +kernel)) ggX6_bookBest_X6_bestSet
set_option maxRecDepth 20000 in
theorem ggX6_bookBest_X6_bits : GoodIn wsX6_bookBest wsX6_bits := goodIn_r _ [28] (by decide +kernel) (by decide +kernel)
set_option maxRecDepth 20000 in
theorem gX6_bookBest_X6_bits : GoodIn wsX6_bookBest (va_wsS RX6 58 yX6_bits wsX6_bits) := goodIn_app (goodIn_of _ (by decide +kernel)) ggX6_bookBest_X6_bits
theorem dX6_bookBest_0 : decode cX6_bookBest 0 = .ok (.aload_n 0, 1) := by decide +kernel
theorem dX6_bookBest_1 : decode cX6_bookBest 1 = .ok (.iconst 0, 1) := by decide +kernel
theorem dX6_bookBest_2 : decode cX6_bookBest 2 = .ok (.putfield 38, 3) := by decide +kernel
theorem dX6_bookBest_5 : decode cX6_bookBest 5 = .ok (.aload_n 0, 1) := by decide +kernel
theorem dX6_bookBest_6 : decode cX6_bookBest 6 = .ok (.invokevirtual 83, 3) := by decide +kernel
theorem dX6_bookBest_9 : decode cX6_bookBest 9 = .ok (.aload_n 0, 1) := by decide +kernel
theorem dX6_bookBest_10 : decode cX6_bookBest 10 = .ok (.getfield 7, 3) := by decide +kernel
theorem dX6_bookBest_13 : decode cX6_bookBest 13 = .ok (.bipush 42, 2) := by decide +kernel
theorem dX6_bookBest_15 : decode cX6_bookBest 15 = .ok (.aload_n 0, 1) := by decide +kernel
theorem dX6_bookBest_16 : decode cX6_bookBest 16 = .ok (.aload_n 0, 1) := by decide +kernel
theorem dX6_bookBest_17 : decode cX6_bookBest 17 = .ok (.invokevirtual 62, 3) := by decide +kernel
theorem dX6_bookBest_20 : decode cX6_bookBest 20 = .ok (.iconst 0, 1) := by decide +kernel
theorem dX6_bookBest_21 : decode cX6_bookBest 21 = .ok (.invokevirtual 66, 3) := by decide +kernel
theorem dX6_bookBest_24 : decode cX6_bookBest 24 = .ok (.iastore, 1) := by decide +kernel
theorem dX6_bookBest_25 : decode cX6_bookBest 25 = .ok (.aload_n 0, 1) := by decide +kernel
theorem dX6_bookBest_26 : decode cX6_bookBest 26 = .ok (.getfield 7, 3) := by decide +kernel
theorem dX6_bookBest_29 : decode cX6_bookBest 29 = .ok (.bipush 42, 2) := by decide +kernel
theorem dX6_bookBest_31 : decode cX6_bookBest 31 = .ok (.iaload, 1) := by decide +kernel
theorem dX6_bookBest_32 : decode cX6_bookBest 32 = .ok (.invokestatic 58, 3) := by decide +kernel
theorem dX6_bookBest_35 : decode cX6_bookBest 35 = .ok (.ireturn, 1) := by decide +kernel
set_option maxRecDepth 20000 in
theorem ggX6_append_X6_in : GoodIn wsX6_append wsX6_in := goodIn_r _ [8] (by decide +kernel) (by decide +kernel)
set_option maxRecDepth 20000 in
theorem gX6_append_X6_in : GoodIn wsX6_append (va_wsS RX6 42 yX6_in wsX6_in) := goodIn_app (goodIn_of _ (by decide +kernel)) ggX6_append_X6_in
set_option maxRecDepth 20000 in
theorem ggX6_append_X6_refused : GoodIn wsX6_append wsX6_refused := goodIn_r _ [12, 13, 14, 15, 16, 17, 18, 19, 20, 21, 22, 23, 24, 25, 26, 27, 28, 29] (by decide +kernel) (by decide +kernel)
set_option maxRecDepth 20000 in
theorem gX6_append_X6_refused : GoodIn wsX6_append (wsV RX6 79 RX6 yX6_refused wsX6_refused) := goodIn_app (goodIn_of _ (by decide +kernel)) ggX6_append_X6_refused
theorem dX6_append_0 : decode cX6_append 0 = .ok (.aload_n 0, 1) := by decide +kernel
theorem dX6_append_1 : decode cX6_append 1 = .ok (.iload_n 1, 1) := by decide +kernel
theorem dX6_append_2 : decode cX6_append 2 = .ok (.i2l, 1) := by decide +kernel
theorem dX6_append_3 : decode cX6_append 3 = .ok (.ldc2_w 112, 3) := by decide +kernel
theorem dX6_append_6 : decode cX6_append 6 = .ok (.ldc2_w 114, 3) := by decide +kernel
theorem dX6_append_9 : decode cX6_append 9 = .ok (.invokestatic 42, 3) := by decide +kernel
theorem dX6_append_12 : decode cX6_append 12 = .ok (.ifCond .ne 7, 3) := by decide +kernel
theorem dX6_append_15 : decode cX6_append 15 = .ok (.iconst 1, 1) := by decide +kernel
theorem dX6_append_16 : decode cX6_append 16 = .ok (.goto 17, 3) := by decide +kernel
theorem dX6_append_19 : decode cX6_append 19 = .ok (.aload_n 0, 1) := by decide +kernel
theorem dX6_append_20 : decode cX6_append 20 = .ok (.getfield 116, 3) := by decide +kernel
theorem dX6_append_23 : decode cX6_append 23 = .ok (.bipush 60, 2) := by decide +kernel
theorem dX6_append_25 : decode cX6_append 25 = .ok (.if_icmp .ne 7, 3) := by decide +kernel
theorem dX6_append_28 : decode cX6_append 28 = .ok (.iconst 2, 1) := by decide +kernel
theorem dX6_append_29 : decode cX6_append 29 = .ok (.goto 4, 3) := by decide +kernel
theorem dX6_append_32 : decode cX6_append 32 = .ok (.iconst 0, 1) := by decide +kernel
theorem dX6_append_33 : decode cX6_append 33 = .ok (.invokevirtual 79, 3) := by decide +kernel
theorem dX6_append_36 : decode cX6_append 36 = .ok (.ifCond .eq 5, 3) := by decide +kernel
theorem dX6_append_39 : decode cX6_append 39 = .ok (.iconst 0, 1) := by decide +kernel
theorem dX6_append_40 : decode cX6_append 40 = .ok (.ireturn, 1) := by decide +kernel
theorem dX6_append_41 : decode cX6_append 41 = .ok (.aload_n 0, 1) := by decide +kernel
theorem dX6_append_42 : decode cX6_append 42 = .ok (.getfield 35, 3) := by decide +kernel
theorem dX6_append_45 : decode cX6_append 45 = .ok (.aload_n 0, 1) := by decide +kernel
theorem dX6_append_46 : decode cX6_append 46 = .ok (.getfield 116, 3) := by decide +kernel
theorem dX6_append_49 : decode cX6_append 49 = .ok (.iload_n 1, 1) := by decide +kernel
theorem dX6_append_50 : decode cX6_append 50 = .ok (.iastore, 1) := by decide +kernel
theorem dX6_append_51 : decode cX6_append 51 = .ok (.aload_n 0, 1) := by decide +kernel
theorem dX6_append_52 : decode cX6_append 52 = .ok (.dup, 1) := by decide +kernel
theorem dX6_append_53 : decode cX6_append 53 = .ok (.getfield 116, 3) := by decide +kernel
theorem dX6_append_56 : decode cX6_append 56 = .ok (.iconst 1, 1) := by decide +kernel
theorem dX6_append_57 : decode cX6_append 57 = .ok (.iadd, 1) := by decide +kernel
theorem dX6_append_58 : decode cX6_append 58 = .ok (.putfield 116, 3) := by decide +kernel
theorem dX6_append_61 : decode cX6_append 61 = .ok (.aload_n 0, 1) := by decide +kernel
theorem dX6_append_62 : decode cX6_append 62 = .ok (.getfield 116, 3) := by decide +kernel
theorem dX6_append_65 : decode cX6_append 65 = .ok (.ireturn, 1) := by decide +kernel
theorem dX6_clearBuffer_0 : decode cX6_clearBuffer 0 = .ok (.aload_n 0, 1) := by decide +kernel
theorem dX6_clearBuffer_1 : decode cX6_clearBuffer 1 = .ok (.iconst 0, 1) := by decide +kernel
theorem dX6_clearBuffer_2 : decode cX6_clearBuffer 2 = .ok (.putfield 38, 3) := by decide +kernel
theorem dX6_clearBuffer_5 : decode cX6_clearBuffer 5 = .ok (.aload_n 0, 1) := by decide +kernel
theorem dX6_clearBuffer_6 : decode cX6_clearBuffer 6 = .ok (.getfield 116, 3) := by decide +kernel
theorem dX6_clearBuffer_9 : decode cX6_clearBuffer 9 = .ok (.istore_n 1, 1) := by decide +kernel
theorem dX6_clearBuffer_10 : decode cX6_clearBuffer 10 = .ok (.aload_n 0, 1) := by decide +kernel
theorem dX6_clearBuffer_11 : decode cX6_clearBuffer 11 = .ok (.iconst 0, 1) := by decide +kernel
theorem dX6_clearBuffer_12 : decode cX6_clearBuffer 12 = .ok (.putfield 116, 3) := by decide +kernel
theorem dX6_clearBuffer_15 : decode cX6_clearBuffer 15 = .ok (.iload_n 1, 1) := by decide +kernel
theorem dX6_clearBuffer_16 : decode cX6_clearBuffer 16 = .ok (.ireturn, 1) := by decide +kernel
theorem dX6_here_0 : decode cX6_here 0 = .ok (.aload_n 0, 1) := by decide +kernel
theorem dX6_here_1 : decode cX6_here 1 = .ok (.getfield 119, 3) := by decide +kernel
theorem dX6_here_4 : decode cX6_here 4 = .ok (.aload_n 0, 1) := by decide +kernel
theorem dX6_here_5 : decode cX6_here 5 = .ok (.getfield 116, 3) := by decide +kernel
theorem dX6_here_8 : decode cX6_here 8 = .ok (.if_icmp .ge 15, 3) := by decide +kernel
theorem dX6_here_11 : decode cX6_here 11 = .ok (.aload_n 0, 1) := by decide +kernel
theorem dX6_here_12 : decode cX6_here 12 = .ok (.getfield 35, 3) := by decide +kernel
theorem dX6_here_15 : decode cX6_here 15 = .ok (.aload_n 0, 1) := by decide +kernel
theorem dX6_here_16 : decode cX6_here 16 = .ok (.getfield 119, 3) := by decide +kernel
theorem dX6_here_19 : decode cX6_here 19 = .ok (.iaload, 1) := by decide +kernel
theorem dX6_here_20 : decode cX6_here 20 = .ok (.goto 4, 3) := by decide +kernel
theorem dX6_here_23 : decode cX6_here 23 = .ok (.iconst (-1), 1) := by decide +kernel
theorem dX6_here_24 : decode cX6_here 24 = .ok (.ireturn, 1) := by decide +kernel
theorem dX6_take_0 : decode cX6_take 0 = .ok (.aload_n 0, 1) := by decide +kernel
theorem dX6_take_1 : decode cX6_take 1 = .ok (.aload_n 0, 1) := by decide +kernel
theorem dX6_take_2 : decode cX6_take 2 = .ok (.getfield 122, 3) := by decide +kernel
theorem dX6_take_5 : decode cX6_take 5 = .ok (.ifCond .eq 11, 3) := by decide +kernel
theorem dX6_take_8 : decode cX6_take 8 = .ok (.iload_n 1, 1) := by decide +kernel
theorem dX6_take_9 : decode cX6_take 9 = .ok (.ifCond .eq 7, 3) := by decide +kernel
theorem dX6_take_12 : decode cX6_take 12 = .ok (.iconst 1, 1) := by decide +kernel
theorem dX6_take_13 : decode cX6_take 13 = .ok (.goto 4, 3) := by decide +kernel
theorem dX6_take_16 : decode cX6_take 16 = .ok (.iconst 0, 1) := by decide +kernel
theorem dX6_take_17 : decode cX6_take 17 = .ok (.putfield 122, 3) := by decide +kernel
theorem dX6_take_20 : decode cX6_take 20 = .ok (.aload_n 0, 1) := by decide +kernel
theorem dX6_take_21 : decode cX6_take 21 = .ok (.dup, 1) := by decide +kernel
theorem dX6_take_22 : decode cX6_take 22 = .ok (.getfield 119, 3) := by decide +kernel
theorem dX6_take_25 : decode cX6_take 25 = .ok (.aload_n 0, 1) := by decide +kernel
theorem dX6_take_26 : decode cX6_take 26 = .ok (.getfield 122, 3) := by decide +kernel
theorem dX6_take_29 : decode cX6_take 29 = .ok (.ifCond .eq 7, 3) := by decide +kernel
theorem dX6_take_32 : decode cX6_take 32 = .ok (.iconst 1, 1) := by decide +kernel
theorem dX6_take_33 : decode cX6_take 33 = .ok (.goto 4, 3) := by decide +kernel
theorem dX6_take_36 : decode cX6_take 36 = .ok (.iconst 0, 1) := by decide +kernel
theorem dX6_take_37 : decode cX6_take 37 = .ok (.iadd, 1) := by decide +kernel
theorem dX6_take_38 : decode cX6_take 38 = .ok (.putfield 119, 3) := by decide +kernel
theorem dX6_take_41 : decode cX6_take 41 = .ok (.return_, 1) := by decide +kernel
set_option maxRecDepth 20000 in
theorem ggX6_number_X6_here : GoodIn wsX6_number wsX6_here := goodIn_r _ [8, 3, 9, 10, 18, 19, 20, 21, 22, 23, 24, 25, 26, 27, 28, 29, 30, 31, 32, 33] (by decide +kernel) (by decide +kernel)
set_option maxRecDepth 20000 in
theorem gX6_number_X6_here : GoodIn wsX6_number (wsV RX6 126 RX6 yX6_here wsX6_here) := goodIn_app (goodIn_of _ (by decide +kernel)) ggX6_number_X6_here
set_option maxRecDepth 20000 in
theorem ggX6_number_X6_in : GoodIn wsX6_number wsX6_in := goodIn_r _ [13] (by decide +kernel) (by decide +kernel)
set_option maxRecDepth 20000 in
theorem gX6_number_X6_in : GoodIn wsX6_number (va_wsS RX6 42 yX6_in wsX6_in) := goodIn_app (goodIn_of _ (by decide +kernel)) ggX6_number_X6_in
set_option maxRecDepth 20000 in
theorem ggX6_number_X6_take : GoodIn wsX6_number wsX6_take := goodIn_r _ [17, 1, 3, 18, 19, 20, 21, 22, 23, 24, 25, 26, 27, 28, 29, 30, 31, 32, 33] (by decide +kernel) (by decide +kernel)
set_option maxRecDepth 20000 in
theorem gX6_number_X6_take : GoodIn wsX6_number (wsV RX6 131 RX6 yX6_take wsX6_take) := goodIn_app (goodIn_of _ (by decide +kernel)) ggX6_number_X6_take
theorem dX6_number_0 : decode cX6_number 0 = .ok (.aload_n 0, 1) := by decide +kernel
theorem dX6_number_1 : decode cX6_number 1 = .ok (.invokevirtual 126, 3) := by decide +kernel
theorem dX6_number_4 : decode cX6_number 4 = .ok (.bipush 48, 2) := by decide +kernel
theorem dX6_number_6 : decode cX6_number 6 = .ok (.isub, 1) := by decide +kernel
theorem dX6_number_7 : decode cX6_number 7 = .ok (.istore_n 3, 1) := by decide +kernel
theorem dX6_number_8 : decode cX6_number 8 = .ok (.aload_n 0, 1) := by decide +kernel
theorem dX6_number_9 : decode cX6_number 9 = .ok (.aload_n 0, 1) := by decide +kernel
theorem dX6_number_10 : decode cX6_number 10 = .ok (.getfield 122, 3) := by decide +kernel
theorem dX6_number_13 : decode cX6_number 13 = .ok (.ifCond .eq 20, 3) := by decide +kernel
theorem dX6_number_16 : decode cX6_number 16 = .ok (.iload_n 3, 1) := by decide +kernel
theorem dX6_number_17 : decode cX6_number 17 = .ok (.i2l, 1) := by decide +kernel
theorem dX6_number_18 : decode cX6_number 18 = .ok (.iload_n 1, 1) := by decide +kernel
theorem dX6_number_19 : decode cX6_number 19 = .ok (.i2l, 1) := by decide +kernel
theorem dX6_number_20 : decode cX6_number 20 = .ok (.ldc2_w 129, 3) := by decide +kernel
theorem dX6_number_23 : decode cX6_number 23 = .ok (.invokestatic 42, 3) := by decide +kernel
theorem dX6_number_26 : decode cX6_number 26 = .ok (.ifCond .eq 7, 3) := by decide +kernel
theorem dX6_number_29 : decode cX6_number 29 = .ok (.iconst 1, 1) := by decide +kernel
theorem dX6_number_30 : decode cX6_number 30 = .ok (.goto 4, 3) := by decide +kernel
theorem dX6_number_33 : decode cX6_number 33 = .ok (.iconst 0, 1) := by decide +kernel
theorem dX6_number_34 : decode cX6_number 34 = .ok (.invokevirtual 131, 3) := by decide +kernel
theorem dX6_number_37 : decode cX6_number 37 = .ok (.aload_n 0, 1) := by decide +kernel
theorem dX6_number_38 : decode cX6_number 38 = .ok (.getfield 122, 3) := by decide +kernel
theorem dX6_number_41 : decode cX6_number 41 = .ok (.ifCond .eq 11, 3) := by decide +kernel
theorem dX6_number_44 : decode cX6_number 44 = .ok (.iload_n 3, 1) := by decide +kernel
theorem dX6_number_45 : decode cX6_number 45 = .ok (.ifCond .le 7, 3) := by decide +kernel
theorem dX6_number_48 : decode cX6_number 48 = .ok (.iconst 1, 1) := by decide +kernel
theorem dX6_number_49 : decode cX6_number 49 = .ok (.goto 4, 3) := by decide +kernel
theorem dX6_number_52 : decode cX6_number 52 = .ok (.iconst 0, 1) := by decide +kernel
theorem dX6_number_53 : decode cX6_number 53 = .ok (.istore 4, 2) := by decide +kernel
theorem dX6_number_55 : decode cX6_number 55 = .ok (.iload 4, 2) := by decide +kernel
theorem dX6_number_57 : decode cX6_number 57 = .ok (.ifCond .eq 82, 3) := by decide +kernel
theorem dX6_number_60 : decode cX6_number 60 = .ok (.aload_n 0, 1) := by decide +kernel
theorem dX6_number_61 : decode cX6_number 61 = .ok (.invokevirtual 126, 3) := by decide +kernel
theorem dX6_number_64 : decode cX6_number 64 = .ok (.bipush 48, 2) := by decide +kernel
theorem dX6_number_66 : decode cX6_number 66 = .ok (.isub, 1) := by decide +kernel
theorem dX6_number_67 : decode cX6_number 67 = .ok (.istore 5, 2) := by decide +kernel
theorem dX6_number_69 : decode cX6_number 69 = .ok (.iload 5, 2) := by decide +kernel
theorem dX6_number_71 : decode cX6_number 71 = .ok (.i2l, 1) := by decide +kernel
theorem dX6_number_72 : decode cX6_number 72 = .ok (.lconst 0, 1) := by decide +kernel
theorem dX6_number_73 : decode cX6_number 73 = .ok (.ldc2_w 129, 3) := by decide +kernel
theorem dX6_number_76 : decode cX6_number 76 = .ok (.invokestatic 42, 3) := by decide +kernel
theorem dX6_number_79 : decode cX6_number 79 = .ok (.ifCond .eq 18, 3) := by decide +kernel
theorem dX6_number_82 : decode cX6_number 82 = .ok (.bipush 10, 2) := by decide +kernel
theorem dX6_number_84 : decode cX6_number 84 = .ok (.iload_n 3, 1) := by decide +kernel
theorem dX6_number_85 : decode cX6_number 85 = .ok (.imul, 1) := by decide +kernel
theorem dX6_number_86 : decode cX6_number 86 = .ok (.iload 5, 2) := by decide +kernel
theorem dX6_number_88 : decode cX6_number 88 = .ok (.iadd, 1) := by decide +kernel
theorem dX6_number_89 : decode cX6_number 89 = .ok (.iload_n 2, 1) := by decide +kernel
theorem dX6_number_90 : decode cX6_number 90 = .ok (.if_icmp .gt 7, 3) := by decide +kernel
theorem dX6_number_93 : decode cX6_number 93 = .ok (.iconst 1, 1) := by decide +kernel
theorem dX6_number_94 : decode cX6_number 94 = .ok (.goto 4, 3) := by decide +kernel
theorem dX6_number_97 : decode cX6_number 97 = .ok (.iconst 0, 1) := by decide +kernel
theorem dX6_number_98 : decode cX6_number 98 = .ok (.istore 4, 2) := by decide +kernel
theorem dX6_number_100 : decode cX6_number 100 = .ok (.iload 4, 2) := by decide +kernel
theorem dX6_number_102 : decode cX6_number 102 = .ok (.ifCond .eq 13, 3) := by decide +kernel
theorem dX6_number_105 : decode cX6_number 105 = .ok (.bipush 10, 2) := by decide +kernel
theorem dX6_number_107 : decode cX6_number 107 = .ok (.iload_n 3, 1) := by decide +kernel
theorem dX6_number_108 : decode cX6_number 108 = .ok (.imul, 1) := by decide +kernel
theorem dX6_number_109 : decode cX6_number 109 = .ok (.iload 5, 2) := by decide +kernel
theorem dX6_number_111 : decode cX6_number 111 = .ok (.iadd, 1) := by decide +kernel
theorem dX6_number_112 : decode cX6_number 112 = .ok (.goto 4, 3) := by decide +kernel
theorem dX6_number_115 : decode cX6_number 115 = .ok (.iload_n 3, 1) := by decide +kernel
theorem dX6_number_116 : decode cX6_number 116 = .ok (.istore_n 3, 1) := by decide +kernel
theorem dX6_number_117 : decode cX6_number 117 = .ok (.aload_n 0, 1) := by decide +kernel
theorem dX6_number_118 : decode cX6_number 118 = .ok (.dup, 1) := by decide +kernel
theorem dX6_number_119 : decode cX6_number 119 = .ok (.getfield 119, 3) := by decide +kernel
theorem dX6_number_122 : decode cX6_number 122 = .ok (.iload 4, 2) := by decide +kernel
theorem dX6_number_124 : decode cX6_number 124 = .ok (.ifCond .eq 7, 3) := by decide +kernel
theorem dX6_number_127 : decode cX6_number 127 = .ok (.iconst 1, 1) := by decide +kernel
theorem dX6_number_128 : decode cX6_number 128 = .ok (.goto 4, 3) := by decide +kernel
theorem dX6_number_131 : decode cX6_number 131 = .ok (.iconst 0, 1) := by decide +kernel
theorem dX6_number_132 : decode cX6_number 132 = .ok (.iadd, 1) := by decide +kernel
theorem dX6_number_133 : decode cX6_number 133 = .ok (.putfield 119, 3) := by decide +kernel
theorem dX6_number_136 : decode cX6_number 136 = .ok (.goto (-81), 3) := by decide +kernel
theorem dX6_number_139 : decode cX6_number 139 = .ok (.iload_n 3, 1) := by decide +kernel
theorem dX6_number_140 : decode cX6_number 140 = .ok (.ireturn, 1) := by decide +kernel
