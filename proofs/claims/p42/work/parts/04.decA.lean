theorem dX0_init_0 : decode cX0_init 0 = .ok (.aload_n 0, 1) := by decide +kernel
theorem dX0_init_1 : decode cX0_init 1 = .ok (.invokespecial 3, 3) := by decide +kernel
theorem dX0_init_4 : decode cX0_init 4 = .ok (.aload_n 0, 1) := by decide +kernel
theorem dX0_init_5 : decode cX0_init 5 = .ok (.bipush 14, 2) := by decide +kernel
theorem dX0_init_7 : decode cX0_init 7 = .ok (.newarray .int, 2) := by decide +kernel
theorem dX0_init_9 : decode cX0_init 9 = .ok (.putfield 9, 3) := by decide +kernel
theorem dX0_init_12 : decode cX0_init 12 = .ok (.aload_n 0, 1) := by decide +kernel
theorem dX0_init_13 : decode cX0_init 13 = .ok (.bipush 14, 2) := by decide +kernel
theorem dX0_init_15 : decode cX0_init 15 = .ok (.newarray .int, 2) := by decide +kernel
theorem dX0_init_17 : decode cX0_init 17 = .ok (.putfield 15, 3) := by decide +kernel
theorem dX0_init_20 : decode cX0_init 20 = .ok (.aload_n 0, 1) := by decide +kernel
theorem dX0_init_21 : decode cX0_init 21 = .ok (.bipush 15, 2) := by decide +kernel
theorem dX0_init_23 : decode cX0_init 23 = .ok (.newarray .int, 2) := by decide +kernel
theorem dX0_init_25 : decode cX0_init 25 = .ok (.putfield 18, 3) := by decide +kernel
theorem dX0_init_28 : decode cX0_init 28 = .ok (.return_, 1) := by decide +kernel
set_option maxRecDepth 20000 in
theorem ggX0_triedFame_X1_conflictsWith : GoodIn wsX0_triedFame wsX1_conflictsWith := goodIn_r _ [8, 9, 10, 11, 12, 7, 13, 14, 15, 16, 17, 18, 19, 20, 21, 22, 23, 35, 36, 37, 38, 39, 40] (by decide +kernel) (by decide +kernel)
set_option maxRecDepth 20000 in
theorem gX0_triedFame_X1_conflictsWith : GoodIn wsX0_triedFame (wsV RX0 27 RX1 yX1_conflictsWith wsX1_conflictsWith) := goodIn_app (goodIn_of _ (by decide +kernel)) ggX0_triedFame_X1_conflictsWith
set_option maxRecDepth 20000 in
theorem ggX0_triedFame_X0_tryDownFrom : GoodIn wsX0_triedFame wsX0_tryDownFrom := goodIn_r _ [27, 28, 29, 30, 31, 24, 25, 26, 32, 22, 33, 34, 21, 23] (by decide +kernel) (by decide +kernel)
set_option maxRecDepth 20000 in
theorem gX0_triedFame_X0_tryDownFrom : GoodIn wsX0_triedFame (va_wsS RX0 34 yX0_tryDownFrom wsX0_tryDownFrom) := goodIn_app (goodIn_of _ (by decide +kernel)) ggX0_triedFame_X0_tryDownFrom
theorem dX0_triedFame_0 : decode cX0_triedFame 0 = .ok (.iconst 0, 1) := by decide +kernel
theorem dX0_triedFame_1 : decode cX0_triedFame 1 = .ok (.istore_n 2, 1) := by decide +kernel
theorem dX0_triedFame_2 : decode cX0_triedFame 2 = .ok (.iload_n 2, 1) := by decide +kernel
theorem dX0_triedFame_3 : decode cX0_triedFame 3 = .ok (.aload_n 1, 1) := by decide +kernel
theorem dX0_triedFame_4 : decode cX0_triedFame 4 = .ok (.getfield 21, 3) := by decide +kernel
theorem dX0_triedFame_7 : decode cX0_triedFame 7 = .ok (.if_icmp .ge 20, 3) := by decide +kernel
theorem dX0_triedFame_10 : decode cX0_triedFame 10 = .ok (.aload_n 0, 1) := by decide +kernel
theorem dX0_triedFame_11 : decode cX0_triedFame 11 = .ok (.getfield 15, 3) := by decide +kernel
theorem dX0_triedFame_14 : decode cX0_triedFame 14 = .ok (.iload_n 2, 1) := by decide +kernel
theorem dX0_triedFame_15 : decode cX0_triedFame 15 = .ok (.aload_n 1, 1) := by decide +kernel
theorem dX0_triedFame_16 : decode cX0_triedFame 16 = .ok (.iload_n 2, 1) := by decide +kernel
theorem dX0_triedFame_17 : decode cX0_triedFame 17 = .ok (.invokevirtual 27, 3) := by decide +kernel
theorem dX0_triedFame_20 : decode cX0_triedFame 20 = .ok (.iastore, 1) := by decide +kernel
theorem dX0_triedFame_21 : decode cX0_triedFame 21 = .ok (.iinc 2 1, 3) := by decide +kernel
theorem dX0_triedFame_24 : decode cX0_triedFame 24 = .ok (.goto (-22), 3) := by decide +kernel
theorem dX0_triedFame_27 : decode cX0_triedFame 27 = .ok (.aload_n 1, 1) := by decide +kernel
theorem dX0_triedFame_28 : decode cX0_triedFame 28 = .ok (.getfield 21, 3) := by decide +kernel
theorem dX0_triedFame_31 : decode cX0_triedFame 31 = .ok (.iconst 1, 1) := by decide +kernel
theorem dX0_triedFame_32 : decode cX0_triedFame 32 = .ok (.isub, 1) := by decide +kernel
theorem dX0_triedFame_33 : decode cX0_triedFame 33 = .ok (.aload_n 1, 1) := by decide +kernel
theorem dX0_triedFame_34 : decode cX0_triedFame 34 = .ok (.getfield 31, 3) := by decide +kernel
theorem dX0_triedFame_37 : decode cX0_triedFame 37 = .ok (.aload_n 0, 1) := by decide +kernel
theorem dX0_triedFame_38 : decode cX0_triedFame 38 = .ok (.getfield 15, 3) := by decide +kernel
theorem dX0_triedFame_41 : decode cX0_triedFame 41 = .ok (.iconst 0, 1) := by decide +kernel
theorem dX0_triedFame_42 : decode cX0_triedFame 42 = .ok (.invokestatic 34, 3) := by decide +kernel
theorem dX0_triedFame_45 : decode cX0_triedFame 45 = .ok (.ireturn, 1) := by decide +kernel
set_option maxRecDepth 20000 in
theorem ggX0_tryDownFrom_X0_tryDownFrom : GoodIn wsX0_tryDownFrom wsX0_tryDownFrom := goodIn_r _ [0, 1, 2, 3, 4, 5, 6, 7, 8, 9, 10, 11, 12, 13] (by decide +kernel) (by decide +kernel)
set_option maxRecDepth 20000 in
theorem gX0_tryDownFrom_X0_tryDownFrom : GoodIn wsX0_tryDownFrom (va_wsS RX0 34 yX0_tryDownFrom wsX0_tryDownFrom) := goodIn_app (goodIn_of _ (by decide +kernel)) ggX0_tryDownFrom_X0_tryDownFrom
set_option maxRecDepth 20000 in
theorem ggX0_tryDownFrom_X5_isIn : GoodIn wsX0_tryDownFrom wsX5_isIn := goodIn_r _ [10, 11, 12, 9, 13] (by decide +kernel) (by decide +kernel)
set_option maxRecDepth 20000 in
theorem gX0_tryDownFrom_X5_isIn_n38 : GoodIn wsX0_tryDownFrom (wsX5_isIn) := ggX0_tryDownFrom_X5_isIn
theorem dX0_tryDownFrom_0 : decode cX0_tryDownFrom 0 = .ok (.iload_n 0, 1) := by decide +kernel
theorem dX0_tryDownFrom_1 : decode cX0_tryDownFrom 1 = .ok (.ifCond .lt 9, 3) := by decide +kernel
theorem dX0_tryDownFrom_4 : decode cX0_tryDownFrom 4 = .ok (.iload_n 0, 1) := by decide +kernel
theorem dX0_tryDownFrom_5 : decode cX0_tryDownFrom 5 = .ok (.bipush 14, 2) := by decide +kernel
theorem dX0_tryDownFrom_7 : decode cX0_tryDownFrom 7 = .ok (.if_icmp .lt 5, 3) := by decide +kernel
theorem dX0_tryDownFrom_10 : decode cX0_tryDownFrom 10 = .ok (.iconst 0, 1) := by decide +kernel
theorem dX0_tryDownFrom_11 : decode cX0_tryDownFrom 11 = .ok (.ireturn, 1) := by decide +kernel
theorem dX0_tryDownFrom_12 : decode cX0_tryDownFrom 12 = .ok (.iload_n 0, 1) := by decide +kernel
theorem dX0_tryDownFrom_13 : decode cX0_tryDownFrom 13 = .ok (.iconst 1, 1) := by decide +kernel
theorem dX0_tryDownFrom_14 : decode cX0_tryDownFrom 14 = .ok (.isub, 1) := by decide +kernel
theorem dX0_tryDownFrom_15 : decode cX0_tryDownFrom 15 = .ok (.aload_n 1, 1) := by decide +kernel
theorem dX0_tryDownFrom_16 : decode cX0_tryDownFrom 16 = .ok (.aload_n 2, 1) := by decide +kernel
theorem dX0_tryDownFrom_17 : decode cX0_tryDownFrom 17 = .ok (.iload_n 3, 1) := by decide +kernel
theorem dX0_tryDownFrom_18 : decode cX0_tryDownFrom 18 = .ok (.invokestatic 34, 3) := by decide +kernel
theorem dX0_tryDownFrom_21 : decode cX0_tryDownFrom 21 = .ok (.istore 4, 2) := by decide +kernel
theorem dX0_tryDownFrom_23 : decode cX0_tryDownFrom 23 = .ok (.iload_n 3, 1) := by decide +kernel
theorem dX0_tryDownFrom_24 : decode cX0_tryDownFrom 24 = .ok (.iload_n 0, 1) := by decide +kernel
theorem dX0_tryDownFrom_25 : decode cX0_tryDownFrom 25 = .ok (.invokestatic 38, 3) := by decide +kernel
theorem dX0_tryDownFrom_28 : decode cX0_tryDownFrom 28 = .ok (.ifCond .eq 6, 3) := by decide +kernel
theorem dX0_tryDownFrom_31 : decode cX0_tryDownFrom 31 = .ok (.iload 4, 2) := by decide +kernel
theorem dX0_tryDownFrom_33 : decode cX0_tryDownFrom 33 = .ok (.ireturn, 1) := by decide +kernel
theorem dX0_tryDownFrom_34 : decode cX0_tryDownFrom 34 = .ok (.iload_n 3, 1) := by decide +kernel
theorem dX0_tryDownFrom_35 : decode cX0_tryDownFrom 35 = .ok (.aload_n 2, 1) := by decide +kernel
theorem dX0_tryDownFrom_36 : decode cX0_tryDownFrom 36 = .ok (.iload_n 0, 1) := by decide +kernel
theorem dX0_tryDownFrom_37 : decode cX0_tryDownFrom 37 = .ok (.iaload, 1) := by decide +kernel
theorem dX0_tryDownFrom_38 : decode cX0_tryDownFrom 38 = .ok (.ior, 1) := by decide +kernel
theorem dX0_tryDownFrom_39 : decode cX0_tryDownFrom 39 = .ok (.istore 5, 2) := by decide +kernel
theorem dX0_tryDownFrom_41 : decode cX0_tryDownFrom 41 = .ok (.aload_n 1, 1) := by decide +kernel
theorem dX0_tryDownFrom_42 : decode cX0_tryDownFrom 42 = .ok (.iload_n 0, 1) := by decide +kernel
theorem dX0_tryDownFrom_43 : decode cX0_tryDownFrom 43 = .ok (.iaload, 1) := by decide +kernel
theorem dX0_tryDownFrom_44 : decode cX0_tryDownFrom 44 = .ok (.iload_n 0, 1) := by decide +kernel
theorem dX0_tryDownFrom_45 : decode cX0_tryDownFrom 45 = .ok (.iconst 1, 1) := by decide +kernel
theorem dX0_tryDownFrom_46 : decode cX0_tryDownFrom 46 = .ok (.isub, 1) := by decide +kernel
theorem dX0_tryDownFrom_47 : decode cX0_tryDownFrom 47 = .ok (.aload_n 1, 1) := by decide +kernel
theorem dX0_tryDownFrom_48 : decode cX0_tryDownFrom 48 = .ok (.aload_n 2, 1) := by decide +kernel
theorem dX0_tryDownFrom_49 : decode cX0_tryDownFrom 49 = .ok (.iload 5, 2) := by decide +kernel
theorem dX0_tryDownFrom_51 : decode cX0_tryDownFrom 51 = .ok (.invokestatic 34, 3) := by decide +kernel
theorem dX0_tryDownFrom_54 : decode cX0_tryDownFrom 54 = .ok (.iadd, 1) := by decide +kernel
theorem dX0_tryDownFrom_55 : decode cX0_tryDownFrom 55 = .ok (.istore 6, 2) := by decide +kernel
theorem dX0_tryDownFrom_57 : decode cX0_tryDownFrom 57 = .ok (.iload 6, 2) := by decide +kernel
theorem dX0_tryDownFrom_59 : decode cX0_tryDownFrom 59 = .ok (.iload 4, 2) := by decide +kernel
theorem dX0_tryDownFrom_61 : decode cX0_tryDownFrom 61 = .ok (.invokestatic 42, 3) := by decide +kernel
theorem dX0_tryDownFrom_64 : decode cX0_tryDownFrom 64 = .ok (.ireturn, 1) := by decide +kernel
set_option maxRecDepth 20000 in
theorem ggX0_fameAmong_X5_orderBy : GoodIn wsX0_fameAmong wsX5_orderBy := goodIn_r _ [13] (by decide +kernel) (by decide +kernel)
set_option maxRecDepth 20000 in
theorem gX0_fameAmong_X5_orderBy_n51 : GoodIn wsX0_fameAmong (wsX5_orderBy) := ggX0_fameAmong_X5_orderBy
set_option maxRecDepth 20000 in
theorem ggX0_fameAmong_X5_isIn : GoodIn wsX0_fameAmong wsX5_isIn := goodIn_r _ [15, 16, 17, 12, 18] (by decide +kernel) (by decide +kernel)
set_option maxRecDepth 20000 in
theorem gX0_fameAmong_X5_isIn_n38 : GoodIn wsX0_fameAmong (wsX5_isIn) := ggX0_fameAmong_X5_isIn
set_option maxRecDepth 20000 in
theorem ggX0_fameAmong_X0_overBy : GoodIn wsX0_fameAmong wsX0_overBy := goodIn_r _ [23, 2, 1, 3, 24, 25, 26, 27, 28, 29, 30, 31, 32, 33] (by decide +kernel) (by decide +kernel)
set_option maxRecDepth 20000 in
theorem gX0_fameAmong_X0_overBy : GoodIn wsX0_fameAmong (wsV RX0 58 RX0 yX0_overBy wsX0_overBy) := goodIn_app (goodIn_of _ (by decide +kernel)) ggX0_fameAmong_X0_overBy
theorem dX0_fameAmong_0 : decode cX0_fameAmong 0 = .ok (.aload_n 1, 1) := by decide +kernel
theorem dX0_fameAmong_1 : decode cX0_fameAmong 1 = .ok (.getfield 48, 3) := by decide +kernel
theorem dX0_fameAmong_4 : decode cX0_fameAmong 4 = .ok (.aload_n 1, 1) := by decide +kernel
theorem dX0_fameAmong_5 : decode cX0_fameAmong 5 = .ok (.getfield 21, 3) := by decide +kernel
theorem dX0_fameAmong_8 : decode cX0_fameAmong 8 = .ok (.aload_n 0, 1) := by decide +kernel
theorem dX0_fameAmong_9 : decode cX0_fameAmong 9 = .ok (.getfield 9, 3) := by decide +kernel
theorem dX0_fameAmong_12 : decode cX0_fameAmong 12 = .ok (.invokestatic 51, 3) := by decide +kernel
theorem dX0_fameAmong_15 : decode cX0_fameAmong 15 = .ok (.aload_n 0, 1) := by decide +kernel
theorem dX0_fameAmong_16 : decode cX0_fameAmong 16 = .ok (.getfield 18, 3) := by decide +kernel
theorem dX0_fameAmong_19 : decode cX0_fameAmong 19 = .ok (.iconst 0, 1) := by decide +kernel
theorem dX0_fameAmong_20 : decode cX0_fameAmong 20 = .ok (.iconst 0, 1) := by decide +kernel
theorem dX0_fameAmong_21 : decode cX0_fameAmong 21 = .ok (.iastore, 1) := by decide +kernel
theorem dX0_fameAmong_22 : decode cX0_fameAmong 22 = .ok (.iconst 0, 1) := by decide +kernel
theorem dX0_fameAmong_23 : decode cX0_fameAmong 23 = .ok (.istore_n 3, 1) := by decide +kernel
theorem dX0_fameAmong_24 : decode cX0_fameAmong 24 = .ok (.iload_n 3, 1) := by decide +kernel
theorem dX0_fameAmong_25 : decode cX0_fameAmong 25 = .ok (.aload_n 1, 1) := by decide +kernel
theorem dX0_fameAmong_26 : decode cX0_fameAmong 26 = .ok (.getfield 21, 3) := by decide +kernel
theorem dX0_fameAmong_29 : decode cX0_fameAmong 29 = .ok (.if_icmp .ge 75, 3) := by decide +kernel
theorem dX0_fameAmong_32 : decode cX0_fameAmong 32 = .ok (.aload_n 0, 1) := by decide +kernel
theorem dX0_fameAmong_33 : decode cX0_fameAmong 33 = .ok (.getfield 9, 3) := by decide +kernel
theorem dX0_fameAmong_36 : decode cX0_fameAmong 36 = .ok (.iload_n 3, 1) := by decide +kernel
theorem dX0_fameAmong_37 : decode cX0_fameAmong 37 = .ok (.iaload, 1) := by decide +kernel
theorem dX0_fameAmong_38 : decode cX0_fameAmong 38 = .ok (.istore 4, 2) := by decide +kernel
theorem dX0_fameAmong_40 : decode cX0_fameAmong 40 = .ok (.iconst 0, 1) := by decide +kernel
theorem dX0_fameAmong_41 : decode cX0_fameAmong 41 = .ok (.istore 5, 2) := by decide +kernel
theorem dX0_fameAmong_43 : decode cX0_fameAmong 43 = .ok (.iload_n 2, 1) := by decide +kernel
theorem dX0_fameAmong_44 : decode cX0_fameAmong 44 = .ok (.iload 4, 2) := by decide +kernel
theorem dX0_fameAmong_46 : decode cX0_fameAmong 46 = .ok (.invokestatic 38, 3) := by decide +kernel
theorem dX0_fameAmong_49 : decode cX0_fameAmong 49 = .ok (.ifCond .eq 30, 3) := by decide +kernel
theorem dX0_fameAmong_52 : decode cX0_fameAmong 52 = .ok (.aload_n 1, 1) := by decide +kernel
theorem dX0_fameAmong_53 : decode cX0_fameAmong 53 = .ok (.getfield 31, 3) := by decide +kernel
theorem dX0_fameAmong_56 : decode cX0_fameAmong 56 = .ok (.iload 4, 2) := by decide +kernel
theorem dX0_fameAmong_58 : decode cX0_fameAmong 58 = .ok (.iaload, 1) := by decide +kernel
theorem dX0_fameAmong_59 : decode cX0_fameAmong 59 = .ok (.aload_n 0, 1) := by decide +kernel
theorem dX0_fameAmong_60 : decode cX0_fameAmong 60 = .ok (.getfield 18, 3) := by decide +kernel
theorem dX0_fameAmong_63 : decode cX0_fameAmong 63 = .ok (.aload_n 0, 1) := by decide +kernel
theorem dX0_fameAmong_64 : decode cX0_fameAmong 64 = .ok (.aload_n 1, 1) := by decide +kernel
theorem dX0_fameAmong_65 : decode cX0_fameAmong 65 = .ok (.aload_n 1, 1) := by decide +kernel
theorem dX0_fameAmong_66 : decode cX0_fameAmong 66 = .ok (.getfield 55, 3) := by decide +kernel
theorem dX0_fameAmong_69 : decode cX0_fameAmong 69 = .ok (.iload 4, 2) := by decide +kernel
theorem dX0_fameAmong_71 : decode cX0_fameAmong 71 = .ok (.iaload, 1) := by decide +kernel
theorem dX0_fameAmong_72 : decode cX0_fameAmong 72 = .ok (.invokevirtual 58, 3) := by decide +kernel
theorem dX0_fameAmong_75 : decode cX0_fameAmong 75 = .ok (.iaload, 1) := by decide +kernel
theorem dX0_fameAmong_76 : decode cX0_fameAmong 76 = .ok (.iadd, 1) := by decide +kernel
theorem dX0_fameAmong_77 : decode cX0_fameAmong 77 = .ok (.istore 5, 2) := by decide +kernel
theorem dX0_fameAmong_79 : decode cX0_fameAmong 79 = .ok (.aload_n 0, 1) := by decide +kernel
theorem dX0_fameAmong_80 : decode cX0_fameAmong 80 = .ok (.getfield 18, 3) := by decide +kernel
theorem dX0_fameAmong_83 : decode cX0_fameAmong 83 = .ok (.iload_n 3, 1) := by decide +kernel
theorem dX0_fameAmong_84 : decode cX0_fameAmong 84 = .ok (.iconst 1, 1) := by decide +kernel
theorem dX0_fameAmong_85 : decode cX0_fameAmong 85 = .ok (.iadd, 1) := by decide +kernel
theorem dX0_fameAmong_86 : decode cX0_fameAmong 86 = .ok (.aload_n 0, 1) := by decide +kernel
theorem dX0_fameAmong_87 : decode cX0_fameAmong 87 = .ok (.getfield 18, 3) := by decide +kernel
theorem dX0_fameAmong_90 : decode cX0_fameAmong 90 = .ok (.iload_n 3, 1) := by decide +kernel
theorem dX0_fameAmong_91 : decode cX0_fameAmong 91 = .ok (.iaload, 1) := by decide +kernel
theorem dX0_fameAmong_92 : decode cX0_fameAmong 92 = .ok (.iload 5, 2) := by decide +kernel
theorem dX0_fameAmong_94 : decode cX0_fameAmong 94 = .ok (.invokestatic 42, 3) := by decide +kernel
theorem dX0_fameAmong_97 : decode cX0_fameAmong 97 = .ok (.iastore, 1) := by decide +kernel
theorem dX0_fameAmong_98 : decode cX0_fameAmong 98 = .ok (.iinc 3 1, 3) := by decide +kernel
theorem dX0_fameAmong_101 : decode cX0_fameAmong 101 = .ok (.goto (-77), 3) := by decide +kernel
theorem dX0_fameAmong_104 : decode cX0_fameAmong 104 = .ok (.aload_n 0, 1) := by decide +kernel
theorem dX0_fameAmong_105 : decode cX0_fameAmong 105 = .ok (.getfield 18, 3) := by decide +kernel
theorem dX0_fameAmong_108 : decode cX0_fameAmong 108 = .ok (.aload_n 1, 1) := by decide +kernel
theorem dX0_fameAmong_109 : decode cX0_fameAmong 109 = .ok (.getfield 21, 3) := by decide +kernel
theorem dX0_fameAmong_112 : decode cX0_fameAmong 112 = .ok (.iaload, 1) := by decide +kernel
theorem dX0_fameAmong_113 : decode cX0_fameAmong 113 = .ok (.ireturn, 1) := by decide +kernel
theorem dX0_overBy_0 : decode cX0_overBy 0 = .ok (.iconst 0, 1) := by decide +kernel
theorem dX0_overBy_1 : decode cX0_overBy 1 = .ok (.istore_n 3, 1) := by decide +kernel
theorem dX0_overBy_2 : decode cX0_overBy 2 = .ok (.iload_n 3, 1) := by decide +kernel
theorem dX0_overBy_3 : decode cX0_overBy 3 = .ok (.aload_n 1, 1) := by decide +kernel
theorem dX0_overBy_4 : decode cX0_overBy 4 = .ok (.getfield 21, 3) := by decide +kernel
theorem dX0_overBy_7 : decode cX0_overBy 7 = .ok (.if_icmp .ge 29, 3) := by decide +kernel
theorem dX0_overBy_10 : decode cX0_overBy 10 = .ok (.aload_n 1, 1) := by decide +kernel
theorem dX0_overBy_11 : decode cX0_overBy 11 = .ok (.getfield 48, 3) := by decide +kernel
theorem dX0_overBy_14 : decode cX0_overBy 14 = .ok (.aload_n 0, 1) := by decide +kernel
theorem dX0_overBy_15 : decode cX0_overBy 15 = .ok (.getfield 9, 3) := by decide +kernel
theorem dX0_overBy_18 : decode cX0_overBy 18 = .ok (.iload_n 3, 1) := by decide +kernel
theorem dX0_overBy_19 : decode cX0_overBy 19 = .ok (.iaload, 1) := by decide +kernel
theorem dX0_overBy_20 : decode cX0_overBy 20 = .ok (.iaload, 1) := by decide +kernel
theorem dX0_overBy_21 : decode cX0_overBy 21 = .ok (.aload_n 1, 1) := by decide +kernel
theorem dX0_overBy_22 : decode cX0_overBy 22 = .ok (.getfield 62, 3) := by decide +kernel
theorem dX0_overBy_25 : decode cX0_overBy 25 = .ok (.iadd, 1) := by decide +kernel
theorem dX0_overBy_26 : decode cX0_overBy 26 = .ok (.iload_n 2, 1) := by decide +kernel
theorem dX0_overBy_27 : decode cX0_overBy 27 = .ok (.if_icmp .gt 9, 3) := by decide +kernel
theorem dX0_overBy_30 : decode cX0_overBy 30 = .ok (.iinc 3 1, 3) := by decide +kernel
theorem dX0_overBy_33 : decode cX0_overBy 33 = .ok (.goto (-31), 3) := by decide +kernel
theorem dX0_overBy_36 : decode cX0_overBy 36 = .ok (.iload_n 3, 1) := by decide +kernel
theorem dX0_overBy_37 : decode cX0_overBy 37 = .ok (.ireturn, 1) := by decide +kernel
set_option maxRecDepth 20000 in
theorem ggX0_bestSet_X1_all : GoodIn wsX0_bestSet wsX1_all := goodIn_r _ [6, 7, 8, 9, 10, 35, 36, 37, 38, 39, 40] (by decide +kernel) (by decide +kernel)
set_option maxRecDepth 20000 in
theorem gX0_bestSet_X1_all : GoodIn wsX0_bestSet (wsV RX0 65 RX1 yX1_all wsX1_all) := goodIn_app (goodIn_of _ (by decide +kernel)) ggX0_bestSet_X1_all
set_option maxRecDepth 20000 in
theorem ggX0_bestSet_X0_fameAmong : GoodIn wsX0_bestSet wsX0_fameAmong := goodIn_r _ [15, 16, 1, 17, 18, 19, 20, 21, 22, 23, 24, 25, 9, 26, 27, 28, 29, 8, 10, 30, 31, 32, 14, 33, 34, 35, 36, 37, 38, 39, 40, 41, 42, 43] (by decide +kernel) (by decide +kernel)
set_option maxRecDepth 20000 in
theorem gX0_bestSet_X0_fameAmong : GoodIn wsX0_bestSet (wsV RX0 69 RX0 yX0_fameAmong wsX0_fameAmong) := goodIn_app (goodIn_of _ (by decide +kernel)) ggX0_bestSet_X0_fameAmong
set_option maxRecDepth 20000 in
theorem ggX0_bestSet_X5_bit : GoodIn wsX0_bestSet wsX5_bit := goodIn_r _ [10] (by decide +kernel) (by decide +kernel)
set_option maxRecDepth 20000 in
theorem gX0_bestSet_X5_bit_n72 : GoodIn wsX0_bestSet (wsX5_bit) := ggX0_bestSet_X5_bit
theorem dX0_bestSet_0 : decode cX0_bestSet 0 = .ok (.aload_n 1, 1) := by decide +kernel
theorem dX0_bestSet_1 : decode cX0_bestSet 1 = .ok (.invokevirtual 65, 3) := by decide +kernel
theorem dX0_bestSet_4 : decode cX0_bestSet 4 = .ok (.istore_n 2, 1) := by decide +kernel
theorem dX0_bestSet_5 : decode cX0_bestSet 5 = .ok (.aload_n 0, 1) := by decide +kernel
theorem dX0_bestSet_6 : decode cX0_bestSet 6 = .ok (.aload_n 1, 1) := by decide +kernel
theorem dX0_bestSet_7 : decode cX0_bestSet 7 = .ok (.iload_n 2, 1) := by decide +kernel
theorem dX0_bestSet_8 : decode cX0_bestSet 8 = .ok (.invokevirtual 69, 3) := by decide +kernel
theorem dX0_bestSet_11 : decode cX0_bestSet 11 = .ok (.istore_n 3, 1) := by decide +kernel
theorem dX0_bestSet_12 : decode cX0_bestSet 12 = .ok (.aload_n 1, 1) := by decide +kernel
theorem dX0_bestSet_13 : decode cX0_bestSet 13 = .ok (.getfield 21, 3) := by decide +kernel
theorem dX0_bestSet_16 : decode cX0_bestSet 16 = .ok (.iconst 1, 1) := by decide +kernel
theorem dX0_bestSet_17 : decode cX0_bestSet 17 = .ok (.isub, 1) := by decide +kernel
theorem dX0_bestSet_18 : decode cX0_bestSet 18 = .ok (.istore 4, 2) := by decide +kernel
theorem dX0_bestSet_20 : decode cX0_bestSet 20 = .ok (.iload 4, 2) := by decide +kernel
theorem dX0_bestSet_22 : decode cX0_bestSet 22 = .ok (.ifCond .lt 34, 3) := by decide +kernel
theorem dX0_bestSet_25 : decode cX0_bestSet 25 = .ok (.iload_n 2, 1) := by decide +kernel
theorem dX0_bestSet_26 : decode cX0_bestSet 26 = .ok (.iload 4, 2) := by decide +kernel
theorem dX0_bestSet_28 : decode cX0_bestSet 28 = .ok (.invokestatic 72, 3) := by decide +kernel
theorem dX0_bestSet_31 : decode cX0_bestSet 31 = .ok (.iconst (-1), 1) := by decide +kernel
theorem dX0_bestSet_32 : decode cX0_bestSet 32 = .ok (.ixor, 1) := by decide +kernel
theorem dX0_bestSet_33 : decode cX0_bestSet 33 = .ok (.iand, 1) := by decide +kernel
theorem dX0_bestSet_34 : decode cX0_bestSet 34 = .ok (.istore 5, 2) := by decide +kernel
theorem dX0_bestSet_36 : decode cX0_bestSet 36 = .ok (.aload_n 0, 1) := by decide +kernel
theorem dX0_bestSet_37 : decode cX0_bestSet 37 = .ok (.aload_n 1, 1) := by decide +kernel
theorem dX0_bestSet_38 : decode cX0_bestSet 38 = .ok (.iload 5, 2) := by decide +kernel
theorem dX0_bestSet_40 : decode cX0_bestSet 40 = .ok (.invokevirtual 69, 3) := by decide +kernel
theorem dX0_bestSet_43 : decode cX0_bestSet 43 = .ok (.iload_n 3, 1) := by decide +kernel
theorem dX0_bestSet_44 : decode cX0_bestSet 44 = .ok (.if_icmp .ne 6, 3) := by decide +kernel
theorem dX0_bestSet_47 : decode cX0_bestSet 47 = .ok (.iload 5, 2) := by decide +kernel
theorem dX0_bestSet_49 : decode cX0_bestSet 49 = .ok (.istore_n 2, 1) := by decide +kernel
theorem dX0_bestSet_50 : decode cX0_bestSet 50 = .ok (.iinc 4 (-1), 3) := by decide +kernel
theorem dX0_bestSet_53 : decode cX0_bestSet 53 = .ok (.goto (-33), 3) := by decide +kernel
theorem dX0_bestSet_56 : decode cX0_bestSet 56 = .ok (.iload_n 2, 1) := by decide +kernel
theorem dX0_bestSet_57 : decode cX0_bestSet 57 = .ok (.ireturn, 1) := by decide +kernel
set_option maxRecDepth 20000 in
theorem ggX0_mostInOne_X5_orderBy : GoodIn wsX0_mostInOne wsX5_orderBy := goodIn_r _ [8] (by decide +kernel) (by decide +kernel)
set_option maxRecDepth 20000 in
theorem gX0_mostInOne_X5_orderBy_n51 : GoodIn wsX0_mostInOne (wsX5_orderBy) := ggX0_mostInOne_X5_orderBy
theorem dX0_mostInOne_0 : decode cX0_mostInOne 0 = .ok (.aload_n 1, 1) := by decide +kernel
theorem dX0_mostInOne_1 : decode cX0_mostInOne 1 = .ok (.getfield 48, 3) := by decide +kernel
theorem dX0_mostInOne_4 : decode cX0_mostInOne 4 = .ok (.aload_n 1, 1) := by decide +kernel
theorem dX0_mostInOne_5 : decode cX0_mostInOne 5 = .ok (.getfield 21, 3) := by decide +kernel
theorem dX0_mostInOne_8 : decode cX0_mostInOne 8 = .ok (.aload_n 0, 1) := by decide +kernel
theorem dX0_mostInOne_9 : decode cX0_mostInOne 9 = .ok (.getfield 9, 3) := by decide +kernel
theorem dX0_mostInOne_12 : decode cX0_mostInOne 12 = .ok (.invokestatic 51, 3) := by decide +kernel
theorem dX0_mostInOne_15 : decode cX0_mostInOne 15 = .ok (.iconst 0, 1) := by decide +kernel
theorem dX0_mostInOne_16 : decode cX0_mostInOne 16 = .ok (.istore_n 2, 1) := by decide +kernel
theorem dX0_mostInOne_17 : decode cX0_mostInOne 17 = .ok (.iconst 0, 1) := by decide +kernel
theorem dX0_mostInOne_18 : decode cX0_mostInOne 18 = .ok (.istore_n 3, 1) := by decide +kernel
theorem dX0_mostInOne_19 : decode cX0_mostInOne 19 = .ok (.iconst 0, 1) := by decide +kernel
theorem dX0_mostInOne_20 : decode cX0_mostInOne 20 = .ok (.istore 4, 2) := by decide +kernel
theorem dX0_mostInOne_22 : decode cX0_mostInOne 22 = .ok (.iload 4, 2) := by decide +kernel
theorem dX0_mostInOne_24 : decode cX0_mostInOne 24 = .ok (.aload_n 1, 1) := by decide +kernel
theorem dX0_mostInOne_25 : decode cX0_mostInOne 25 = .ok (.getfield 21, 3) := by decide +kernel
theorem dX0_mostInOne_28 : decode cX0_mostInOne 28 = .ok (.if_icmp .ge 45, 3) := by decide +kernel
theorem dX0_mostInOne_31 : decode cX0_mostInOne 31 = .ok (.aload_n 0, 1) := by decide +kernel
theorem dX0_mostInOne_32 : decode cX0_mostInOne 32 = .ok (.getfield 9, 3) := by decide +kernel
theorem dX0_mostInOne_35 : decode cX0_mostInOne 35 = .ok (.iload 4, 2) := by decide +kernel
theorem dX0_mostInOne_37 : decode cX0_mostInOne 37 = .ok (.iaload, 1) := by decide +kernel
theorem dX0_mostInOne_38 : decode cX0_mostInOne 38 = .ok (.istore 5, 2) := by decide +kernel
theorem dX0_mostInOne_40 : decode cX0_mostInOne 40 = .ok (.aload_n 1, 1) := by decide +kernel
theorem dX0_mostInOne_41 : decode cX0_mostInOne 41 = .ok (.getfield 55, 3) := by decide +kernel
theorem dX0_mostInOne_44 : decode cX0_mostInOne 44 = .ok (.iload 5, 2) := by decide +kernel
theorem dX0_mostInOne_46 : decode cX0_mostInOne 46 = .ok (.iaload, 1) := by decide +kernel
theorem dX0_mostInOne_47 : decode cX0_mostInOne 47 = .ok (.iload_n 3, 1) := by decide +kernel
theorem dX0_mostInOne_48 : decode cX0_mostInOne 48 = .ok (.if_icmp .lt 19, 3) := by decide +kernel
theorem dX0_mostInOne_51 : decode cX0_mostInOne 51 = .ok (.iinc 2 1, 3) := by decide +kernel
theorem dX0_mostInOne_54 : decode cX0_mostInOne 54 = .ok (.aload_n 1, 1) := by decide +kernel
theorem dX0_mostInOne_55 : decode cX0_mostInOne 55 = .ok (.getfield 48, 3) := by decide +kernel
theorem dX0_mostInOne_58 : decode cX0_mostInOne 58 = .ok (.iload 5, 2) := by decide +kernel
theorem dX0_mostInOne_60 : decode cX0_mostInOne 60 = .ok (.iaload, 1) := by decide +kernel
theorem dX0_mostInOne_61 : decode cX0_mostInOne 61 = .ok (.aload_n 1, 1) := by decide +kernel
theorem dX0_mostInOne_62 : decode cX0_mostInOne 62 = .ok (.getfield 62, 3) := by decide +kernel
theorem dX0_mostInOne_65 : decode cX0_mostInOne 65 = .ok (.iadd, 1) := by decide +kernel
theorem dX0_mostInOne_66 : decode cX0_mostInOne 66 = .ok (.istore_n 3, 1) := by decide +kernel
theorem dX0_mostInOne_67 : decode cX0_mostInOne 67 = .ok (.iinc 4 1, 3) := by decide +kernel
theorem dX0_mostInOne_70 : decode cX0_mostInOne 70 = .ok (.goto (-48), 3) := by decide +kernel
theorem dX0_mostInOne_73 : decode cX0_mostInOne 73 = .ok (.iload_n 2, 1) := by decide +kernel
theorem dX0_mostInOne_74 : decode cX0_mostInOne 74 = .ok (.ireturn, 1) := by decide +kernel
theorem dX1_init_0 : decode cX1_init 0 = .ok (.aload_n 0, 1) := by decide +kernel
theorem dX1_init_1 : decode cX1_init 1 = .ok (.invokespecial 3, 3) := by decide +kernel
theorem dX1_init_4 : decode cX1_init 4 = .ok (.aload_n 0, 1) := by decide +kernel
theorem dX1_init_5 : decode cX1_init 5 = .ok (.bipush 14, 2) := by decide +kernel
theorem dX1_init_7 : decode cX1_init 7 = .ok (.newarray .int, 2) := by decide +kernel
theorem dX1_init_9 : decode cX1_init 9 = .ok (.putfield 9, 3) := by decide +kernel
theorem dX1_init_12 : decode cX1_init 12 = .ok (.aload_n 0, 1) := by decide +kernel
theorem dX1_init_13 : decode cX1_init 13 = .ok (.bipush 14, 2) := by decide +kernel
theorem dX1_init_15 : decode cX1_init 15 = .ok (.newarray .int, 2) := by decide +kernel
theorem dX1_init_17 : decode cX1_init 17 = .ok (.putfield 15, 3) := by decide +kernel
theorem dX1_init_20 : decode cX1_init 20 = .ok (.aload_n 0, 1) := by decide +kernel
theorem dX1_init_21 : decode cX1_init 21 = .ok (.bipush 14, 2) := by decide +kernel
theorem dX1_init_23 : decode cX1_init 23 = .ok (.newarray .int, 2) := by decide +kernel
theorem dX1_init_25 : decode cX1_init 25 = .ok (.putfield 18, 3) := by decide +kernel
theorem dX1_init_28 : decode cX1_init 28 = .ok (.aload_n 0, 1) := by decide +kernel
theorem dX1_init_29 : decode cX1_init 29 = .ok (.iconst 0, 1) := by decide +kernel
theorem dX1_init_30 : decode cX1_init 30 = .ok (.putfield 21, 3) := by decide +kernel
theorem dX1_init_33 : decode cX1_init 33 = .ok (.aload_n 0, 1) := by decide +kernel
theorem dX1_init_34 : decode cX1_init 34 = .ok (.iconst 0, 1) := by decide +kernel
theorem dX1_init_35 : decode cX1_init 35 = .ok (.putfield 25, 3) := by decide +kernel
theorem dX1_init_38 : decode cX1_init 38 = .ok (.aload_n 0, 1) := by decide +kernel
theorem dX1_init_39 : decode cX1_init 39 = .ok (.iconst 0, 1) := by decide +kernel
theorem dX1_init_40 : decode cX1_init 40 = .ok (.putfield 28, 3) := by decide +kernel
theorem dX1_init_43 : decode cX1_init 43 = .ok (.return_, 1) := by decide +kernel
set_option maxRecDepth 20000 in
theorem ggX1_copyFrom_X1_copyRehearsal : GoodIn wsX1_copyFrom wsX1_copyRehearsal := goodIn_r _ [8, 9, 10, 11, 12, 13, 14, 15, 16, 17] (by decide +kernel) (by decide +kernel)
set_option maxRecDepth 20000 in
theorem gX1_copyFrom_X1_copyRehearsal : GoodIn wsX1_copyFrom (wsV RX1 31 RX1 yX1_copyRehearsal wsX1_copyRehearsal) := goodIn_app (goodIn_of _ (by decide +kernel)) ggX1_copyFrom_X1_copyRehearsal
theorem dX1_copyFrom_0 : decode cX1_copyFrom 0 = .ok (.iconst 0, 1) := by decide +kernel
theorem dX1_copyFrom_1 : decode cX1_copyFrom 1 = .ok (.istore_n 2, 1) := by decide +kernel
theorem dX1_copyFrom_2 : decode cX1_copyFrom 2 = .ok (.iload_n 2, 1) := by decide +kernel
theorem dX1_copyFrom_3 : decode cX1_copyFrom 3 = .ok (.aload_n 1, 1) := by decide +kernel
theorem dX1_copyFrom_4 : decode cX1_copyFrom 4 = .ok (.getfield 21, 3) := by decide +kernel
theorem dX1_copyFrom_7 : decode cX1_copyFrom 7 = .ok (.if_icmp .ge 16, 3) := by decide +kernel
theorem dX1_copyFrom_10 : decode cX1_copyFrom 10 = .ok (.aload_n 0, 1) := by decide +kernel
theorem dX1_copyFrom_11 : decode cX1_copyFrom 11 = .ok (.aload_n 1, 1) := by decide +kernel
theorem dX1_copyFrom_12 : decode cX1_copyFrom 12 = .ok (.iload_n 2, 1) := by decide +kernel
theorem dX1_copyFrom_13 : decode cX1_copyFrom 13 = .ok (.iload_n 2, 1) := by decide +kernel
theorem dX1_copyFrom_14 : decode cX1_copyFrom 14 = .ok (.invokevirtual 31, 3) := by decide +kernel
theorem dX1_copyFrom_17 : decode cX1_copyFrom 17 = .ok (.iinc 2 1, 3) := by decide +kernel
theorem dX1_copyFrom_20 : decode cX1_copyFrom 20 = .ok (.goto (-18), 3) := by decide +kernel
theorem dX1_copyFrom_23 : decode cX1_copyFrom 23 = .ok (.aload_n 0, 1) := by decide +kernel
theorem dX1_copyFrom_24 : decode cX1_copyFrom 24 = .ok (.aload_n 1, 1) := by decide +kernel
theorem dX1_copyFrom_25 : decode cX1_copyFrom 25 = .ok (.getfield 21, 3) := by decide +kernel
theorem dX1_copyFrom_28 : decode cX1_copyFrom 28 = .ok (.putfield 21, 3) := by decide +kernel
theorem dX1_copyFrom_31 : decode cX1_copyFrom 31 = .ok (.aload_n 0, 1) := by decide +kernel
theorem dX1_copyFrom_32 : decode cX1_copyFrom 32 = .ok (.aload_n 1, 1) := by decide +kernel
theorem dX1_copyFrom_33 : decode cX1_copyFrom 33 = .ok (.getfield 25, 3) := by decide +kernel
theorem dX1_copyFrom_36 : decode cX1_copyFrom 36 = .ok (.putfield 25, 3) := by decide +kernel
theorem dX1_copyFrom_39 : decode cX1_copyFrom 39 = .ok (.aload_n 0, 1) := by decide +kernel
theorem dX1_copyFrom_40 : decode cX1_copyFrom 40 = .ok (.aload_n 1, 1) := by decide +kernel
theorem dX1_copyFrom_41 : decode cX1_copyFrom 41 = .ok (.getfield 28, 3) := by decide +kernel
theorem dX1_copyFrom_44 : decode cX1_copyFrom 44 = .ok (.putfield 28, 3) := by decide +kernel
theorem dX1_copyFrom_47 : decode cX1_copyFrom 47 = .ok (.return_, 1) := by decide +kernel
theorem dX1_copyRehearsal_0 : decode cX1_copyRehearsal 0 = .ok (.aload_n 0, 1) := by decide +kernel
theorem dX1_copyRehearsal_1 : decode cX1_copyRehearsal 1 = .ok (.getfield 9, 3) := by decide +kernel
theorem dX1_copyRehearsal_4 : decode cX1_copyRehearsal 4 = .ok (.iload_n 3, 1) := by decide +kernel
theorem dX1_copyRehearsal_5 : decode cX1_copyRehearsal 5 = .ok (.aload_n 1, 1) := by decide +kernel
theorem dX1_copyRehearsal_6 : decode cX1_copyRehearsal 6 = .ok (.getfield 9, 3) := by decide +kernel
theorem dX1_copyRehearsal_9 : decode cX1_copyRehearsal 9 = .ok (.iload_n 2, 1) := by decide +kernel
theorem dX1_copyRehearsal_10 : decode cX1_copyRehearsal 10 = .ok (.iaload, 1) := by decide +kernel
theorem dX1_copyRehearsal_11 : decode cX1_copyRehearsal 11 = .ok (.iastore, 1) := by decide +kernel
theorem dX1_copyRehearsal_12 : decode cX1_copyRehearsal 12 = .ok (.aload_n 0, 1) := by decide +kernel
theorem dX1_copyRehearsal_13 : decode cX1_copyRehearsal 13 = .ok (.getfield 15, 3) := by decide +kernel
theorem dX1_copyRehearsal_16 : decode cX1_copyRehearsal 16 = .ok (.iload_n 3, 1) := by decide +kernel
theorem dX1_copyRehearsal_17 : decode cX1_copyRehearsal 17 = .ok (.aload_n 1, 1) := by decide +kernel
theorem dX1_copyRehearsal_18 : decode cX1_copyRehearsal 18 = .ok (.getfield 15, 3) := by decide +kernel
theorem dX1_copyRehearsal_21 : decode cX1_copyRehearsal 21 = .ok (.iload_n 2, 1) := by decide +kernel
theorem dX1_copyRehearsal_22 : decode cX1_copyRehearsal 22 = .ok (.iaload, 1) := by decide +kernel
theorem dX1_copyRehearsal_23 : decode cX1_copyRehearsal 23 = .ok (.iastore, 1) := by decide +kernel
theorem dX1_copyRehearsal_24 : decode cX1_copyRehearsal 24 = .ok (.aload_n 0, 1) := by decide +kernel
theorem dX1_copyRehearsal_25 : decode cX1_copyRehearsal 25 = .ok (.getfield 18, 3) := by decide +kernel
theorem dX1_copyRehearsal_28 : decode cX1_copyRehearsal 28 = .ok (.iload_n 3, 1) := by decide +kernel
theorem dX1_copyRehearsal_29 : decode cX1_copyRehearsal 29 = .ok (.aload_n 1, 1) := by decide +kernel
theorem dX1_copyRehearsal_30 : decode cX1_copyRehearsal 30 = .ok (.getfield 18, 3) := by decide +kernel
theorem dX1_copyRehearsal_33 : decode cX1_copyRehearsal 33 = .ok (.iload_n 2, 1) := by decide +kernel
theorem dX1_copyRehearsal_34 : decode cX1_copyRehearsal 34 = .ok (.iaload, 1) := by decide +kernel
theorem dX1_copyRehearsal_35 : decode cX1_copyRehearsal 35 = .ok (.iastore, 1) := by decide +kernel
theorem dX1_copyRehearsal_36 : decode cX1_copyRehearsal 36 = .ok (.return_, 1) := by decide +kernel
theorem dX1_takeOn_0 : decode cX1_takeOn 0 = .ok (.aload_n 0, 1) := by decide +kernel
theorem dX1_takeOn_1 : decode cX1_takeOn 1 = .ok (.getfield 9, 3) := by decide +kernel
theorem dX1_takeOn_4 : decode cX1_takeOn 4 = .ok (.aload_n 0, 1) := by decide +kernel
theorem dX1_takeOn_5 : decode cX1_takeOn 5 = .ok (.getfield 21, 3) := by decide +kernel
theorem dX1_takeOn_8 : decode cX1_takeOn 8 = .ok (.iload_n 1, 1) := by decide +kernel
theorem dX1_takeOn_9 : decode cX1_takeOn 9 = .ok (.iastore, 1) := by decide +kernel
theorem dX1_takeOn_10 : decode cX1_takeOn 10 = .ok (.aload_n 0, 1) := by decide +kernel
theorem dX1_takeOn_11 : decode cX1_takeOn 11 = .ok (.getfield 15, 3) := by decide +kernel
theorem dX1_takeOn_14 : decode cX1_takeOn 14 = .ok (.aload_n 0, 1) := by decide +kernel
theorem dX1_takeOn_15 : decode cX1_takeOn 15 = .ok (.getfield 21, 3) := by decide +kernel
theorem dX1_takeOn_18 : decode cX1_takeOn 18 = .ok (.iload_n 2, 1) := by decide +kernel
theorem dX1_takeOn_19 : decode cX1_takeOn 19 = .ok (.iastore, 1) := by decide +kernel
theorem dX1_takeOn_20 : decode cX1_takeOn 20 = .ok (.aload_n 0, 1) := by decide +kernel
theorem dX1_takeOn_21 : decode cX1_takeOn 21 = .ok (.getfield 18, 3) := by decide +kernel
theorem dX1_takeOn_24 : decode cX1_takeOn 24 = .ok (.aload_n 0, 1) := by decide +kernel
theorem dX1_takeOn_25 : decode cX1_takeOn 25 = .ok (.getfield 21, 3) := by decide +kernel
theorem dX1_takeOn_28 : decode cX1_takeOn 28 = .ok (.iload_n 3, 1) := by decide +kernel
theorem dX1_takeOn_29 : decode cX1_takeOn 29 = .ok (.iastore, 1) := by decide +kernel
theorem dX1_takeOn_30 : decode cX1_takeOn 30 = .ok (.aload_n 0, 1) := by decide +kernel
theorem dX1_takeOn_31 : decode cX1_takeOn 31 = .ok (.dup, 1) := by decide +kernel
theorem dX1_takeOn_32 : decode cX1_takeOn 32 = .ok (.getfield 21, 3) := by decide +kernel
theorem dX1_takeOn_35 : decode cX1_takeOn 35 = .ok (.iconst 1, 1) := by decide +kernel
theorem dX1_takeOn_36 : decode cX1_takeOn 36 = .ok (.iadd, 1) := by decide +kernel
theorem dX1_takeOn_37 : decode cX1_takeOn 37 = .ok (.putfield 21, 3) := by decide +kernel
theorem dX1_takeOn_40 : decode cX1_takeOn 40 = .ok (.return_, 1) := by decide +kernel
set_option maxRecDepth 20000 in
theorem ggX1_takeOut_X1_copyRehearsal : GoodIn wsX1_takeOut wsX1_copyRehearsal := goodIn_r _ [7, 8, 9, 10, 14, 15, 16, 17, 18, 19] (by decide +kernel) (by decide +kernel)
set_option maxRecDepth 20000 in
theorem gX1_takeOut_X1_copyRehearsal : GoodIn wsX1_takeOut (wsV RX1 31 RX1 yX1_copyRehearsal wsX1_copyRehearsal) := goodIn_app (goodIn_of _ (by decide +kernel)) ggX1_takeOut_X1_copyRehearsal
set_option maxRecDepth 20000 in
theorem ggX1_takeOut_X5_bit : GoodIn wsX1_takeOut wsX5_bit := goodIn_r _ [13] (by decide +kernel) (by decide +kernel)
set_option maxRecDepth 20000 in
theorem gX1_takeOut_X5_bit_n35 : GoodIn wsX1_takeOut (wsX5_bit) := ggX1_takeOut_X5_bit
theorem dX1_takeOut_0 : decode cX1_takeOut 0 = .ok (.iload_n 1, 1) := by decide +kernel
theorem dX1_takeOut_1 : decode cX1_takeOut 1 = .ok (.iconst 1, 1) := by decide +kernel
theorem dX1_takeOut_2 : decode cX1_takeOut 2 = .ok (.iadd, 1) := by decide +kernel
theorem dX1_takeOut_3 : decode cX1_takeOut 3 = .ok (.istore_n 2, 1) := by decide +kernel
theorem dX1_takeOut_4 : decode cX1_takeOut 4 = .ok (.iload_n 2, 1) := by decide +kernel
theorem dX1_takeOut_5 : decode cX1_takeOut 5 = .ok (.aload_n 0, 1) := by decide +kernel
theorem dX1_takeOut_6 : decode cX1_takeOut 6 = .ok (.getfield 21, 3) := by decide +kernel
theorem dX1_takeOut_9 : decode cX1_takeOut 9 = .ok (.if_icmp .ge 18, 3) := by decide +kernel
theorem dX1_takeOut_12 : decode cX1_takeOut 12 = .ok (.aload_n 0, 1) := by decide +kernel
theorem dX1_takeOut_13 : decode cX1_takeOut 13 = .ok (.aload_n 0, 1) := by decide +kernel
theorem dX1_takeOut_14 : decode cX1_takeOut 14 = .ok (.iload_n 2, 1) := by decide +kernel
theorem dX1_takeOut_15 : decode cX1_takeOut 15 = .ok (.iload_n 2, 1) := by decide +kernel
theorem dX1_takeOut_16 : decode cX1_takeOut 16 = .ok (.iconst 1, 1) := by decide +kernel
theorem dX1_takeOut_17 : decode cX1_takeOut 17 = .ok (.isub, 1) := by decide +kernel
theorem dX1_takeOut_18 : decode cX1_takeOut 18 = .ok (.invokevirtual 31, 3) := by decide +kernel
theorem dX1_takeOut_21 : decode cX1_takeOut 21 = .ok (.iinc 2 1, 3) := by decide +kernel
theorem dX1_takeOut_24 : decode cX1_takeOut 24 = .ok (.goto (-20), 3) := by decide +kernel
theorem dX1_takeOut_27 : decode cX1_takeOut 27 = .ok (.aload_n 0, 1) := by decide +kernel
theorem dX1_takeOut_28 : decode cX1_takeOut 28 = .ok (.getfield 28, 3) := by decide +kernel
theorem dX1_takeOut_31 : decode cX1_takeOut 31 = .ok (.iload_n 1, 1) := by decide +kernel
theorem dX1_takeOut_32 : decode cX1_takeOut 32 = .ok (.invokestatic 35, 3) := by decide +kernel
theorem dX1_takeOut_35 : decode cX1_takeOut 35 = .ok (.iconst 1, 1) := by decide +kernel
theorem dX1_takeOut_36 : decode cX1_takeOut 36 = .ok (.isub, 1) := by decide +kernel
theorem dX1_takeOut_37 : decode cX1_takeOut 37 = .ok (.iand, 1) := by decide +kernel
theorem dX1_takeOut_38 : decode cX1_takeOut 38 = .ok (.istore_n 2, 1) := by decide +kernel
theorem dX1_takeOut_39 : decode cX1_takeOut 39 = .ok (.aload_n 0, 1) := by decide +kernel
theorem dX1_takeOut_40 : decode cX1_takeOut 40 = .ok (.getfield 28, 3) := by decide +kernel
theorem dX1_takeOut_43 : decode cX1_takeOut 43 = .ok (.iload_n 1, 1) := by decide +kernel
theorem dX1_takeOut_44 : decode cX1_takeOut 44 = .ok (.iconst 1, 1) := by decide +kernel
theorem dX1_takeOut_45 : decode cX1_takeOut 45 = .ok (.iadd, 1) := by decide +kernel
theorem dX1_takeOut_46 : decode cX1_takeOut 46 = .ok (.ishr, 1) := by decide +kernel
theorem dX1_takeOut_47 : decode cX1_takeOut 47 = .ok (.iload_n 1, 1) := by decide +kernel
theorem dX1_takeOut_48 : decode cX1_takeOut 48 = .ok (.ishl, 1) := by decide +kernel
theorem dX1_takeOut_49 : decode cX1_takeOut 49 = .ok (.istore_n 3, 1) := by decide +kernel
theorem dX1_takeOut_50 : decode cX1_takeOut 50 = .ok (.aload_n 0, 1) := by decide +kernel
theorem dX1_takeOut_51 : decode cX1_takeOut 51 = .ok (.iload_n 2, 1) := by decide +kernel
theorem dX1_takeOut_52 : decode cX1_takeOut 52 = .ok (.iload_n 3, 1) := by decide +kernel
theorem dX1_takeOut_53 : decode cX1_takeOut 53 = .ok (.ior, 1) := by decide +kernel
theorem dX1_takeOut_54 : decode cX1_takeOut 54 = .ok (.putfield 28, 3) := by decide +kernel
theorem dX1_takeOut_57 : decode cX1_takeOut 57 = .ok (.aload_n 0, 1) := by decide +kernel
theorem dX1_takeOut_58 : decode cX1_takeOut 58 = .ok (.dup, 1) := by decide +kernel
theorem dX1_takeOut_59 : decode cX1_takeOut 59 = .ok (.getfield 21, 3) := by decide +kernel
theorem dX1_takeOut_62 : decode cX1_takeOut 62 = .ok (.iconst 1, 1) := by decide +kernel
theorem dX1_takeOut_63 : decode cX1_takeOut 63 = .ok (.isub, 1) := by decide +kernel
theorem dX1_takeOut_64 : decode cX1_takeOut 64 = .ok (.putfield 21, 3) := by decide +kernel
theorem dX1_takeOut_67 : decode cX1_takeOut 67 = .ok (.return_, 1) := by decide +kernel
set_option maxRecDepth 20000 in
theorem ggX1_all_X5_bit : GoodIn wsX1_all wsX5_bit := goodIn_r _ [4] (by decide +kernel) (by decide +kernel)
set_option maxRecDepth 20000 in
theorem gX1_all_X5_bit_n35 : GoodIn wsX1_all (wsX5_bit) := ggX1_all_X5_bit
theorem dX1_all_0 : decode cX1_all 0 = .ok (.aload_n 0, 1) := by decide +kernel
theorem dX1_all_1 : decode cX1_all 1 = .ok (.getfield 21, 3) := by decide +kernel
theorem dX1_all_4 : decode cX1_all 4 = .ok (.invokestatic 35, 3) := by decide +kernel
theorem dX1_all_7 : decode cX1_all 7 = .ok (.iconst 1, 1) := by decide +kernel
theorem dX1_all_8 : decode cX1_all 8 = .ok (.isub, 1) := by decide +kernel
theorem dX1_all_9 : decode cX1_all 9 = .ok (.ireturn, 1) := by decide +kernel
set_option maxRecDepth 20000 in
theorem ggX1_hasBooked_X5_isIn : GoodIn wsX1_hasBooked wsX5_isIn := goodIn_r _ [4, 5, 6, 3, 7] (by decide +kernel) (by decide +kernel)
set_option maxRecDepth 20000 in
theorem gX1_hasBooked_X5_isIn_n39 : GoodIn wsX1_hasBooked (wsX5_isIn) := ggX1_hasBooked_X5_isIn
theorem dX1_hasBooked_0 : decode cX1_hasBooked 0 = .ok (.aload_n 0, 1) := by decide +kernel
theorem dX1_hasBooked_1 : decode cX1_hasBooked 1 = .ok (.getfield 28, 3) := by decide +kernel
theorem dX1_hasBooked_4 : decode cX1_hasBooked 4 = .ok (.iload_n 1, 1) := by decide +kernel
theorem dX1_hasBooked_5 : decode cX1_hasBooked 5 = .ok (.invokestatic 39, 3) := by decide +kernel
theorem dX1_hasBooked_8 : decode cX1_hasBooked 8 = .ok (.ireturn, 1) := by decide +kernel
theorem dX1_quartersOf_0 : decode cX1_quartersOf 0 = .ok (.aload_n 0, 1) := by decide +kernel
theorem dX1_quartersOf_1 : decode cX1_quartersOf 1 = .ok (.getfield 15, 3) := by decide +kernel
theorem dX1_quartersOf_4 : decode cX1_quartersOf 4 = .ok (.iload_n 1, 1) := by decide +kernel
theorem dX1_quartersOf_5 : decode cX1_quartersOf 5 = .ok (.iaload, 1) := by decide +kernel
theorem dX1_quartersOf_6 : decode cX1_quartersOf 6 = .ok (.aload_n 0, 1) := by decide +kernel
theorem dX1_quartersOf_7 : decode cX1_quartersOf 7 = .ok (.getfield 9, 3) := by decide +kernel
theorem dX1_quartersOf_10 : decode cX1_quartersOf 10 = .ok (.iload_n 1, 1) := by decide +kernel
theorem dX1_quartersOf_11 : decode cX1_quartersOf 11 = .ok (.iaload, 1) := by decide +kernel
theorem dX1_quartersOf_12 : decode cX1_quartersOf 12 = .ok (.isub, 1) := by decide +kernel
theorem dX1_quartersOf_13 : decode cX1_quartersOf 13 = .ok (.ireturn, 1) := by decide +kernel
set_option maxRecDepth 20000 in
theorem ggX1_fameOfSet_X5_isIn : GoodIn wsX1_fameOfSet wsX5_isIn := goodIn_r _ [5, 6, 7, 4, 8] (by decide +kernel) (by decide +kernel)
set_option maxRecDepth 20000 in
theorem gX1_fameOfSet_X5_isIn_n39 : GoodIn wsX1_fameOfSet (wsX5_isIn) := ggX1_fameOfSet_X5_isIn
theorem dX1_fameOfSet_0 : decode cX1_fameOfSet 0 = .ok (.iconst 0, 1) := by decide +kernel
theorem dX1_fameOfSet_1 : decode cX1_fameOfSet 1 = .ok (.istore_n 2, 1) := by decide +kernel
theorem dX1_fameOfSet_2 : decode cX1_fameOfSet 2 = .ok (.iconst 0, 1) := by decide +kernel
theorem dX1_fameOfSet_3 : decode cX1_fameOfSet 3 = .ok (.istore_n 3, 1) := by decide +kernel
theorem dX1_fameOfSet_4 : decode cX1_fameOfSet 4 = .ok (.iload_n 3, 1) := by decide +kernel
theorem dX1_fameOfSet_5 : decode cX1_fameOfSet 5 = .ok (.aload_n 0, 1) := by decide +kernel
theorem dX1_fameOfSet_6 : decode cX1_fameOfSet 6 = .ok (.getfield 21, 3) := by decide +kernel
theorem dX1_fameOfSet_9 : decode cX1_fameOfSet 9 = .ok (.if_icmp .ge 26, 3) := by decide +kernel
theorem dX1_fameOfSet_12 : decode cX1_fameOfSet 12 = .ok (.iload_n 1, 1) := by decide +kernel
theorem dX1_fameOfSet_13 : decode cX1_fameOfSet 13 = .ok (.iload_n 3, 1) := by decide +kernel
theorem dX1_fameOfSet_14 : decode cX1_fameOfSet 14 = .ok (.invokestatic 39, 3) := by decide +kernel
theorem dX1_fameOfSet_17 : decode cX1_fameOfSet 17 = .ok (.ifCond .eq 12, 3) := by decide +kernel
theorem dX1_fameOfSet_20 : decode cX1_fameOfSet 20 = .ok (.iload_n 2, 1) := by decide +kernel
theorem dX1_fameOfSet_21 : decode cX1_fameOfSet 21 = .ok (.aload_n 0, 1) := by decide +kernel
theorem dX1_fameOfSet_22 : decode cX1_fameOfSet 22 = .ok (.getfield 18, 3) := by decide +kernel
theorem dX1_fameOfSet_25 : decode cX1_fameOfSet 25 = .ok (.iload_n 3, 1) := by decide +kernel
theorem dX1_fameOfSet_26 : decode cX1_fameOfSet 26 = .ok (.iaload, 1) := by decide +kernel
theorem dX1_fameOfSet_27 : decode cX1_fameOfSet 27 = .ok (.iadd, 1) := by decide +kernel
theorem dX1_fameOfSet_28 : decode cX1_fameOfSet 28 = .ok (.istore_n 2, 1) := by decide +kernel
theorem dX1_fameOfSet_29 : decode cX1_fameOfSet 29 = .ok (.iinc 3 1, 3) := by decide +kernel
theorem dX1_fameOfSet_32 : decode cX1_fameOfSet 32 = .ok (.goto (-28), 3) := by decide +kernel
theorem dX1_fameOfSet_35 : decode cX1_fameOfSet 35 = .ok (.iload_n 2, 1) := by decide +kernel
theorem dX1_fameOfSet_36 : decode cX1_fameOfSet 36 = .ok (.ireturn, 1) := by decide +kernel
set_option maxRecDepth 20000 in
theorem ggX1_quartersOfSet_X5_isIn : GoodIn wsX1_quartersOfSet wsX5_isIn := goodIn_r _ [4, 5, 6, 3, 7] (by decide +kernel) (by decide +kernel)
set_option maxRecDepth 20000 in
theorem gX1_quartersOfSet_X5_isIn_n39 : GoodIn wsX1_quartersOfSet (wsX5_isIn) := ggX1_quartersOfSet_X5_isIn
set_option maxRecDepth 20000 in
theorem ggX1_quartersOfSet_X1_quartersOf : GoodIn wsX1_quartersOfSet wsX1_quartersOf := goodIn_r _ [12, 13, 14, 15, 16, 17, 18, 19, 20] (by decide +kernel) (by decide +kernel)
set_option maxRecDepth 20000 in
theorem gX1_quartersOfSet_X1_quartersOf : GoodIn wsX1_quartersOfSet (wsV RX1 43 RX1 yX1_quartersOf wsX1_quartersOf) := goodIn_app (goodIn_of _ (by decide +kernel)) ggX1_quartersOfSet_X1_quartersOf
theorem dX1_quartersOfSet_0 : decode cX1_quartersOfSet 0 = .ok (.iconst 0, 1) := by decide +kernel
theorem dX1_quartersOfSet_1 : decode cX1_quartersOfSet 1 = .ok (.istore_n 2, 1) := by decide +kernel
theorem dX1_quartersOfSet_2 : decode cX1_quartersOfSet 2 = .ok (.iconst 0, 1) := by decide +kernel
theorem dX1_quartersOfSet_3 : decode cX1_quartersOfSet 3 = .ok (.istore_n 3, 1) := by decide +kernel
theorem dX1_quartersOfSet_4 : decode cX1_quartersOfSet 4 = .ok (.iload_n 3, 1) := by decide +kernel
theorem dX1_quartersOfSet_5 : decode cX1_quartersOfSet 5 = .ok (.aload_n 0, 1) := by decide +kernel
theorem dX1_quartersOfSet_6 : decode cX1_quartersOfSet 6 = .ok (.getfield 21, 3) := by decide +kernel
theorem dX1_quartersOfSet_9 : decode cX1_quartersOfSet 9 = .ok (.if_icmp .ge 25, 3) := by decide +kernel
theorem dX1_quartersOfSet_12 : decode cX1_quartersOfSet 12 = .ok (.iload_n 1, 1) := by decide +kernel
theorem dX1_quartersOfSet_13 : decode cX1_quartersOfSet 13 = .ok (.iload_n 3, 1) := by decide +kernel
theorem dX1_quartersOfSet_14 : decode cX1_quartersOfSet 14 = .ok (.invokestatic 39, 3) := by decide +kernel
theorem dX1_quartersOfSet_17 : decode cX1_quartersOfSet 17 = .ok (.ifCond .eq 11, 3) := by decide +kernel
theorem dX1_quartersOfSet_20 : decode cX1_quartersOfSet 20 = .ok (.iload_n 2, 1) := by decide +kernel
theorem dX1_quartersOfSet_21 : decode cX1_quartersOfSet 21 = .ok (.aload_n 0, 1) := by decide +kernel
theorem dX1_quartersOfSet_22 : decode cX1_quartersOfSet 22 = .ok (.iload_n 3, 1) := by decide +kernel
theorem dX1_quartersOfSet_23 : decode cX1_quartersOfSet 23 = .ok (.invokevirtual 43, 3) := by decide +kernel
theorem dX1_quartersOfSet_26 : decode cX1_quartersOfSet 26 = .ok (.iadd, 1) := by decide +kernel
theorem dX1_quartersOfSet_27 : decode cX1_quartersOfSet 27 = .ok (.istore_n 2, 1) := by decide +kernel
theorem dX1_quartersOfSet_28 : decode cX1_quartersOfSet 28 = .ok (.iinc 3 1, 3) := by decide +kernel
theorem dX1_quartersOfSet_31 : decode cX1_quartersOfSet 31 = .ok (.goto (-27), 3) := by decide +kernel
theorem dX1_quartersOfSet_34 : decode cX1_quartersOfSet 34 = .ok (.iload_n 2, 1) := by decide +kernel
theorem dX1_quartersOfSet_35 : decode cX1_quartersOfSet 35 = .ok (.ireturn, 1) := by decide +kernel
set_option maxRecDepth 20000 in
theorem ggX1_clash_X1_clashWithTimes : GoodIn wsX1_clash wsX1_clashWithTimes := goodIn_r _ [8, 2, 1, 9, 10, 11, 12, 13, 14] (by decide +kernel) (by decide +kernel)
set_option maxRecDepth 20000 in
theorem gX1_clash_X1_clashWithTimes : GoodIn wsX1_clash (wsV RX1 46 RX1 yX1_clashWithTimes wsX1_clashWithTimes) := goodIn_app (goodIn_of _ (by decide +kernel)) ggX1_clash_X1_clashWithTimes
theorem dX1_clash_0 : decode cX1_clash 0 = .ok (.iload_n 1, 1) := by decide +kernel
theorem dX1_clash_1 : decode cX1_clash 1 = .ok (.iload_n 2, 1) := by decide +kernel
theorem dX1_clash_2 : decode cX1_clash 2 = .ok (.if_icmp .eq 31, 3) := by decide +kernel
theorem dX1_clash_5 : decode cX1_clash 5 = .ok (.aload_n 0, 1) := by decide +kernel
theorem dX1_clash_6 : decode cX1_clash 6 = .ok (.iload_n 1, 1) := by decide +kernel
theorem dX1_clash_7 : decode cX1_clash 7 = .ok (.aload_n 0, 1) := by decide +kernel
theorem dX1_clash_8 : decode cX1_clash 8 = .ok (.getfield 9, 3) := by decide +kernel
theorem dX1_clash_11 : decode cX1_clash 11 = .ok (.iload_n 2, 1) := by decide +kernel
theorem dX1_clash_12 : decode cX1_clash 12 = .ok (.iaload, 1) := by decide +kernel
theorem dX1_clash_13 : decode cX1_clash 13 = .ok (.aload_n 0, 1) := by decide +kernel
theorem dX1_clash_14 : decode cX1_clash 14 = .ok (.getfield 15, 3) := by decide +kernel
theorem dX1_clash_17 : decode cX1_clash 17 = .ok (.iload_n 2, 1) := by decide +kernel
theorem dX1_clash_18 : decode cX1_clash 18 = .ok (.iaload, 1) := by decide +kernel
theorem dX1_clash_19 : decode cX1_clash 19 = .ok (.aload_n 0, 1) := by decide +kernel
theorem dX1_clash_20 : decode cX1_clash 20 = .ok (.getfield 25, 3) := by decide +kernel
theorem dX1_clash_23 : decode cX1_clash 23 = .ok (.invokevirtual 46, 3) := by decide +kernel
theorem dX1_clash_26 : decode cX1_clash 26 = .ok (.ifCond .eq 7, 3) := by decide +kernel
theorem dX1_clash_29 : decode cX1_clash 29 = .ok (.iconst 1, 1) := by decide +kernel
theorem dX1_clash_30 : decode cX1_clash 30 = .ok (.goto 4, 3) := by decide +kernel
theorem dX1_clash_33 : decode cX1_clash 33 = .ok (.iconst 0, 1) := by decide +kernel
theorem dX1_clash_34 : decode cX1_clash 34 = .ok (.ireturn, 1) := by decide +kernel
theorem dX1_clashWithTimes_0 : decode cX1_clashWithTimes 0 = .ok (.aload_n 0, 1) := by decide +kernel
theorem dX1_clashWithTimes_1 : decode cX1_clashWithTimes 1 = .ok (.getfield 15, 3) := by decide +kernel
theorem dX1_clashWithTimes_4 : decode cX1_clashWithTimes 4 = .ok (.iload_n 1, 1) := by decide +kernel
theorem dX1_clashWithTimes_5 : decode cX1_clashWithTimes 5 = .ok (.iaload, 1) := by decide +kernel
theorem dX1_clashWithTimes_6 : decode cX1_clashWithTimes 6 = .ok (.iload 4, 2) := by decide +kernel
theorem dX1_clashWithTimes_8 : decode cX1_clashWithTimes 8 = .ok (.iadd, 1) := by decide +kernel
theorem dX1_clashWithTimes_9 : decode cX1_clashWithTimes 9 = .ok (.iload_n 2, 1) := by decide +kernel
theorem dX1_clashWithTimes_10 : decode cX1_clashWithTimes 10 = .ok (.if_icmp .le 20, 3) := by decide +kernel
theorem dX1_clashWithTimes_13 : decode cX1_clashWithTimes 13 = .ok (.iload_n 3, 1) := by decide +kernel
theorem dX1_clashWithTimes_14 : decode cX1_clashWithTimes 14 = .ok (.iload 4, 2) := by decide +kernel
theorem dX1_clashWithTimes_16 : decode cX1_clashWithTimes 16 = .ok (.iadd, 1) := by decide +kernel
theorem dX1_clashWithTimes_17 : decode cX1_clashWithTimes 17 = .ok (.aload_n 0, 1) := by decide +kernel
theorem dX1_clashWithTimes_18 : decode cX1_clashWithTimes 18 = .ok (.getfield 9, 3) := by decide +kernel
theorem dX1_clashWithTimes_21 : decode cX1_clashWithTimes 21 = .ok (.iload_n 1, 1) := by decide +kernel
theorem dX1_clashWithTimes_22 : decode cX1_clashWithTimes 22 = .ok (.iaload, 1) := by decide +kernel
theorem dX1_clashWithTimes_23 : decode cX1_clashWithTimes 23 = .ok (.if_icmp .le 7, 3) := by decide +kernel
theorem dX1_clashWithTimes_26 : decode cX1_clashWithTimes 26 = .ok (.iconst 1, 1) := by decide +kernel
theorem dX1_clashWithTimes_27 : decode cX1_clashWithTimes 27 = .ok (.goto 4, 3) := by decide +kernel
theorem dX1_clashWithTimes_30 : decode cX1_clashWithTimes 30 = .ok (.iconst 0, 1) := by decide +kernel
theorem dX1_clashWithTimes_31 : decode cX1_clashWithTimes 31 = .ok (.ireturn, 1) := by decide +kernel
set_option maxRecDepth 20000 in
theorem ggX1_conflictsWith_X1_clash : GoodIn wsX1_conflictsWith wsX1_clash := goodIn_r _ [6, 7, 8, 9, 10, 11, 12, 5, 13, 17, 18, 19, 20, 21, 22] (by decide +kernel) (by decide +kernel)
set_option maxRecDepth 20000 in
theorem gX1_conflictsWith_X1_clash : GoodIn wsX1_conflictsWith (wsV RX1 50 RX1 yX1_clash wsX1_clash) := goodIn_app (goodIn_of _ (by decide +kernel)) ggX1_conflictsWith_X1_clash
set_option maxRecDepth 20000 in
theorem ggX1_conflictsWith_X5_bit : GoodIn wsX1_conflictsWith wsX5_bit := goodIn_r _ [16] (by decide +kernel) (by decide +kernel)
set_option maxRecDepth 20000 in
theorem gX1_conflictsWith_X5_bit_n35 : GoodIn wsX1_conflictsWith (wsX5_bit) := ggX1_conflictsWith_X5_bit
theorem dX1_conflictsWith_0 : decode cX1_conflictsWith 0 = .ok (.iconst 0, 1) := by decide +kernel
theorem dX1_conflictsWith_1 : decode cX1_conflictsWith 1 = .ok (.istore_n 2, 1) := by decide +kernel
theorem dX1_conflictsWith_2 : decode cX1_conflictsWith 2 = .ok (.iconst 0, 1) := by decide +kernel
theorem dX1_conflictsWith_3 : decode cX1_conflictsWith 3 = .ok (.istore_n 3, 1) := by decide +kernel
theorem dX1_conflictsWith_4 : decode cX1_conflictsWith 4 = .ok (.iload_n 3, 1) := by decide +kernel
theorem dX1_conflictsWith_5 : decode cX1_conflictsWith 5 = .ok (.aload_n 0, 1) := by decide +kernel
theorem dX1_conflictsWith_6 : decode cX1_conflictsWith 6 = .ok (.getfield 21, 3) := by decide +kernel
theorem dX1_conflictsWith_9 : decode cX1_conflictsWith 9 = .ok (.if_icmp .ge 25, 3) := by decide +kernel
theorem dX1_conflictsWith_12 : decode cX1_conflictsWith 12 = .ok (.aload_n 0, 1) := by decide +kernel
theorem dX1_conflictsWith_13 : decode cX1_conflictsWith 13 = .ok (.iload_n 1, 1) := by decide +kernel
theorem dX1_conflictsWith_14 : decode cX1_conflictsWith 14 = .ok (.iload_n 3, 1) := by decide +kernel
theorem dX1_conflictsWith_15 : decode cX1_conflictsWith 15 = .ok (.invokevirtual 50, 3) := by decide +kernel
theorem dX1_conflictsWith_18 : decode cX1_conflictsWith 18 = .ok (.ifCond .eq 10, 3) := by decide +kernel
theorem dX1_conflictsWith_21 : decode cX1_conflictsWith 21 = .ok (.iload_n 2, 1) := by decide +kernel
theorem dX1_conflictsWith_22 : decode cX1_conflictsWith 22 = .ok (.iload_n 3, 1) := by decide +kernel
theorem dX1_conflictsWith_23 : decode cX1_conflictsWith 23 = .ok (.invokestatic 35, 3) := by decide +kernel
theorem dX1_conflictsWith_26 : decode cX1_conflictsWith 26 = .ok (.ior, 1) := by decide +kernel
theorem dX1_conflictsWith_27 : decode cX1_conflictsWith 27 = .ok (.istore_n 2, 1) := by decide +kernel
theorem dX1_conflictsWith_28 : decode cX1_conflictsWith 28 = .ok (.iinc 3 1, 3) := by decide +kernel
theorem dX1_conflictsWith_31 : decode cX1_conflictsWith 31 = .ok (.goto (-27), 3) := by decide +kernel
theorem dX1_conflictsWith_34 : decode cX1_conflictsWith 34 = .ok (.iload_n 2, 1) := by decide +kernel
theorem dX1_conflictsWith_35 : decode cX1_conflictsWith 35 = .ok (.ireturn, 1) := by decide +kernel
set_option maxRecDepth 20000 in
theorem ggX1_bookingsAllow_X1_hasBooked : GoodIn wsX1_bookingsAllow wsX1_hasBooked := goodIn_r _ [7, 8, 9, 10, 11, 12, 13, 14, 21, 22, 23, 24, 25, 26] (by decide +kernel) (by decide +kernel)
set_option maxRecDepth 20000 in
theorem gX1_bookingsAllow_X1_hasBooked : GoodIn wsX1_bookingsAllow (wsV RX1 53 RX1 yX1_hasBooked wsX1_hasBooked) := goodIn_app (goodIn_of _ (by decide +kernel)) ggX1_bookingsAllow_X1_hasBooked
set_option maxRecDepth 20000 in
theorem ggX1_bookingsAllow_X1_clashWithTimes : GoodIn wsX1_bookingsAllow wsX1_clashWithTimes := goodIn_r _ [18, 19, 20, 21, 22, 23, 24, 25, 26] (by decide +kernel) (by decide +kernel)
set_option maxRecDepth 20000 in
theorem gX1_bookingsAllow_X1_clashWithTimes : GoodIn wsX1_bookingsAllow (wsV RX1 46 RX1 yX1_clashWithTimes wsX1_clashWithTimes) := goodIn_app (goodIn_of _ (by decide +kernel)) ggX1_bookingsAllow_X1_clashWithTimes
theorem dX1_bookingsAllow_0 : decode cX1_bookingsAllow 0 = .ok (.iconst 0, 1) := by decide +kernel
theorem dX1_bookingsAllow_1 : decode cX1_bookingsAllow 1 = .ok (.istore 4, 2) := by decide +kernel
theorem dX1_bookingsAllow_3 : decode cX1_bookingsAllow 3 = .ok (.iload 4, 2) := by decide +kernel
theorem dX1_bookingsAllow_5 : decode cX1_bookingsAllow 5 = .ok (.aload_n 0, 1) := by decide +kernel
theorem dX1_bookingsAllow_6 : decode cX1_bookingsAllow 6 = .ok (.getfield 21, 3) := by decide +kernel
theorem dX1_bookingsAllow_9 : decode cX1_bookingsAllow 9 = .ok (.if_icmp .ge 41, 3) := by decide +kernel
theorem dX1_bookingsAllow_12 : decode cX1_bookingsAllow 12 = .ok (.iload 4, 2) := by decide +kernel
theorem dX1_bookingsAllow_14 : decode cX1_bookingsAllow 14 = .ok (.iload_n 1, 1) := by decide +kernel
theorem dX1_bookingsAllow_15 : decode cX1_bookingsAllow 15 = .ok (.if_icmp .eq 29, 3) := by decide +kernel
theorem dX1_bookingsAllow_18 : decode cX1_bookingsAllow 18 = .ok (.aload_n 0, 1) := by decide +kernel
theorem dX1_bookingsAllow_19 : decode cX1_bookingsAllow 19 = .ok (.iload 4, 2) := by decide +kernel
theorem dX1_bookingsAllow_21 : decode cX1_bookingsAllow 21 = .ok (.invokevirtual 53, 3) := by decide +kernel
theorem dX1_bookingsAllow_24 : decode cX1_bookingsAllow 24 = .ok (.ifCond .eq 20, 3) := by decide +kernel
theorem dX1_bookingsAllow_27 : decode cX1_bookingsAllow 27 = .ok (.aload_n 0, 1) := by decide +kernel
theorem dX1_bookingsAllow_28 : decode cX1_bookingsAllow 28 = .ok (.iload 4, 2) := by decide +kernel
theorem dX1_bookingsAllow_30 : decode cX1_bookingsAllow 30 = .ok (.iload_n 2, 1) := by decide +kernel
theorem dX1_bookingsAllow_31 : decode cX1_bookingsAllow 31 = .ok (.iload_n 3, 1) := by decide +kernel
theorem dX1_bookingsAllow_32 : decode cX1_bookingsAllow 32 = .ok (.aload_n 0, 1) := by decide +kernel
theorem dX1_bookingsAllow_33 : decode cX1_bookingsAllow 33 = .ok (.getfield 25, 3) := by decide +kernel
theorem dX1_bookingsAllow_36 : decode cX1_bookingsAllow 36 = .ok (.invokevirtual 46, 3) := by decide +kernel
theorem dX1_bookingsAllow_39 : decode cX1_bookingsAllow 39 = .ok (.ifCond .eq 5, 3) := by decide +kernel
theorem dX1_bookingsAllow_42 : decode cX1_bookingsAllow 42 = .ok (.iconst 0, 1) := by decide +kernel
theorem dX1_bookingsAllow_43 : decode cX1_bookingsAllow 43 = .ok (.ireturn, 1) := by decide +kernel
theorem dX1_bookingsAllow_44 : decode cX1_bookingsAllow 44 = .ok (.iinc 4 1, 3) := by decide +kernel
theorem dX1_bookingsAllow_47 : decode cX1_bookingsAllow 47 = .ok (.goto (-44), 3) := by decide +kernel
theorem dX1_bookingsAllow_50 : decode cX1_bookingsAllow 50 = .ok (.iconst 1, 1) := by decide +kernel
theorem dX1_bookingsAllow_51 : decode cX1_bookingsAllow 51 = .ok (.ireturn, 1) := by decide +kernel
set_option maxRecDepth 20000 in
theorem ggX1_bookingsAllowPause_X1_hasBooked : GoodIn wsX1_bookingsAllowPause wsX1_hasBooked := goodIn_r _ [8, 9, 10, 11, 12, 13, 14, 15, 20, 21, 22, 23, 24, 25] (by decide +kernel) (by decide +kernel)
set_option maxRecDepth 20000 in
theorem gX1_bookingsAllowPause_X1_hasBooked : GoodIn wsX1_bookingsAllowPause (wsV RX1 53 RX1 yX1_hasBooked wsX1_hasBooked) := goodIn_app (goodIn_of _ (by decide +kernel)) ggX1_bookingsAllowPause_X1_hasBooked
set_option maxRecDepth 20000 in
theorem ggX1_bookingsAllowPause_X1_clashWithTimes : GoodIn wsX1_bookingsAllowPause wsX1_clashWithTimes := goodIn_r _ [19, 3, 2, 20, 21, 22, 23, 24, 25] (by decide +kernel) (by decide +kernel)
set_option maxRecDepth 20000 in
theorem gX1_bookingsAllowPause_X1_clashWithTimes : GoodIn wsX1_bookingsAllowPause (wsV RX1 46 RX1 yX1_clashWithTimes wsX1_clashWithTimes) := goodIn_app (goodIn_of _ (by decide +kernel)) ggX1_bookingsAllowPause_X1_clashWithTimes
theorem dX1_bookingsAllowPause_0 : decode cX1_bookingsAllowPause 0 = .ok (.iconst 0, 1) := by decide +kernel
theorem dX1_bookingsAllowPause_1 : decode cX1_bookingsAllowPause 1 = .ok (.istore_n 2, 1) := by decide +kernel
theorem dX1_bookingsAllowPause_2 : decode cX1_bookingsAllowPause 2 = .ok (.iload_n 2, 1) := by decide +kernel
theorem dX1_bookingsAllowPause_3 : decode cX1_bookingsAllowPause 3 = .ok (.aload_n 0, 1) := by decide +kernel
theorem dX1_bookingsAllowPause_4 : decode cX1_bookingsAllowPause 4 = .ok (.getfield 21, 3) := by decide +kernel
theorem dX1_bookingsAllowPause_7 : decode cX1_bookingsAllowPause 7 = .ok (.if_icmp .ge 66, 3) := by decide +kernel
theorem dX1_bookingsAllowPause_10 : decode cX1_bookingsAllowPause 10 = .ok (.iload_n 2, 1) := by decide +kernel
theorem dX1_bookingsAllowPause_11 : decode cX1_bookingsAllowPause 11 = .ok (.iconst 1, 1) := by decide +kernel
theorem dX1_bookingsAllowPause_12 : decode cX1_bookingsAllowPause 12 = .ok (.iadd, 1) := by decide +kernel
theorem dX1_bookingsAllowPause_13 : decode cX1_bookingsAllowPause 13 = .ok (.istore_n 3, 1) := by decide +kernel
theorem dX1_bookingsAllowPause_14 : decode cX1_bookingsAllowPause 14 = .ok (.iload_n 3, 1) := by decide +kernel
theorem dX1_bookingsAllowPause_15 : decode cX1_bookingsAllowPause 15 = .ok (.aload_n 0, 1) := by decide +kernel
theorem dX1_bookingsAllowPause_16 : decode cX1_bookingsAllowPause 16 = .ok (.getfield 21, 3) := by decide +kernel
theorem dX1_bookingsAllowPause_19 : decode cX1_bookingsAllowPause 19 = .ok (.if_icmp .ge 48, 3) := by decide +kernel
theorem dX1_bookingsAllowPause_22 : decode cX1_bookingsAllowPause 22 = .ok (.aload_n 0, 1) := by decide +kernel
theorem dX1_bookingsAllowPause_23 : decode cX1_bookingsAllowPause 23 = .ok (.iload_n 2, 1) := by decide +kernel
theorem dX1_bookingsAllowPause_24 : decode cX1_bookingsAllowPause 24 = .ok (.invokevirtual 53, 3) := by decide +kernel
theorem dX1_bookingsAllowPause_27 : decode cX1_bookingsAllowPause 27 = .ok (.ifCond .eq 34, 3) := by decide +kernel
theorem dX1_bookingsAllowPause_30 : decode cX1_bookingsAllowPause 30 = .ok (.aload_n 0, 1) := by decide +kernel
theorem dX1_bookingsAllowPause_31 : decode cX1_bookingsAllowPause 31 = .ok (.iload_n 3, 1) := by decide +kernel
theorem dX1_bookingsAllowPause_32 : decode cX1_bookingsAllowPause 32 = .ok (.invokevirtual 53, 3) := by decide +kernel
theorem dX1_bookingsAllowPause_35 : decode cX1_bookingsAllowPause 35 = .ok (.ifCond .eq 26, 3) := by decide +kernel
theorem dX1_bookingsAllowPause_38 : decode cX1_bookingsAllowPause 38 = .ok (.aload_n 0, 1) := by decide +kernel
theorem dX1_bookingsAllowPause_39 : decode cX1_bookingsAllowPause 39 = .ok (.iload_n 2, 1) := by decide +kernel
theorem dX1_bookingsAllowPause_40 : decode cX1_bookingsAllowPause 40 = .ok (.aload_n 0, 1) := by decide +kernel
theorem dX1_bookingsAllowPause_41 : decode cX1_bookingsAllowPause 41 = .ok (.getfield 9, 3) := by decide +kernel
theorem dX1_bookingsAllowPause_44 : decode cX1_bookingsAllowPause 44 = .ok (.iload_n 3, 1) := by decide +kernel
theorem dX1_bookingsAllowPause_45 : decode cX1_bookingsAllowPause 45 = .ok (.iaload, 1) := by decide +kernel
theorem dX1_bookingsAllowPause_46 : decode cX1_bookingsAllowPause 46 = .ok (.aload_n 0, 1) := by decide +kernel
theorem dX1_bookingsAllowPause_47 : decode cX1_bookingsAllowPause 47 = .ok (.getfield 15, 3) := by decide +kernel
theorem dX1_bookingsAllowPause_50 : decode cX1_bookingsAllowPause 50 = .ok (.iload_n 3, 1) := by decide +kernel
theorem dX1_bookingsAllowPause_51 : decode cX1_bookingsAllowPause 51 = .ok (.iaload, 1) := by decide +kernel
theorem dX1_bookingsAllowPause_52 : decode cX1_bookingsAllowPause 52 = .ok (.iload_n 1, 1) := by decide +kernel
theorem dX1_bookingsAllowPause_53 : decode cX1_bookingsAllowPause 53 = .ok (.invokevirtual 46, 3) := by decide +kernel
theorem dX1_bookingsAllowPause_56 : decode cX1_bookingsAllowPause 56 = .ok (.ifCond .eq 5, 3) := by decide +kernel
theorem dX1_bookingsAllowPause_59 : decode cX1_bookingsAllowPause 59 = .ok (.iconst 0, 1) := by decide +kernel
theorem dX1_bookingsAllowPause_60 : decode cX1_bookingsAllowPause 60 = .ok (.ireturn, 1) := by decide +kernel
theorem dX1_bookingsAllowPause_61 : decode cX1_bookingsAllowPause 61 = .ok (.iinc 3 1, 3) := by decide +kernel
theorem dX1_bookingsAllowPause_64 : decode cX1_bookingsAllowPause 64 = .ok (.goto (-50), 3) := by decide +kernel
theorem dX1_bookingsAllowPause_67 : decode cX1_bookingsAllowPause 67 = .ok (.iinc 2 1, 3) := by decide +kernel
theorem dX1_bookingsAllowPause_70 : decode cX1_bookingsAllowPause 70 = .ok (.goto (-68), 3) := by decide +kernel
theorem dX1_bookingsAllowPause_73 : decode cX1_bookingsAllowPause 73 = .ok (.iconst 1, 1) := by decide +kernel
theorem dX1_bookingsAllowPause_74 : decode cX1_bookingsAllowPause 74 = .ok (.ireturn, 1) := by decide +kernel
theorem dX1_beginningAt_0 : decode cX1_beginningAt 0 = .ok (.iconst 0, 1) := by decide +kernel
theorem dX1_beginningAt_1 : decode cX1_beginningAt 1 = .ok (.istore_n 2, 1) := by decide +kernel
theorem dX1_beginningAt_2 : decode cX1_beginningAt 2 = .ok (.iconst 0, 1) := by decide +kernel
theorem dX1_beginningAt_3 : decode cX1_beginningAt 3 = .ok (.istore_n 3, 1) := by decide +kernel
theorem dX1_beginningAt_4 : decode cX1_beginningAt 4 = .ok (.iload_n 3, 1) := by decide +kernel
theorem dX1_beginningAt_5 : decode cX1_beginningAt 5 = .ok (.aload_n 0, 1) := by decide +kernel
theorem dX1_beginningAt_6 : decode cX1_beginningAt 6 = .ok (.getfield 21, 3) := by decide +kernel
theorem dX1_beginningAt_9 : decode cX1_beginningAt 9 = .ok (.if_icmp .ge 22, 3) := by decide +kernel
theorem dX1_beginningAt_12 : decode cX1_beginningAt 12 = .ok (.aload_n 0, 1) := by decide +kernel
theorem dX1_beginningAt_13 : decode cX1_beginningAt 13 = .ok (.getfield 9, 3) := by decide +kernel
theorem dX1_beginningAt_16 : decode cX1_beginningAt 16 = .ok (.iload_n 3, 1) := by decide +kernel
theorem dX1_beginningAt_17 : decode cX1_beginningAt 17 = .ok (.iaload, 1) := by decide +kernel
theorem dX1_beginningAt_18 : decode cX1_beginningAt 18 = .ok (.iload_n 1, 1) := by decide +kernel
theorem dX1_beginningAt_19 : decode cX1_beginningAt 19 = .ok (.if_icmp .ne 6, 3) := by decide +kernel
theorem dX1_beginningAt_22 : decode cX1_beginningAt 22 = .ok (.iinc 2 1, 3) := by decide +kernel
theorem dX1_beginningAt_25 : decode cX1_beginningAt 25 = .ok (.iinc 3 1, 3) := by decide +kernel
theorem dX1_beginningAt_28 : decode cX1_beginningAt 28 = .ok (.goto (-24), 3) := by decide +kernel
theorem dX1_beginningAt_31 : decode cX1_beginningAt 31 = .ok (.iload_n 2, 1) := by decide +kernel
theorem dX1_beginningAt_32 : decode cX1_beginningAt 32 = .ok (.ireturn, 1) := by decide +kernel
theorem dX1_overAt_0 : decode cX1_overAt 0 = .ok (.iconst 0, 1) := by decide +kernel
theorem dX1_overAt_1 : decode cX1_overAt 1 = .ok (.istore_n 2, 1) := by decide +kernel
theorem dX1_overAt_2 : decode cX1_overAt 2 = .ok (.iconst 0, 1) := by decide +kernel
theorem dX1_overAt_3 : decode cX1_overAt 3 = .ok (.istore_n 3, 1) := by decide +kernel
theorem dX1_overAt_4 : decode cX1_overAt 4 = .ok (.iload_n 3, 1) := by decide +kernel
theorem dX1_overAt_5 : decode cX1_overAt 5 = .ok (.aload_n 0, 1) := by decide +kernel
theorem dX1_overAt_6 : decode cX1_overAt 6 = .ok (.getfield 21, 3) := by decide +kernel
theorem dX1_overAt_9 : decode cX1_overAt 9 = .ok (.if_icmp .ge 27, 3) := by decide +kernel
theorem dX1_overAt_12 : decode cX1_overAt 12 = .ok (.aload_n 0, 1) := by decide +kernel
theorem dX1_overAt_13 : decode cX1_overAt 13 = .ok (.getfield 15, 3) := by decide +kernel
theorem dX1_overAt_16 : decode cX1_overAt 16 = .ok (.iload_n 3, 1) := by decide +kernel
theorem dX1_overAt_17 : decode cX1_overAt 17 = .ok (.iaload, 1) := by decide +kernel
theorem dX1_overAt_18 : decode cX1_overAt 18 = .ok (.aload_n 0, 1) := by decide +kernel
theorem dX1_overAt_19 : decode cX1_overAt 19 = .ok (.getfield 25, 3) := by decide +kernel
theorem dX1_overAt_22 : decode cX1_overAt 22 = .ok (.iadd, 1) := by decide +kernel
theorem dX1_overAt_23 : decode cX1_overAt 23 = .ok (.iload_n 1, 1) := by decide +kernel
theorem dX1_overAt_24 : decode cX1_overAt 24 = .ok (.if_icmp .ne 6, 3) := by decide +kernel
theorem dX1_overAt_27 : decode cX1_overAt 27 = .ok (.iinc 2 1, 3) := by decide +kernel
theorem dX1_overAt_30 : decode cX1_overAt 30 = .ok (.iinc 3 1, 3) := by decide +kernel
theorem dX1_overAt_33 : decode cX1_overAt 33 = .ok (.goto (-29), 3) := by decide +kernel
theorem dX1_overAt_36 : decode cX1_overAt 36 = .ok (.iload_n 2, 1) := by decide +kernel
theorem dX1_overAt_37 : decode cX1_overAt 37 = .ok (.ireturn, 1) := by decide +kernel
theorem dX2_init_0 : decode cX2_init 0 = .ok (.aload_n 0, 1) := by decide +kernel
theorem dX2_init_1 : decode cX2_init 1 = .ok (.invokespecial 3, 3) := by decide +kernel
theorem dX2_init_4 : decode cX2_init 4 = .ok (.aload_n 0, 1) := by decide +kernel
theorem dX2_init_5 : decode cX2_init 5 = .ok (.bipush 14, 2) := by decide +kernel
theorem dX2_init_7 : decode cX2_init 7 = .ok (.newarray .int, 2) := by decide +kernel
theorem dX2_init_9 : decode cX2_init 9 = .ok (.putfield 9, 3) := by decide +kernel
theorem dX2_init_12 : decode cX2_init 12 = .ok (.aload_n 0, 1) := by decide +kernel
theorem dX2_init_13 : decode cX2_init 13 = .ok (.bipush 14, 2) := by decide +kernel
theorem dX2_init_15 : decode cX2_init 15 = .ok (.newarray .int, 2) := by decide +kernel
theorem dX2_init_17 : decode cX2_init 17 = .ok (.putfield 15, 3) := by decide +kernel
theorem dX2_init_20 : decode cX2_init 20 = .ok (.return_, 1) := by decide +kernel
set_option maxRecDepth 20000 in
theorem ggX2_sweptPairs_X1_overAt : GoodIn wsX2_sweptPairs wsX1_overAt := goodIn_r _ [5, 6, 7, 8, 14, 15, 16, 17, 18, 19] (by decide +kernel) (by decide +kernel)
set_option maxRecDepth 20000 in
theorem gX2_sweptPairs_X1_overAt : GoodIn wsX2_sweptPairs (wsV RX2 18 RX1 yX1_overAt wsX1_overAt) := goodIn_app (goodIn_of _ (by decide +kernel)) ggX2_sweptPairs_X1_overAt
set_option maxRecDepth 20000 in
theorem ggX2_sweptPairs_X1_beginningAt : GoodIn wsX2_sweptPairs wsX1_beginningAt := goodIn_r _ [12, 6, 13, 14, 15, 16, 17, 18, 19] (by decide +kernel) (by decide +kernel)
set_option maxRecDepth 20000 in
theorem gX2_sweptPairs_X1_beginningAt : GoodIn wsX2_sweptPairs (wsV RX2 24 RX1 yX1_beginningAt wsX1_beginningAt) := goodIn_app (goodIn_of _ (by decide +kernel)) ggX2_sweptPairs_X1_beginningAt
theorem dX2_sweptPairs_0 : decode cX2_sweptPairs 0 = .ok (.iconst 0, 1) := by decide +kernel
theorem dX2_sweptPairs_1 : decode cX2_sweptPairs 1 = .ok (.istore_n 2, 1) := by decide +kernel
theorem dX2_sweptPairs_2 : decode cX2_sweptPairs 2 = .ok (.iconst 0, 1) := by decide +kernel
theorem dX2_sweptPairs_3 : decode cX2_sweptPairs 3 = .ok (.istore_n 3, 1) := by decide +kernel
theorem dX2_sweptPairs_4 : decode cX2_sweptPairs 4 = .ok (.iconst 0, 1) := by decide +kernel
theorem dX2_sweptPairs_5 : decode cX2_sweptPairs 5 = .ok (.istore 4, 2) := by decide +kernel
theorem dX2_sweptPairs_7 : decode cX2_sweptPairs 7 = .ok (.iload 4, 2) := by decide +kernel
theorem dX2_sweptPairs_9 : decode cX2_sweptPairs 9 = .ok (.bipush 96, 2) := by decide +kernel
theorem dX2_sweptPairs_11 : decode cX2_sweptPairs 11 = .ok (.if_icmp .ge 48, 3) := by decide +kernel
theorem dX2_sweptPairs_14 : decode cX2_sweptPairs 14 = .ok (.iload_n 3, 1) := by decide +kernel
theorem dX2_sweptPairs_15 : decode cX2_sweptPairs 15 = .ok (.aload_n 1, 1) := by decide +kernel
theorem dX2_sweptPairs_16 : decode cX2_sweptPairs 16 = .ok (.iload 4, 2) := by decide +kernel
theorem dX2_sweptPairs_18 : decode cX2_sweptPairs 18 = .ok (.invokevirtual 18, 3) := by decide +kernel
theorem dX2_sweptPairs_21 : decode cX2_sweptPairs 21 = .ok (.isub, 1) := by decide +kernel
theorem dX2_sweptPairs_22 : decode cX2_sweptPairs 22 = .ok (.istore_n 3, 1) := by decide +kernel
theorem dX2_sweptPairs_23 : decode cX2_sweptPairs 23 = .ok (.aload_n 1, 1) := by decide +kernel
theorem dX2_sweptPairs_24 : decode cX2_sweptPairs 24 = .ok (.iload 4, 2) := by decide +kernel
theorem dX2_sweptPairs_26 : decode cX2_sweptPairs 26 = .ok (.invokevirtual 24, 3) := by decide +kernel
theorem dX2_sweptPairs_29 : decode cX2_sweptPairs 29 = .ok (.istore 5, 2) := by decide +kernel
theorem dX2_sweptPairs_31 : decode cX2_sweptPairs 31 = .ok (.iload_n 2, 1) := by decide +kernel
theorem dX2_sweptPairs_32 : decode cX2_sweptPairs 32 = .ok (.iload 5, 2) := by decide +kernel
theorem dX2_sweptPairs_34 : decode cX2_sweptPairs 34 = .ok (.iload_n 3, 1) := by decide +kernel
theorem dX2_sweptPairs_35 : decode cX2_sweptPairs 35 = .ok (.imul, 1) := by decide +kernel
theorem dX2_sweptPairs_36 : decode cX2_sweptPairs 36 = .ok (.iload 5, 2) := by decide +kernel
theorem dX2_sweptPairs_38 : decode cX2_sweptPairs 38 = .ok (.iload 5, 2) := by decide +kernel
theorem dX2_sweptPairs_40 : decode cX2_sweptPairs 40 = .ok (.iconst 1, 1) := by decide +kernel
theorem dX2_sweptPairs_41 : decode cX2_sweptPairs 41 = .ok (.isub, 1) := by decide +kernel
theorem dX2_sweptPairs_42 : decode cX2_sweptPairs 42 = .ok (.imul, 1) := by decide +kernel
theorem dX2_sweptPairs_43 : decode cX2_sweptPairs 43 = .ok (.iconst 2, 1) := by decide +kernel
theorem dX2_sweptPairs_44 : decode cX2_sweptPairs 44 = .ok (.idiv, 1) := by decide +kernel
theorem dX2_sweptPairs_45 : decode cX2_sweptPairs 45 = .ok (.iadd, 1) := by decide +kernel
theorem dX2_sweptPairs_46 : decode cX2_sweptPairs 46 = .ok (.iadd, 1) := by decide +kernel
theorem dX2_sweptPairs_47 : decode cX2_sweptPairs 47 = .ok (.istore_n 2, 1) := by decide +kernel
theorem dX2_sweptPairs_48 : decode cX2_sweptPairs 48 = .ok (.iload_n 3, 1) := by decide +kernel
theorem dX2_sweptPairs_49 : decode cX2_sweptPairs 49 = .ok (.iload 5, 2) := by decide +kernel
theorem dX2_sweptPairs_51 : decode cX2_sweptPairs 51 = .ok (.iadd, 1) := by decide +kernel
theorem dX2_sweptPairs_52 : decode cX2_sweptPairs 52 = .ok (.istore_n 3, 1) := by decide +kernel
theorem dX2_sweptPairs_53 : decode cX2_sweptPairs 53 = .ok (.iinc 4 1, 3) := by decide +kernel
theorem dX2_sweptPairs_56 : decode cX2_sweptPairs 56 = .ok (.goto (-49), 3) := by decide +kernel
theorem dX2_sweptPairs_59 : decode cX2_sweptPairs 59 = .ok (.iload_n 2, 1) := by decide +kernel
theorem dX2_sweptPairs_60 : decode cX2_sweptPairs 60 = .ok (.ireturn, 1) := by decide +kernel
set_option maxRecDepth 20000 in
theorem ggX2_sweptRooms_X1_beginningAt : GoodIn wsX2_sweptRooms wsX1_beginningAt := goodIn_r _ [9, 10, 11, 18, 19, 20, 21, 22, 23] (by decide +kernel) (by decide +kernel)
set_option maxRecDepth 20000 in
theorem gX2_sweptRooms_X1_beginningAt : GoodIn wsX2_sweptRooms (wsV RX2 24 RX1 yX1_beginningAt wsX1_beginningAt) := goodIn_app (goodIn_of _ (by decide +kernel)) ggX2_sweptRooms_X1_beginningAt
set_option maxRecDepth 20000 in
theorem ggX2_sweptRooms_X1_overAt : GoodIn wsX2_sweptRooms wsX1_overAt := goodIn_r _ [15, 10, 16, 17, 18, 19, 20, 21, 22, 23] (by decide +kernel) (by decide +kernel)
set_option maxRecDepth 20000 in
theorem gX2_sweptRooms_X1_overAt : GoodIn wsX2_sweptRooms (wsV RX2 18 RX1 yX1_overAt wsX1_overAt) := goodIn_app (goodIn_of _ (by decide +kernel)) ggX2_sweptRooms_X1_overAt
theorem dX2_sweptRooms_0 : decode cX2_sweptRooms 0 = .ok (.iconst 0, 1) := by decide +kernel
theorem dX2_sweptRooms_1 : decode cX2_sweptRooms 1 = .ok (.istore_n 2, 1) := by decide +kernel
theorem dX2_sweptRooms_2 : decode cX2_sweptRooms 2 = .ok (.iconst 0, 1) := by decide +kernel
theorem dX2_sweptRooms_3 : decode cX2_sweptRooms 3 = .ok (.istore_n 3, 1) := by decide +kernel
theorem dX2_sweptRooms_4 : decode cX2_sweptRooms 4 = .ok (.iconst 0, 1) := by decide +kernel
theorem dX2_sweptRooms_5 : decode cX2_sweptRooms 5 = .ok (.istore 4, 2) := by decide +kernel
theorem dX2_sweptRooms_7 : decode cX2_sweptRooms 7 = .ok (.iload 4, 2) := by decide +kernel
theorem dX2_sweptRooms_9 : decode cX2_sweptRooms 9 = .ok (.bipush 96, 2) := by decide +kernel
theorem dX2_sweptRooms_11 : decode cX2_sweptRooms 11 = .ok (.if_icmp .ge 31, 3) := by decide +kernel
theorem dX2_sweptRooms_14 : decode cX2_sweptRooms 14 = .ok (.iload_n 3, 1) := by decide +kernel
theorem dX2_sweptRooms_15 : decode cX2_sweptRooms 15 = .ok (.aload_n 1, 1) := by decide +kernel
theorem dX2_sweptRooms_16 : decode cX2_sweptRooms 16 = .ok (.iload 4, 2) := by decide +kernel
theorem dX2_sweptRooms_18 : decode cX2_sweptRooms 18 = .ok (.invokevirtual 24, 3) := by decide +kernel
theorem dX2_sweptRooms_21 : decode cX2_sweptRooms 21 = .ok (.aload_n 1, 1) := by decide +kernel
theorem dX2_sweptRooms_22 : decode cX2_sweptRooms 22 = .ok (.iload 4, 2) := by decide +kernel
theorem dX2_sweptRooms_24 : decode cX2_sweptRooms 24 = .ok (.invokevirtual 18, 3) := by decide +kernel
theorem dX2_sweptRooms_27 : decode cX2_sweptRooms 27 = .ok (.isub, 1) := by decide +kernel
theorem dX2_sweptRooms_28 : decode cX2_sweptRooms 28 = .ok (.iadd, 1) := by decide +kernel
theorem dX2_sweptRooms_29 : decode cX2_sweptRooms 29 = .ok (.istore_n 3, 1) := by decide +kernel
theorem dX2_sweptRooms_30 : decode cX2_sweptRooms 30 = .ok (.iload_n 2, 1) := by decide +kernel
theorem dX2_sweptRooms_31 : decode cX2_sweptRooms 31 = .ok (.iload_n 3, 1) := by decide +kernel
theorem dX2_sweptRooms_32 : decode cX2_sweptRooms 32 = .ok (.invokestatic 27, 3) := by decide +kernel
theorem dX2_sweptRooms_35 : decode cX2_sweptRooms 35 = .ok (.istore_n 2, 1) := by decide +kernel
theorem dX2_sweptRooms_36 : decode cX2_sweptRooms 36 = .ok (.iinc 4 1, 3) := by decide +kernel
theorem dX2_sweptRooms_39 : decode cX2_sweptRooms 39 = .ok (.goto (-32), 3) := by decide +kernel
theorem dX2_sweptRooms_42 : decode cX2_sweptRooms 42 = .ok (.iload_n 2, 1) := by decide +kernel
theorem dX2_sweptRooms_43 : decode cX2_sweptRooms 43 = .ok (.ireturn, 1) := by decide +kernel
set_option maxRecDepth 20000 in
theorem ggX2_givenRooms_X2_giveAll : GoodIn wsX2_givenRooms wsX2_giveAll := goodIn_r _ [11, 12, 1, 13, 2, 14, 15, 16, 17, 18, 19, 10, 20, 21, 22, 23, 24, 25, 26, 27, 28, 29, 30, 31, 32, 33, 34, 35, 36, 37, 38, 39, 40, 41, 42, 43, 44, 45] (by decide +kernel) (by decide +kernel)
set_option maxRecDepth 20000 in
theorem gX2_givenRooms_X2_giveAll : GoodIn wsX2_givenRooms (wsV RX2 33 RX2 yX2_giveAll wsX2_giveAll) := goodIn_app (goodIn_of _ (by decide +kernel)) ggX2_givenRooms_X2_giveAll
theorem dX2_givenRooms_0 : decode cX2_givenRooms 0 = .ok (.aload_n 0, 1) := by decide +kernel
theorem dX2_givenRooms_1 : decode cX2_givenRooms 1 = .ok (.aload_n 1, 1) := by decide +kernel
theorem dX2_givenRooms_2 : decode cX2_givenRooms 2 = .ok (.invokevirtual 33, 3) := by decide +kernel
theorem dX2_givenRooms_5 : decode cX2_givenRooms 5 = .ok (.iconst 0, 1) := by decide +kernel
theorem dX2_givenRooms_6 : decode cX2_givenRooms 6 = .ok (.istore_n 2, 1) := by decide +kernel
theorem dX2_givenRooms_7 : decode cX2_givenRooms 7 = .ok (.iconst 0, 1) := by decide +kernel
theorem dX2_givenRooms_8 : decode cX2_givenRooms 8 = .ok (.istore_n 3, 1) := by decide +kernel
theorem dX2_givenRooms_9 : decode cX2_givenRooms 9 = .ok (.iload_n 3, 1) := by decide +kernel
theorem dX2_givenRooms_10 : decode cX2_givenRooms 10 = .ok (.aload_n 1, 1) := by decide +kernel
theorem dX2_givenRooms_11 : decode cX2_givenRooms 11 = .ok (.getfield 37, 3) := by decide +kernel
theorem dX2_givenRooms_14 : decode cX2_givenRooms 14 = .ok (.if_icmp .ge 22, 3) := by decide +kernel
theorem dX2_givenRooms_17 : decode cX2_givenRooms 17 = .ok (.iload_n 2, 1) := by decide +kernel
theorem dX2_givenRooms_18 : decode cX2_givenRooms 18 = .ok (.aload_n 0, 1) := by decide +kernel
theorem dX2_givenRooms_19 : decode cX2_givenRooms 19 = .ok (.getfield 15, 3) := by decide +kernel
theorem dX2_givenRooms_22 : decode cX2_givenRooms 22 = .ok (.iload_n 3, 1) := by decide +kernel
theorem dX2_givenRooms_23 : decode cX2_givenRooms 23 = .ok (.iaload, 1) := by decide +kernel
theorem dX2_givenRooms_24 : decode cX2_givenRooms 24 = .ok (.iconst 1, 1) := by decide +kernel
theorem dX2_givenRooms_25 : decode cX2_givenRooms 25 = .ok (.iadd, 1) := by decide +kernel
theorem dX2_givenRooms_26 : decode cX2_givenRooms 26 = .ok (.invokestatic 27, 3) := by decide +kernel
theorem dX2_givenRooms_29 : decode cX2_givenRooms 29 = .ok (.istore_n 2, 1) := by decide +kernel
theorem dX2_givenRooms_30 : decode cX2_givenRooms 30 = .ok (.iinc 3 1, 3) := by decide +kernel
theorem dX2_givenRooms_33 : decode cX2_givenRooms 33 = .ok (.goto (-24), 3) := by decide +kernel
theorem dX2_givenRooms_36 : decode cX2_givenRooms 36 = .ok (.iload_n 2, 1) := by decide +kernel
theorem dX2_givenRooms_37 : decode cX2_givenRooms 37 = .ok (.ireturn, 1) := by decide +kernel
set_option maxRecDepth 20000 in
theorem ggX2_givenTo_X2_giveAll : GoodIn wsX2_givenTo wsX2_giveAll := goodIn_r _ [6, 7, 8, 9, 1, 10, 11, 12, 13, 14, 15, 5, 16, 17, 18, 19, 20, 21, 22, 23, 24, 25, 26, 27, 28, 29, 30, 31, 32, 33, 36, 37, 38, 39, 40, 41, 34, 35] (by decide +kernel) (by decide +kernel)
set_option maxRecDepth 20000 in
theorem gX2_givenTo_X2_giveAll : GoodIn wsX2_givenTo (wsV RX2 33 RX2 yX2_giveAll wsX2_giveAll) := goodIn_app (goodIn_of _ (by decide +kernel)) ggX2_givenTo_X2_giveAll
theorem dX2_givenTo_0 : decode cX2_givenTo 0 = .ok (.aload_n 0, 1) := by decide +kernel
theorem dX2_givenTo_1 : decode cX2_givenTo 1 = .ok (.aload_n 1, 1) := by decide +kernel
theorem dX2_givenTo_2 : decode cX2_givenTo 2 = .ok (.invokevirtual 33, 3) := by decide +kernel
theorem dX2_givenTo_5 : decode cX2_givenTo 5 = .ok (.aload_n 0, 1) := by decide +kernel
theorem dX2_givenTo_6 : decode cX2_givenTo 6 = .ok (.getfield 15, 3) := by decide +kernel
theorem dX2_givenTo_9 : decode cX2_givenTo 9 = .ok (.iload_n 2, 1) := by decide +kernel
theorem dX2_givenTo_10 : decode cX2_givenTo 10 = .ok (.iaload, 1) := by decide +kernel
theorem dX2_givenTo_11 : decode cX2_givenTo 11 = .ok (.ireturn, 1) := by decide +kernel
set_option maxRecDepth 20000 in
theorem ggX2_giveAll_X5_orderBy : GoodIn wsX2_giveAll wsX5_orderBy := goodIn_r _ [7] (by decide +kernel) (by decide +kernel)
set_option maxRecDepth 20000 in
theorem gX2_giveAll_X5_orderBy_n44 : GoodIn wsX2_giveAll (wsX5_orderBy) := ggX2_giveAll_X5_orderBy
set_option maxRecDepth 20000 in
theorem ggX2_giveAll_X2_lowestRoomFor : GoodIn wsX2_giveAll wsX2_lowestRoomFor := goodIn_r _ [12, 3, 4, 13, 14, 15, 16, 17, 18, 19, 20, 21, 22, 23, 24, 25, 6, 26, 27, 28, 29, 36, 37, 30, 31, 32, 33, 34, 35] (by decide +kernel) (by decide +kernel)
set_option maxRecDepth 20000 in
theorem gX2_giveAll_X2_lowestRoomFor : GoodIn wsX2_giveAll (wsV RX2 48 RX2 yX2_lowestRoomFor wsX2_lowestRoomFor) := goodIn_app (goodIn_of _ (by decide +kernel)) ggX2_giveAll_X2_lowestRoomFor
theorem dX2_giveAll_0 : decode cX2_giveAll 0 = .ok (.aload_n 1, 1) := by decide +kernel
theorem dX2_giveAll_1 : decode cX2_giveAll 1 = .ok (.getfield 41, 3) := by decide +kernel
theorem dX2_giveAll_4 : decode cX2_giveAll 4 = .ok (.aload_n 1, 1) := by decide +kernel
theorem dX2_giveAll_5 : decode cX2_giveAll 5 = .ok (.getfield 37, 3) := by decide +kernel
theorem dX2_giveAll_8 : decode cX2_giveAll 8 = .ok (.aload_n 0, 1) := by decide +kernel
theorem dX2_giveAll_9 : decode cX2_giveAll 9 = .ok (.getfield 9, 3) := by decide +kernel
theorem dX2_giveAll_12 : decode cX2_giveAll 12 = .ok (.invokestatic 44, 3) := by decide +kernel
theorem dX2_giveAll_15 : decode cX2_giveAll 15 = .ok (.iconst 0, 1) := by decide +kernel
theorem dX2_giveAll_16 : decode cX2_giveAll 16 = .ok (.istore_n 2, 1) := by decide +kernel
theorem dX2_giveAll_17 : decode cX2_giveAll 17 = .ok (.iload_n 2, 1) := by decide +kernel
theorem dX2_giveAll_18 : decode cX2_giveAll 18 = .ok (.aload_n 1, 1) := by decide +kernel
theorem dX2_giveAll_19 : decode cX2_giveAll 19 = .ok (.getfield 37, 3) := by decide +kernel
theorem dX2_giveAll_22 : decode cX2_giveAll 22 = .ok (.if_icmp .ge 26, 3) := by decide +kernel
theorem dX2_giveAll_25 : decode cX2_giveAll 25 = .ok (.aload_n 0, 1) := by decide +kernel
theorem dX2_giveAll_26 : decode cX2_giveAll 26 = .ok (.getfield 15, 3) := by decide +kernel
theorem dX2_giveAll_29 : decode cX2_giveAll 29 = .ok (.aload_n 0, 1) := by decide +kernel
theorem dX2_giveAll_30 : decode cX2_giveAll 30 = .ok (.getfield 9, 3) := by decide +kernel
theorem dX2_giveAll_33 : decode cX2_giveAll 33 = .ok (.iload_n 2, 1) := by decide +kernel
theorem dX2_giveAll_34 : decode cX2_giveAll 34 = .ok (.iaload, 1) := by decide +kernel
theorem dX2_giveAll_35 : decode cX2_giveAll 35 = .ok (.aload_n 0, 1) := by decide +kernel
theorem dX2_giveAll_36 : decode cX2_giveAll 36 = .ok (.aload_n 1, 1) := by decide +kernel
theorem dX2_giveAll_37 : decode cX2_giveAll 37 = .ok (.iload_n 2, 1) := by decide +kernel
theorem dX2_giveAll_38 : decode cX2_giveAll 38 = .ok (.invokevirtual 48, 3) := by decide +kernel
theorem dX2_giveAll_41 : decode cX2_giveAll 41 = .ok (.iastore, 1) := by decide +kernel
theorem dX2_giveAll_42 : decode cX2_giveAll 42 = .ok (.iinc 2 1, 3) := by decide +kernel
theorem dX2_giveAll_45 : decode cX2_giveAll 45 = .ok (.goto (-28), 3) := by decide +kernel
theorem dX2_giveAll_48 : decode cX2_giveAll 48 = .ok (.return_, 1) := by decide +kernel
set_option maxRecDepth 20000 in
theorem ggX2_lowestRoomFor_X1_clash : GoodIn wsX2_lowestRoomFor wsX1_clash := goodIn_r _ [7, 8, 9, 10, 11, 12, 13, 6, 14, 23, 24, 25, 26, 27, 28] (by decide +kernel) (by decide +kernel)
set_option maxRecDepth 20000 in
theorem gX2_lowestRoomFor_X1_clash : GoodIn wsX2_lowestRoomFor (wsV RX2 52 RX1 yX1_clash wsX1_clash) := goodIn_app (goodIn_of _ (by decide +kernel)) ggX2_lowestRoomFor_X1_clash
set_option maxRecDepth 20000 in
theorem ggX2_lowestRoomFor_X5_bit : GoodIn wsX2_lowestRoomFor wsX5_bit := goodIn_r _ [17] (by decide +kernel) (by decide +kernel)
set_option maxRecDepth 20000 in
theorem gX2_lowestRoomFor_X5_bit_n56 : GoodIn wsX2_lowestRoomFor (wsX5_bit) := ggX2_lowestRoomFor_X5_bit
set_option maxRecDepth 20000 in
theorem ggX2_lowestRoomFor_X5_isIn : GoodIn wsX2_lowestRoomFor wsX5_isIn := goodIn_r _ [19, 20, 15, 16, 17] (by decide +kernel) (by decide +kernel)
set_option maxRecDepth 20000 in
theorem gX2_lowestRoomFor_X5_isIn_n59 : GoodIn wsX2_lowestRoomFor (wsX5_isIn) := ggX2_lowestRoomFor_X5_isIn
theorem dX2_lowestRoomFor_0 : decode cX2_lowestRoomFor 0 = .ok (.iconst 0, 1) := by decide +kernel
theorem dX2_lowestRoomFor_1 : decode cX2_lowestRoomFor 1 = .ok (.istore_n 3, 1) := by decide +kernel
theorem dX2_lowestRoomFor_2 : decode cX2_lowestRoomFor 2 = .ok (.iconst 0, 1) := by decide +kernel
theorem dX2_lowestRoomFor_3 : decode cX2_lowestRoomFor 3 = .ok (.istore 4, 2) := by decide +kernel
theorem dX2_lowestRoomFor_5 : decode cX2_lowestRoomFor 5 = .ok (.iload 4, 2) := by decide +kernel
theorem dX2_lowestRoomFor_7 : decode cX2_lowestRoomFor 7 = .ok (.iload_n 2, 1) := by decide +kernel
theorem dX2_lowestRoomFor_8 : decode cX2_lowestRoomFor 8 = .ok (.if_icmp .ge 47, 3) := by decide +kernel
theorem dX2_lowestRoomFor_11 : decode cX2_lowestRoomFor 11 = .ok (.aload_n 1, 1) := by decide +kernel
theorem dX2_lowestRoomFor_12 : decode cX2_lowestRoomFor 12 = .ok (.aload_n 0, 1) := by decide +kernel
theorem dX2_lowestRoomFor_13 : decode cX2_lowestRoomFor 13 = .ok (.getfield 9, 3) := by decide +kernel
theorem dX2_lowestRoomFor_16 : decode cX2_lowestRoomFor 16 = .ok (.iload_n 2, 1) := by decide +kernel
theorem dX2_lowestRoomFor_17 : decode cX2_lowestRoomFor 17 = .ok (.iaload, 1) := by decide +kernel
theorem dX2_lowestRoomFor_18 : decode cX2_lowestRoomFor 18 = .ok (.aload_n 0, 1) := by decide +kernel
theorem dX2_lowestRoomFor_19 : decode cX2_lowestRoomFor 19 = .ok (.getfield 9, 3) := by decide +kernel
theorem dX2_lowestRoomFor_22 : decode cX2_lowestRoomFor 22 = .ok (.iload 4, 2) := by decide +kernel
theorem dX2_lowestRoomFor_24 : decode cX2_lowestRoomFor 24 = .ok (.iaload, 1) := by decide +kernel
theorem dX2_lowestRoomFor_25 : decode cX2_lowestRoomFor 25 = .ok (.invokevirtual 52, 3) := by decide +kernel
theorem dX2_lowestRoomFor_28 : decode cX2_lowestRoomFor 28 = .ok (.ifCond .eq 21, 3) := by decide +kernel
theorem dX2_lowestRoomFor_31 : decode cX2_lowestRoomFor 31 = .ok (.iload_n 3, 1) := by decide +kernel
theorem dX2_lowestRoomFor_32 : decode cX2_lowestRoomFor 32 = .ok (.aload_n 0, 1) := by decide +kernel
theorem dX2_lowestRoomFor_33 : decode cX2_lowestRoomFor 33 = .ok (.getfield 15, 3) := by decide +kernel
theorem dX2_lowestRoomFor_36 : decode cX2_lowestRoomFor 36 = .ok (.aload_n 0, 1) := by decide +kernel
theorem dX2_lowestRoomFor_37 : decode cX2_lowestRoomFor 37 = .ok (.getfield 9, 3) := by decide +kernel
theorem dX2_lowestRoomFor_40 : decode cX2_lowestRoomFor 40 = .ok (.iload 4, 2) := by decide +kernel
theorem dX2_lowestRoomFor_42 : decode cX2_lowestRoomFor 42 = .ok (.iaload, 1) := by decide +kernel
theorem dX2_lowestRoomFor_43 : decode cX2_lowestRoomFor 43 = .ok (.iaload, 1) := by decide +kernel
theorem dX2_lowestRoomFor_44 : decode cX2_lowestRoomFor 44 = .ok (.invokestatic 56, 3) := by decide +kernel
theorem dX2_lowestRoomFor_47 : decode cX2_lowestRoomFor 47 = .ok (.ior, 1) := by decide +kernel
theorem dX2_lowestRoomFor_48 : decode cX2_lowestRoomFor 48 = .ok (.istore_n 3, 1) := by decide +kernel
theorem dX2_lowestRoomFor_49 : decode cX2_lowestRoomFor 49 = .ok (.iinc 4 1, 3) := by decide +kernel
theorem dX2_lowestRoomFor_52 : decode cX2_lowestRoomFor 52 = .ok (.goto (-47), 3) := by decide +kernel
theorem dX2_lowestRoomFor_55 : decode cX2_lowestRoomFor 55 = .ok (.iconst 0, 1) := by decide +kernel
theorem dX2_lowestRoomFor_56 : decode cX2_lowestRoomFor 56 = .ok (.istore 4, 2) := by decide +kernel
theorem dX2_lowestRoomFor_58 : decode cX2_lowestRoomFor 58 = .ok (.iload 4, 2) := by decide +kernel
theorem dX2_lowestRoomFor_60 : decode cX2_lowestRoomFor 60 = .ok (.iload_n 2, 1) := by decide +kernel
theorem dX2_lowestRoomFor_61 : decode cX2_lowestRoomFor 61 = .ok (.if_icmp .ge 18, 3) := by decide +kernel
theorem dX2_lowestRoomFor_64 : decode cX2_lowestRoomFor 64 = .ok (.iload_n 3, 1) := by decide +kernel
theorem dX2_lowestRoomFor_65 : decode cX2_lowestRoomFor 65 = .ok (.iload 4, 2) := by decide +kernel
theorem dX2_lowestRoomFor_67 : decode cX2_lowestRoomFor 67 = .ok (.invokestatic 59, 3) := by decide +kernel
theorem dX2_lowestRoomFor_70 : decode cX2_lowestRoomFor 70 = .ok (.ifCond .eq 9, 3) := by decide +kernel
theorem dX2_lowestRoomFor_73 : decode cX2_lowestRoomFor 73 = .ok (.iinc 4 1, 3) := by decide +kernel
theorem dX2_lowestRoomFor_76 : decode cX2_lowestRoomFor 76 = .ok (.goto (-18), 3) := by decide +kernel
theorem dX2_lowestRoomFor_79 : decode cX2_lowestRoomFor 79 = .ok (.iload 4, 2) := by decide +kernel
theorem dX2_lowestRoomFor_81 : decode cX2_lowestRoomFor 81 = .ok (.ireturn, 1) := by decide +kernel
set_option maxRecDepth 20000 in
theorem ggX3_init_X1_init : GoodIn wsX3_init wsX1_init := goodIn_r _ [11, 12, 2, 3, 13, 14, 15, 16, 17, 18, 19, 23, 24, 25, 26, 27, 28] (by decide +kernel) (by decide +kernel)
set_option maxRecDepth 20000 in
theorem gX3_init_X1_init_n24 : GoodIn wsX3_init (wsX1_init) := ggX3_init_X1_init
theorem dX3_init_0 : decode cX3_init 0 = .ok (.aload_n 0, 1) := by decide +kernel
theorem dX3_init_1 : decode cX3_init 1 = .ok (.invokespecial 3, 3) := by decide +kernel
theorem dX3_init_4 : decode cX3_init 4 = .ok (.aload_n 0, 1) := by decide +kernel
theorem dX3_init_5 : decode cX3_init 5 = .ok (.bipush 6, 2) := by decide +kernel
theorem dX3_init_7 : decode cX3_init 7 = .ok (.anewarray 9, 3) := by decide +kernel
theorem dX3_init_10 : decode cX3_init 10 = .ok (.putfield 11, 3) := by decide +kernel
theorem dX3_init_13 : decode cX3_init 13 = .ok (.aload_n 0, 1) := by decide +kernel
theorem dX3_init_14 : decode cX3_init 14 = .ok (.iconst 0, 1) := by decide +kernel
theorem dX3_init_15 : decode cX3_init 15 = .ok (.putfield 17, 3) := by decide +kernel
theorem dX3_init_18 : decode cX3_init 18 = .ok (.aload_n 0, 1) := by decide +kernel
theorem dX3_init_19 : decode cX3_init 19 = .ok (.iconst 0, 1) := by decide +kernel
theorem dX3_init_20 : decode cX3_init 20 = .ok (.putfield 21, 3) := by decide +kernel
theorem dX3_init_23 : decode cX3_init 23 = .ok (.iconst 0, 1) := by decide +kernel
theorem dX3_init_24 : decode cX3_init 24 = .ok (.istore_n 1, 1) := by decide +kernel
theorem dX3_init_25 : decode cX3_init 25 = .ok (.iload_n 1, 1) := by decide +kernel
theorem dX3_init_26 : decode cX3_init 26 = .ok (.bipush 6, 2) := by decide +kernel
theorem dX3_init_28 : decode cX3_init 28 = .ok (.if_icmp .ge 22, 3) := by decide +kernel
theorem dX3_init_31 : decode cX3_init 31 = .ok (.aload_n 0, 1) := by decide +kernel
theorem dX3_init_32 : decode cX3_init 32 = .ok (.getfield 11, 3) := by decide +kernel
theorem dX3_init_35 : decode cX3_init 35 = .ok (.iload_n 1, 1) := by decide +kernel
theorem dX3_init_36 : decode cX3_init 36 = .ok (.new 9, 3) := by decide +kernel
theorem dX3_init_39 : decode cX3_init 39 = .ok (.dup, 1) := by decide +kernel
theorem dX3_init_40 : decode cX3_init 40 = .ok (.invokespecial 24, 3) := by decide +kernel
theorem dX3_init_43 : decode cX3_init 43 = .ok (.aastore, 1) := by decide +kernel
theorem dX3_init_44 : decode cX3_init 44 = .ok (.iinc 1 1, 3) := by decide +kernel
theorem dX3_init_47 : decode cX3_init 47 = .ok (.goto (-22), 3) := by decide +kernel
theorem dX3_init_50 : decode cX3_init 50 = .ok (.return_, 1) := by decide +kernel
set_option maxRecDepth 20000 in
theorem ggX3_save_X1_copyFrom : GoodIn wsX3_save wsX1_copyFrom := goodIn_r _ [8, 9, 10, 11, 12, 13, 14, 7, 15, 16, 17, 18, 22, 23, 24, 25, 26, 27] (by decide +kernel) (by decide +kernel)
set_option maxRecDepth 20000 in
theorem gX3_save_X1_copyFrom : GoodIn wsX3_save (wsV RX3 25 RX1 yX1_copyFrom wsX1_copyFrom) := goodIn_app (goodIn_of _ (by decide +kernel)) ggX3_save_X1_copyFrom
theorem dX3_save_0 : decode cX3_save 0 = .ok (.aload_n 0, 1) := by decide +kernel
theorem dX3_save_1 : decode cX3_save 1 = .ok (.getfield 21, 3) := by decide +kernel
theorem dX3_save_4 : decode cX3_save 4 = .ok (.bipush 6, 2) := by decide +kernel
theorem dX3_save_6 : decode cX3_save 6 = .ok (.if_icmp .ne 26, 3) := by decide +kernel
theorem dX3_save_9 : decode cX3_save 9 = .ok (.aload_n 0, 1) := by decide +kernel
theorem dX3_save_10 : decode cX3_save 10 = .ok (.aload_n 0, 1) := by decide +kernel
theorem dX3_save_11 : decode cX3_save 11 = .ok (.getfield 17, 3) := by decide +kernel
theorem dX3_save_14 : decode cX3_save 14 = .ok (.iconst 1, 1) := by decide +kernel
theorem dX3_save_15 : decode cX3_save 15 = .ok (.iadd, 1) := by decide +kernel
theorem dX3_save_16 : decode cX3_save 16 = .ok (.bipush 6, 2) := by decide +kernel
theorem dX3_save_18 : decode cX3_save 18 = .ok (.irem, 1) := by decide +kernel
theorem dX3_save_19 : decode cX3_save 19 = .ok (.putfield 17, 3) := by decide +kernel
theorem dX3_save_22 : decode cX3_save 22 = .ok (.aload_n 0, 1) := by decide +kernel
theorem dX3_save_23 : decode cX3_save 23 = .ok (.dup, 1) := by decide +kernel
theorem dX3_save_24 : decode cX3_save 24 = .ok (.getfield 21, 3) := by decide +kernel
theorem dX3_save_27 : decode cX3_save 27 = .ok (.iconst 1, 1) := by decide +kernel
theorem dX3_save_28 : decode cX3_save 28 = .ok (.isub, 1) := by decide +kernel
theorem dX3_save_29 : decode cX3_save 29 = .ok (.putfield 21, 3) := by decide +kernel
theorem dX3_save_32 : decode cX3_save 32 = .ok (.aload_n 0, 1) := by decide +kernel
theorem dX3_save_33 : decode cX3_save 33 = .ok (.getfield 11, 3) := by decide +kernel
theorem dX3_save_36 : decode cX3_save 36 = .ok (.aload_n 0, 1) := by decide +kernel
theorem dX3_save_37 : decode cX3_save 37 = .ok (.getfield 17, 3) := by decide +kernel
theorem dX3_save_40 : decode cX3_save 40 = .ok (.aload_n 0, 1) := by decide +kernel
theorem dX3_save_41 : decode cX3_save 41 = .ok (.getfield 21, 3) := by decide +kernel
theorem dX3_save_44 : decode cX3_save 44 = .ok (.iadd, 1) := by decide +kernel
theorem dX3_save_45 : decode cX3_save 45 = .ok (.bipush 6, 2) := by decide +kernel
theorem dX3_save_47 : decode cX3_save 47 = .ok (.irem, 1) := by decide +kernel
theorem dX3_save_48 : decode cX3_save 48 = .ok (.aaload, 1) := by decide +kernel
theorem dX3_save_49 : decode cX3_save 49 = .ok (.aload_n 1, 1) := by decide +kernel
theorem dX3_save_50 : decode cX3_save 50 = .ok (.invokevirtual 25, 3) := by decide +kernel
theorem dX3_save_53 : decode cX3_save 53 = .ok (.aload_n 0, 1) := by decide +kernel
theorem dX3_save_54 : decode cX3_save 54 = .ok (.dup, 1) := by decide +kernel
theorem dX3_save_55 : decode cX3_save 55 = .ok (.getfield 21, 3) := by decide +kernel
theorem dX3_save_58 : decode cX3_save 58 = .ok (.iconst 1, 1) := by decide +kernel
theorem dX3_save_59 : decode cX3_save 59 = .ok (.iadd, 1) := by decide +kernel
theorem dX3_save_60 : decode cX3_save 60 = .ok (.putfield 21, 3) := by decide +kernel
theorem dX3_save_63 : decode cX3_save 63 = .ok (.return_, 1) := by decide +kernel
set_option maxRecDepth 20000 in
theorem ggX3_restoreLatest_X1_copyFrom : GoodIn wsX3_restoreLatest wsX1_copyFrom := goodIn_r _ [8, 9, 10, 11, 12, 13, 14, 7, 15, 16, 17, 18, 22, 23, 24, 25, 26, 27] (by decide +kernel) (by decide +kernel)
set_option maxRecDepth 20000 in
theorem gX3_restoreLatest_X1_copyFrom : GoodIn wsX3_restoreLatest (wsV RX3 25 RX1 yX1_copyFrom wsX1_copyFrom) := goodIn_app (goodIn_of _ (by decide +kernel)) ggX3_restoreLatest_X1_copyFrom
theorem dX3_restoreLatest_0 : decode cX3_restoreLatest 0 = .ok (.aload_n 0, 1) := by decide +kernel
theorem dX3_restoreLatest_1 : decode cX3_restoreLatest 1 = .ok (.dup, 1) := by decide +kernel
theorem dX3_restoreLatest_2 : decode cX3_restoreLatest 2 = .ok (.getfield 21, 3) := by decide +kernel
theorem dX3_restoreLatest_5 : decode cX3_restoreLatest 5 = .ok (.iconst 1, 1) := by decide +kernel
theorem dX3_restoreLatest_6 : decode cX3_restoreLatest 6 = .ok (.isub, 1) := by decide +kernel
theorem dX3_restoreLatest_7 : decode cX3_restoreLatest 7 = .ok (.putfield 21, 3) := by decide +kernel
theorem dX3_restoreLatest_10 : decode cX3_restoreLatest 10 = .ok (.aload_n 1, 1) := by decide +kernel
theorem dX3_restoreLatest_11 : decode cX3_restoreLatest 11 = .ok (.aload_n 0, 1) := by decide +kernel
theorem dX3_restoreLatest_12 : decode cX3_restoreLatest 12 = .ok (.getfield 11, 3) := by decide +kernel
theorem dX3_restoreLatest_15 : decode cX3_restoreLatest 15 = .ok (.aload_n 0, 1) := by decide +kernel
theorem dX3_restoreLatest_16 : decode cX3_restoreLatest 16 = .ok (.getfield 17, 3) := by decide +kernel
theorem dX3_restoreLatest_19 : decode cX3_restoreLatest 19 = .ok (.aload_n 0, 1) := by decide +kernel
theorem dX3_restoreLatest_20 : decode cX3_restoreLatest 20 = .ok (.getfield 21, 3) := by decide +kernel
theorem dX3_restoreLatest_23 : decode cX3_restoreLatest 23 = .ok (.iadd, 1) := by decide +kernel
theorem dX3_restoreLatest_24 : decode cX3_restoreLatest 24 = .ok (.bipush 6, 2) := by decide +kernel
theorem dX3_restoreLatest_26 : decode cX3_restoreLatest 26 = .ok (.irem, 1) := by decide +kernel
theorem dX3_restoreLatest_27 : decode cX3_restoreLatest 27 = .ok (.aaload, 1) := by decide +kernel
theorem dX3_restoreLatest_28 : decode cX3_restoreLatest 28 = .ok (.invokevirtual 25, 3) := by decide +kernel
theorem dX3_restoreLatest_31 : decode cX3_restoreLatest 31 = .ok (.return_, 1) := by decide +kernel
theorem dX4_init_0 : decode cX4_init 0 = .ok (.aload_n 0, 1) := by decide +kernel
theorem dX4_init_1 : decode cX4_init 1 = .ok (.invokespecial 3, 3) := by decide +kernel
theorem dX4_init_4 : decode cX4_init 4 = .ok (.aload_n 0, 1) := by decide +kernel
theorem dX4_init_5 : decode cX4_init 5 = .ok (.bipush 60, 2) := by decide +kernel
theorem dX4_init_7 : decode cX4_init 7 = .ok (.newarray .int, 2) := by decide +kernel
theorem dX4_init_9 : decode cX4_init 9 = .ok (.putfield 9, 3) := by decide +kernel
theorem dX4_init_12 : decode cX4_init 12 = .ok (.aload_n 0, 1) := by decide +kernel
theorem dX4_init_13 : decode cX4_init 13 = .ok (.iconst 0, 1) := by decide +kernel
theorem dX4_init_14 : decode cX4_init 14 = .ok (.putfield 15, 3) := by decide +kernel
theorem dX4_init_17 : decode cX4_init 17 = .ok (.aload_n 0, 1) := by decide +kernel
theorem dX4_init_18 : decode cX4_init 18 = .ok (.bipush 60, 2) := by decide +kernel
theorem dX4_init_20 : decode cX4_init 20 = .ok (.newarray .int, 2) := by decide +kernel
theorem dX4_init_22 : decode cX4_init 22 = .ok (.putfield 19, 3) := by decide +kernel
theorem dX4_init_25 : decode cX4_init 25 = .ok (.aload_n 0, 1) := by decide +kernel
theorem dX4_init_26 : decode cX4_init 26 = .ok (.iconst 0, 1) := by decide +kernel
theorem dX4_init_27 : decode cX4_init 27 = .ok (.putfield 22, 3) := by decide +kernel
theorem dX4_init_30 : decode cX4_init 30 = .ok (.aload_n 0, 1) := by decide +kernel
theorem dX4_init_31 : decode cX4_init 31 = .ok (.iconst (-1), 1) := by decide +kernel
theorem dX4_init_32 : decode cX4_init 32 = .ok (.putfield 25, 3) := by decide +kernel
theorem dX4_init_35 : decode cX4_init 35 = .ok (.return_, 1) := by decide +kernel
theorem dX4_put_0 : decode cX4_put 0 = .ok (.aload_n 0, 1) := by decide +kernel
theorem dX4_put_1 : decode cX4_put 1 = .ok (.getfield 9, 3) := by decide +kernel
theorem dX4_put_4 : decode cX4_put 4 = .ok (.aload_n 0, 1) := by decide +kernel
theorem dX4_put_5 : decode cX4_put 5 = .ok (.getfield 15, 3) := by decide +kernel
theorem dX4_put_8 : decode cX4_put 8 = .ok (.iload_n 1, 1) := by decide +kernel
theorem dX4_put_9 : decode cX4_put 9 = .ok (.iastore, 1) := by decide +kernel
theorem dX4_put_10 : decode cX4_put 10 = .ok (.aload_n 0, 1) := by decide +kernel
theorem dX4_put_11 : decode cX4_put 11 = .ok (.dup, 1) := by decide +kernel
theorem dX4_put_12 : decode cX4_put 12 = .ok (.getfield 15, 3) := by decide +kernel
theorem dX4_put_15 : decode cX4_put 15 = .ok (.iconst 1, 1) := by decide +kernel
theorem dX4_put_16 : decode cX4_put 16 = .ok (.iadd, 1) := by decide +kernel
theorem dX4_put_17 : decode cX4_put 17 = .ok (.putfield 15, 3) := by decide +kernel
theorem dX4_put_20 : decode cX4_put 20 = .ok (.return_, 1) := by decide +kernel
set_option maxRecDepth 20000 in
theorem ggX4_scan_X4_takes : GoodIn wsX4_scan wsX4_takes := goodIn_r _ [9, 2, 10, 11, 12, 13, 8, 14, 15, 16, 17, 18, 19, 1, 20, 21, 22, 23, 24, 25, 26, 27, 28, 29] (by decide +kernel) (by decide +kernel)
set_option maxRecDepth 20000 in
theorem gX4_scan_X4_takes : GoodIn wsX4_scan (wsV RX4 28 RX4 yX4_takes wsX4_takes) := goodIn_app (goodIn_of _ (by decide +kernel)) ggX4_scan_X4_takes
theorem dX4_scan_0 : decode cX4_scan 0 = .ok (.aload_n 0, 1) := by decide +kernel
theorem dX4_scan_1 : decode cX4_scan 1 = .ok (.iconst 0, 1) := by decide +kernel
theorem dX4_scan_2 : decode cX4_scan 2 = .ok (.putfield 22, 3) := by decide +kernel
theorem dX4_scan_5 : decode cX4_scan 5 = .ok (.aload_n 0, 1) := by decide +kernel
theorem dX4_scan_6 : decode cX4_scan 6 = .ok (.iconst (-1), 1) := by decide +kernel
theorem dX4_scan_7 : decode cX4_scan 7 = .ok (.putfield 25, 3) := by decide +kernel
theorem dX4_scan_10 : decode cX4_scan 10 = .ok (.iconst 0, 1) := by decide +kernel
theorem dX4_scan_11 : decode cX4_scan 11 = .ok (.istore_n 1, 1) := by decide +kernel
theorem dX4_scan_12 : decode cX4_scan 12 = .ok (.iload_n 1, 1) := by decide +kernel
theorem dX4_scan_13 : decode cX4_scan 13 = .ok (.aload_n 0, 1) := by decide +kernel
theorem dX4_scan_14 : decode cX4_scan 14 = .ok (.getfield 15, 3) := by decide +kernel
theorem dX4_scan_17 : decode cX4_scan 17 = .ok (.if_icmp .ge 24, 3) := by decide +kernel
theorem dX4_scan_20 : decode cX4_scan 20 = .ok (.aload_n 0, 1) := by decide +kernel
theorem dX4_scan_21 : decode cX4_scan 21 = .ok (.aload_n 0, 1) := by decide +kernel
theorem dX4_scan_22 : decode cX4_scan 22 = .ok (.getfield 9, 3) := by decide +kernel
theorem dX4_scan_25 : decode cX4_scan 25 = .ok (.iload_n 1, 1) := by decide +kernel
theorem dX4_scan_26 : decode cX4_scan 26 = .ok (.iaload, 1) := by decide +kernel
theorem dX4_scan_27 : decode cX4_scan 27 = .ok (.invokevirtual 28, 3) := by decide +kernel
theorem dX4_scan_30 : decode cX4_scan 30 = .ok (.ifCond .ne 5, 3) := by decide +kernel
theorem dX4_scan_33 : decode cX4_scan 33 = .ok (.iload_n 1, 1) := by decide +kernel
theorem dX4_scan_34 : decode cX4_scan 34 = .ok (.ireturn, 1) := by decide +kernel
theorem dX4_scan_35 : decode cX4_scan 35 = .ok (.iinc 1 1, 3) := by decide +kernel
theorem dX4_scan_38 : decode cX4_scan 38 = .ok (.goto (-26), 3) := by decide +kernel
theorem dX4_scan_41 : decode cX4_scan 41 = .ok (.aload_n 0, 1) := by decide +kernel
theorem dX4_scan_42 : decode cX4_scan 42 = .ok (.getfield 15, 3) := by decide +kernel
theorem dX4_scan_45 : decode cX4_scan 45 = .ok (.ireturn, 1) := by decide +kernel
set_option maxRecDepth 20000 in
theorem ggX4_takes_X4_takesDigit : GoodIn wsX4_takes wsX4_takesDigit := goodIn_r _ [7, 1, 8, 9, 10, 11, 6, 12, 13, 19, 20, 21, 22, 23] (by decide +kernel) (by decide +kernel)
set_option maxRecDepth 20000 in
theorem gX4_takes_X4_takesDigit : GoodIn wsX4_takes (wsV RX4 32 RX4 yX4_takesDigit wsX4_takesDigit) := goodIn_app (goodIn_of _ (by decide +kernel)) ggX4_takes_X4_takesDigit
set_option maxRecDepth 20000 in
theorem ggX4_takes_X4_kind : GoodIn wsX4_takes wsX4_kind := goodIn_r _ [12, 13, 19, 20, 21, 22, 23] (by decide +kernel) (by decide +kernel)
set_option maxRecDepth 20000 in
theorem gX4_takes_X4_kind : GoodIn wsX4_takes (wsV RX4 39 RX4 yX4_kind wsX4_kind) := goodIn_app (goodIn_of _ (by decide +kernel)) ggX4_takes_X4_kind
set_option maxRecDepth 20000 in
theorem ggX4_takes_X4_finishNumber : GoodIn wsX4_takes wsX4_finishNumber := goodIn_r _ [17, 13, 18, 1, 19, 20, 21, 22, 23] (by decide +kernel) (by decide +kernel)
set_option maxRecDepth 20000 in
theorem gX4_takes_X4_finishNumber : GoodIn wsX4_takes (wsV RX4 43 RX4 yX4_finishNumber wsX4_finishNumber) := goodIn_app (goodIn_of _ (by decide +kernel)) ggX4_takes_X4_finishNumber
theorem dX4_takes_0 : decode cX4_takes 0 = .ok (.iload_n 1, 1) := by decide +kernel
theorem dX4_takes_1 : decode cX4_takes 1 = .ok (.bipush 48, 2) := by decide +kernel
theorem dX4_takes_3 : decode cX4_takes 3 = .ok (.if_icmp .lt 18, 3) := by decide +kernel
theorem dX4_takes_6 : decode cX4_takes 6 = .ok (.iload_n 1, 1) := by decide +kernel
theorem dX4_takes_7 : decode cX4_takes 7 = .ok (.bipush 57, 2) := by decide +kernel
theorem dX4_takes_9 : decode cX4_takes 9 = .ok (.if_icmp .gt 12, 3) := by decide +kernel
theorem dX4_takes_12 : decode cX4_takes 12 = .ok (.aload_n 0, 1) := by decide +kernel
theorem dX4_takes_13 : decode cX4_takes 13 = .ok (.iload_n 1, 1) := by decide +kernel
theorem dX4_takes_14 : decode cX4_takes 14 = .ok (.bipush 48, 2) := by decide +kernel
theorem dX4_takes_16 : decode cX4_takes 16 = .ok (.isub, 1) := by decide +kernel
theorem dX4_takes_17 : decode cX4_takes 17 = .ok (.invokevirtual 32, 3) := by decide +kernel
theorem dX4_takes_20 : decode cX4_takes 20 = .ok (.ireturn, 1) := by decide +kernel
theorem dX4_takes_21 : decode cX4_takes 21 = .ok (.aload_n 0, 1) := by decide +kernel
theorem dX4_takes_22 : decode cX4_takes 22 = .ok (.getfield 25, 3) := by decide +kernel
theorem dX4_takes_25 : decode cX4_takes 25 = .ok (.iconst (-1), 1) := by decide +kernel
theorem dX4_takes_26 : decode cX4_takes 26 = .ok (.if_icmp .eq 15, 3) := by decide +kernel
theorem dX4_takes_29 : decode cX4_takes 29 = .ok (.iload_n 1, 1) := by decide +kernel
theorem dX4_takes_30 : decode cX4_takes 30 = .ok (.getstatic 35, 3) := by decide +kernel
theorem dX4_takes_33 : decode cX4_takes 33 = .ok (.aload_n 0, 1) := by decide +kernel
theorem dX4_takes_34 : decode cX4_takes 34 = .ok (.invokevirtual 39, 3) := by decide +kernel
theorem dX4_takes_37 : decode cX4_takes 37 = .ok (.caload, 1) := by decide +kernel
theorem dX4_takes_38 : decode cX4_takes 38 = .ok (.if_icmp .eq 5, 3) := by decide +kernel
theorem dX4_takes_41 : decode cX4_takes 41 = .ok (.iconst 0, 1) := by decide +kernel
theorem dX4_takes_42 : decode cX4_takes 42 = .ok (.ireturn, 1) := by decide +kernel
theorem dX4_takes_43 : decode cX4_takes 43 = .ok (.aload_n 0, 1) := by decide +kernel
theorem dX4_takes_44 : decode cX4_takes 44 = .ok (.invokevirtual 43, 3) := by decide +kernel
theorem dX4_takes_47 : decode cX4_takes 47 = .ok (.iconst 1, 1) := by decide +kernel
theorem dX4_takes_48 : decode cX4_takes 48 = .ok (.ireturn, 1) := by decide +kernel
set_option maxRecDepth 20000 in
theorem ggX4_takesDigit_X4_kind : GoodIn wsX4_takesDigit wsX4_kind := goodIn_r _ [7, 8, 9, 10, 11, 12, 13] (by decide +kernel) (by decide +kernel)
set_option maxRecDepth 20000 in
theorem gX4_takesDigit_X4_kind : GoodIn wsX4_takesDigit (wsV RX4 39 RX4 yX4_kind wsX4_kind) := goodIn_app (goodIn_of _ (by decide +kernel)) ggX4_takesDigit_X4_kind
theorem dX4_takesDigit_0 : decode cX4_takesDigit 0 = .ok (.aload_n 0, 1) := by decide +kernel
theorem dX4_takesDigit_1 : decode cX4_takesDigit 1 = .ok (.getfield 25, 3) := by decide +kernel
theorem dX4_takesDigit_4 : decode cX4_takesDigit 4 = .ok (.iconst (-1), 1) := by decide +kernel
theorem dX4_takesDigit_5 : decode cX4_takesDigit 5 = .ok (.if_icmp .ne 25, 3) := by decide +kernel
theorem dX4_takesDigit_8 : decode cX4_takesDigit 8 = .ok (.aload_n 0, 1) := by decide +kernel
theorem dX4_takesDigit_9 : decode cX4_takesDigit 9 = .ok (.iload_n 1, 1) := by decide +kernel
theorem dX4_takesDigit_10 : decode cX4_takesDigit 10 = .ok (.putfield 25, 3) := by decide +kernel
theorem dX4_takesDigit_13 : decode cX4_takesDigit 13 = .ok (.iload_n 1, 1) := by decide +kernel
theorem dX4_takesDigit_14 : decode cX4_takesDigit 14 = .ok (.ifCond .gt 10, 3) := by decide +kernel
theorem dX4_takesDigit_17 : decode cX4_takesDigit 17 = .ok (.aload_n 0, 1) := by decide +kernel
theorem dX4_takesDigit_18 : decode cX4_takesDigit 18 = .ok (.invokevirtual 39, 3) := by decide +kernel
theorem dX4_takesDigit_21 : decode cX4_takesDigit 21 = .ok (.ifCond .ne 7, 3) := by decide +kernel
theorem dX4_takesDigit_24 : decode cX4_takesDigit 24 = .ok (.iconst 1, 1) := by decide +kernel
theorem dX4_takesDigit_25 : decode cX4_takesDigit 25 = .ok (.goto 4, 3) := by decide +kernel
theorem dX4_takesDigit_28 : decode cX4_takesDigit 28 = .ok (.iconst 0, 1) := by decide +kernel
theorem dX4_takesDigit_29 : decode cX4_takesDigit 29 = .ok (.ireturn, 1) := by decide +kernel
theorem dX4_takesDigit_30 : decode cX4_takesDigit 30 = .ok (.aload_n 0, 1) := by decide +kernel
theorem dX4_takesDigit_31 : decode cX4_takesDigit 31 = .ok (.getfield 25, 3) := by decide +kernel
theorem dX4_takesDigit_34 : decode cX4_takesDigit 34 = .ok (.ifCond .ne 7, 3) := by decide +kernel
theorem dX4_takesDigit_37 : decode cX4_takesDigit 37 = .ok (.iconst 1, 1) := by decide +kernel
theorem dX4_takesDigit_38 : decode cX4_takesDigit 38 = .ok (.goto 4, 3) := by decide +kernel
theorem dX4_takesDigit_41 : decode cX4_takesDigit 41 = .ok (.iconst 0, 1) := by decide +kernel
theorem dX4_takesDigit_42 : decode cX4_takesDigit 42 = .ok (.istore_n 2, 1) := by decide +kernel
theorem dX4_takesDigit_43 : decode cX4_takesDigit 43 = .ok (.aload_n 0, 1) := by decide +kernel
theorem dX4_takesDigit_44 : decode cX4_takesDigit 44 = .ok (.bipush 10, 2) := by decide +kernel
theorem dX4_takesDigit_46 : decode cX4_takesDigit 46 = .ok (.aload_n 0, 1) := by decide +kernel
theorem dX4_takesDigit_47 : decode cX4_takesDigit 47 = .ok (.getfield 25, 3) := by decide +kernel
theorem dX4_takesDigit_50 : decode cX4_takesDigit 50 = .ok (.imul, 1) := by decide +kernel
theorem dX4_takesDigit_51 : decode cX4_takesDigit 51 = .ok (.iload_n 1, 1) := by decide +kernel
theorem dX4_takesDigit_52 : decode cX4_takesDigit 52 = .ok (.iadd, 1) := by decide +kernel
theorem dX4_takesDigit_53 : decode cX4_takesDigit 53 = .ok (.putfield 25, 3) := by decide +kernel
theorem dX4_takesDigit_56 : decode cX4_takesDigit 56 = .ok (.iload_n 2, 1) := by decide +kernel
theorem dX4_takesDigit_57 : decode cX4_takesDigit 57 = .ok (.ifCond .ne 22, 3) := by decide +kernel
theorem dX4_takesDigit_60 : decode cX4_takesDigit 60 = .ok (.aload_n 0, 1) := by decide +kernel
theorem dX4_takesDigit_61 : decode cX4_takesDigit 61 = .ok (.getfield 25, 3) := by decide +kernel
theorem dX4_takesDigit_64 : decode cX4_takesDigit 64 = .ok (.getstatic 46, 3) := by decide +kernel
theorem dX4_takesDigit_67 : decode cX4_takesDigit 67 = .ok (.aload_n 0, 1) := by decide +kernel
theorem dX4_takesDigit_68 : decode cX4_takesDigit 68 = .ok (.invokevirtual 39, 3) := by decide +kernel
theorem dX4_takesDigit_71 : decode cX4_takesDigit 71 = .ok (.iaload, 1) := by decide +kernel
theorem dX4_takesDigit_72 : decode cX4_takesDigit 72 = .ok (.if_icmp .gt 7, 3) := by decide +kernel
theorem dX4_takesDigit_75 : decode cX4_takesDigit 75 = .ok (.iconst 1, 1) := by decide +kernel
theorem dX4_takesDigit_76 : decode cX4_takesDigit 76 = .ok (.goto 4, 3) := by decide +kernel
theorem dX4_takesDigit_79 : decode cX4_takesDigit 79 = .ok (.iconst 0, 1) := by decide +kernel
theorem dX4_takesDigit_80 : decode cX4_takesDigit 80 = .ok (.ireturn, 1) := by decide +kernel
theorem dX4_kind_0 : decode cX4_kind 0 = .ok (.aload_n 0, 1) := by decide +kernel
theorem dX4_kind_1 : decode cX4_kind 1 = .ok (.getfield 22, 3) := by decide +kernel
theorem dX4_kind_4 : decode cX4_kind 4 = .ok (.iconst 3, 1) := by decide +kernel
theorem dX4_kind_5 : decode cX4_kind 5 = .ok (.irem, 1) := by decide +kernel
theorem dX4_kind_6 : decode cX4_kind 6 = .ok (.ireturn, 1) := by decide +kernel
theorem dX4_finishNumber_0 : decode cX4_finishNumber 0 = .ok (.aload_n 0, 1) := by decide +kernel
theorem dX4_finishNumber_1 : decode cX4_finishNumber 1 = .ok (.getfield 22, 3) := by decide +kernel
theorem dX4_finishNumber_4 : decode cX4_finishNumber 4 = .ok (.aload_n 0, 1) := by decide +kernel
theorem dX4_finishNumber_5 : decode cX4_finishNumber 5 = .ok (.getfield 19, 3) := by decide +kernel
theorem dX4_finishNumber_8 : decode cX4_finishNumber 8 = .ok (.arraylength, 1) := by decide +kernel
theorem dX4_finishNumber_9 : decode cX4_finishNumber 9 = .ok (.if_icmp .ge 26, 3) := by decide +kernel
theorem dX4_finishNumber_12 : decode cX4_finishNumber 12 = .ok (.aload_n 0, 1) := by decide +kernel
theorem dX4_finishNumber_13 : decode cX4_finishNumber 13 = .ok (.getfield 19, 3) := by decide +kernel
theorem dX4_finishNumber_16 : decode cX4_finishNumber 16 = .ok (.aload_n 0, 1) := by decide +kernel
theorem dX4_finishNumber_17 : decode cX4_finishNumber 17 = .ok (.getfield 22, 3) := by decide +kernel
theorem dX4_finishNumber_20 : decode cX4_finishNumber 20 = .ok (.aload_n 0, 1) := by decide +kernel
theorem dX4_finishNumber_21 : decode cX4_finishNumber 21 = .ok (.getfield 25, 3) := by decide +kernel
theorem dX4_finishNumber_24 : decode cX4_finishNumber 24 = .ok (.iastore, 1) := by decide +kernel
theorem dX4_finishNumber_25 : decode cX4_finishNumber 25 = .ok (.aload_n 0, 1) := by decide +kernel
theorem dX4_finishNumber_26 : decode cX4_finishNumber 26 = .ok (.dup, 1) := by decide +kernel
theorem dX4_finishNumber_27 : decode cX4_finishNumber 27 = .ok (.getfield 22, 3) := by decide +kernel
theorem dX4_finishNumber_30 : decode cX4_finishNumber 30 = .ok (.iconst 1, 1) := by decide +kernel
theorem dX4_finishNumber_31 : decode cX4_finishNumber 31 = .ok (.iadd, 1) := by decide +kernel
theorem dX4_finishNumber_32 : decode cX4_finishNumber 32 = .ok (.putfield 22, 3) := by decide +kernel
theorem dX4_finishNumber_35 : decode cX4_finishNumber 35 = .ok (.aload_n 0, 1) := by decide +kernel
theorem dX4_finishNumber_36 : decode cX4_finishNumber 36 = .ok (.iconst (-1), 1) := by decide +kernel
theorem dX4_finishNumber_37 : decode cX4_finishNumber 37 = .ok (.putfield 25, 3) := by decide +kernel
theorem dX4_finishNumber_40 : decode cX4_finishNumber 40 = .ok (.return_, 1) := by decide +kernel
set_option maxRecDepth 20000 in
theorem ggX4_tellsRehearsals_X4_scan : GoodIn wsX4_tellsRehearsals wsX4_scan := goodIn_r _ [7, 8, 2, 1, 9, 10, 11, 12, 6, 13, 14, 15, 16, 17, 18, 19, 20, 21, 22, 23, 24, 25, 26, 27, 28, 29, 30, 31, 32, 33] (by decide +kernel) (by decide +kernel)
set_option maxRecDepth 20000 in
theorem gX4_tellsRehearsals_X4_scan : GoodIn wsX4_tellsRehearsals (wsV RX4 49 RX4 yX4_scan wsX4_scan) := goodIn_app (goodIn_of _ (by decide +kernel)) ggX4_tellsRehearsals_X4_scan
set_option maxRecDepth 20000 in
theorem ggX4_tellsRehearsals_X4_kind : GoodIn wsX4_tellsRehearsals wsX4_kind := goodIn_r _ [23, 8, 29, 30, 31, 32, 33] (by decide +kernel) (by decide +kernel)
set_option maxRecDepth 20000 in
theorem gX4_tellsRehearsals_X4_kind : GoodIn wsX4_tellsRehearsals (wsV RX4 39 RX4 yX4_kind wsX4_kind) := goodIn_app (goodIn_of _ (by decide +kernel)) ggX4_tellsRehearsals_X4_kind
set_option maxRecDepth 20000 in
theorem ggX4_tellsRehearsals_X4_finishNumber : GoodIn wsX4_tellsRehearsals wsX4_finishNumber := goodIn_r _ [27, 8, 28, 2, 29, 30, 31, 32, 33] (by decide +kernel) (by decide +kernel)
set_option maxRecDepth 20000 in
theorem gX4_tellsRehearsals_X4_finishNumber : GoodIn wsX4_tellsRehearsals (wsV RX4 43 RX4 yX4_finishNumber wsX4_finishNumber) := goodIn_app (goodIn_of _ (by decide +kernel)) ggX4_tellsRehearsals_X4_finishNumber
theorem dX4_tellsRehearsals_0 : decode cX4_tellsRehearsals 0 = .ok (.aload_n 0, 1) := by decide +kernel
theorem dX4_tellsRehearsals_1 : decode cX4_tellsRehearsals 1 = .ok (.invokevirtual 49, 3) := by decide +kernel
theorem dX4_tellsRehearsals_4 : decode cX4_tellsRehearsals 4 = .ok (.aload_n 0, 1) := by decide +kernel
theorem dX4_tellsRehearsals_5 : decode cX4_tellsRehearsals 5 = .ok (.getfield 15, 3) := by decide +kernel
theorem dX4_tellsRehearsals_8 : decode cX4_tellsRehearsals 8 = .ok (.if_icmp .lt 19, 3) := by decide +kernel
theorem dX4_tellsRehearsals_11 : decode cX4_tellsRehearsals 11 = .ok (.aload_n 0, 1) := by decide +kernel
theorem dX4_tellsRehearsals_12 : decode cX4_tellsRehearsals 12 = .ok (.getfield 25, 3) := by decide +kernel
theorem dX4_tellsRehearsals_15 : decode cX4_tellsRehearsals 15 = .ok (.iconst (-1), 1) := by decide +kernel
theorem dX4_tellsRehearsals_16 : decode cX4_tellsRehearsals 16 = .ok (.if_icmp .eq 11, 3) := by decide +kernel
theorem dX4_tellsRehearsals_19 : decode cX4_tellsRehearsals 19 = .ok (.aload_n 0, 1) := by decide +kernel
theorem dX4_tellsRehearsals_20 : decode cX4_tellsRehearsals 20 = .ok (.invokevirtual 39, 3) := by decide +kernel
theorem dX4_tellsRehearsals_23 : decode cX4_tellsRehearsals 23 = .ok (.iconst 2, 1) := by decide +kernel
theorem dX4_tellsRehearsals_24 : decode cX4_tellsRehearsals 24 = .ok (.if_icmp .eq 5, 3) := by decide +kernel
theorem dX4_tellsRehearsals_27 : decode cX4_tellsRehearsals 27 = .ok (.iconst 0, 1) := by decide +kernel
theorem dX4_tellsRehearsals_28 : decode cX4_tellsRehearsals 28 = .ok (.ireturn, 1) := by decide +kernel
theorem dX4_tellsRehearsals_29 : decode cX4_tellsRehearsals 29 = .ok (.aload_n 0, 1) := by decide +kernel
theorem dX4_tellsRehearsals_30 : decode cX4_tellsRehearsals 30 = .ok (.invokevirtual 43, 3) := by decide +kernel
theorem dX4_tellsRehearsals_33 : decode cX4_tellsRehearsals 33 = .ok (.iconst 1, 1) := by decide +kernel
theorem dX4_tellsRehearsals_34 : decode cX4_tellsRehearsals 34 = .ok (.ireturn, 1) := by decide +kernel
theorem dX4_parts_0 : decode cX4_parts 0 = .ok (.aload_n 0, 1) := by decide +kernel
theorem dX4_parts_1 : decode cX4_parts 1 = .ok (.getfield 22, 3) := by decide +kernel
theorem dX4_parts_4 : decode cX4_parts 4 = .ok (.iconst 3, 1) := by decide +kernel
theorem dX4_parts_5 : decode cX4_parts 5 = .ok (.idiv, 1) := by decide +kernel
theorem dX4_parts_6 : decode cX4_parts 6 = .ok (.ireturn, 1) := by decide +kernel
theorem dX4_beginIn_0 : decode cX4_beginIn 0 = .ok (.aload_n 0, 1) := by decide +kernel
theorem dX4_beginIn_1 : decode cX4_beginIn 1 = .ok (.getfield 19, 3) := by decide +kernel
theorem dX4_beginIn_4 : decode cX4_beginIn 4 = .ok (.iconst 3, 1) := by decide +kernel
theorem dX4_beginIn_5 : decode cX4_beginIn 5 = .ok (.iload_n 1, 1) := by decide +kernel
theorem dX4_beginIn_6 : decode cX4_beginIn 6 = .ok (.imul, 1) := by decide +kernel
theorem dX4_beginIn_7 : decode cX4_beginIn 7 = .ok (.iconst 0, 1) := by decide +kernel
theorem dX4_beginIn_8 : decode cX4_beginIn 8 = .ok (.iadd, 1) := by decide +kernel
theorem dX4_beginIn_9 : decode cX4_beginIn 9 = .ok (.iaload, 1) := by decide +kernel
theorem dX4_beginIn_10 : decode cX4_beginIn 10 = .ok (.ireturn, 1) := by decide +kernel
theorem dX4_endIn_0 : decode cX4_endIn 0 = .ok (.aload_n 0, 1) := by decide +kernel
theorem dX4_endIn_1 : decode cX4_endIn 1 = .ok (.getfield 19, 3) := by decide +kernel
theorem dX4_endIn_4 : decode cX4_endIn 4 = .ok (.iconst 3, 1) := by decide +kernel
theorem dX4_endIn_5 : decode cX4_endIn 5 = .ok (.iload_n 1, 1) := by decide +kernel
theorem dX4_endIn_6 : decode cX4_endIn 6 = .ok (.imul, 1) := by decide +kernel
theorem dX4_endIn_7 : decode cX4_endIn 7 = .ok (.iconst 1, 1) := by decide +kernel
theorem dX4_endIn_8 : decode cX4_endIn 8 = .ok (.iadd, 1) := by decide +kernel
theorem dX4_endIn_9 : decode cX4_endIn 9 = .ok (.iaload, 1) := by decide +kernel
theorem dX4_endIn_10 : decode cX4_endIn 10 = .ok (.ireturn, 1) := by decide +kernel
theorem dX4_fameIn_0 : decode cX4_fameIn 0 = .ok (.aload_n 0, 1) := by decide +kernel
theorem dX4_fameIn_1 : decode cX4_fameIn 1 = .ok (.getfield 19, 3) := by decide +kernel
theorem dX4_fameIn_4 : decode cX4_fameIn 4 = .ok (.iconst 3, 1) := by decide +kernel
theorem dX4_fameIn_5 : decode cX4_fameIn 5 = .ok (.iload_n 1, 1) := by decide +kernel
theorem dX4_fameIn_6 : decode cX4_fameIn 6 = .ok (.imul, 1) := by decide +kernel
theorem dX4_fameIn_7 : decode cX4_fameIn 7 = .ok (.iconst 2, 1) := by decide +kernel
theorem dX4_fameIn_8 : decode cX4_fameIn 8 = .ok (.iadd, 1) := by decide +kernel
theorem dX4_fameIn_9 : decode cX4_fameIn 9 = .ok (.iaload, 1) := by decide +kernel
theorem dX4_fameIn_10 : decode cX4_fameIn 10 = .ok (.ireturn, 1) := by decide +kernel
set_option maxRecDepth 20000 in
theorem ggX4_endsFit_X4_parts : GoodIn wsX4_endsFit wsX4_parts := goodIn_r _ [5, 6, 16, 17, 18, 19, 20] (by decide +kernel) (by decide +kernel)
set_option maxRecDepth 20000 in
theorem gX4_endsFit_X4_parts : GoodIn wsX4_endsFit (wsV RX4 52 RX4 yX4_parts wsX4_parts) := goodIn_app (goodIn_of _ (by decide +kernel)) ggX4_endsFit_X4_parts
set_option maxRecDepth 20000 in
theorem ggX4_endsFit_X4_endIn : GoodIn wsX4_endsFit wsX4_endIn := goodIn_r _ [10, 11, 16, 17, 18, 19, 20] (by decide +kernel) (by decide +kernel)
set_option maxRecDepth 20000 in
theorem gX4_endsFit_X4_endIn : GoodIn wsX4_endsFit (wsV RX4 55 RX4 yX4_endIn wsX4_endIn) := goodIn_app (goodIn_of _ (by decide +kernel)) ggX4_endsFit_X4_endIn
set_option maxRecDepth 20000 in
theorem ggX4_endsFit_X4_beginIn : GoodIn wsX4_endsFit wsX4_beginIn := goodIn_r _ [15, 11, 16, 17, 18, 19, 20] (by decide +kernel) (by decide +kernel)
set_option maxRecDepth 20000 in
theorem gX4_endsFit_X4_beginIn : GoodIn wsX4_endsFit (wsV RX4 59 RX4 yX4_beginIn wsX4_beginIn) := goodIn_app (goodIn_of _ (by decide +kernel)) ggX4_endsFit_X4_beginIn
theorem dX4_endsFit_0 : decode cX4_endsFit 0 = .ok (.iconst 0, 1) := by decide +kernel
theorem dX4_endsFit_1 : decode cX4_endsFit 1 = .ok (.istore_n 1, 1) := by decide +kernel
theorem dX4_endsFit_2 : decode cX4_endsFit 2 = .ok (.iload_n 1, 1) := by decide +kernel
theorem dX4_endsFit_3 : decode cX4_endsFit 3 = .ok (.aload_n 0, 1) := by decide +kernel
theorem dX4_endsFit_4 : decode cX4_endsFit 4 = .ok (.invokevirtual 52, 3) := by decide +kernel
theorem dX4_endsFit_7 : decode cX4_endsFit 7 = .ok (.if_icmp .ge 24, 3) := by decide +kernel
theorem dX4_endsFit_10 : decode cX4_endsFit 10 = .ok (.aload_n 0, 1) := by decide +kernel
theorem dX4_endsFit_11 : decode cX4_endsFit 11 = .ok (.iload_n 1, 1) := by decide +kernel
theorem dX4_endsFit_12 : decode cX4_endsFit 12 = .ok (.invokevirtual 55, 3) := by decide +kernel
theorem dX4_endsFit_15 : decode cX4_endsFit 15 = .ok (.aload_n 0, 1) := by decide +kernel
theorem dX4_endsFit_16 : decode cX4_endsFit 16 = .ok (.iload_n 1, 1) := by decide +kernel
theorem dX4_endsFit_17 : decode cX4_endsFit 17 = .ok (.invokevirtual 59, 3) := by decide +kernel
theorem dX4_endsFit_20 : decode cX4_endsFit 20 = .ok (.if_icmp .gt 5, 3) := by decide +kernel
theorem dX4_endsFit_23 : decode cX4_endsFit 23 = .ok (.iconst 0, 1) := by decide +kernel
theorem dX4_endsFit_24 : decode cX4_endsFit 24 = .ok (.ireturn, 1) := by decide +kernel
theorem dX4_endsFit_25 : decode cX4_endsFit 25 = .ok (.iinc 1 1, 3) := by decide +kernel
theorem dX4_endsFit_28 : decode cX4_endsFit 28 = .ok (.goto (-26), 3) := by decide +kernel
theorem dX4_endsFit_31 : decode cX4_endsFit 31 = .ok (.iconst 1, 1) := by decide +kernel
theorem dX4_endsFit_32 : decode cX4_endsFit 32 = .ok (.ireturn, 1) := by decide +kernel
set_option maxRecDepth 20000 in
theorem ggX5_init_X1_init : GoodIn wsX5_init wsX1_init := goodIn_r _ [28, 29, 2, 3, 30, 31, 32, 33, 34, 35, 36, 64, 65, 66, 67, 68, 69] (by decide +kernel) (by decide +kernel)
set_option maxRecDepth 20000 in
theorem gX5_init_X1_init_n9 : GoodIn wsX5_init (wsX1_init) := ggX5_init_X1_init
set_option maxRecDepth 20000 in
theorem ggX5_init_X3_init : GoodIn wsX5_init wsX3_init := goodIn_r _ [39, 40, 2, 3, 41, 42, 43, 44, 5, 6, 27, 28, 29, 30, 31, 32, 33, 34, 35, 36, 77, 78, 79, 64, 65, 66, 67, 68, 69] (by decide +kernel) (by decide +kernel)
set_option maxRecDepth 20000 in
theorem gX5_init_X3_init : GoodIn wsX5_init (wsX3_init) := ggX5_init_X3_init
set_option maxRecDepth 20000 in
theorem ggX5_init_X4_init : GoodIn wsX5_init wsX4_init := goodIn_r _ [46, 47, 2, 3, 30, 48, 49, 50, 51, 52, 80, 81, 82, 83, 84] (by decide +kernel) (by decide +kernel)
set_option maxRecDepth 20000 in
theorem gX5_init_X4_init_n33 : GoodIn wsX5_init (wsX4_init) := ggX5_init_X4_init
set_option maxRecDepth 20000 in
theorem ggX5_init_X2_init : GoodIn wsX5_init wsX2_init := goodIn_r _ [54, 55, 2, 3, 30, 56, 57, 85, 86] (by decide +kernel) (by decide +kernel)
set_option maxRecDepth 20000 in
theorem gX5_init_X2_init_n40 : GoodIn wsX5_init (wsX2_init) := ggX5_init_X2_init
set_option maxRecDepth 20000 in
theorem ggX5_init_X0_init : GoodIn wsX5_init wsX0_init := goodIn_r _ [59, 60, 2, 3, 30, 61, 62, 63, 87, 88, 89] (by decide +kernel) (by decide +kernel)
set_option maxRecDepth 20000 in
theorem gX5_init_X0_init_n47 : GoodIn wsX5_init (wsX0_init) := ggX5_init_X0_init
theorem dX5_init_0 : decode cX5_init 0 = .ok (.aload_n 0, 1) := by decide +kernel
theorem dX5_init_1 : decode cX5_init 1 = .ok (.invokespecial 1, 3) := by decide +kernel
theorem dX5_init_4 : decode cX5_init 4 = .ok (.aload_n 0, 1) := by decide +kernel
theorem dX5_init_5 : decode cX5_init 5 = .ok (.new 7, 3) := by decide +kernel
theorem dX5_init_8 : decode cX5_init 8 = .ok (.dup, 1) := by decide +kernel
theorem dX5_init_9 : decode cX5_init 9 = .ok (.invokespecial 9, 3) := by decide +kernel
theorem dX5_init_12 : decode cX5_init 12 = .ok (.putfield 10, 3) := by decide +kernel
theorem dX5_init_15 : decode cX5_init 15 = .ok (.aload_n 0, 1) := by decide +kernel
theorem dX5_init_16 : decode cX5_init 16 = .ok (.new 16, 3) := by decide +kernel
theorem dX5_init_19 : decode cX5_init 19 = .ok (.dup, 1) := by decide +kernel
theorem dX5_init_20 : decode cX5_init 20 = .ok (.invokespecial 18, 3) := by decide +kernel
theorem dX5_init_23 : decode cX5_init 23 = .ok (.putfield 19, 3) := by decide +kernel
theorem dX5_init_26 : decode cX5_init 26 = .ok (.aload_n 0, 1) := by decide +kernel
theorem dX5_init_27 : decode cX5_init 27 = .ok (.iconst 2, 1) := by decide +kernel
theorem dX5_init_28 : decode cX5_init 28 = .ok (.anewarray 7, 3) := by decide +kernel
theorem dX5_init_31 : decode cX5_init 31 = .ok (.putfield 23, 3) := by decide +kernel
theorem dX5_init_34 : decode cX5_init 34 = .ok (.aload_n 0, 1) := by decide +kernel
theorem dX5_init_35 : decode cX5_init 35 = .ok (.iconst 2, 1) := by decide +kernel
theorem dX5_init_36 : decode cX5_init 36 = .ok (.newarray .boolean, 2) := by decide +kernel
theorem dX5_init_38 : decode cX5_init 38 = .ok (.putfield 27, 3) := by decide +kernel
theorem dX5_init_41 : decode cX5_init 41 = .ok (.aload_n 0, 1) := by decide +kernel
theorem dX5_init_42 : decode cX5_init 42 = .ok (.new 31, 3) := by decide +kernel
theorem dX5_init_45 : decode cX5_init 45 = .ok (.dup, 1) := by decide +kernel
theorem dX5_init_46 : decode cX5_init 46 = .ok (.invokespecial 33, 3) := by decide +kernel
theorem dX5_init_49 : decode cX5_init 49 = .ok (.putfield 34, 3) := by decide +kernel
theorem dX5_init_52 : decode cX5_init 52 = .ok (.aload_n 0, 1) := by decide +kernel
theorem dX5_init_53 : decode cX5_init 53 = .ok (.new 38, 3) := by decide +kernel
theorem dX5_init_56 : decode cX5_init 56 = .ok (.dup, 1) := by decide +kernel
theorem dX5_init_57 : decode cX5_init 57 = .ok (.invokespecial 40, 3) := by decide +kernel
theorem dX5_init_60 : decode cX5_init 60 = .ok (.putfield 41, 3) := by decide +kernel
theorem dX5_init_63 : decode cX5_init 63 = .ok (.aload_n 0, 1) := by decide +kernel
theorem dX5_init_64 : decode cX5_init 64 = .ok (.new 45, 3) := by decide +kernel
theorem dX5_init_67 : decode cX5_init 67 = .ok (.dup, 1) := by decide +kernel
theorem dX5_init_68 : decode cX5_init 68 = .ok (.invokespecial 47, 3) := by decide +kernel
theorem dX5_init_71 : decode cX5_init 71 = .ok (.putfield 48, 3) := by decide +kernel
theorem dX5_init_74 : decode cX5_init 74 = .ok (.iconst 0, 1) := by decide +kernel
theorem dX5_init_75 : decode cX5_init 75 = .ok (.istore_n 1, 1) := by decide +kernel
theorem dX5_init_76 : decode cX5_init 76 = .ok (.iload_n 1, 1) := by decide +kernel
theorem dX5_init_77 : decode cX5_init 77 = .ok (.iconst 2, 1) := by decide +kernel
theorem dX5_init_78 : decode cX5_init 78 = .ok (.if_icmp .ge 22, 3) := by decide +kernel
theorem dX5_init_81 : decode cX5_init 81 = .ok (.aload_n 0, 1) := by decide +kernel
theorem dX5_init_82 : decode cX5_init 82 = .ok (.getfield 23, 3) := by decide +kernel
theorem dX5_init_85 : decode cX5_init 85 = .ok (.iload_n 1, 1) := by decide +kernel
theorem dX5_init_86 : decode cX5_init 86 = .ok (.new 7, 3) := by decide +kernel
theorem dX5_init_89 : decode cX5_init 89 = .ok (.dup, 1) := by decide +kernel
theorem dX5_init_90 : decode cX5_init 90 = .ok (.invokespecial 9, 3) := by decide +kernel
theorem dX5_init_93 : decode cX5_init 93 = .ok (.aastore, 1) := by decide +kernel
theorem dX5_init_94 : decode cX5_init 94 = .ok (.iinc 1 1, 3) := by decide +kernel
theorem dX5_init_97 : decode cX5_init 97 = .ok (.goto (-21), 3) := by decide +kernel
theorem dX5_init_100 : decode cX5_init 100 = .ok (.return_, 1) := by decide +kernel
set_option maxRecDepth 20000 in
theorem ggX5_add_X5_requireTimes : GoodIn wsX5_add wsX5_requireTimes := goodIn_ca (goodIn_r _ [7, 8, 9] (by decide +kernel) (by decide +kernel)) (goodIn_sub (fun _ h => List.mem_cons_of_mem _ (List.mem_append_left _ (List.mem_append_right _ h))) (by decide +kernel))
set_option maxRecDepth 20000 in
theorem gX5_add_X5_requireTimes : GoodIn wsX5_add (va_wsS RX5 52 yX5_requireTimes wsX5_requireTimes) := goodIn_app (goodIn_of _ (by decide +kernel)) ggX5_add_X5_requireTimes
