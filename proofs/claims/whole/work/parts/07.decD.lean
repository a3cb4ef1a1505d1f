set_option maxRecDepth 20000 in
theorem ggX6_readPart_X6_number : GoodIn wsX6_readPart wsX6_number := goodIn_r _ [9, 1, 10, 11, 12, 13, 14, 8, 15, 16, 17, 18, 19, 20, 21, 22, 23, 24, 28, 29, 30, 31, 32, 33, 34, 35, 36, 37, 38, 39, 40, 41, 42, 43] (by decide +kernel) (by decide +kernel)
set_option maxRecDepth 20000 in
theorem gX6_readPart_X6_number : GoodIn wsX6_readPart (wsV RX6 135 RX6 yX6_number wsX6_number) := goodIn_app (goodIn_of _ (by decide +kernel)) ggX6_readPart_X6_number
set_option maxRecDepth 20000 in
theorem ggX6_readPart_X6_here : GoodIn wsX6_readPart wsX6_here := goodIn_r _ [15, 11, 16, 17, 28, 29, 30, 31, 32, 33, 34, 35, 36, 37, 38, 39, 40, 41, 42, 43] (by decide +kernel) (by decide +kernel)
set_option maxRecDepth 20000 in
theorem gX6_readPart_X6_here : GoodIn wsX6_readPart (wsV RX6 126 RX6 yX6_here wsX6_here) := goodIn_app (goodIn_of _ (by decide +kernel)) ggX6_readPart_X6_here
set_option maxRecDepth 20000 in
theorem ggX6_readPart_X6_take : GoodIn wsX6_readPart wsX6_take := goodIn_r _ [24, 1, 11, 28, 29, 30, 31, 32, 33, 34, 35, 36, 37, 38, 39, 40, 41, 42, 43] (by decide +kernel) (by decide +kernel)
set_option maxRecDepth 20000 in
theorem gX6_readPart_X6_take : GoodIn wsX6_readPart (wsV RX6 131 RX6 yX6_take wsX6_take) := goodIn_app (goodIn_of _ (by decide +kernel)) ggX6_readPart_X6_take
set_option maxRecDepth 20000 in
theorem ggX6_readPart_X6_goAdd : GoodIn wsX6_readPart wsX6_goAdd := goodIn_r _ [27] (by decide +kernel) (by decide +kernel)
set_option maxRecDepth 20000 in
theorem gX6_readPart_X6_goAdd : GoodIn wsX6_readPart (va_wsS RX6 86 yX6_goAdd wsX6_goAdd) := goodIn_app (goodIn_of _ (by decide +kernel)) ggX6_readPart_X6_goAdd
theorem dX6_readPart_0 : decode cX6_readPart 0 = .ok (.aload_n 0, 1) := by decide +kernel
theorem dX6_readPart_1 : decode cX6_readPart 1 = .ok (.iconst 0, 1) := by decide +kernel
theorem dX6_readPart_2 : decode cX6_readPart 2 = .ok (.bipush 95, 2) := by decide +kernel
theorem dX6_readPart_4 : decode cX6_readPart 4 = .ok (.invokevirtual 135, 3) := by decide +kernel
theorem dX6_readPart_7 : decode cX6_readPart 7 = .ok (.istore_n 1, 1) := by decide +kernel
theorem dX6_readPart_8 : decode cX6_readPart 8 = .ok (.aload_n 0, 1) := by decide +kernel
theorem dX6_readPart_9 : decode cX6_readPart 9 = .ok (.aload_n 0, 1) := by decide +kernel
theorem dX6_readPart_10 : decode cX6_readPart 10 = .ok (.invokevirtual 126, 3) := by decide +kernel
theorem dX6_readPart_13 : decode cX6_readPart 13 = .ok (.bipush 45, 2) := by decide +kernel
theorem dX6_readPart_15 : decode cX6_readPart 15 = .ok (.if_icmp .ne 7, 3) := by decide +kernel
theorem dX6_readPart_18 : decode cX6_readPart 18 = .ok (.iconst 1, 1) := by decide +kernel
theorem dX6_readPart_19 : decode cX6_readPart 19 = .ok (.goto 4, 3) := by decide +kernel
theorem dX6_readPart_22 : decode cX6_readPart 22 = .ok (.iconst 0, 1) := by decide +kernel
theorem dX6_readPart_23 : decode cX6_readPart 23 = .ok (.invokevirtual 131, 3) := by decide +kernel
theorem dX6_readPart_26 : decode cX6_readPart 26 = .ok (.aload_n 0, 1) := by decide +kernel
theorem dX6_readPart_27 : decode cX6_readPart 27 = .ok (.iconst 1, 1) := by decide +kernel
theorem dX6_readPart_28 : decode cX6_readPart 28 = .ok (.bipush 96, 2) := by decide +kernel
theorem dX6_readPart_30 : decode cX6_readPart 30 = .ok (.invokevirtual 135, 3) := by decide +kernel
theorem dX6_readPart_33 : decode cX6_readPart 33 = .ok (.istore_n 2, 1) := by decide +kernel
theorem dX6_readPart_34 : decode cX6_readPart 34 = .ok (.aload_n 0, 1) := by decide +kernel
theorem dX6_readPart_35 : decode cX6_readPart 35 = .ok (.aload_n 0, 1) := by decide +kernel
theorem dX6_readPart_36 : decode cX6_readPart 36 = .ok (.invokevirtual 126, 3) := by decide +kernel
theorem dX6_readPart_39 : decode cX6_readPart 39 = .ok (.bipush 42, 2) := by decide +kernel
theorem dX6_readPart_41 : decode cX6_readPart 41 = .ok (.if_icmp .ne 7, 3) := by decide +kernel
theorem dX6_readPart_44 : decode cX6_readPart 44 = .ok (.iconst 1, 1) := by decide +kernel
theorem dX6_readPart_45 : decode cX6_readPart 45 = .ok (.goto 4, 3) := by decide +kernel
theorem dX6_readPart_48 : decode cX6_readPart 48 = .ok (.iconst 0, 1) := by decide +kernel
theorem dX6_readPart_49 : decode cX6_readPart 49 = .ok (.invokevirtual 131, 3) := by decide +kernel
theorem dX6_readPart_52 : decode cX6_readPart 52 = .ok (.aload_n 0, 1) := by decide +kernel
theorem dX6_readPart_53 : decode cX6_readPart 53 = .ok (.iconst 1, 1) := by decide +kernel
theorem dX6_readPart_54 : decode cX6_readPart 54 = .ok (.bipush 50, 2) := by decide +kernel
theorem dX6_readPart_56 : decode cX6_readPart 56 = .ok (.invokevirtual 135, 3) := by decide +kernel
theorem dX6_readPart_59 : decode cX6_readPart 59 = .ok (.istore_n 3, 1) := by decide +kernel
theorem dX6_readPart_60 : decode cX6_readPart 60 = .ok (.aload_n 0, 1) := by decide +kernel
theorem dX6_readPart_61 : decode cX6_readPart 61 = .ok (.getfield 122, 3) := by decide +kernel
theorem dX6_readPart_64 : decode cX6_readPart 64 = .ok (.ifCond .eq 62, 3) := by decide +kernel
theorem dX6_readPart_67 : decode cX6_readPart 67 = .ok (.aload_n 0, 1) := by decide +kernel
theorem dX6_readPart_68 : decode cX6_readPart 68 = .ok (.aload_n 0, 1) := by decide +kernel
theorem dX6_readPart_69 : decode cX6_readPart 69 = .ok (.getfield 138, 3) := by decide +kernel
theorem dX6_readPart_72 : decode cX6_readPart 72 = .ok (.ifCond .eq 12, 3) := by decide +kernel
theorem dX6_readPart_75 : decode cX6_readPart 75 = .ok (.iload_n 2, 1) := by decide +kernel
theorem dX6_readPart_76 : decode cX6_readPart 76 = .ok (.iload_n 1, 1) := by decide +kernel
theorem dX6_readPart_77 : decode cX6_readPart 77 = .ok (.if_icmp .le 7, 3) := by decide +kernel
theorem dX6_readPart_80 : decode cX6_readPart 80 = .ok (.iconst 1, 1) := by decide +kernel
theorem dX6_readPart_81 : decode cX6_readPart 81 = .ok (.goto 4, 3) := by decide +kernel
theorem dX6_readPart_84 : decode cX6_readPart 84 = .ok (.iconst 0, 1) := by decide +kernel
theorem dX6_readPart_85 : decode cX6_readPart 85 = .ok (.putfield 138, 3) := by decide +kernel
theorem dX6_readPart_88 : decode cX6_readPart 88 = .ok (.aload_n 0, 1) := by decide +kernel
theorem dX6_readPart_89 : decode cX6_readPart 89 = .ok (.dup, 1) := by decide +kernel
theorem dX6_readPart_90 : decode cX6_readPart 90 = .ok (.getfield 141, 3) := by decide +kernel
theorem dX6_readPart_93 : decode cX6_readPart 93 = .ok (.iconst 1, 1) := by decide +kernel
theorem dX6_readPart_94 : decode cX6_readPart 94 = .ok (.iadd, 1) := by decide +kernel
theorem dX6_readPart_95 : decode cX6_readPart 95 = .ok (.putfield 141, 3) := by decide +kernel
theorem dX6_readPart_98 : decode cX6_readPart 98 = .ok (.aload_n 0, 1) := by decide +kernel
theorem dX6_readPart_99 : decode cX6_readPart 99 = .ok (.getfield 13, 3) := by decide +kernel
theorem dX6_readPart_102 : decode cX6_readPart 102 = .ok (.bipush 44, 2) := by decide +kernel
theorem dX6_readPart_104 : decode cX6_readPart 104 = .ok (.iaload, 1) := by decide +kernel
theorem dX6_readPart_105 : decode cX6_readPart 105 = .ok (.bipush 14, 2) := by decide +kernel
theorem dX6_readPart_107 : decode cX6_readPart 107 = .ok (.if_icmp .ge 16, 3) := by decide +kernel
theorem dX6_readPart_110 : decode cX6_readPart 110 = .ok (.aload_n 0, 1) := by decide +kernel
theorem dX6_readPart_111 : decode cX6_readPart 111 = .ok (.getfield 13, 3) := by decide +kernel
theorem dX6_readPart_114 : decode cX6_readPart 114 = .ok (.iload_n 1, 1) := by decide +kernel
theorem dX6_readPart_115 : decode cX6_readPart 115 = .ok (.iload_n 2, 1) := by decide +kernel
theorem dX6_readPart_116 : decode cX6_readPart 116 = .ok (.iload_n 3, 1) := by decide +kernel
theorem dX6_readPart_117 : decode cX6_readPart 117 = .ok (.invokestatic 86, 3) := by decide +kernel
theorem dX6_readPart_120 : decode cX6_readPart 120 = .ok (.goto 4, 3) := by decide +kernel
theorem dX6_readPart_123 : decode cX6_readPart 123 = .ok (.iconst 0, 1) := by decide +kernel
theorem dX6_readPart_124 : decode cX6_readPart 124 = .ok (.istore 4, 2) := by decide +kernel
theorem dX6_readPart_126 : decode cX6_readPart 126 = .ok (.return_, 1) := by decide +kernel
set_option maxRecDepth 20000 in
theorem ggX6_readAll_X6_copy : GoodIn wsX6_readAll wsX6_copy := goodIn_r _ [11] (by decide +kernel) (by decide +kernel)
set_option maxRecDepth 20000 in
theorem gX6_readAll_X6_copy : GoodIn wsX6_readAll (va_wsS RX6 96 yX6_copy wsX6_copy) := goodIn_app (goodIn_of _ (by decide +kernel)) ggX6_readAll_X6_copy
set_option maxRecDepth 20000 in
theorem ggX6_readAll_X6_readPart : GoodIn wsX6_readAll wsX6_readPart := goodIn_r _ [15, 2, 3, 4, 6, 16, 17, 18, 10, 19, 20, 1, 21, 22, 23, 24, 7, 25, 26, 27, 28, 29, 30, 31, 32, 33, 34, 35, 36, 37, 38, 39, 40, 41, 42, 43, 44, 45, 46, 47, 48, 49, 50, 51] (by decide +kernel) (by decide +kernel)
set_option maxRecDepth 20000 in
theorem gX6_readAll_X6_readPart : GoodIn wsX6_readAll (wsV RX6 144 RX6 yX6_readPart wsX6_readPart) := goodIn_app (goodIn_of _ (by decide +kernel)) ggX6_readAll_X6_readPart
set_option maxRecDepth 20000 in
theorem ggX6_readAll_X6_here : GoodIn wsX6_readAll wsX6_here := goodIn_r _ [24, 1, 7, 25, 36, 37, 38, 39, 40, 41, 42, 43, 44, 45, 46, 47, 48, 49, 50, 51] (by decide +kernel) (by decide +kernel)
set_option maxRecDepth 20000 in
theorem gX6_readAll_X6_here : GoodIn wsX6_readAll (wsV RX6 126 RX6 yX6_here wsX6_here) := goodIn_app (goodIn_of _ (by decide +kernel)) ggX6_readAll_X6_here
set_option maxRecDepth 20000 in
theorem ggX6_readAll_X6_take : GoodIn wsX6_readAll wsX6_take := goodIn_r _ [32, 2, 1, 36, 37, 38, 39, 40, 41, 42, 43, 44, 45, 46, 47, 48, 49, 50, 51] (by decide +kernel) (by decide +kernel)
set_option maxRecDepth 20000 in
theorem gX6_readAll_X6_take : GoodIn wsX6_readAll (wsV RX6 131 RX6 yX6_take wsX6_take) := goodIn_app (goodIn_of _ (by decide +kernel)) ggX6_readAll_X6_take
theorem dX6_readAll_0 : decode cX6_readAll 0 = .ok (.aload_n 0, 1) := by decide +kernel
theorem dX6_readAll_1 : decode cX6_readAll 1 = .ok (.iconst 0, 1) := by decide +kernel
theorem dX6_readAll_2 : decode cX6_readAll 2 = .ok (.putfield 119, 3) := by decide +kernel
theorem dX6_readAll_5 : decode cX6_readAll 5 = .ok (.aload_n 0, 1) := by decide +kernel
theorem dX6_readAll_6 : decode cX6_readAll 6 = .ok (.iconst 1, 1) := by decide +kernel
theorem dX6_readAll_7 : decode cX6_readAll 7 = .ok (.putfield 122, 3) := by decide +kernel
theorem dX6_readAll_10 : decode cX6_readAll 10 = .ok (.aload_n 0, 1) := by decide +kernel
theorem dX6_readAll_11 : decode cX6_readAll 11 = .ok (.iconst 1, 1) := by decide +kernel
theorem dX6_readAll_12 : decode cX6_readAll 12 = .ok (.putfield 138, 3) := by decide +kernel
theorem dX6_readAll_15 : decode cX6_readAll 15 = .ok (.aload_n 0, 1) := by decide +kernel
theorem dX6_readAll_16 : decode cX6_readAll 16 = .ok (.iconst 0, 1) := by decide +kernel
theorem dX6_readAll_17 : decode cX6_readAll 17 = .ok (.putfield 141, 3) := by decide +kernel
theorem dX6_readAll_20 : decode cX6_readAll 20 = .ok (.aload_n 0, 1) := by decide +kernel
theorem dX6_readAll_21 : decode cX6_readAll 21 = .ok (.getfield 7, 3) := by decide +kernel
theorem dX6_readAll_24 : decode cX6_readAll 24 = .ok (.aload_n 0, 1) := by decide +kernel
theorem dX6_readAll_25 : decode cX6_readAll 25 = .ok (.getfield 13, 3) := by decide +kernel
theorem dX6_readAll_28 : decode cX6_readAll 28 = .ok (.invokestatic 96, 3) := by decide +kernel
theorem dX6_readAll_31 : decode cX6_readAll 31 = .ok (.aload_n 0, 1) := by decide +kernel
theorem dX6_readAll_32 : decode cX6_readAll 32 = .ok (.invokevirtual 144, 3) := by decide +kernel
theorem dX6_readAll_35 : decode cX6_readAll 35 = .ok (.aload_n 0, 1) := by decide +kernel
theorem dX6_readAll_36 : decode cX6_readAll 36 = .ok (.getfield 122, 3) := by decide +kernel
theorem dX6_readAll_39 : decode cX6_readAll 39 = .ok (.ifCond .eq 46, 3) := by decide +kernel
theorem dX6_readAll_42 : decode cX6_readAll 42 = .ok (.aload_n 0, 1) := by decide +kernel
theorem dX6_readAll_43 : decode cX6_readAll 43 = .ok (.getfield 119, 3) := by decide +kernel
theorem dX6_readAll_46 : decode cX6_readAll 46 = .ok (.aload_n 0, 1) := by decide +kernel
theorem dX6_readAll_47 : decode cX6_readAll 47 = .ok (.getfield 116, 3) := by decide +kernel
theorem dX6_readAll_50 : decode cX6_readAll 50 = .ok (.if_icmp .ge 35, 3) := by decide +kernel
theorem dX6_readAll_53 : decode cX6_readAll 53 = .ok (.aload_n 0, 1) := by decide +kernel
theorem dX6_readAll_54 : decode cX6_readAll 54 = .ok (.aload_n 0, 1) := by decide +kernel
theorem dX6_readAll_55 : decode cX6_readAll 55 = .ok (.invokevirtual 126, 3) := by decide +kernel
theorem dX6_readAll_58 : decode cX6_readAll 58 = .ok (.bipush 59, 2) := by decide +kernel
theorem dX6_readAll_60 : decode cX6_readAll 60 = .ok (.if_icmp .ne 7, 3) := by decide +kernel
theorem dX6_readAll_63 : decode cX6_readAll 63 = .ok (.iconst 1, 1) := by decide +kernel
theorem dX6_readAll_64 : decode cX6_readAll 64 = .ok (.goto 4, 3) := by decide +kernel
theorem dX6_readAll_67 : decode cX6_readAll 67 = .ok (.iconst 0, 1) := by decide +kernel
theorem dX6_readAll_68 : decode cX6_readAll 68 = .ok (.invokevirtual 131, 3) := by decide +kernel
theorem dX6_readAll_71 : decode cX6_readAll 71 = .ok (.aload_n 0, 1) := by decide +kernel
theorem dX6_readAll_72 : decode cX6_readAll 72 = .ok (.getfield 122, 3) := by decide +kernel
theorem dX6_readAll_75 : decode cX6_readAll 75 = .ok (.ifCond .eq (-40), 3) := by decide +kernel
theorem dX6_readAll_78 : decode cX6_readAll 78 = .ok (.aload_n 0, 1) := by decide +kernel
theorem dX6_readAll_79 : decode cX6_readAll 79 = .ok (.invokevirtual 144, 3) := by decide +kernel
theorem dX6_readAll_82 : decode cX6_readAll 82 = .ok (.goto (-47), 3) := by decide +kernel
theorem dX6_readAll_85 : decode cX6_readAll 85 = .ok (.return_, 1) := by decide +kernel
set_option maxRecDepth 20000 in
theorem ggX6_firstError_X6_readAll : GoodIn wsX6_firstError wsX6_readAll := goodIn_r _ [9, 4, 2, 10, 11, 12, 13, 3, 14, 15, 8, 16, 17, 18, 19, 20, 21, 22, 23, 24, 25, 26, 27, 28, 29, 30, 31, 32, 33, 34, 35, 36, 37, 38, 39, 40, 41, 42, 43, 44, 45, 46, 47, 48, 49, 50, 51, 52, 53, 54, 55, 56] (by decide +kernel) (by decide +kernel)
set_option maxRecDepth 20000 in
theorem gX6_firstError_X6_readAll : GoodIn wsX6_firstError (wsV RX6 147 RX6 yX6_readAll wsX6_readAll) := goodIn_app (goodIn_of _ (by decide +kernel)) ggX6_firstError_X6_readAll
theorem dX6_firstError_0 : decode cX6_firstError 0 = .ok (.aload_n 0, 1) := by decide +kernel
theorem dX6_firstError_1 : decode cX6_firstError 1 = .ok (.iconst 0, 1) := by decide +kernel
theorem dX6_firstError_2 : decode cX6_firstError 2 = .ok (.putfield 38, 3) := by decide +kernel
theorem dX6_firstError_5 : decode cX6_firstError 5 = .ok (.aload_n 0, 1) := by decide +kernel
theorem dX6_firstError_6 : decode cX6_firstError 6 = .ok (.invokevirtual 147, 3) := by decide +kernel
theorem dX6_firstError_9 : decode cX6_firstError 9 = .ok (.aload_n 0, 1) := by decide +kernel
theorem dX6_firstError_10 : decode cX6_firstError 10 = .ok (.getfield 122, 3) := by decide +kernel
theorem dX6_firstError_13 : decode cX6_firstError 13 = .ok (.ifCond .eq 10, 3) := by decide +kernel
theorem dX6_firstError_16 : decode cX6_firstError 16 = .ok (.aload_n 0, 1) := by decide +kernel
theorem dX6_firstError_17 : decode cX6_firstError 17 = .ok (.getfield 116, 3) := by decide +kernel
theorem dX6_firstError_20 : decode cX6_firstError 20 = .ok (.goto 7, 3) := by decide +kernel
theorem dX6_firstError_23 : decode cX6_firstError 23 = .ok (.aload_n 0, 1) := by decide +kernel
theorem dX6_firstError_24 : decode cX6_firstError 24 = .ok (.getfield 119, 3) := by decide +kernel
theorem dX6_firstError_27 : decode cX6_firstError 27 = .ok (.ireturn, 1) := by decide +kernel
set_option maxRecDepth 20000 in
theorem ggX6_read_X6_readAll : GoodIn wsX6_read wsX6_readAll := goodIn_r _ [11, 12, 1, 2, 4, 3, 5, 6, 13, 14, 10, 15, 16, 17, 18, 19, 20, 21, 22, 23, 24, 25, 26, 27, 28, 29, 30, 31, 32, 33, 34, 35, 36, 37, 38, 39, 51, 52, 53, 54, 55, 56, 57, 58, 59, 60, 61, 62, 63, 64, 65, 66] (by decide +kernel) (by decide +kernel)
set_option maxRecDepth 20000 in
theorem gX6_read_X6_readAll : GoodIn wsX6_read (wsV RX6 147 RX6 yX6_readAll wsX6_readAll) := goodIn_app (goodIn_of _ (by decide +kernel)) ggX6_read_X6_readAll
set_option maxRecDepth 20000 in
theorem ggX6_read_X6_refused : GoodIn wsX6_read wsX6_refused := goodIn_r _ [43, 44, 51, 52, 53, 54, 55, 56, 57, 58, 59, 60, 61, 62, 63, 64, 65, 66] (by decide +kernel) (by decide +kernel)
set_option maxRecDepth 20000 in
theorem gX6_read_X6_refused : GoodIn wsX6_read (wsV RX6 79 RX6 yX6_refused wsX6_refused) := goodIn_app (goodIn_of _ (by decide +kernel)) ggX6_read_X6_refused
set_option maxRecDepth 20000 in
theorem ggX6_read_X6_save : GoodIn wsX6_read wsX6_save := goodIn_r _ [48, 49, 50, 3, 51, 52, 53, 54, 55, 56, 57, 58, 59, 60, 61, 62, 63, 64, 65, 66] (by decide +kernel) (by decide +kernel)
set_option maxRecDepth 20000 in
theorem gX6_read_X6_save : GoodIn wsX6_read (wsV RX6 83 RX6 yX6_save wsX6_save) := goodIn_app (goodIn_of _ (by decide +kernel)) ggX6_read_X6_save
set_option maxRecDepth 20000 in
theorem ggX6_read_X6_copy : GoodIn wsX6_read wsX6_copy := goodIn_r _ [15] (by decide +kernel) (by decide +kernel)
set_option maxRecDepth 20000 in
theorem gX6_read_X6_copy : GoodIn wsX6_read (va_wsS RX6 96 yX6_copy wsX6_copy) := goodIn_app (goodIn_of _ (by decide +kernel)) ggX6_read_X6_copy
theorem dX6_read_0 : decode cX6_read 0 = .ok (.aload_n 0, 1) := by decide +kernel
theorem dX6_read_1 : decode cX6_read 1 = .ok (.invokevirtual 147, 3) := by decide +kernel
theorem dX6_read_4 : decode cX6_read 4 = .ok (.aload_n 0, 1) := by decide +kernel
theorem dX6_read_5 : decode cX6_read 5 = .ok (.aload_n 0, 1) := by decide +kernel
theorem dX6_read_6 : decode cX6_read 6 = .ok (.getfield 122, 3) := by decide +kernel
theorem dX6_read_9 : decode cX6_read 9 = .ok (.ifCond .eq 10, 3) := by decide +kernel
theorem dX6_read_12 : decode cX6_read 12 = .ok (.aload_n 0, 1) := by decide +kernel
theorem dX6_read_13 : decode cX6_read 13 = .ok (.getfield 138, 3) := by decide +kernel
theorem dX6_read_16 : decode cX6_read 16 = .ok (.ifCond .ne 7, 3) := by decide +kernel
theorem dX6_read_19 : decode cX6_read 19 = .ok (.iconst 1, 1) := by decide +kernel
theorem dX6_read_20 : decode cX6_read 20 = .ok (.goto 25, 3) := by decide +kernel
theorem dX6_read_23 : decode cX6_read 23 = .ok (.aload_n 0, 1) := by decide +kernel
theorem dX6_read_24 : decode cX6_read 24 = .ok (.getfield 7, 3) := by decide +kernel
theorem dX6_read_27 : decode cX6_read 27 = .ok (.bipush 44, 2) := by decide +kernel
theorem dX6_read_29 : decode cX6_read 29 = .ok (.iaload, 1) := by decide +kernel
theorem dX6_read_30 : decode cX6_read 30 = .ok (.aload_n 0, 1) := by decide +kernel
theorem dX6_read_31 : decode cX6_read 31 = .ok (.getfield 141, 3) := by decide +kernel
theorem dX6_read_34 : decode cX6_read 34 = .ok (.iadd, 1) := by decide +kernel
theorem dX6_read_35 : decode cX6_read 35 = .ok (.bipush 14, 2) := by decide +kernel
theorem dX6_read_37 : decode cX6_read 37 = .ok (.if_icmp .le 7, 3) := by decide +kernel
theorem dX6_read_40 : decode cX6_read 40 = .ok (.iconst 2, 1) := by decide +kernel
theorem dX6_read_41 : decode cX6_read 41 = .ok (.goto 4, 3) := by decide +kernel
theorem dX6_read_44 : decode cX6_read 44 = .ok (.iconst 0, 1) := by decide +kernel
theorem dX6_read_45 : decode cX6_read 45 = .ok (.invokevirtual 79, 3) := by decide +kernel
theorem dX6_read_48 : decode cX6_read 48 = .ok (.ifCond .eq 5, 3) := by decide +kernel
theorem dX6_read_51 : decode cX6_read 51 = .ok (.iconst 0, 1) := by decide +kernel
theorem dX6_read_52 : decode cX6_read 52 = .ok (.ireturn, 1) := by decide +kernel
theorem dX6_read_53 : decode cX6_read 53 = .ok (.aload_n 0, 1) := by decide +kernel
theorem dX6_read_54 : decode cX6_read 54 = .ok (.invokevirtual 83, 3) := by decide +kernel
theorem dX6_read_57 : decode cX6_read 57 = .ok (.aload_n 0, 1) := by decide +kernel
theorem dX6_read_58 : decode cX6_read 58 = .ok (.getfield 13, 3) := by decide +kernel
theorem dX6_read_61 : decode cX6_read 61 = .ok (.aload_n 0, 1) := by decide +kernel
theorem dX6_read_62 : decode cX6_read 62 = .ok (.getfield 7, 3) := by decide +kernel
theorem dX6_read_65 : decode cX6_read 65 = .ok (.invokestatic 96, 3) := by decide +kernel
theorem dX6_read_68 : decode cX6_read 68 = .ok (.aload_n 0, 1) := by decide +kernel
theorem dX6_read_69 : decode cX6_read 69 = .ok (.iconst 0, 1) := by decide +kernel
theorem dX6_read_70 : decode cX6_read 70 = .ok (.putfield 116, 3) := by decide +kernel
theorem dX6_read_73 : decode cX6_read 73 = .ok (.aload_n 0, 1) := by decide +kernel
theorem dX6_read_74 : decode cX6_read 74 = .ok (.getfield 7, 3) := by decide +kernel
theorem dX6_read_77 : decode cX6_read 77 = .ok (.bipush 44, 2) := by decide +kernel
theorem dX6_read_79 : decode cX6_read 79 = .ok (.iaload, 1) := by decide +kernel
theorem dX6_read_80 : decode cX6_read 80 = .ok (.ireturn, 1) := by decide +kernel
set_option maxRecDepth 20000 in
theorem ggX6_isSlot_X6_in : GoodIn wsX6_isSlot wsX6_in := goodIn_r _ [4] (by decide +kernel) (by decide +kernel)
set_option maxRecDepth 20000 in
theorem gX6_isSlot_X6_in : GoodIn wsX6_isSlot (va_wsS RX6 42 yX6_in wsX6_in) := goodIn_app (goodIn_of _ (by decide +kernel)) ggX6_isSlot_X6_in
theorem dX6_isSlot_0 : decode cX6_isSlot 0 = .ok (.iload_n 0, 1) := by decide +kernel
theorem dX6_isSlot_1 : decode cX6_isSlot 1 = .ok (.i2l, 1) := by decide +kernel
theorem dX6_isSlot_2 : decode cX6_isSlot 2 = .ok (.lconst 0, 1) := by decide +kernel
theorem dX6_isSlot_3 : decode cX6_isSlot 3 = .ok (.lconst 1, 1) := by decide +kernel
theorem dX6_isSlot_4 : decode cX6_isSlot 4 = .ok (.invokestatic 42, 3) := by decide +kernel
theorem dX6_isSlot_7 : decode cX6_isSlot 7 = .ok (.ireturn, 1) := by decide +kernel
set_option maxRecDepth 20000 in
theorem ggX6_keep_X6_isSlot : GoodIn wsX6_keep wsX6_isSlot := goodIn_r _ [7, 8, 9, 6, 10] (by decide +kernel) (by decide +kernel)
set_option maxRecDepth 20000 in
theorem gX6_keep_X6_isSlot : GoodIn wsX6_keep (va_wsS RX6 150 yX6_isSlot wsX6_isSlot) := goodIn_app (goodIn_of _ (by decide +kernel)) ggX6_keep_X6_isSlot
set_option maxRecDepth 20000 in
theorem ggX6_keep_X6_refused : GoodIn wsX6_keep wsX6_refused := goodIn_r _ [14, 15, 16, 17, 18, 19, 20, 21, 22, 23, 24, 25, 26, 27, 28, 29, 30, 31] (by decide +kernel) (by decide +kernel)
set_option maxRecDepth 20000 in
theorem gX6_keep_X6_refused : GoodIn wsX6_keep (wsV RX6 79 RX6 yX6_refused wsX6_refused) := goodIn_app (goodIn_of _ (by decide +kernel)) ggX6_keep_X6_refused
theorem dX6_keep_0 : decode cX6_keep 0 = .ok (.aload_n 0, 1) := by decide +kernel
theorem dX6_keep_1 : decode cX6_keep 1 = .ok (.iload_n 1, 1) := by decide +kernel
theorem dX6_keep_2 : decode cX6_keep 2 = .ok (.invokestatic 150, 3) := by decide +kernel
theorem dX6_keep_5 : decode cX6_keep 5 = .ok (.ifCond .eq 7, 3) := by decide +kernel
theorem dX6_keep_8 : decode cX6_keep 8 = .ok (.iconst 0, 1) := by decide +kernel
theorem dX6_keep_9 : decode cX6_keep 9 = .ok (.goto 4, 3) := by decide +kernel
theorem dX6_keep_12 : decode cX6_keep 12 = .ok (.iconst 1, 1) := by decide +kernel
theorem dX6_keep_13 : decode cX6_keep 13 = .ok (.invokevirtual 79, 3) := by decide +kernel
theorem dX6_keep_16 : decode cX6_keep 16 = .ok (.ifCond .eq 4, 3) := by decide +kernel
theorem dX6_keep_19 : decode cX6_keep 19 = .ok (.return_, 1) := by decide +kernel
theorem dX6_keep_20 : decode cX6_keep 20 = .ok (.iconst 0, 1) := by decide +kernel
theorem dX6_keep_21 : decode cX6_keep 21 = .ok (.istore_n 2, 1) := by decide +kernel
theorem dX6_keep_22 : decode cX6_keep 22 = .ok (.iload_n 2, 1) := by decide +kernel
theorem dX6_keep_23 : decode cX6_keep 23 = .ok (.bipush 45, 2) := by decide +kernel
theorem dX6_keep_25 : decode cX6_keep 25 = .ok (.if_icmp .ge 26, 3) := by decide +kernel
theorem dX6_keep_28 : decode cX6_keep 28 = .ok (.aload_n 0, 1) := by decide +kernel
theorem dX6_keep_29 : decode cX6_keep 29 = .ok (.getfield 28, 3) := by decide +kernel
theorem dX6_keep_32 : decode cX6_keep 32 = .ok (.bipush 45, 2) := by decide +kernel
theorem dX6_keep_34 : decode cX6_keep 34 = .ok (.iload_n 1, 1) := by decide +kernel
theorem dX6_keep_35 : decode cX6_keep 35 = .ok (.imul, 1) := by decide +kernel
theorem dX6_keep_36 : decode cX6_keep 36 = .ok (.iload_n 2, 1) := by decide +kernel
theorem dX6_keep_37 : decode cX6_keep 37 = .ok (.iadd, 1) := by decide +kernel
theorem dX6_keep_38 : decode cX6_keep 38 = .ok (.aload_n 0, 1) := by decide +kernel
theorem dX6_keep_39 : decode cX6_keep 39 = .ok (.getfield 7, 3) := by decide +kernel
theorem dX6_keep_42 : decode cX6_keep 42 = .ok (.iload_n 2, 1) := by decide +kernel
theorem dX6_keep_43 : decode cX6_keep 43 = .ok (.iaload, 1) := by decide +kernel
theorem dX6_keep_44 : decode cX6_keep 44 = .ok (.iastore, 1) := by decide +kernel
theorem dX6_keep_45 : decode cX6_keep 45 = .ok (.iinc 2 1, 3) := by decide +kernel
theorem dX6_keep_48 : decode cX6_keep 48 = .ok (.goto (-26), 3) := by decide +kernel
theorem dX6_keep_51 : decode cX6_keep 51 = .ok (.aload_n 0, 1) := by decide +kernel
theorem dX6_keep_52 : decode cX6_keep 52 = .ok (.getfield 31, 3) := by decide +kernel
theorem dX6_keep_55 : decode cX6_keep 55 = .ok (.iload_n 1, 1) := by decide +kernel
theorem dX6_keep_56 : decode cX6_keep 56 = .ok (.iconst 1, 1) := by decide +kernel
theorem dX6_keep_57 : decode cX6_keep 57 = .ok (.bastore, 1) := by decide +kernel
theorem dX6_keep_58 : decode cX6_keep 58 = .ok (.return_, 1) := by decide +kernel
set_option maxRecDepth 20000 in
theorem ggX6_goBack_X6_isSlot : GoodIn wsX6_goBack wsX6_isSlot := goodIn_r _ [7, 8, 9, 6, 10] (by decide +kernel) (by decide +kernel)
set_option maxRecDepth 20000 in
theorem gX6_goBack_X6_isSlot : GoodIn wsX6_goBack (va_wsS RX6 150 yX6_isSlot wsX6_isSlot) := goodIn_app (goodIn_of _ (by decide +kernel)) ggX6_goBack_X6_isSlot
set_option maxRecDepth 20000 in
theorem ggX6_goBack_X6_refused : GoodIn wsX6_goBack wsX6_refused := goodIn_r _ [14, 15, 22, 23, 24, 25, 26, 27, 28, 29, 30, 31, 32, 33, 34, 35, 36, 37] (by decide +kernel) (by decide +kernel)
set_option maxRecDepth 20000 in
theorem gX6_goBack_X6_refused : GoodIn wsX6_goBack (wsV RX6 79 RX6 yX6_refused wsX6_refused) := goodIn_app (goodIn_of _ (by decide +kernel)) ggX6_goBack_X6_refused
set_option maxRecDepth 20000 in
theorem ggX6_goBack_X6_save : GoodIn wsX6_goBack wsX6_save := goodIn_r _ [19, 20, 21, 2, 22, 23, 24, 25, 26, 27, 28, 29, 30, 31, 32, 33, 34, 35, 36, 37] (by decide +kernel) (by decide +kernel)
set_option maxRecDepth 20000 in
theorem gX6_goBack_X6_save : GoodIn wsX6_goBack (wsV RX6 83 RX6 yX6_save wsX6_save) := goodIn_app (goodIn_of _ (by decide +kernel)) ggX6_goBack_X6_save
theorem dX6_goBack_0 : decode cX6_goBack 0 = .ok (.aload_n 0, 1) := by decide +kernel
theorem dX6_goBack_1 : decode cX6_goBack 1 = .ok (.iload_n 1, 1) := by decide +kernel
theorem dX6_goBack_2 : decode cX6_goBack 2 = .ok (.invokestatic 150, 3) := by decide +kernel
theorem dX6_goBack_5 : decode cX6_goBack 5 = .ok (.ifCond .ne 7, 3) := by decide +kernel
theorem dX6_goBack_8 : decode cX6_goBack 8 = .ok (.iconst 1, 1) := by decide +kernel
theorem dX6_goBack_9 : decode cX6_goBack 9 = .ok (.goto 17, 3) := by decide +kernel
theorem dX6_goBack_12 : decode cX6_goBack 12 = .ok (.aload_n 0, 1) := by decide +kernel
theorem dX6_goBack_13 : decode cX6_goBack 13 = .ok (.getfield 31, 3) := by decide +kernel
theorem dX6_goBack_16 : decode cX6_goBack 16 = .ok (.iload_n 1, 1) := by decide +kernel
theorem dX6_goBack_17 : decode cX6_goBack 17 = .ok (.baload, 1) := by decide +kernel
theorem dX6_goBack_18 : decode cX6_goBack 18 = .ok (.ifCond .ne 7, 3) := by decide +kernel
theorem dX6_goBack_21 : decode cX6_goBack 21 = .ok (.iconst 2, 1) := by decide +kernel
theorem dX6_goBack_22 : decode cX6_goBack 22 = .ok (.goto 4, 3) := by decide +kernel
theorem dX6_goBack_25 : decode cX6_goBack 25 = .ok (.iconst 0, 1) := by decide +kernel
theorem dX6_goBack_26 : decode cX6_goBack 26 = .ok (.invokevirtual 79, 3) := by decide +kernel
theorem dX6_goBack_29 : decode cX6_goBack 29 = .ok (.ifCond .eq 4, 3) := by decide +kernel
theorem dX6_goBack_32 : decode cX6_goBack 32 = .ok (.return_, 1) := by decide +kernel
theorem dX6_goBack_33 : decode cX6_goBack 33 = .ok (.aload_n 0, 1) := by decide +kernel
theorem dX6_goBack_34 : decode cX6_goBack 34 = .ok (.invokevirtual 83, 3) := by decide +kernel
theorem dX6_goBack_37 : decode cX6_goBack 37 = .ok (.iconst 0, 1) := by decide +kernel
theorem dX6_goBack_38 : decode cX6_goBack 38 = .ok (.istore_n 2, 1) := by decide +kernel
theorem dX6_goBack_39 : decode cX6_goBack 39 = .ok (.iload_n 2, 1) := by decide +kernel
theorem dX6_goBack_40 : decode cX6_goBack 40 = .ok (.bipush 45, 2) := by decide +kernel
theorem dX6_goBack_42 : decode cX6_goBack 42 = .ok (.if_icmp .ge 26, 3) := by decide +kernel
theorem dX6_goBack_45 : decode cX6_goBack 45 = .ok (.aload_n 0, 1) := by decide +kernel
theorem dX6_goBack_46 : decode cX6_goBack 46 = .ok (.getfield 7, 3) := by decide +kernel
theorem dX6_goBack_49 : decode cX6_goBack 49 = .ok (.iload_n 2, 1) := by decide +kernel
theorem dX6_goBack_50 : decode cX6_goBack 50 = .ok (.aload_n 0, 1) := by decide +kernel
theorem dX6_goBack_51 : decode cX6_goBack 51 = .ok (.getfield 28, 3) := by decide +kernel
theorem dX6_goBack_54 : decode cX6_goBack 54 = .ok (.bipush 45, 2) := by decide +kernel
theorem dX6_goBack_56 : decode cX6_goBack 56 = .ok (.iload_n 1, 1) := by decide +kernel
theorem dX6_goBack_57 : decode cX6_goBack 57 = .ok (.imul, 1) := by decide +kernel
theorem dX6_goBack_58 : decode cX6_goBack 58 = .ok (.iload_n 2, 1) := by decide +kernel
theorem dX6_goBack_59 : decode cX6_goBack 59 = .ok (.iadd, 1) := by decide +kernel
theorem dX6_goBack_60 : decode cX6_goBack 60 = .ok (.iaload, 1) := by decide +kernel
theorem dX6_goBack_61 : decode cX6_goBack 61 = .ok (.iastore, 1) := by decide +kernel
theorem dX6_goBack_62 : decode cX6_goBack 62 = .ok (.iinc 2 1, 3) := by decide +kernel
theorem dX6_goBack_65 : decode cX6_goBack 65 = .ok (.goto (-26), 3) := by decide +kernel
theorem dX6_goBack_68 : decode cX6_goBack 68 = .ok (.return_, 1) := by decide +kernel
set_option maxRecDepth 20000 in
theorem ggX6_undo_X6_refused : GoodIn wsX6_undo wsX6_refused := goodIn_r _ [8, 9, 10, 11, 12, 13, 14, 15, 16, 17, 18, 19, 20, 21, 22, 23, 24, 25] (by decide +kernel) (by decide +kernel)
set_option maxRecDepth 20000 in
theorem gX6_undo_X6_refused : GoodIn wsX6_undo (wsV RX6 79 RX6 yX6_refused wsX6_refused) := goodIn_app (goodIn_of _ (by decide +kernel)) ggX6_undo_X6_refused
theorem dX6_undo_0 : decode cX6_undo 0 = .ok (.aload_n 0, 1) := by decide +kernel
theorem dX6_undo_1 : decode cX6_undo 1 = .ok (.aload_n 0, 1) := by decide +kernel
theorem dX6_undo_2 : decode cX6_undo 2 = .ok (.getfield 70, 3) := by decide +kernel
theorem dX6_undo_5 : decode cX6_undo 5 = .ok (.ifCond .ne 7, 3) := by decide +kernel
theorem dX6_undo_8 : decode cX6_undo 8 = .ok (.iconst 1, 1) := by decide +kernel
theorem dX6_undo_9 : decode cX6_undo 9 = .ok (.goto 4, 3) := by decide +kernel
theorem dX6_undo_12 : decode cX6_undo 12 = .ok (.iconst 0, 1) := by decide +kernel
theorem dX6_undo_13 : decode cX6_undo 13 = .ok (.invokevirtual 79, 3) := by decide +kernel
theorem dX6_undo_16 : decode cX6_undo 16 = .ok (.ifCond .eq 4, 3) := by decide +kernel
theorem dX6_undo_19 : decode cX6_undo 19 = .ok (.return_, 1) := by decide +kernel
theorem dX6_undo_20 : decode cX6_undo 20 = .ok (.aload_n 0, 1) := by decide +kernel
theorem dX6_undo_21 : decode cX6_undo 21 = .ok (.dup, 1) := by decide +kernel
theorem dX6_undo_22 : decode cX6_undo 22 = .ok (.getfield 70, 3) := by decide +kernel
theorem dX6_undo_25 : decode cX6_undo 25 = .ok (.iconst 1, 1) := by decide +kernel
theorem dX6_undo_26 : decode cX6_undo 26 = .ok (.isub, 1) := by decide +kernel
theorem dX6_undo_27 : decode cX6_undo 27 = .ok (.putfield 70, 3) := by decide +kernel
theorem dX6_undo_30 : decode cX6_undo 30 = .ok (.iconst 0, 1) := by decide +kernel
theorem dX6_undo_31 : decode cX6_undo 31 = .ok (.istore_n 1, 1) := by decide +kernel
theorem dX6_undo_32 : decode cX6_undo 32 = .ok (.iload_n 1, 1) := by decide +kernel
theorem dX6_undo_33 : decode cX6_undo 33 = .ok (.bipush 45, 2) := by decide +kernel
theorem dX6_undo_35 : decode cX6_undo 35 = .ok (.if_icmp .ge 29, 3) := by decide +kernel
theorem dX6_undo_38 : decode cX6_undo 38 = .ok (.aload_n 0, 1) := by decide +kernel
theorem dX6_undo_39 : decode cX6_undo 39 = .ok (.getfield 7, 3) := by decide +kernel
theorem dX6_undo_42 : decode cX6_undo 42 = .ok (.iload_n 1, 1) := by decide +kernel
theorem dX6_undo_43 : decode cX6_undo 43 = .ok (.aload_n 0, 1) := by decide +kernel
theorem dX6_undo_44 : decode cX6_undo 44 = .ok (.getfield 25, 3) := by decide +kernel
theorem dX6_undo_47 : decode cX6_undo 47 = .ok (.bipush 45, 2) := by decide +kernel
theorem dX6_undo_49 : decode cX6_undo 49 = .ok (.aload_n 0, 1) := by decide +kernel
theorem dX6_undo_50 : decode cX6_undo 50 = .ok (.getfield 70, 3) := by decide +kernel
theorem dX6_undo_53 : decode cX6_undo 53 = .ok (.imul, 1) := by decide +kernel
theorem dX6_undo_54 : decode cX6_undo 54 = .ok (.iload_n 1, 1) := by decide +kernel
theorem dX6_undo_55 : decode cX6_undo 55 = .ok (.iadd, 1) := by decide +kernel
theorem dX6_undo_56 : decode cX6_undo 56 = .ok (.iaload, 1) := by decide +kernel
theorem dX6_undo_57 : decode cX6_undo 57 = .ok (.iastore, 1) := by decide +kernel
theorem dX6_undo_58 : decode cX6_undo 58 = .ok (.iinc 1 1, 3) := by decide +kernel
theorem dX6_undo_61 : decode cX6_undo 61 = .ok (.goto (-29), 3) := by decide +kernel
theorem dX6_undo_64 : decode cX6_undo 64 = .ok (.return_, 1) := by decide +kernel
theorem dX6_savedStates_0 : decode cX6_savedStates 0 = .ok (.aload_n 0, 1) := by decide +kernel
theorem dX6_savedStates_1 : decode cX6_savedStates 1 = .ok (.iconst 0, 1) := by decide +kernel
theorem dX6_savedStates_2 : decode cX6_savedStates 2 = .ok (.putfield 38, 3) := by decide +kernel
theorem dX6_savedStates_5 : decode cX6_savedStates 5 = .ok (.aload_n 0, 1) := by decide +kernel
theorem dX6_savedStates_6 : decode cX6_savedStates 6 = .ok (.getfield 70, 3) := by decide +kernel
theorem dX6_savedStates_9 : decode cX6_savedStates 9 = .ok (.ireturn, 1) := by decide +kernel
theorem dX6_tell_0 : decode cX6_tell 0 = .ok (.aload_n 0, 1) := by decide +kernel
theorem dX6_tell_1 : decode cX6_tell 1 = .ok (.iconst 0, 1) := by decide +kernel
theorem dX6_tell_2 : decode cX6_tell 2 = .ok (.putfield 38, 3) := by decide +kernel
theorem dX6_tell_5 : decode cX6_tell 5 = .ok (.aload_n 0, 1) := by decide +kernel
theorem dX6_tell_6 : decode cX6_tell 6 = .ok (.getfield 7, 3) := by decide +kernel
theorem dX6_tell_9 : decode cX6_tell 9 = .ok (.iload_n 1, 1) := by decide +kernel
theorem dX6_tell_10 : decode cX6_tell 10 = .ok (.iaload, 1) := by decide +kernel
theorem dX6_tell_11 : decode cX6_tell 11 = .ok (.ireturn, 1) := by decide +kernel
set_option maxRecDepth 20000 in
theorem ggX6_rehearsals_X6_tell : GoodIn wsX6_rehearsals wsX6_tell := goodIn_r _ [5, 6, 7, 8, 9, 10, 11, 12, 13, 14, 15, 16, 17, 18, 19, 20, 21, 22, 23] (by decide +kernel) (by decide +kernel)
set_option maxRecDepth 20000 in
theorem gX6_rehearsals_X6_tell : GoodIn wsX6_rehearsals (wsV RX6 153 RX6 yX6_tell wsX6_tell) := goodIn_app (goodIn_of _ (by decide +kernel)) ggX6_rehearsals_X6_tell
theorem dX6_rehearsals_0 : decode cX6_rehearsals 0 = .ok (.aload_n 0, 1) := by decide +kernel
theorem dX6_rehearsals_1 : decode cX6_rehearsals 1 = .ok (.bipush 44, 2) := by decide +kernel
theorem dX6_rehearsals_3 : decode cX6_rehearsals 3 = .ok (.invokevirtual 153, 3) := by decide +kernel
theorem dX6_rehearsals_6 : decode cX6_rehearsals 6 = .ok (.ireturn, 1) := by decide +kernel
set_option maxRecDepth 20000 in
theorem ggX6_beginOf_X6_noOne : GoodIn wsX6_beginOf wsX6_noOne := goodIn_r _ [6, 7, 8, 9, 5, 10, 1, 11, 12, 13, 14, 15, 16, 17, 18, 19, 20, 21, 22, 23, 24, 25, 26, 27, 28, 29, 30, 31, 32, 33, 34] (by decide +kernel) (by decide +kernel)
set_option maxRecDepth 20000 in
theorem gX6_beginOf_X6_noOne : GoodIn wsX6_beginOf (wsV RX6 93 RX6 yX6_noOne wsX6_noOne) := goodIn_app (goodIn_of _ (by decide +kernel)) ggX6_beginOf_X6_noOne
theorem dX6_beginOf_0 : decode cX6_beginOf 0 = .ok (.aload_n 0, 1) := by decide +kernel
theorem dX6_beginOf_1 : decode cX6_beginOf 1 = .ok (.iload_n 1, 1) := by decide +kernel
theorem dX6_beginOf_2 : decode cX6_beginOf 2 = .ok (.invokevirtual 93, 3) := by decide +kernel
theorem dX6_beginOf_5 : decode cX6_beginOf 5 = .ok (.ifCond .eq 7, 3) := by decide +kernel
theorem dX6_beginOf_8 : decode cX6_beginOf 8 = .ok (.iconst 0, 1) := by decide +kernel
theorem dX6_beginOf_9 : decode cX6_beginOf 9 = .ok (.goto 9, 3) := by decide +kernel
theorem dX6_beginOf_12 : decode cX6_beginOf 12 = .ok (.aload_n 0, 1) := by decide +kernel
theorem dX6_beginOf_13 : decode cX6_beginOf 13 = .ok (.getfield 7, 3) := by decide +kernel
theorem dX6_beginOf_16 : decode cX6_beginOf 16 = .ok (.iload_n 1, 1) := by decide +kernel
theorem dX6_beginOf_17 : decode cX6_beginOf 17 = .ok (.iaload, 1) := by decide +kernel
theorem dX6_beginOf_18 : decode cX6_beginOf 18 = .ok (.ireturn, 1) := by decide +kernel
set_option maxRecDepth 20000 in
theorem ggX6_endOf_X6_noOne : GoodIn wsX6_endOf wsX6_noOne := goodIn_r _ [6, 7, 8, 9, 5, 10, 1, 11, 12, 13, 14, 15, 16, 17, 18, 19, 20, 21, 22, 23, 24, 25, 26, 27, 28, 29, 30, 31, 32, 33, 34] (by decide +kernel) (by decide +kernel)
set_option maxRecDepth 20000 in
theorem gX6_endOf_X6_noOne : GoodIn wsX6_endOf (wsV RX6 93 RX6 yX6_noOne wsX6_noOne) := goodIn_app (goodIn_of _ (by decide +kernel)) ggX6_endOf_X6_noOne
theorem dX6_endOf_0 : decode cX6_endOf 0 = .ok (.aload_n 0, 1) := by decide +kernel
theorem dX6_endOf_1 : decode cX6_endOf 1 = .ok (.iload_n 1, 1) := by decide +kernel
theorem dX6_endOf_2 : decode cX6_endOf 2 = .ok (.invokevirtual 93, 3) := by decide +kernel
theorem dX6_endOf_5 : decode cX6_endOf 5 = .ok (.ifCond .eq 7, 3) := by decide +kernel
theorem dX6_endOf_8 : decode cX6_endOf 8 = .ok (.iconst 0, 1) := by decide +kernel
theorem dX6_endOf_9 : decode cX6_endOf 9 = .ok (.goto 12, 3) := by decide +kernel
theorem dX6_endOf_12 : decode cX6_endOf 12 = .ok (.aload_n 0, 1) := by decide +kernel
theorem dX6_endOf_13 : decode cX6_endOf 13 = .ok (.getfield 7, 3) := by decide +kernel
theorem dX6_endOf_16 : decode cX6_endOf 16 = .ok (.bipush 14, 2) := by decide +kernel
theorem dX6_endOf_18 : decode cX6_endOf 18 = .ok (.iload_n 1, 1) := by decide +kernel
theorem dX6_endOf_19 : decode cX6_endOf 19 = .ok (.iadd, 1) := by decide +kernel
theorem dX6_endOf_20 : decode cX6_endOf 20 = .ok (.iaload, 1) := by decide +kernel
theorem dX6_endOf_21 : decode cX6_endOf 21 = .ok (.ireturn, 1) := by decide +kernel
set_option maxRecDepth 20000 in
theorem ggX6_fameOf_X6_noOne : GoodIn wsX6_fameOf wsX6_noOne := goodIn_r _ [6, 7, 8, 9, 5, 10, 1, 11, 12, 13, 14, 15, 16, 17, 18, 19, 20, 21, 22, 23, 24, 25, 26, 27, 28, 29, 30, 31, 32, 33, 34] (by decide +kernel) (by decide +kernel)
set_option maxRecDepth 20000 in
theorem gX6_fameOf_X6_noOne : GoodIn wsX6_fameOf (wsV RX6 93 RX6 yX6_noOne wsX6_noOne) := goodIn_app (goodIn_of _ (by decide +kernel)) ggX6_fameOf_X6_noOne
theorem dX6_fameOf_0 : decode cX6_fameOf 0 = .ok (.aload_n 0, 1) := by decide +kernel
theorem dX6_fameOf_1 : decode cX6_fameOf 1 = .ok (.iload_n 1, 1) := by decide +kernel
theorem dX6_fameOf_2 : decode cX6_fameOf 2 = .ok (.invokevirtual 93, 3) := by decide +kernel
theorem dX6_fameOf_5 : decode cX6_fameOf 5 = .ok (.ifCond .eq 7, 3) := by decide +kernel
theorem dX6_fameOf_8 : decode cX6_fameOf 8 = .ok (.iconst 0, 1) := by decide +kernel
theorem dX6_fameOf_9 : decode cX6_fameOf 9 = .ok (.goto 12, 3) := by decide +kernel
theorem dX6_fameOf_12 : decode cX6_fameOf 12 = .ok (.aload_n 0, 1) := by decide +kernel
theorem dX6_fameOf_13 : decode cX6_fameOf 13 = .ok (.getfield 7, 3) := by decide +kernel
theorem dX6_fameOf_16 : decode cX6_fameOf 16 = .ok (.bipush 28, 2) := by decide +kernel
theorem dX6_fameOf_18 : decode cX6_fameOf 18 = .ok (.iload_n 1, 1) := by decide +kernel
theorem dX6_fameOf_19 : decode cX6_fameOf 19 = .ok (.iadd, 1) := by decide +kernel
theorem dX6_fameOf_20 : decode cX6_fameOf 20 = .ok (.iaload, 1) := by decide +kernel
theorem dX6_fameOf_21 : decode cX6_fameOf 21 = .ok (.ireturn, 1) := by decide +kernel
theorem dX6_rate_0 : decode cX6_rate 0 = .ok (.aload_n 0, 1) := by decide +kernel
theorem dX6_rate_1 : decode cX6_rate 1 = .ok (.getfield 7, 3) := by decide +kernel
theorem dX6_rate_4 : decode cX6_rate 4 = .ok (.bipush 28, 2) := by decide +kernel
theorem dX6_rate_6 : decode cX6_rate 6 = .ok (.iload_n 1, 1) := by decide +kernel
theorem dX6_rate_7 : decode cX6_rate 7 = .ok (.iadd, 1) := by decide +kernel
theorem dX6_rate_8 : decode cX6_rate 8 = .ok (.iaload, 1) := by decide +kernel
theorem dX6_rate_9 : decode cX6_rate 9 = .ok (.i2f, 1) := by decide +kernel
theorem dX6_rate_10 : decode cX6_rate 10 = .ok (.aload_n 0, 1) := by decide +kernel
theorem dX6_rate_11 : decode cX6_rate 11 = .ok (.getfield 7, 3) := by decide +kernel
theorem dX6_rate_14 : decode cX6_rate 14 = .ok (.bipush 14, 2) := by decide +kernel
theorem dX6_rate_16 : decode cX6_rate 16 = .ok (.iload_n 1, 1) := by decide +kernel
theorem dX6_rate_17 : decode cX6_rate 17 = .ok (.iadd, 1) := by decide +kernel
theorem dX6_rate_18 : decode cX6_rate 18 = .ok (.iaload, 1) := by decide +kernel
theorem dX6_rate_19 : decode cX6_rate 19 = .ok (.aload_n 0, 1) := by decide +kernel
theorem dX6_rate_20 : decode cX6_rate 20 = .ok (.getfield 7, 3) := by decide +kernel
theorem dX6_rate_23 : decode cX6_rate 23 = .ok (.iload_n 1, 1) := by decide +kernel
theorem dX6_rate_24 : decode cX6_rate 24 = .ok (.iaload, 1) := by decide +kernel
theorem dX6_rate_25 : decode cX6_rate 25 = .ok (.isub, 1) := by decide +kernel
theorem dX6_rate_26 : decode cX6_rate 26 = .ok (.i2f, 1) := by decide +kernel
theorem dX6_rate_27 : decode cX6_rate 27 = .ok (.fdiv, 1) := by decide +kernel
theorem dX6_rate_28 : decode cX6_rate 28 = .ok (.freturn, 1) := by decide +kernel
set_option maxRecDepth 20000 in
theorem ggX6_famePerQuarter_X6_noOne : GoodIn wsX6_famePerQuarter wsX6_noOne := goodIn_r _ [5, 6, 7, 8, 4, 9, 10, 11, 12, 13, 14, 15, 16, 17, 18, 23, 24, 25, 26, 27, 28, 29, 30, 31, 32, 33, 34, 35, 36, 37, 38] (by decide +kernel) (by decide +kernel)
set_option maxRecDepth 20000 in
theorem gX6_famePerQuarter_X6_noOne : GoodIn wsX6_famePerQuarter (wsV RX6 93 RX6 yX6_noOne wsX6_noOne) := goodIn_app (goodIn_of _ (by decide +kernel)) ggX6_famePerQuarter_X6_noOne
set_option maxRecDepth 20000 in
theorem ggX6_famePerQuarter_X6_rate : GoodIn wsX6_famePerQuarter wsX6_rate := goodIn_r _ [22, 10, 23, 24, 25, 26, 27, 28, 29, 30, 31, 32, 33, 34, 35, 36, 37, 38] (by decide +kernel) (by decide +kernel)
set_option maxRecDepth 20000 in
theorem gX6_famePerQuarter_X6_rate : GoodIn wsX6_famePerQuarter (wsV RX6 156 RX6 yX6_rate wsX6_rate) := goodIn_app (goodIn_of _ (by decide +kernel)) ggX6_famePerQuarter_X6_rate
theorem dX6_famePerQuarter_0 : decode cX6_famePerQuarter 0 = .ok (.aload_n 0, 1) := by decide +kernel
theorem dX6_famePerQuarter_1 : decode cX6_famePerQuarter 1 = .ok (.iload_n 1, 1) := by decide +kernel
theorem dX6_famePerQuarter_2 : decode cX6_famePerQuarter 2 = .ok (.invokevirtual 93, 3) := by decide +kernel
theorem dX6_famePerQuarter_5 : decode cX6_famePerQuarter 5 = .ok (.ifCond .eq 7, 3) := by decide +kernel
theorem dX6_famePerQuarter_8 : decode cX6_famePerQuarter 8 = .ok (.fconst 0, 1) := by decide +kernel
theorem dX6_famePerQuarter_9 : decode cX6_famePerQuarter 9 = .ok (.goto 8, 3) := by decide +kernel
theorem dX6_famePerQuarter_12 : decode cX6_famePerQuarter 12 = .ok (.aload_n 0, 1) := by decide +kernel
theorem dX6_famePerQuarter_13 : decode cX6_famePerQuarter 13 = .ok (.iload_n 1, 1) := by decide +kernel
theorem dX6_famePerQuarter_14 : decode cX6_famePerQuarter 14 = .ok (.invokevirtual 156, 3) := by decide +kernel
theorem dX6_famePerQuarter_17 : decode cX6_famePerQuarter 17 = .ok (.freturn, 1) := by decide +kernel
set_option maxRecDepth 20000 in
theorem ggX6_isBooked_X6_noOne : GoodIn wsX6_isBooked wsX6_noOne := goodIn_r _ [5, 6, 7, 8, 4, 9, 10, 11, 12, 13, 14, 15, 16, 17, 18, 23, 24, 25, 26, 27, 28, 29, 30, 31, 32, 33, 34, 35, 36, 37, 38] (by decide +kernel) (by decide +kernel)
set_option maxRecDepth 20000 in
theorem gX6_isBooked_X6_noOne : GoodIn wsX6_isBooked (wsV RX6 93 RX6 yX6_noOne wsX6_noOne) := goodIn_app (goodIn_of _ (by decide +kernel)) ggX6_isBooked_X6_noOne
set_option maxRecDepth 20000 in
theorem ggX6_isBooked_X6_isIn : GoodIn wsX6_isBooked wsX6_isIn := goodIn_r _ [22, 10, 23, 24, 25, 26, 27, 28, 29, 30, 31, 32, 33, 34, 35, 36, 37, 38] (by decide +kernel) (by decide +kernel)
set_option maxRecDepth 20000 in
theorem gX6_isBooked_X6_isIn : GoodIn wsX6_isBooked (wsV RX6 106 RX6 yX6_isIn wsX6_isIn) := goodIn_app (goodIn_of _ (by decide +kernel)) ggX6_isBooked_X6_isIn
theorem dX6_isBooked_0 : decode cX6_isBooked 0 = .ok (.aload_n 0, 1) := by decide +kernel
theorem dX6_isBooked_1 : decode cX6_isBooked 1 = .ok (.iload_n 1, 1) := by decide +kernel
theorem dX6_isBooked_2 : decode cX6_isBooked 2 = .ok (.invokevirtual 93, 3) := by decide +kernel
theorem dX6_isBooked_5 : decode cX6_isBooked 5 = .ok (.ifCond .ne 15, 3) := by decide +kernel
theorem dX6_isBooked_8 : decode cX6_isBooked 8 = .ok (.aload_n 0, 1) := by decide +kernel
theorem dX6_isBooked_9 : decode cX6_isBooked 9 = .ok (.iload_n 1, 1) := by decide +kernel
theorem dX6_isBooked_10 : decode cX6_isBooked 10 = .ok (.invokevirtual 106, 3) := by decide +kernel
theorem dX6_isBooked_13 : decode cX6_isBooked 13 = .ok (.ifCond .eq 7, 3) := by decide +kernel
theorem dX6_isBooked_16 : decode cX6_isBooked 16 = .ok (.iconst 1, 1) := by decide +kernel
theorem dX6_isBooked_17 : decode cX6_isBooked 17 = .ok (.goto 4, 3) := by decide +kernel
theorem dX6_isBooked_20 : decode cX6_isBooked 20 = .ok (.iconst 0, 1) := by decide +kernel
theorem dX6_isBooked_21 : decode cX6_isBooked 21 = .ok (.ireturn, 1) := by decide +kernel
set_option maxRecDepth 20000 in
theorem ggX6_pause_X6_tell : GoodIn wsX6_pause wsX6_tell := goodIn_r _ [5, 6, 7, 8, 9, 10, 11, 12, 13, 14, 15, 16, 17, 18, 19, 20, 21, 22, 23] (by decide +kernel) (by decide +kernel)
set_option maxRecDepth 20000 in
theorem gX6_pause_X6_tell : GoodIn wsX6_pause (wsV RX6 153 RX6 yX6_tell wsX6_tell) := goodIn_app (goodIn_of _ (by decide +kernel)) ggX6_pause_X6_tell
theorem dX6_pause_0 : decode cX6_pause 0 = .ok (.aload_n 0, 1) := by decide +kernel
theorem dX6_pause_1 : decode cX6_pause 1 = .ok (.bipush 43, 2) := by decide +kernel
theorem dX6_pause_3 : decode cX6_pause 3 = .ok (.invokevirtual 153, 3) := by decide +kernel
theorem dX6_pause_6 : decode cX6_pause 6 = .ok (.ireturn, 1) := by decide +kernel
set_option maxRecDepth 20000 in
theorem ggX6_booked_X6_bits : GoodIn wsX6_booked wsX6_bits := goodIn_r _ [6] (by decide +kernel) (by decide +kernel)
set_option maxRecDepth 20000 in
theorem gX6_booked_X6_bits : GoodIn wsX6_booked (va_wsS RX6 58 yX6_bits wsX6_bits) := goodIn_app (goodIn_of _ (by decide +kernel)) ggX6_booked_X6_bits
theorem dX6_booked_0 : decode cX6_booked 0 = .ok (.aload_n 0, 1) := by decide +kernel
theorem dX6_booked_1 : decode cX6_booked 1 = .ok (.iconst 0, 1) := by decide +kernel
theorem dX6_booked_2 : decode cX6_booked 2 = .ok (.putfield 38, 3) := by decide +kernel
theorem dX6_booked_5 : decode cX6_booked 5 = .ok (.aload_n 0, 1) := by decide +kernel
theorem dX6_booked_6 : decode cX6_booked 6 = .ok (.getfield 7, 3) := by decide +kernel
theorem dX6_booked_9 : decode cX6_booked 9 = .ok (.bipush 42, 2) := by decide +kernel
theorem dX6_booked_11 : decode cX6_booked 11 = .ok (.iaload, 1) := by decide +kernel
theorem dX6_booked_12 : decode cX6_booked 12 = .ok (.invokestatic 58, 3) := by decide +kernel
theorem dX6_booked_15 : decode cX6_booked 15 = .ok (.ireturn, 1) := by decide +kernel
set_option maxRecDepth 20000 in
theorem ggX6_bookedFame_X6_fameOfBooked : GoodIn wsX6_bookedFame wsX6_fameOfBooked := goodIn_r _ [6, 7, 8, 9, 10, 11, 12, 13, 14, 15, 16, 17, 18, 19, 20, 21, 22, 23] (by decide +kernel) (by decide +kernel)
set_option maxRecDepth 20000 in
theorem gX6_bookedFame_X6_fameOfBooked : GoodIn wsX6_bookedFame (wsV RX6 109 RX6 yX6_fameOfBooked wsX6_fameOfBooked) := goodIn_app (goodIn_of _ (by decide +kernel)) ggX6_bookedFame_X6_fameOfBooked
theorem dX6_bookedFame_0 : decode cX6_bookedFame 0 = .ok (.aload_n 0, 1) := by decide +kernel
theorem dX6_bookedFame_1 : decode cX6_bookedFame 1 = .ok (.iconst 0, 1) := by decide +kernel
theorem dX6_bookedFame_2 : decode cX6_bookedFame 2 = .ok (.putfield 38, 3) := by decide +kernel
theorem dX6_bookedFame_5 : decode cX6_bookedFame 5 = .ok (.aload_n 0, 1) := by decide +kernel
theorem dX6_bookedFame_6 : decode cX6_bookedFame 6 = .ok (.invokevirtual 109, 3) := by decide +kernel
theorem dX6_bookedFame_9 : decode cX6_bookedFame 9 = .ok (.ireturn, 1) := by decide +kernel
set_option maxRecDepth 20000 in
theorem ggX6_areInConflict_X6_isThere : GoodIn wsX6_areInConflict wsX6_isThere := goodIn_r _ [6, 1, 7, 8, 5, 9, 18, 19, 20, 21, 22, 23, 24, 25, 26, 27, 28, 29, 30, 31, 32, 33] (by decide +kernel) (by decide +kernel)
set_option maxRecDepth 20000 in
theorem gX6_areInConflict_X6_isThere : GoodIn wsX6_areInConflict (wsV RX6 90 RX6 yX6_isThere wsX6_isThere) := goodIn_app (goodIn_of _ (by decide +kernel)) ggX6_areInConflict_X6_isThere
set_option maxRecDepth 20000 in
theorem ggX6_areInConflict_X6_refused : GoodIn wsX6_areInConflict wsX6_refused := goodIn_r _ [13, 14, 18, 19, 20, 21, 22, 23, 24, 25, 26, 27, 28, 29, 30, 31, 32, 33] (by decide +kernel) (by decide +kernel)
set_option maxRecDepth 20000 in
theorem gX6_areInConflict_X6_refused : GoodIn wsX6_areInConflict (wsV RX6 79 RX6 yX6_refused wsX6_refused) := goodIn_app (goodIn_of _ (by decide +kernel)) ggX6_areInConflict_X6_refused
set_option maxRecDepth 20000 in
theorem ggX6_areInConflict_X6_clash : GoodIn wsX6_areInConflict wsX6_clash := goodIn_r _ [17] (by decide +kernel) (by decide +kernel)
set_option maxRecDepth 20000 in
theorem gX6_areInConflict_X6_clash : GoodIn wsX6_areInConflict (va_wsS RX6 50 yX6_clash wsX6_clash) := goodIn_app (goodIn_of _ (by decide +kernel)) ggX6_areInConflict_X6_clash
theorem dX6_areInConflict_0 : decode cX6_areInConflict 0 = .ok (.aload_n 0, 1) := by decide +kernel
theorem dX6_areInConflict_1 : decode cX6_areInConflict 1 = .ok (.aload_n 0, 1) := by decide +kernel
theorem dX6_areInConflict_2 : decode cX6_areInConflict 2 = .ok (.iload_n 1, 1) := by decide +kernel
theorem dX6_areInConflict_3 : decode cX6_areInConflict 3 = .ok (.invokevirtual 90, 3) := by decide +kernel
theorem dX6_areInConflict_6 : decode cX6_areInConflict 6 = .ok (.ifCond .eq 15, 3) := by decide +kernel
theorem dX6_areInConflict_9 : decode cX6_areInConflict 9 = .ok (.aload_n 0, 1) := by decide +kernel
theorem dX6_areInConflict_10 : decode cX6_areInConflict 10 = .ok (.iload_n 2, 1) := by decide +kernel
theorem dX6_areInConflict_11 : decode cX6_areInConflict 11 = .ok (.invokevirtual 90, 3) := by decide +kernel
theorem dX6_areInConflict_14 : decode cX6_areInConflict 14 = .ok (.ifCond .eq 7, 3) := by decide +kernel
theorem dX6_areInConflict_17 : decode cX6_areInConflict 17 = .ok (.iconst 0, 1) := by decide +kernel
theorem dX6_areInConflict_18 : decode cX6_areInConflict 18 = .ok (.goto 4, 3) := by decide +kernel
theorem dX6_areInConflict_21 : decode cX6_areInConflict 21 = .ok (.iconst 1, 1) := by decide +kernel
theorem dX6_areInConflict_22 : decode cX6_areInConflict 22 = .ok (.invokevirtual 79, 3) := by decide +kernel
theorem dX6_areInConflict_25 : decode cX6_areInConflict 25 = .ok (.ifCond .ne 19, 3) := by decide +kernel
theorem dX6_areInConflict_28 : decode cX6_areInConflict 28 = .ok (.aload_n 0, 1) := by decide +kernel
theorem dX6_areInConflict_29 : decode cX6_areInConflict 29 = .ok (.getfield 7, 3) := by decide +kernel
theorem dX6_areInConflict_32 : decode cX6_areInConflict 32 = .ok (.iload_n 1, 1) := by decide +kernel
theorem dX6_areInConflict_33 : decode cX6_areInConflict 33 = .ok (.iload_n 2, 1) := by decide +kernel
theorem dX6_areInConflict_34 : decode cX6_areInConflict 34 = .ok (.invokestatic 50, 3) := by decide +kernel
theorem dX6_areInConflict_37 : decode cX6_areInConflict 37 = .ok (.ifCond .eq 7, 3) := by decide +kernel
theorem dX6_areInConflict_40 : decode cX6_areInConflict 40 = .ok (.iconst 1, 1) := by decide +kernel
theorem dX6_areInConflict_41 : decode cX6_areInConflict 41 = .ok (.goto 4, 3) := by decide +kernel
theorem dX6_areInConflict_44 : decode cX6_areInConflict 44 = .ok (.iconst 0, 1) := by decide +kernel
theorem dX6_areInConflict_45 : decode cX6_areInConflict 45 = .ok (.ireturn, 1) := by decide +kernel
set_option maxRecDepth 20000 in
theorem ggX6_conflictsOf_X6_noOne : GoodIn wsX6_conflictsOf wsX6_noOne := goodIn_r _ [6, 7, 8, 9, 5, 10, 1, 11, 12, 13, 14, 15, 16, 17, 18, 28, 29, 30, 31, 32, 33, 34, 35, 36, 37, 38, 39, 40, 41, 42, 43] (by decide +kernel) (by decide +kernel)
set_option maxRecDepth 20000 in
theorem gX6_conflictsOf_X6_noOne : GoodIn wsX6_conflictsOf (wsV RX6 93 RX6 yX6_noOne wsX6_noOne) := goodIn_app (goodIn_of _ (by decide +kernel)) ggX6_conflictsOf_X6_noOne
set_option maxRecDepth 20000 in
theorem ggX6_conflictsOf_X6_foesOf : GoodIn wsX6_conflictsOf wsX6_foesOf := goodIn_r _ [21, 22, 23, 5, 24] (by decide +kernel) (by decide +kernel)
set_option maxRecDepth 20000 in
theorem gX6_conflictsOf_X6_foesOf : GoodIn wsX6_conflictsOf (va_wsS RX6 54 yX6_foesOf wsX6_foesOf) := goodIn_app (goodIn_of _ (by decide +kernel)) ggX6_conflictsOf_X6_foesOf
set_option maxRecDepth 20000 in
theorem ggX6_conflictsOf_X6_bits : GoodIn wsX6_conflictsOf wsX6_bits := goodIn_r _ [27] (by decide +kernel) (by decide +kernel)
set_option maxRecDepth 20000 in
theorem gX6_conflictsOf_X6_bits : GoodIn wsX6_conflictsOf (va_wsS RX6 58 yX6_bits wsX6_bits) := goodIn_app (goodIn_of _ (by decide +kernel)) ggX6_conflictsOf_X6_bits
theorem dX6_conflictsOf_0 : decode cX6_conflictsOf 0 = .ok (.aload_n 0, 1) := by decide +kernel
theorem dX6_conflictsOf_1 : decode cX6_conflictsOf 1 = .ok (.iload_n 1, 1) := by decide +kernel
theorem dX6_conflictsOf_2 : decode cX6_conflictsOf 2 = .ok (.invokevirtual 93, 3) := by decide +kernel
theorem dX6_conflictsOf_5 : decode cX6_conflictsOf 5 = .ok (.ifCond .eq 7, 3) := by decide +kernel
theorem dX6_conflictsOf_8 : decode cX6_conflictsOf 8 = .ok (.iconst 0, 1) := by decide +kernel
theorem dX6_conflictsOf_9 : decode cX6_conflictsOf 9 = .ok (.goto 14, 3) := by decide +kernel
theorem dX6_conflictsOf_12 : decode cX6_conflictsOf 12 = .ok (.aload_n 0, 1) := by decide +kernel
theorem dX6_conflictsOf_13 : decode cX6_conflictsOf 13 = .ok (.getfield 7, 3) := by decide +kernel
theorem dX6_conflictsOf_16 : decode cX6_conflictsOf 16 = .ok (.iload_n 1, 1) := by decide +kernel
theorem dX6_conflictsOf_17 : decode cX6_conflictsOf 17 = .ok (.invokestatic 54, 3) := by decide +kernel
theorem dX6_conflictsOf_20 : decode cX6_conflictsOf 20 = .ok (.invokestatic 58, 3) := by decide +kernel
theorem dX6_conflictsOf_23 : decode cX6_conflictsOf 23 = .ok (.ireturn, 1) := by decide +kernel
set_option maxRecDepth 20000 in
theorem ggX6_conflictsByPairs_X6_pairs : GoodIn wsX6_conflictsByPairs wsX6_pairs := goodIn_r _ [6, 7, 8, 9, 5, 10, 11, 12, 13, 14, 15, 16, 17, 18, 19, 20, 21, 22, 23, 24, 25, 26, 27, 28, 29, 30, 31, 32] (by decide +kernel) (by decide +kernel)
set_option maxRecDepth 20000 in
theorem gX6_conflictsByPairs_X6_pairs : GoodIn wsX6_conflictsByPairs (wsV RX6 160 RX6 yX6_pairs wsX6_pairs) := goodIn_app (goodIn_of _ (by decide +kernel)) ggX6_conflictsByPairs_X6_pairs
theorem dX6_conflictsByPairs_0 : decode cX6_conflictsByPairs 0 = .ok (.aload_n 0, 1) := by decide +kernel
theorem dX6_conflictsByPairs_1 : decode cX6_conflictsByPairs 1 = .ok (.iconst 0, 1) := by decide +kernel
theorem dX6_conflictsByPairs_2 : decode cX6_conflictsByPairs 2 = .ok (.putfield 38, 3) := by decide +kernel
theorem dX6_conflictsByPairs_5 : decode cX6_conflictsByPairs 5 = .ok (.aload_n 0, 1) := by decide +kernel
theorem dX6_conflictsByPairs_6 : decode cX6_conflictsByPairs 6 = .ok (.invokevirtual 160, 3) := by decide +kernel
theorem dX6_conflictsByPairs_9 : decode cX6_conflictsByPairs 9 = .ok (.ireturn, 1) := by decide +kernel
set_option maxRecDepth 20000 in
theorem ggX6_conflictsBySweep_X6_pairs : GoodIn wsX6_conflictsBySweep wsX6_pairs := goodIn_r _ [6, 7, 8, 9, 5, 10, 11, 12, 13, 14, 15, 16, 17, 18, 19, 20, 21, 22, 23, 24, 25, 26, 27, 28, 29, 30, 31, 32] (by decide +kernel) (by decide +kernel)
set_option maxRecDepth 20000 in
theorem gX6_conflictsBySweep_X6_pairs : GoodIn wsX6_conflictsBySweep (wsV RX6 160 RX6 yX6_pairs wsX6_pairs) := goodIn_app (goodIn_of _ (by decide +kernel)) ggX6_conflictsBySweep_X6_pairs
theorem dX6_conflictsBySweep_0 : decode cX6_conflictsBySweep 0 = .ok (.aload_n 0, 1) := by decide +kernel
theorem dX6_conflictsBySweep_1 : decode cX6_conflictsBySweep 1 = .ok (.iconst 0, 1) := by decide +kernel
theorem dX6_conflictsBySweep_2 : decode cX6_conflictsBySweep 2 = .ok (.putfield 38, 3) := by decide +kernel
theorem dX6_conflictsBySweep_5 : decode cX6_conflictsBySweep 5 = .ok (.aload_n 0, 1) := by decide +kernel
theorem dX6_conflictsBySweep_6 : decode cX6_conflictsBySweep 6 = .ok (.invokevirtual 160, 3) := by decide +kernel
theorem dX6_conflictsBySweep_9 : decode cX6_conflictsBySweep 9 = .ok (.ireturn, 1) := by decide +kernel
set_option maxRecDepth 20000 in
theorem ggX6_roomsBySweep_X6_give : GoodIn wsX6_roomsBySweep wsX6_give := goodIn_r _ [6, 7, 8, 9, 10, 5, 11, 12, 13, 14, 15, 16, 17, 18, 19, 20, 21, 22, 23, 24, 25, 26, 27] (by decide +kernel) (by decide +kernel)
set_option maxRecDepth 20000 in
theorem gX6_roomsBySweep_X6_give : GoodIn wsX6_roomsBySweep (wsV RX6 163 RX6 yX6_give wsX6_give) := goodIn_app (goodIn_of _ (by decide +kernel)) ggX6_roomsBySweep_X6_give
theorem dX6_roomsBySweep_0 : decode cX6_roomsBySweep 0 = .ok (.aload_n 0, 1) := by decide +kernel
theorem dX6_roomsBySweep_1 : decode cX6_roomsBySweep 1 = .ok (.iconst 0, 1) := by decide +kernel
theorem dX6_roomsBySweep_2 : decode cX6_roomsBySweep 2 = .ok (.putfield 38, 3) := by decide +kernel
theorem dX6_roomsBySweep_5 : decode cX6_roomsBySweep 5 = .ok (.aload_n 0, 1) := by decide +kernel
theorem dX6_roomsBySweep_6 : decode cX6_roomsBySweep 6 = .ok (.invokevirtual 163, 3) := by decide +kernel
theorem dX6_roomsBySweep_9 : decode cX6_roomsBySweep 9 = .ok (.ireturn, 1) := by decide +kernel
set_option maxRecDepth 20000 in
theorem ggX6_roomsByGiving_X6_give : GoodIn wsX6_roomsByGiving wsX6_give := goodIn_r _ [6, 7, 8, 9, 10, 5, 11, 12, 13, 14, 15, 16, 17, 18, 19, 20, 21, 22, 23, 24, 25, 26, 27] (by decide +kernel) (by decide +kernel)
set_option maxRecDepth 20000 in
theorem gX6_roomsByGiving_X6_give : GoodIn wsX6_roomsByGiving (wsV RX6 163 RX6 yX6_give wsX6_give) := goodIn_app (goodIn_of _ (by decide +kernel)) ggX6_roomsByGiving_X6_give
theorem dX6_roomsByGiving_0 : decode cX6_roomsByGiving 0 = .ok (.aload_n 0, 1) := by decide +kernel
theorem dX6_roomsByGiving_1 : decode cX6_roomsByGiving 1 = .ok (.iconst 0, 1) := by decide +kernel
theorem dX6_roomsByGiving_2 : decode cX6_roomsByGiving 2 = .ok (.putfield 38, 3) := by decide +kernel
theorem dX6_roomsByGiving_5 : decode cX6_roomsByGiving 5 = .ok (.aload_n 0, 1) := by decide +kernel
theorem dX6_roomsByGiving_6 : decode cX6_roomsByGiving 6 = .ok (.invokevirtual 163, 3) := by decide +kernel
theorem dX6_roomsByGiving_9 : decode cX6_roomsByGiving 9 = .ok (.ireturn, 1) := by decide +kernel
set_option maxRecDepth 20000 in
theorem ggX6_roomOf_X6_noOne : GoodIn wsX6_roomOf wsX6_noOne := goodIn_r _ [6, 7, 8, 9, 5, 10, 11, 12, 13, 14, 15, 16, 17, 18, 19, 27, 28, 29, 30, 31, 32, 33, 34, 35, 36, 37, 38, 39, 40, 41, 42] (by decide +kernel) (by decide +kernel)
set_option maxRecDepth 20000 in
theorem gX6_roomOf_X6_noOne : GoodIn wsX6_roomOf (wsV RX6 93 RX6 yX6_noOne wsX6_noOne) := goodIn_app (goodIn_of _ (by decide +kernel)) ggX6_roomOf_X6_noOne
set_option maxRecDepth 20000 in
theorem ggX6_roomOf_X6_give : GoodIn wsX6_roomOf wsX6_give := goodIn_r _ [23, 11, 1, 24, 25, 5, 26, 27, 28, 29, 30, 31, 32, 33, 34, 35, 36, 37, 38, 39, 40, 41, 42] (by decide +kernel) (by decide +kernel)
set_option maxRecDepth 20000 in
theorem gX6_roomOf_X6_give : GoodIn wsX6_roomOf (wsV RX6 163 RX6 yX6_give wsX6_give) := goodIn_app (goodIn_of _ (by decide +kernel)) ggX6_roomOf_X6_give
theorem dX6_roomOf_0 : decode cX6_roomOf 0 = .ok (.aload_n 0, 1) := by decide +kernel
theorem dX6_roomOf_1 : decode cX6_roomOf 1 = .ok (.iload_n 1, 1) := by decide +kernel
theorem dX6_roomOf_2 : decode cX6_roomOf 2 = .ok (.invokevirtual 93, 3) := by decide +kernel
theorem dX6_roomOf_5 : decode cX6_roomOf 5 = .ok (.ifCond .eq 5, 3) := by decide +kernel
theorem dX6_roomOf_8 : decode cX6_roomOf 8 = .ok (.iconst 0, 1) := by decide +kernel
theorem dX6_roomOf_9 : decode cX6_roomOf 9 = .ok (.ireturn, 1) := by decide +kernel
theorem dX6_roomOf_10 : decode cX6_roomOf 10 = .ok (.aload_n 0, 1) := by decide +kernel
theorem dX6_roomOf_11 : decode cX6_roomOf 11 = .ok (.invokevirtual 163, 3) := by decide +kernel
theorem dX6_roomOf_14 : decode cX6_roomOf 14 = .ok (.istore_n 2, 1) := by decide +kernel
theorem dX6_roomOf_15 : decode cX6_roomOf 15 = .ok (.aload_n 0, 1) := by decide +kernel
theorem dX6_roomOf_16 : decode cX6_roomOf 16 = .ok (.getfield 22, 3) := by decide +kernel
theorem dX6_roomOf_19 : decode cX6_roomOf 19 = .ok (.iload_n 1, 1) := by decide +kernel
theorem dX6_roomOf_20 : decode cX6_roomOf 20 = .ok (.iaload, 1) := by decide +kernel
theorem dX6_roomOf_21 : decode cX6_roomOf 21 = .ok (.ireturn, 1) := by decide +kernel
set_option maxRecDepth 20000 in
theorem ggX6_bestByTrying_X6_bestFame : GoodIn wsX6_bestByTrying wsX6_bestFame := goodIn_r _ [6, 7, 8, 9, 10, 5, 11, 12, 13, 14, 15, 16, 17, 18, 19, 20, 21, 22, 23, 24, 25, 26, 27, 28, 29, 30, 31, 32, 33, 34, 35, 36, 37, 38, 39] (by decide +kernel) (by decide +kernel)
set_option maxRecDepth 20000 in
theorem gX6_bestByTrying_X6_bestFame : GoodIn wsX6_bestByTrying (wsV RX6 166 RX6 yX6_bestFame wsX6_bestFame) := goodIn_app (goodIn_of _ (by decide +kernel)) ggX6_bestByTrying_X6_bestFame
theorem dX6_bestByTrying_0 : decode cX6_bestByTrying 0 = .ok (.aload_n 0, 1) := by decide +kernel
theorem dX6_bestByTrying_1 : decode cX6_bestByTrying 1 = .ok (.iconst 0, 1) := by decide +kernel
theorem dX6_bestByTrying_2 : decode cX6_bestByTrying 2 = .ok (.putfield 38, 3) := by decide +kernel
theorem dX6_bestByTrying_5 : decode cX6_bestByTrying 5 = .ok (.aload_n 0, 1) := by decide +kernel
theorem dX6_bestByTrying_6 : decode cX6_bestByTrying 6 = .ok (.invokevirtual 166, 3) := by decide +kernel
theorem dX6_bestByTrying_9 : decode cX6_bestByTrying 9 = .ok (.ireturn, 1) := by decide +kernel
set_option maxRecDepth 20000 in
theorem ggX6_bestByTable_X6_bestFame : GoodIn wsX6_bestByTable wsX6_bestFame := goodIn_r _ [6, 7, 8, 9, 10, 5, 11, 12, 13, 14, 15, 16, 17, 18, 19, 20, 21, 22, 23, 24, 25, 26, 27, 28, 29, 30, 31, 32, 33, 34, 35, 36, 37, 38, 39] (by decide +kernel) (by decide +kernel)
set_option maxRecDepth 20000 in
theorem gX6_bestByTable_X6_bestFame : GoodIn wsX6_bestByTable (wsV RX6 166 RX6 yX6_bestFame wsX6_bestFame) := goodIn_app (goodIn_of _ (by decide +kernel)) ggX6_bestByTable_X6_bestFame
theorem dX6_bestByTable_0 : decode cX6_bestByTable 0 = .ok (.aload_n 0, 1) := by decide +kernel
theorem dX6_bestByTable_1 : decode cX6_bestByTable 1 = .ok (.iconst 0, 1) := by decide +kernel
theorem dX6_bestByTable_2 : decode cX6_bestByTable 2 = .ok (.putfield 38, 3) := by decide +kernel
theorem dX6_bestByTable_5 : decode cX6_bestByTable 5 = .ok (.aload_n 0, 1) := by decide +kernel
theorem dX6_bestByTable_6 : decode cX6_bestByTable 6 = .ok (.invokevirtual 166, 3) := by decide +kernel
theorem dX6_bestByTable_9 : decode cX6_bestByTable 9 = .ok (.ireturn, 1) := by decide +kernel
set_option maxRecDepth 20000 in
theorem ggX6_bestChoice_X6_fill : GoodIn wsX6_bestChoice wsX6_fill := goodIn_r _ [6, 7, 8, 9, 10, 11, 5, 12, 13, 14, 15, 20, 21, 22, 23, 24, 25, 26, 27, 28, 29, 30, 31, 32, 33, 34, 35] (by decide +kernel) (by decide +kernel)
set_option maxRecDepth 20000 in
theorem gX6_bestChoice_X6_fill : GoodIn wsX6_bestChoice (wsV RX6 62 RX6 yX6_fill wsX6_fill) := goodIn_app (goodIn_of _ (by decide +kernel)) ggX6_bestChoice_X6_fill
set_option maxRecDepth 20000 in
theorem ggX6_bestChoice_X6_bestSet : GoodIn wsX6_bestChoice wsX6_bestSet := goodIn_r _ [19, 9, 20, 21, 22, 23, 24, 25, 26, 27, 28, 29, 30, 31, 32, 33, 34, 35] (by decide +kernel) (by decide +kernel)
set_option maxRecDepth 20000 in
theorem gX6_bestChoice_X6_bestSet : GoodIn wsX6_bestChoice (wsV RX6 66 RX6 yX6_bestSet wsX6_bestSet) := goodIn_app (goodIn_of _ (by decide +kernel)) ggX6_bestChoice_X6_bestSet
theorem dX6_bestChoice_0 : decode cX6_bestChoice 0 = .ok (.aload_n 0, 1) := by decide +kernel
theorem dX6_bestChoice_1 : decode cX6_bestChoice 1 = .ok (.iconst 0, 1) := by decide +kernel
theorem dX6_bestChoice_2 : decode cX6_bestChoice 2 = .ok (.putfield 38, 3) := by decide +kernel
theorem dX6_bestChoice_5 : decode cX6_bestChoice 5 = .ok (.aload_n 0, 1) := by decide +kernel
theorem dX6_bestChoice_6 : decode cX6_bestChoice 6 = .ok (.aload_n 0, 1) := by decide +kernel
theorem dX6_bestChoice_7 : decode cX6_bestChoice 7 = .ok (.invokevirtual 62, 3) := by decide +kernel
theorem dX6_bestChoice_10 : decode cX6_bestChoice 10 = .ok (.iconst 0, 1) := by decide +kernel
theorem dX6_bestChoice_11 : decode cX6_bestChoice 11 = .ok (.invokevirtual 66, 3) := by decide +kernel
theorem dX6_bestChoice_14 : decode cX6_bestChoice 14 = .ok (.ireturn, 1) := by decide +kernel
set_option maxRecDepth 20000 in
theorem ggX6_mostRehearsals_X6_most : GoodIn wsX6_mostRehearsals wsX6_most := goodIn_r _ [6, 7, 8, 9, 10, 5, 11, 12, 13, 14, 15, 16, 17, 18, 19, 20, 21, 22, 23, 24, 25, 26, 27, 28, 29, 30, 31, 32, 33, 34, 35, 36, 37, 38] (by decide +kernel) (by decide +kernel)
set_option maxRecDepth 20000 in
theorem gX6_mostRehearsals_X6_most : GoodIn wsX6_mostRehearsals (wsV RX6 169 RX6 yX6_most wsX6_most) := goodIn_app (goodIn_of _ (by decide +kernel)) ggX6_mostRehearsals_X6_most
theorem dX6_mostRehearsals_0 : decode cX6_mostRehearsals 0 = .ok (.aload_n 0, 1) := by decide +kernel
theorem dX6_mostRehearsals_1 : decode cX6_mostRehearsals 1 = .ok (.iconst 0, 1) := by decide +kernel
theorem dX6_mostRehearsals_2 : decode cX6_mostRehearsals 2 = .ok (.putfield 38, 3) := by decide +kernel
theorem dX6_mostRehearsals_5 : decode cX6_mostRehearsals 5 = .ok (.aload_n 0, 1) := by decide +kernel
theorem dX6_mostRehearsals_6 : decode cX6_mostRehearsals 6 = .ok (.invokevirtual 169, 3) := by decide +kernel
theorem dX6_mostRehearsals_9 : decode cX6_mostRehearsals 9 = .ok (.ireturn, 1) := by decide +kernel
set_option maxRecDepth 20000 in
theorem ggX6_bestWith_X6_noOne : GoodIn wsX6_bestWith wsX6_noOne := goodIn_r _ [6, 7, 8, 9, 5, 10, 11, 12, 13, 14, 15, 16, 17, 18, 19, 35, 36, 37, 38, 39, 40, 41, 42, 43, 44, 45, 46, 47, 48, 49, 50] (by decide +kernel) (by decide +kernel)
set_option maxRecDepth 20000 in
theorem gX6_bestWith_X6_noOne : GoodIn wsX6_bestWith (wsV RX6 93 RX6 yX6_noOne wsX6_noOne) := goodIn_app (goodIn_of _ (by decide +kernel)) ggX6_bestWith_X6_noOne
set_option maxRecDepth 20000 in
theorem ggX6_bestWith_X6_fill : GoodIn wsX6_bestWith wsX6_fill := goodIn_r _ [23, 11, 24, 1, 25, 26, 5, 27, 28, 29, 30, 35, 36, 37, 38, 39, 40, 41, 42, 43, 44, 45, 46, 47, 48, 49, 50] (by decide +kernel) (by decide +kernel)
set_option maxRecDepth 20000 in
theorem gX6_bestWith_X6_fill : GoodIn wsX6_bestWith (wsV RX6 62 RX6 yX6_fill wsX6_fill) := goodIn_app (goodIn_of _ (by decide +kernel)) ggX6_bestWith_X6_fill
set_option maxRecDepth 20000 in
theorem ggX6_bestWith_X6_bestSet : GoodIn wsX6_bestWith wsX6_bestSet := goodIn_r _ [34, 1, 35, 36, 37, 38, 39, 40, 41, 42, 43, 44, 45, 46, 47, 48, 49, 50] (by decide +kernel) (by decide +kernel)
set_option maxRecDepth 20000 in
theorem gX6_bestWith_X6_bestSet : GoodIn wsX6_bestWith (wsV RX6 66 RX6 yX6_bestSet wsX6_bestSet) := goodIn_app (goodIn_of _ (by decide +kernel)) ggX6_bestWith_X6_bestSet
theorem dX6_bestWith_0 : decode cX6_bestWith 0 = .ok (.aload_n 0, 1) := by decide +kernel
theorem dX6_bestWith_1 : decode cX6_bestWith 1 = .ok (.iload_n 1, 1) := by decide +kernel
theorem dX6_bestWith_2 : decode cX6_bestWith 2 = .ok (.invokevirtual 93, 3) := by decide +kernel
theorem dX6_bestWith_5 : decode cX6_bestWith 5 = .ok (.ifCond .eq 7, 3) := by decide +kernel
theorem dX6_bestWith_8 : decode cX6_bestWith 8 = .ok (.iconst 0, 1) := by decide +kernel
theorem dX6_bestWith_9 : decode cX6_bestWith 9 = .ok (.goto 19, 3) := by decide +kernel
theorem dX6_bestWith_12 : decode cX6_bestWith 12 = .ok (.aload_n 0, 1) := by decide +kernel
theorem dX6_bestWith_13 : decode cX6_bestWith 13 = .ok (.getfield 16, 3) := by decide +kernel
theorem dX6_bestWith_16 : decode cX6_bestWith 16 = .ok (.aload_n 0, 1) := by decide +kernel
theorem dX6_bestWith_17 : decode cX6_bestWith 17 = .ok (.aload_n 0, 1) := by decide +kernel
theorem dX6_bestWith_18 : decode cX6_bestWith 18 = .ok (.invokevirtual 62, 3) := by decide +kernel
theorem dX6_bestWith_21 : decode cX6_bestWith 21 = .ok (.iconst 1, 1) := by decide +kernel
theorem dX6_bestWith_22 : decode cX6_bestWith 22 = .ok (.iload_n 1, 1) := by decide +kernel
theorem dX6_bestWith_23 : decode cX6_bestWith 23 = .ok (.ishl, 1) := by decide +kernel
theorem dX6_bestWith_24 : decode cX6_bestWith 24 = .ok (.invokevirtual 66, 3) := by decide +kernel
theorem dX6_bestWith_27 : decode cX6_bestWith 27 = .ok (.iaload, 1) := by decide +kernel
theorem dX6_bestWith_28 : decode cX6_bestWith 28 = .ok (.ireturn, 1) := by decide +kernel
set_option maxRecDepth 20000 in
theorem ggX6_share_X6_isIn : GoodIn wsX6_share wsX6_isIn := goodIn_r _ [7, 1, 8, 9, 10, 11, 12, 13, 14, 15, 16, 17, 18, 19, 20, 21, 22, 23] (by decide +kernel) (by decide +kernel)
set_option maxRecDepth 20000 in
theorem gX6_share_X6_isIn : GoodIn wsX6_share (wsV RX6 106 RX6 yX6_isIn wsX6_isIn) := goodIn_app (goodIn_of _ (by decide +kernel)) ggX6_share_X6_isIn
theorem dX6_share_0 : decode cX6_share 0 = .ok (.iconst 0, 1) := by decide +kernel
theorem dX6_share_1 : decode cX6_share 1 = .ok (.istore_n 1, 1) := by decide +kernel
theorem dX6_share_2 : decode cX6_share 2 = .ok (.iconst 0, 1) := by decide +kernel
theorem dX6_share_3 : decode cX6_share 3 = .ok (.istore_n 2, 1) := by decide +kernel
theorem dX6_share_4 : decode cX6_share 4 = .ok (.iload_n 2, 1) := by decide +kernel
theorem dX6_share_5 : decode cX6_share 5 = .ok (.aload_n 0, 1) := by decide +kernel
theorem dX6_share_6 : decode cX6_share 6 = .ok (.getfield 7, 3) := by decide +kernel
theorem dX6_share_9 : decode cX6_share 9 = .ok (.bipush 44, 2) := by decide +kernel
theorem dX6_share_11 : decode cX6_share 11 = .ok (.iaload, 1) := by decide +kernel
theorem dX6_share_12 : decode cX6_share 12 = .ok (.if_icmp .ge 40, 3) := by decide +kernel
theorem dX6_share_15 : decode cX6_share 15 = .ok (.iload_n 1, 1) := by decide +kernel
theorem dX6_share_16 : decode cX6_share 16 = .ok (.aload_n 0, 1) := by decide +kernel
theorem dX6_share_17 : decode cX6_share 17 = .ok (.iload_n 2, 1) := by decide +kernel
theorem dX6_share_18 : decode cX6_share 18 = .ok (.invokevirtual 106, 3) := by decide +kernel
theorem dX6_share_21 : decode cX6_share 21 = .ok (.ifCond .eq 22, 3) := by decide +kernel
theorem dX6_share_24 : decode cX6_share 24 = .ok (.aload_n 0, 1) := by decide +kernel
theorem dX6_share_25 : decode cX6_share 25 = .ok (.getfield 7, 3) := by decide +kernel
theorem dX6_share_28 : decode cX6_share 28 = .ok (.bipush 14, 2) := by decide +kernel
theorem dX6_share_30 : decode cX6_share 30 = .ok (.iload_n 2, 1) := by decide +kernel
theorem dX6_share_31 : decode cX6_share 31 = .ok (.iadd, 1) := by decide +kernel
theorem dX6_share_32 : decode cX6_share 32 = .ok (.iaload, 1) := by decide +kernel
theorem dX6_share_33 : decode cX6_share 33 = .ok (.aload_n 0, 1) := by decide +kernel
theorem dX6_share_34 : decode cX6_share 34 = .ok (.getfield 7, 3) := by decide +kernel
theorem dX6_share_37 : decode cX6_share 37 = .ok (.iload_n 2, 1) := by decide +kernel
theorem dX6_share_38 : decode cX6_share 38 = .ok (.iaload, 1) := by decide +kernel
theorem dX6_share_39 : decode cX6_share 39 = .ok (.isub, 1) := by decide +kernel
theorem dX6_share_40 : decode cX6_share 40 = .ok (.goto 4, 3) := by decide +kernel
theorem dX6_share_43 : decode cX6_share 43 = .ok (.iconst 0, 1) := by decide +kernel
theorem dX6_share_44 : decode cX6_share 44 = .ok (.iadd, 1) := by decide +kernel
theorem dX6_share_45 : decode cX6_share 45 = .ok (.istore_n 1, 1) := by decide +kernel
theorem dX6_share_46 : decode cX6_share 46 = .ok (.iinc 2 1, 3) := by decide +kernel
theorem dX6_share_49 : decode cX6_share 49 = .ok (.goto (-45), 3) := by decide +kernel
theorem dX6_share_52 : decode cX6_share 52 = .ok (.iload_n 1, 1) := by decide +kernel
theorem dX6_share_53 : decode cX6_share 53 = .ok (.i2d, 1) := by decide +kernel
theorem dX6_share_54 : decode cX6_share 54 = .ok (.ldc2_w 172, 3) := by decide +kernel
theorem dX6_share_57 : decode cX6_share 57 = .ok (.ddiv, 1) := by decide +kernel
theorem dX6_share_58 : decode cX6_share 58 = .ok (.dreturn, 1) := by decide +kernel
set_option maxRecDepth 20000 in
theorem ggX6_bookedShare_X6_share : GoodIn wsX6_bookedShare wsX6_share := goodIn_r _ [6, 7, 8, 9, 10, 11, 5, 12, 13, 14, 15, 16, 17, 18, 19, 20, 21, 22, 23, 24, 25, 26, 27, 28] (by decide +kernel) (by decide +kernel)
set_option maxRecDepth 20000 in
theorem gX6_bookedShare_X6_share : GoodIn wsX6_bookedShare (wsV RX6 174 RX6 yX6_share wsX6_share) := goodIn_app (goodIn_of _ (by decide +kernel)) ggX6_bookedShare_X6_share
theorem dX6_bookedShare_0 : decode cX6_bookedShare 0 = .ok (.aload_n 0, 1) := by decide +kernel
theorem dX6_bookedShare_1 : decode cX6_bookedShare 1 = .ok (.iconst 0, 1) := by decide +kernel
theorem dX6_bookedShare_2 : decode cX6_bookedShare 2 = .ok (.putfield 38, 3) := by decide +kernel
theorem dX6_bookedShare_5 : decode cX6_bookedShare 5 = .ok (.aload_n 0, 1) := by decide +kernel
theorem dX6_bookedShare_6 : decode cX6_bookedShare 6 = .ok (.invokevirtual 174, 3) := by decide +kernel
theorem dX6_bookedShare_9 : decode cX6_bookedShare 9 = .ok (.dreturn, 1) := by decide +kernel
theorem dX6_mix_0 : decode cX6_mix 0 = .ok (.ldc2_w 178, 3) := by decide +kernel
theorem dX6_mix_3 : decode cX6_mix 3 = .ok (.lload_n 0, 1) := by decide +kernel
theorem dX6_mix_4 : decode cX6_mix 4 = .ok (.lmul, 1) := by decide +kernel
theorem dX6_mix_5 : decode cX6_mix 5 = .ok (.lload_n 2, 1) := by decide +kernel
theorem dX6_mix_6 : decode cX6_mix 6 = .ok (.ladd, 1) := by decide +kernel
theorem dX6_mix_7 : decode cX6_mix 7 = .ok (.lreturn, 1) := by decide +kernel
set_option maxRecDepth 20000 in
theorem ggX6_oneHash_X6_mix : GoodIn wsX6_oneHash wsX6_mix := goodIn_r _ [7, 8] (by decide +kernel) (by decide +kernel)
set_option maxRecDepth 20000 in
theorem gX6_oneHash_X6_mix : GoodIn wsX6_oneHash (va_wsS RX6 180 yX6_mix wsX6_mix) := goodIn_app (goodIn_of _ (by decide +kernel)) ggX6_oneHash_X6_mix
set_option maxRecDepth 20000 in
theorem ggX6_oneHash_X6_rate : GoodIn wsX6_oneHash wsX6_rate := goodIn_r _ [12, 1, 42, 43, 44, 45, 46, 47, 48, 49, 50, 51, 52, 53, 54, 55, 56, 57] (by decide +kernel) (by decide +kernel)
set_option maxRecDepth 20000 in
theorem gX6_oneHash_X6_rate : GoodIn wsX6_oneHash (wsV RX6 156 RX6 yX6_rate wsX6_rate) := goodIn_app (goodIn_of _ (by decide +kernel)) ggX6_oneHash_X6_rate
set_option maxRecDepth 20000 in
theorem ggX6_oneHash_Jxf58ca_floatToIntBits_5c35a : GoodIn wsX6_oneHash wsJxf58ca_floatToIntBits_5c35a := goodIn_r _ [16, 17, 18, 19, 20, 21, 22, 23, 15, 24] (by decide +kernel) (by decide +kernel)
set_option maxRecDepth 20000 in
theorem gX6_oneHash_Jxf58ca_floatToIntBits_5c35a : GoodIn wsX6_oneHash (va_wsS RX6 184 yJxf58ca_floatToIntBits_5c35a wsJxf58ca_floatToIntBits_5c35a) := goodIn_app (goodIn_of _ (by decide +kernel)) ggX6_oneHash_Jxf58ca_floatToIntBits_5c35a
set_option maxRecDepth 20000 in
theorem ggX6_oneHash_X6_isIn : GoodIn wsX6_oneHash wsX6_isIn := goodIn_r _ [28, 1, 42, 43, 44, 45, 46, 47, 48, 49, 50, 51, 52, 53, 54, 55, 56, 57] (by decide +kernel) (by decide +kernel)
set_option maxRecDepth 20000 in
theorem gX6_oneHash_X6_isIn : GoodIn wsX6_oneHash (wsV RX6 106 RX6 yX6_isIn wsX6_isIn) := goodIn_app (goodIn_of _ (by decide +kernel)) ggX6_oneHash_X6_isIn
set_option maxRecDepth 20000 in
theorem ggX6_oneHash_X6_foesOf : GoodIn wsX6_oneHash wsX6_foesOf := goodIn_r _ [31, 32, 33, 6, 34] (by decide +kernel) (by decide +kernel)
set_option maxRecDepth 20000 in
theorem gX6_oneHash_X6_foesOf : GoodIn wsX6_oneHash (va_wsS RX6 54 yX6_foesOf wsX6_foesOf) := goodIn_app (goodIn_of _ (by decide +kernel)) ggX6_oneHash_X6_foesOf
set_option maxRecDepth 20000 in
theorem ggX6_oneHash_X6_bits : GoodIn wsX6_oneHash wsX6_bits := goodIn_r _ [37] (by decide +kernel) (by decide +kernel)
set_option maxRecDepth 20000 in
theorem gX6_oneHash_X6_bits : GoodIn wsX6_oneHash (va_wsS RX6 58 yX6_bits wsX6_bits) := goodIn_app (goodIn_of _ (by decide +kernel)) ggX6_oneHash_X6_bits
set_option maxRecDepth 20000 in
theorem ggX6_oneHash_X6_bestSet : GoodIn wsX6_oneHash wsX6_bestSet := goodIn_r _ [41, 3, 42, 43, 44, 45, 46, 47, 48, 49, 50, 51, 52, 53, 54, 55, 56, 57] (by decide +kernel) (by decide +kernel)
set_option maxRecDepth 20000 in
theorem gX6_oneHash_X6_bestSet : GoodIn wsX6_oneHash (wsV RX6 66 RX6 yX6_bestSet wsX6_bestSet) := goodIn_app (goodIn_of _ (by decide +kernel)) ggX6_oneHash_X6_bestSet
theorem dX6_oneHash_0 : decode cX6_oneHash 0 = .ok (.lload_n 1, 1) := by decide +kernel
theorem dX6_oneHash_1 : decode cX6_oneHash 1 = .ok (.aload_n 0, 1) := by decide +kernel
theorem dX6_oneHash_2 : decode cX6_oneHash 2 = .ok (.getfield 7, 3) := by decide +kernel
theorem dX6_oneHash_5 : decode cX6_oneHash 5 = .ok (.iload_n 3, 1) := by decide +kernel
theorem dX6_oneHash_6 : decode cX6_oneHash 6 = .ok (.iaload, 1) := by decide +kernel
theorem dX6_oneHash_7 : decode cX6_oneHash 7 = .ok (.i2l, 1) := by decide +kernel
theorem dX6_oneHash_8 : decode cX6_oneHash 8 = .ok (.invokestatic 180, 3) := by decide +kernel
theorem dX6_oneHash_11 : decode cX6_oneHash 11 = .ok (.aload_n 0, 1) := by decide +kernel
theorem dX6_oneHash_12 : decode cX6_oneHash 12 = .ok (.getfield 7, 3) := by decide +kernel
theorem dX6_oneHash_15 : decode cX6_oneHash 15 = .ok (.bipush 14, 2) := by decide +kernel
theorem dX6_oneHash_17 : decode cX6_oneHash 17 = .ok (.iload_n 3, 1) := by decide +kernel
theorem dX6_oneHash_18 : decode cX6_oneHash 18 = .ok (.iadd, 1) := by decide +kernel
theorem dX6_oneHash_19 : decode cX6_oneHash 19 = .ok (.iaload, 1) := by decide +kernel
theorem dX6_oneHash_20 : decode cX6_oneHash 20 = .ok (.i2l, 1) := by decide +kernel
theorem dX6_oneHash_21 : decode cX6_oneHash 21 = .ok (.invokestatic 180, 3) := by decide +kernel
theorem dX6_oneHash_24 : decode cX6_oneHash 24 = .ok (.aload_n 0, 1) := by decide +kernel
theorem dX6_oneHash_25 : decode cX6_oneHash 25 = .ok (.getfield 7, 3) := by decide +kernel
theorem dX6_oneHash_28 : decode cX6_oneHash 28 = .ok (.bipush 28, 2) := by decide +kernel
theorem dX6_oneHash_30 : decode cX6_oneHash 30 = .ok (.iload_n 3, 1) := by decide +kernel
theorem dX6_oneHash_31 : decode cX6_oneHash 31 = .ok (.iadd, 1) := by decide +kernel
theorem dX6_oneHash_32 : decode cX6_oneHash 32 = .ok (.iaload, 1) := by decide +kernel
theorem dX6_oneHash_33 : decode cX6_oneHash 33 = .ok (.i2l, 1) := by decide +kernel
theorem dX6_oneHash_34 : decode cX6_oneHash 34 = .ok (.invokestatic 180, 3) := by decide +kernel
theorem dX6_oneHash_37 : decode cX6_oneHash 37 = .ok (.lstore 5, 2) := by decide +kernel
theorem dX6_oneHash_39 : decode cX6_oneHash 39 = .ok (.lload 5, 2) := by decide +kernel
theorem dX6_oneHash_41 : decode cX6_oneHash 41 = .ok (.aload_n 0, 1) := by decide +kernel
theorem dX6_oneHash_42 : decode cX6_oneHash 42 = .ok (.iload_n 3, 1) := by decide +kernel
theorem dX6_oneHash_43 : decode cX6_oneHash 43 = .ok (.invokevirtual 156, 3) := by decide +kernel
theorem dX6_oneHash_46 : decode cX6_oneHash 46 = .ok (.invokestatic 184, 3) := by decide +kernel
theorem dX6_oneHash_49 : decode cX6_oneHash 49 = .ok (.i2l, 1) := by decide +kernel
theorem dX6_oneHash_50 : decode cX6_oneHash 50 = .ok (.invokestatic 180, 3) := by decide +kernel
theorem dX6_oneHash_53 : decode cX6_oneHash 53 = .ok (.aload_n 0, 1) := by decide +kernel
theorem dX6_oneHash_54 : decode cX6_oneHash 54 = .ok (.iload_n 3, 1) := by decide +kernel
theorem dX6_oneHash_55 : decode cX6_oneHash 55 = .ok (.invokevirtual 106, 3) := by decide +kernel
theorem dX6_oneHash_58 : decode cX6_oneHash 58 = .ok (.ifCond .eq 7, 3) := by decide +kernel
theorem dX6_oneHash_61 : decode cX6_oneHash 61 = .ok (.lconst 1, 1) := by decide +kernel
theorem dX6_oneHash_62 : decode cX6_oneHash 62 = .ok (.goto 4, 3) := by decide +kernel
theorem dX6_oneHash_65 : decode cX6_oneHash 65 = .ok (.lconst 0, 1) := by decide +kernel
theorem dX6_oneHash_66 : decode cX6_oneHash 66 = .ok (.invokestatic 180, 3) := by decide +kernel
theorem dX6_oneHash_69 : decode cX6_oneHash 69 = .ok (.lstore 5, 2) := by decide +kernel
theorem dX6_oneHash_71 : decode cX6_oneHash 71 = .ok (.lload 5, 2) := by decide +kernel
theorem dX6_oneHash_73 : decode cX6_oneHash 73 = .ok (.aload_n 0, 1) := by decide +kernel
theorem dX6_oneHash_74 : decode cX6_oneHash 74 = .ok (.getfield 7, 3) := by decide +kernel
theorem dX6_oneHash_77 : decode cX6_oneHash 77 = .ok (.iload_n 3, 1) := by decide +kernel
theorem dX6_oneHash_78 : decode cX6_oneHash 78 = .ok (.invokestatic 54, 3) := by decide +kernel
theorem dX6_oneHash_81 : decode cX6_oneHash 81 = .ok (.invokestatic 58, 3) := by decide +kernel
theorem dX6_oneHash_84 : decode cX6_oneHash 84 = .ok (.i2l, 1) := by decide +kernel
theorem dX6_oneHash_85 : decode cX6_oneHash 85 = .ok (.invokestatic 180, 3) := by decide +kernel
theorem dX6_oneHash_88 : decode cX6_oneHash 88 = .ok (.aload_n 0, 1) := by decide +kernel
theorem dX6_oneHash_89 : decode cX6_oneHash 89 = .ok (.getfield 22, 3) := by decide +kernel
theorem dX6_oneHash_92 : decode cX6_oneHash 92 = .ok (.iload_n 3, 1) := by decide +kernel
theorem dX6_oneHash_93 : decode cX6_oneHash 93 = .ok (.iaload, 1) := by decide +kernel
theorem dX6_oneHash_94 : decode cX6_oneHash 94 = .ok (.i2l, 1) := by decide +kernel
theorem dX6_oneHash_95 : decode cX6_oneHash 95 = .ok (.invokestatic 180, 3) := by decide +kernel
theorem dX6_oneHash_98 : decode cX6_oneHash 98 = .ok (.lstore 5, 2) := by decide +kernel
theorem dX6_oneHash_100 : decode cX6_oneHash 100 = .ok (.lload 5, 2) := by decide +kernel
theorem dX6_oneHash_102 : decode cX6_oneHash 102 = .ok (.aload_n 0, 1) := by decide +kernel
theorem dX6_oneHash_103 : decode cX6_oneHash 103 = .ok (.getfield 16, 3) := by decide +kernel
theorem dX6_oneHash_106 : decode cX6_oneHash 106 = .ok (.aload_n 0, 1) := by decide +kernel
theorem dX6_oneHash_107 : decode cX6_oneHash 107 = .ok (.iload 4, 2) := by decide +kernel
theorem dX6_oneHash_109 : decode cX6_oneHash 109 = .ok (.iconst 1, 1) := by decide +kernel
theorem dX6_oneHash_110 : decode cX6_oneHash 110 = .ok (.iload_n 3, 1) := by decide +kernel
theorem dX6_oneHash_111 : decode cX6_oneHash 111 = .ok (.ishl, 1) := by decide +kernel
theorem dX6_oneHash_112 : decode cX6_oneHash 112 = .ok (.invokevirtual 66, 3) := by decide +kernel
theorem dX6_oneHash_115 : decode cX6_oneHash 115 = .ok (.iaload, 1) := by decide +kernel
theorem dX6_oneHash_116 : decode cX6_oneHash 116 = .ok (.i2l, 1) := by decide +kernel
theorem dX6_oneHash_117 : decode cX6_oneHash 117 = .ok (.invokestatic 180, 3) := by decide +kernel
theorem dX6_oneHash_120 : decode cX6_oneHash 120 = .ok (.lreturn, 1) := by decide +kernel
set_option maxRecDepth 20000 in
theorem ggX6_digest_X6_give : GoodIn wsX6_digest wsX6_give := goodIn_r _ [13, 3, 14, 15, 16, 12, 17, 90, 91, 92, 93, 94, 95, 96, 97, 98, 99, 100, 101, 102, 103, 104, 105] (by decide +kernel) (by decide +kernel)
set_option maxRecDepth 20000 in
theorem gX6_digest_X6_give : GoodIn wsX6_digest (wsV RX6 163 RX6 yX6_give wsX6_give) := goodIn_app (goodIn_of _ (by decide +kernel)) ggX6_digest_X6_give
set_option maxRecDepth 20000 in
theorem ggX6_digest_X6_fill : GoodIn wsX6_digest wsX6_fill := goodIn_r _ [21, 3, 22, 4, 23, 24, 12, 25, 15, 16, 17, 90, 91, 92, 93, 94, 95, 96, 97, 98, 99, 100, 101, 102, 103, 104, 105] (by decide +kernel) (by decide +kernel)
set_option maxRecDepth 20000 in
theorem gX6_digest_X6_fill : GoodIn wsX6_digest (wsV RX6 62 RX6 yX6_fill wsX6_fill) := goodIn_app (goodIn_of _ (by decide +kernel)) ggX6_digest_X6_fill
set_option maxRecDepth 20000 in
theorem ggX6_digest_X6_bestSet : GoodIn wsX6_digest wsX6_bestSet := goodIn_r _ [29, 4, 90, 91, 92, 93, 94, 95, 96, 97, 98, 99, 100, 101, 102, 103, 104, 105] (by decide +kernel) (by decide +kernel)
set_option maxRecDepth 20000 in
theorem gX6_digest_X6_bestSet : GoodIn wsX6_digest (wsV RX6 66 RX6 yX6_bestSet wsX6_bestSet) := goodIn_app (goodIn_of _ (by decide +kernel)) ggX6_digest_X6_bestSet
set_option maxRecDepth 20000 in
theorem ggX6_digest_X6_mix : GoodIn wsX6_digest wsX6_mix := goodIn_r _ [32, 33] (by decide +kernel) (by decide +kernel)
set_option maxRecDepth 20000 in
theorem gX6_digest_X6_mix : GoodIn wsX6_digest (va_wsS RX6 180 yX6_mix wsX6_mix) := goodIn_app (goodIn_of _ (by decide +kernel)) ggX6_digest_X6_mix
set_option maxRecDepth 20000 in
theorem ggX6_digest_X6_oneHash : GoodIn wsX6_digest wsX6_oneHash := goodIn_r _ [37, 3, 14, 4, 30, 31, 12, 32, 33, 38, 39, 40, 41, 42, 43, 44, 45, 46, 47, 48, 49, 50, 51, 52, 53, 54, 55, 56, 57, 23, 24, 25, 15, 16, 17, 58, 59, 60, 26, 27, 28, 29, 90, 91, 92, 93, 94, 95, 96, 97, 98, 99, 100, 101, 102, 103, 104, 105] (by decide +kernel) (by decide +kernel)
set_option maxRecDepth 20000 in
theorem gX6_digest_X6_oneHash : GoodIn wsX6_digest (wsV RX6 192 RX6 yX6_oneHash wsX6_oneHash) := goodIn_app (goodIn_of _ (by decide +kernel)) ggX6_digest_X6_oneHash
set_option maxRecDepth 20000 in
theorem ggX6_digest_X6_bits : GoodIn wsX6_digest wsX6_bits := goodIn_r _ [60] (by decide +kernel) (by decide +kernel)
set_option maxRecDepth 20000 in
theorem gX6_digest_X6_bits : GoodIn wsX6_digest (va_wsS RX6 58 yX6_bits wsX6_bits) := goodIn_app (goodIn_of _ (by decide +kernel)) ggX6_digest_X6_bits
set_option maxRecDepth 20000 in
theorem ggX6_digest_X6_fameOfBooked : GoodIn wsX6_digest wsX6_fameOfBooked := goodIn_r _ [64, 3, 90, 91, 92, 93, 94, 95, 96, 97, 98, 99, 100, 101, 102, 103, 104, 105] (by decide +kernel) (by decide +kernel)
set_option maxRecDepth 20000 in
theorem gX6_digest_X6_fameOfBooked : GoodIn wsX6_digest (wsV RX6 109 RX6 yX6_fameOfBooked wsX6_fameOfBooked) := goodIn_app (goodIn_of _ (by decide +kernel)) ggX6_digest_X6_fameOfBooked
set_option maxRecDepth 20000 in
theorem ggX6_digest_X6_pairs : GoodIn wsX6_digest wsX6_pairs := goodIn_r _ [68, 3, 23, 24, 12, 25, 15, 16, 17, 58, 59, 60, 90, 91, 92, 93, 94, 95, 96, 97, 98, 99, 100, 101, 102, 103, 104, 105] (by decide +kernel) (by decide +kernel)
set_option maxRecDepth 20000 in
theorem gX6_digest_X6_pairs : GoodIn wsX6_digest (wsV RX6 160 RX6 yX6_pairs wsX6_pairs) := goodIn_app (goodIn_of _ (by decide +kernel)) ggX6_digest_X6_pairs
set_option maxRecDepth 20000 in
theorem ggX6_digest_X6_most : GoodIn wsX6_digest wsX6_most := goodIn_r _ [72, 4, 18, 19, 20, 12, 21, 3, 22, 23, 24, 25, 15, 16, 17, 58, 59, 60, 90, 91, 92, 93, 94, 95, 96, 97, 98, 99, 100, 101, 102, 103, 104, 105] (by decide +kernel) (by decide +kernel)
set_option maxRecDepth 20000 in
theorem gX6_digest_X6_most : GoodIn wsX6_digest (wsV RX6 169 RX6 yX6_most wsX6_most) := goodIn_app (goodIn_of _ (by decide +kernel)) ggX6_digest_X6_most
set_option maxRecDepth 20000 in
theorem ggX6_digest_X6_share : GoodIn wsX6_digest wsX6_share := goodIn_r _ [76, 3, 77, 54, 55, 56, 12, 57, 90, 91, 92, 93, 94, 95, 96, 97, 98, 99, 100, 101, 102, 103, 104, 105] (by decide +kernel) (by decide +kernel)
set_option maxRecDepth 20000 in
theorem gX6_digest_X6_share : GoodIn wsX6_digest (wsV RX6 174 RX6 yX6_share wsX6_share) := goodIn_app (goodIn_of _ (by decide +kernel)) ggX6_digest_X6_share
set_option maxRecDepth 20000 in
theorem ggX6_digest_Jxe99ae_doubleToLongBits_ccdee : GoodIn wsX6_digest wsJxe99ae_doubleToLongBits_ccdee := goodIn_r _ [81, 82, 83, 84, 85, 86, 87, 88, 80, 89] (by decide +kernel) (by decide +kernel)
set_option maxRecDepth 20000 in
theorem gX6_digest_Jxe99ae_doubleToLongBits_ccdee : GoodIn wsX6_digest (va_wsS RX6 196 yJxe99ae_doubleToLongBits_ccdee wsJxe99ae_doubleToLongBits_ccdee) := goodIn_app (goodIn_of _ (by decide +kernel)) ggX6_digest_Jxe99ae_doubleToLongBits_ccdee
theorem dX6_digest_0 : decode cX6_digest 0 = .ok (.aload_n 0, 1) := by decide +kernel
theorem dX6_digest_1 : decode cX6_digest 1 = .ok (.iconst 0, 1) := by decide +kernel
theorem dX6_digest_2 : decode cX6_digest 2 = .ok (.putfield 38, 3) := by decide +kernel
theorem dX6_digest_5 : decode cX6_digest 5 = .ok (.aload_n 0, 1) := by decide +kernel
theorem dX6_digest_6 : decode cX6_digest 6 = .ok (.invokevirtual 163, 3) := by decide +kernel
theorem dX6_digest_9 : decode cX6_digest 9 = .ok (.istore_n 1, 1) := by decide +kernel
theorem dX6_digest_10 : decode cX6_digest 10 = .ok (.aload_n 0, 1) := by decide +kernel
theorem dX6_digest_11 : decode cX6_digest 11 = .ok (.invokevirtual 62, 3) := by decide +kernel
theorem dX6_digest_14 : decode cX6_digest 14 = .ok (.istore_n 2, 1) := by decide +kernel
theorem dX6_digest_15 : decode cX6_digest 15 = .ok (.aload_n 0, 1) := by decide +kernel
theorem dX6_digest_16 : decode cX6_digest 16 = .ok (.iload_n 2, 1) := by decide +kernel
theorem dX6_digest_17 : decode cX6_digest 17 = .ok (.iconst 0, 1) := by decide +kernel
theorem dX6_digest_18 : decode cX6_digest 18 = .ok (.invokevirtual 66, 3) := by decide +kernel
theorem dX6_digest_21 : decode cX6_digest 21 = .ok (.istore_n 3, 1) := by decide +kernel
theorem dX6_digest_22 : decode cX6_digest 22 = .ok (.ldc2_w 190, 3) := by decide +kernel
theorem dX6_digest_25 : decode cX6_digest 25 = .ok (.aload_n 0, 1) := by decide +kernel
theorem dX6_digest_26 : decode cX6_digest 26 = .ok (.getfield 7, 3) := by decide +kernel
theorem dX6_digest_29 : decode cX6_digest 29 = .ok (.bipush 44, 2) := by decide +kernel
theorem dX6_digest_31 : decode cX6_digest 31 = .ok (.iaload, 1) := by decide +kernel
theorem dX6_digest_32 : decode cX6_digest 32 = .ok (.i2l, 1) := by decide +kernel
theorem dX6_digest_33 : decode cX6_digest 33 = .ok (.invokestatic 180, 3) := by decide +kernel
theorem dX6_digest_36 : decode cX6_digest 36 = .ok (.lstore 4, 2) := by decide +kernel
theorem dX6_digest_38 : decode cX6_digest 38 = .ok (.iconst 0, 1) := by decide +kernel
theorem dX6_digest_39 : decode cX6_digest 39 = .ok (.istore 6, 2) := by decide +kernel
theorem dX6_digest_41 : decode cX6_digest 41 = .ok (.iload 6, 2) := by decide +kernel
theorem dX6_digest_43 : decode cX6_digest 43 = .ok (.aload_n 0, 1) := by decide +kernel
theorem dX6_digest_44 : decode cX6_digest 44 = .ok (.getfield 7, 3) := by decide +kernel
theorem dX6_digest_47 : decode cX6_digest 47 = .ok (.bipush 44, 2) := by decide +kernel
theorem dX6_digest_49 : decode cX6_digest 49 = .ok (.iaload, 1) := by decide +kernel
theorem dX6_digest_50 : decode cX6_digest 50 = .ok (.if_icmp .ge 20, 3) := by decide +kernel
theorem dX6_digest_53 : decode cX6_digest 53 = .ok (.aload_n 0, 1) := by decide +kernel
theorem dX6_digest_54 : decode cX6_digest 54 = .ok (.lload 4, 2) := by decide +kernel
theorem dX6_digest_56 : decode cX6_digest 56 = .ok (.iload 6, 2) := by decide +kernel
theorem dX6_digest_58 : decode cX6_digest 58 = .ok (.iload_n 2, 1) := by decide +kernel
theorem dX6_digest_59 : decode cX6_digest 59 = .ok (.invokevirtual 192, 3) := by decide +kernel
theorem dX6_digest_62 : decode cX6_digest 62 = .ok (.lstore 4, 2) := by decide +kernel
theorem dX6_digest_64 : decode cX6_digest 64 = .ok (.iinc 6 1, 3) := by decide +kernel
theorem dX6_digest_67 : decode cX6_digest 67 = .ok (.goto (-26), 3) := by decide +kernel
theorem dX6_digest_70 : decode cX6_digest 70 = .ok (.lload 4, 2) := by decide +kernel
theorem dX6_digest_72 : decode cX6_digest 72 = .ok (.aload_n 0, 1) := by decide +kernel
theorem dX6_digest_73 : decode cX6_digest 73 = .ok (.getfield 7, 3) := by decide +kernel
theorem dX6_digest_76 : decode cX6_digest 76 = .ok (.bipush 43, 2) := by decide +kernel
theorem dX6_digest_78 : decode cX6_digest 78 = .ok (.iaload, 1) := by decide +kernel
theorem dX6_digest_79 : decode cX6_digest 79 = .ok (.i2l, 1) := by decide +kernel
theorem dX6_digest_80 : decode cX6_digest 80 = .ok (.invokestatic 180, 3) := by decide +kernel
theorem dX6_digest_83 : decode cX6_digest 83 = .ok (.aload_n 0, 1) := by decide +kernel
theorem dX6_digest_84 : decode cX6_digest 84 = .ok (.getfield 7, 3) := by decide +kernel
theorem dX6_digest_87 : decode cX6_digest 87 = .ok (.bipush 42, 2) := by decide +kernel
theorem dX6_digest_89 : decode cX6_digest 89 = .ok (.iaload, 1) := by decide +kernel
theorem dX6_digest_90 : decode cX6_digest 90 = .ok (.invokestatic 58, 3) := by decide +kernel
theorem dX6_digest_93 : decode cX6_digest 93 = .ok (.i2l, 1) := by decide +kernel
theorem dX6_digest_94 : decode cX6_digest 94 = .ok (.invokestatic 180, 3) := by decide +kernel
theorem dX6_digest_97 : decode cX6_digest 97 = .ok (.aload_n 0, 1) := by decide +kernel
theorem dX6_digest_98 : decode cX6_digest 98 = .ok (.invokevirtual 109, 3) := by decide +kernel
theorem dX6_digest_101 : decode cX6_digest 101 = .ok (.i2l, 1) := by decide +kernel
theorem dX6_digest_102 : decode cX6_digest 102 = .ok (.invokestatic 180, 3) := by decide +kernel
theorem dX6_digest_105 : decode cX6_digest 105 = .ok (.lstore 4, 2) := by decide +kernel
theorem dX6_digest_107 : decode cX6_digest 107 = .ok (.lload 4, 2) := by decide +kernel
theorem dX6_digest_109 : decode cX6_digest 109 = .ok (.aload_n 0, 1) := by decide +kernel
theorem dX6_digest_110 : decode cX6_digest 110 = .ok (.invokevirtual 160, 3) := by decide +kernel
theorem dX6_digest_113 : decode cX6_digest 113 = .ok (.i2l, 1) := by decide +kernel
theorem dX6_digest_114 : decode cX6_digest 114 = .ok (.invokestatic 180, 3) := by decide +kernel
theorem dX6_digest_117 : decode cX6_digest 117 = .ok (.aload_n 0, 1) := by decide +kernel
theorem dX6_digest_118 : decode cX6_digest 118 = .ok (.invokevirtual 160, 3) := by decide +kernel
theorem dX6_digest_121 : decode cX6_digest 121 = .ok (.i2l, 1) := by decide +kernel
theorem dX6_digest_122 : decode cX6_digest 122 = .ok (.invokestatic 180, 3) := by decide +kernel
theorem dX6_digest_125 : decode cX6_digest 125 = .ok (.lstore 4, 2) := by decide +kernel
theorem dX6_digest_127 : decode cX6_digest 127 = .ok (.lload 4, 2) := by decide +kernel
theorem dX6_digest_129 : decode cX6_digest 129 = .ok (.iload_n 1, 1) := by decide +kernel
theorem dX6_digest_130 : decode cX6_digest 130 = .ok (.i2l, 1) := by decide +kernel
theorem dX6_digest_131 : decode cX6_digest 131 = .ok (.invokestatic 180, 3) := by decide +kernel
theorem dX6_digest_134 : decode cX6_digest 134 = .ok (.iload_n 1, 1) := by decide +kernel
theorem dX6_digest_135 : decode cX6_digest 135 = .ok (.i2l, 1) := by decide +kernel
theorem dX6_digest_136 : decode cX6_digest 136 = .ok (.invokestatic 180, 3) := by decide +kernel
theorem dX6_digest_139 : decode cX6_digest 139 = .ok (.lstore 4, 2) := by decide +kernel
theorem dX6_digest_141 : decode cX6_digest 141 = .ok (.lload 4, 2) := by decide +kernel
theorem dX6_digest_143 : decode cX6_digest 143 = .ok (.aload_n 0, 1) := by decide +kernel
theorem dX6_digest_144 : decode cX6_digest 144 = .ok (.getfield 16, 3) := by decide +kernel
theorem dX6_digest_147 : decode cX6_digest 147 = .ok (.iload_n 3, 1) := by decide +kernel
theorem dX6_digest_148 : decode cX6_digest 148 = .ok (.iaload, 1) := by decide +kernel
theorem dX6_digest_149 : decode cX6_digest 149 = .ok (.i2l, 1) := by decide +kernel
theorem dX6_digest_150 : decode cX6_digest 150 = .ok (.invokestatic 180, 3) := by decide +kernel
theorem dX6_digest_153 : decode cX6_digest 153 = .ok (.aload_n 0, 1) := by decide +kernel
theorem dX6_digest_154 : decode cX6_digest 154 = .ok (.getfield 16, 3) := by decide +kernel
theorem dX6_digest_157 : decode cX6_digest 157 = .ok (.iload_n 3, 1) := by decide +kernel
theorem dX6_digest_158 : decode cX6_digest 158 = .ok (.iaload, 1) := by decide +kernel
theorem dX6_digest_159 : decode cX6_digest 159 = .ok (.i2l, 1) := by decide +kernel
theorem dX6_digest_160 : decode cX6_digest 160 = .ok (.invokestatic 180, 3) := by decide +kernel
theorem dX6_digest_163 : decode cX6_digest 163 = .ok (.iload_n 3, 1) := by decide +kernel
theorem dX6_digest_164 : decode cX6_digest 164 = .ok (.i2l, 1) := by decide +kernel
theorem dX6_digest_165 : decode cX6_digest 165 = .ok (.invokestatic 180, 3) := by decide +kernel
theorem dX6_digest_168 : decode cX6_digest 168 = .ok (.lstore 4, 2) := by decide +kernel
theorem dX6_digest_170 : decode cX6_digest 170 = .ok (.lload 4, 2) := by decide +kernel
theorem dX6_digest_172 : decode cX6_digest 172 = .ok (.aload_n 0, 1) := by decide +kernel
theorem dX6_digest_173 : decode cX6_digest 173 = .ok (.invokevirtual 169, 3) := by decide +kernel
theorem dX6_digest_176 : decode cX6_digest 176 = .ok (.i2l, 1) := by decide +kernel
theorem dX6_digest_177 : decode cX6_digest 177 = .ok (.invokestatic 180, 3) := by decide +kernel
theorem dX6_digest_180 : decode cX6_digest 180 = .ok (.aload_n 0, 1) := by decide +kernel
theorem dX6_digest_181 : decode cX6_digest 181 = .ok (.getfield 70, 3) := by decide +kernel
theorem dX6_digest_184 : decode cX6_digest 184 = .ok (.i2l, 1) := by decide +kernel
theorem dX6_digest_185 : decode cX6_digest 185 = .ok (.invokestatic 180, 3) := by decide +kernel
theorem dX6_digest_188 : decode cX6_digest 188 = .ok (.lstore 4, 2) := by decide +kernel
theorem dX6_digest_190 : decode cX6_digest 190 = .ok (.lload 4, 2) := by decide +kernel
theorem dX6_digest_192 : decode cX6_digest 192 = .ok (.aload_n 0, 1) := by decide +kernel
theorem dX6_digest_193 : decode cX6_digest 193 = .ok (.invokevirtual 174, 3) := by decide +kernel
theorem dX6_digest_196 : decode cX6_digest 196 = .ok (.invokestatic 196, 3) := by decide +kernel
theorem dX6_digest_199 : decode cX6_digest 199 = .ok (.invokestatic 180, 3) := by decide +kernel
theorem dX6_digest_202 : decode cX6_digest 202 = .ok (.lstore 4, 2) := by decide +kernel
theorem dX6_digest_204 : decode cX6_digest 204 = .ok (.lload 4, 2) := by decide +kernel
theorem dX6_digest_206 : decode cX6_digest 206 = .ok (.aload_n 0, 1) := by decide +kernel
theorem dX6_digest_207 : decode cX6_digest 207 = .ok (.getfield 31, 3) := by decide +kernel
theorem dX6_digest_210 : decode cX6_digest 210 = .ok (.iconst 0, 1) := by decide +kernel
theorem dX6_digest_211 : decode cX6_digest 211 = .ok (.baload, 1) := by decide +kernel
theorem dX6_digest_212 : decode cX6_digest 212 = .ok (.ifCond .eq 7, 3) := by decide +kernel
theorem dX6_digest_215 : decode cX6_digest 215 = .ok (.lconst 1, 1) := by decide +kernel
theorem dX6_digest_216 : decode cX6_digest 216 = .ok (.goto 4, 3) := by decide +kernel
theorem dX6_digest_219 : decode cX6_digest 219 = .ok (.lconst 0, 1) := by decide +kernel
theorem dX6_digest_220 : decode cX6_digest 220 = .ok (.invokestatic 180, 3) := by decide +kernel
theorem dX6_digest_223 : decode cX6_digest 223 = .ok (.aload_n 0, 1) := by decide +kernel
theorem dX6_digest_224 : decode cX6_digest 224 = .ok (.getfield 31, 3) := by decide +kernel
theorem dX6_digest_227 : decode cX6_digest 227 = .ok (.iconst 1, 1) := by decide +kernel
theorem dX6_digest_228 : decode cX6_digest 228 = .ok (.baload, 1) := by decide +kernel
theorem dX6_digest_229 : decode cX6_digest 229 = .ok (.ifCond .eq 7, 3) := by decide +kernel
theorem dX6_digest_232 : decode cX6_digest 232 = .ok (.lconst 1, 1) := by decide +kernel
theorem dX6_digest_233 : decode cX6_digest 233 = .ok (.goto 4, 3) := by decide +kernel
theorem dX6_digest_236 : decode cX6_digest 236 = .ok (.lconst 0, 1) := by decide +kernel
theorem dX6_digest_237 : decode cX6_digest 237 = .ok (.invokestatic 180, 3) := by decide +kernel
theorem dX6_digest_240 : decode cX6_digest 240 = .ok (.lstore 4, 2) := by decide +kernel
theorem dX6_digest_242 : decode cX6_digest 242 = .ok (.lload 4, 2) := by decide +kernel
theorem dX6_digest_244 : decode cX6_digest 244 = .ok (.aload_n 0, 1) := by decide +kernel
theorem dX6_digest_245 : decode cX6_digest 245 = .ok (.getfield 116, 3) := by decide +kernel
theorem dX6_digest_248 : decode cX6_digest 248 = .ok (.i2l, 1) := by decide +kernel
theorem dX6_digest_249 : decode cX6_digest 249 = .ok (.invokestatic 180, 3) := by decide +kernel
theorem dX6_digest_252 : decode cX6_digest 252 = .ok (.lstore 4, 2) := by decide +kernel
theorem dX6_digest_254 : decode cX6_digest 254 = .ok (.iconst 0, 1) := by decide +kernel
theorem dX6_digest_255 : decode cX6_digest 255 = .ok (.istore 6, 2) := by decide +kernel
theorem dX6_digest_257 : decode cX6_digest 257 = .ok (.iload 6, 2) := by decide +kernel
theorem dX6_digest_259 : decode cX6_digest 259 = .ok (.aload_n 0, 1) := by decide +kernel
theorem dX6_digest_260 : decode cX6_digest 260 = .ok (.getfield 116, 3) := by decide +kernel
theorem dX6_digest_263 : decode cX6_digest 263 = .ok (.if_icmp .ge 24, 3) := by decide +kernel
theorem dX6_digest_266 : decode cX6_digest 266 = .ok (.lload 4, 2) := by decide +kernel
theorem dX6_digest_268 : decode cX6_digest 268 = .ok (.aload_n 0, 1) := by decide +kernel
theorem dX6_digest_269 : decode cX6_digest 269 = .ok (.getfield 35, 3) := by decide +kernel
theorem dX6_digest_272 : decode cX6_digest 272 = .ok (.iload 6, 2) := by decide +kernel
theorem dX6_digest_274 : decode cX6_digest 274 = .ok (.iaload, 1) := by decide +kernel
theorem dX6_digest_275 : decode cX6_digest 275 = .ok (.i2l, 1) := by decide +kernel
theorem dX6_digest_276 : decode cX6_digest 276 = .ok (.invokestatic 180, 3) := by decide +kernel
theorem dX6_digest_279 : decode cX6_digest 279 = .ok (.lstore 4, 2) := by decide +kernel
theorem dX6_digest_281 : decode cX6_digest 281 = .ok (.iinc 6 1, 3) := by decide +kernel
theorem dX6_digest_284 : decode cX6_digest 284 = .ok (.goto (-27), 3) := by decide +kernel
theorem dX6_digest_287 : decode cX6_digest 287 = .ok (.lload 4, 2) := by decide +kernel
theorem dX6_digest_289 : decode cX6_digest 289 = .ok (.lreturn, 1) := by decide +kernel
theorem dJxe99ae_isNaN_b9ae7_0 : decode cJxe99ae_isNaN_b9ae7 0 = .ok (.dload_n 0, 1) := by decide +kernel
theorem dJxe99ae_isNaN_b9ae7_1 : decode cJxe99ae_isNaN_b9ae7 1 = .ok (.dload_n 0, 1) := by decide +kernel
theorem dJxe99ae_isNaN_b9ae7_2 : decode cJxe99ae_isNaN_b9ae7 2 = .ok (.dcmp .l, 1) := by decide +kernel
theorem dJxe99ae_isNaN_b9ae7_3 : decode cJxe99ae_isNaN_b9ae7 3 = .ok (.ifCond .eq 7, 3) := by decide +kernel
theorem dJxe99ae_isNaN_b9ae7_6 : decode cJxe99ae_isNaN_b9ae7 6 = .ok (.iconst 1, 1) := by decide +kernel
theorem dJxe99ae_isNaN_b9ae7_7 : decode cJxe99ae_isNaN_b9ae7 7 = .ok (.goto 4, 3) := by decide +kernel
theorem dJxe99ae_isNaN_b9ae7_10 : decode cJxe99ae_isNaN_b9ae7 10 = .ok (.iconst 0, 1) := by decide +kernel
theorem dJxe99ae_isNaN_b9ae7_11 : decode cJxe99ae_isNaN_b9ae7 11 = .ok (.ireturn, 1) := by decide +kernel
set_option maxRecDepth 20000 in
theorem ggJxe99ae_doubleToLongBits_ccdee_Jxe99ae_isNaN_b9ae7 : GoodIn wsJxe99ae_doubleToLongBits_ccdee wsJxe99ae_isNaN_b9ae7 := goodIn_r _ [9] (by decide +kernel) (by decide +kernel)
set_option maxRecDepth 20000 in
theorem gJxe99ae_doubleToLongBits_ccdee_Jxe99ae_isNaN_b9ae7 : GoodIn wsJxe99ae_doubleToLongBits_ccdee (va_wsS RJxe99ae 122 yJxe99ae_isNaN_b9ae7 wsJxe99ae_isNaN_b9ae7) := goodIn_app (goodIn_of _ (by decide +kernel)) ggJxe99ae_doubleToLongBits_ccdee_Jxe99ae_isNaN_b9ae7
theorem dJxe99ae_doubleToLongBits_ccdee_0 : decode cJxe99ae_doubleToLongBits_ccdee 0 = .ok (.dload_n 0, 1) := by decide +kernel
theorem dJxe99ae_doubleToLongBits_ccdee_1 : decode cJxe99ae_doubleToLongBits_ccdee 1 = .ok (.invokestatic 122, 3) := by decide +kernel
theorem dJxe99ae_doubleToLongBits_ccdee_4 : decode cJxe99ae_doubleToLongBits_ccdee 4 = .ok (.ifCond .ne 8, 3) := by decide +kernel
theorem dJxe99ae_doubleToLongBits_ccdee_7 : decode cJxe99ae_doubleToLongBits_ccdee 7 = .ok (.dload_n 0, 1) := by decide +kernel
theorem dJxe99ae_doubleToLongBits_ccdee_8 : decode cJxe99ae_doubleToLongBits_ccdee 8 = .ok (.invokestatic 134, 3) := by decide +kernel
theorem dJxe99ae_doubleToLongBits_ccdee_11 : decode cJxe99ae_doubleToLongBits_ccdee 11 = .ok (.lreturn, 1) := by decide +kernel
theorem dJxe99ae_doubleToLongBits_ccdee_12 : decode cJxe99ae_doubleToLongBits_ccdee 12 = .ok (.ldc2_w 137, 3) := by decide +kernel
theorem dJxe99ae_doubleToLongBits_ccdee_15 : decode cJxe99ae_doubleToLongBits_ccdee 15 = .ok (.lreturn, 1) := by decide +kernel
theorem dJxf58ca_isNaN_12338_0 : decode cJxf58ca_isNaN_12338 0 = .ok (.fload_n 0, 1) := by decide +kernel
theorem dJxf58ca_isNaN_12338_1 : decode cJxf58ca_isNaN_12338 1 = .ok (.fload_n 0, 1) := by decide +kernel
theorem dJxf58ca_isNaN_12338_2 : decode cJxf58ca_isNaN_12338 2 = .ok (.fcmp .l, 1) := by decide +kernel
theorem dJxf58ca_isNaN_12338_3 : decode cJxf58ca_isNaN_12338 3 = .ok (.ifCond .eq 7, 3) := by decide +kernel
theorem dJxf58ca_isNaN_12338_6 : decode cJxf58ca_isNaN_12338 6 = .ok (.iconst 1, 1) := by decide +kernel
theorem dJxf58ca_isNaN_12338_7 : decode cJxf58ca_isNaN_12338 7 = .ok (.goto 4, 3) := by decide +kernel
theorem dJxf58ca_isNaN_12338_10 : decode cJxf58ca_isNaN_12338 10 = .ok (.iconst 0, 1) := by decide +kernel
theorem dJxf58ca_isNaN_12338_11 : decode cJxf58ca_isNaN_12338 11 = .ok (.ireturn, 1) := by decide +kernel
set_option maxRecDepth 20000 in
theorem ggJxf58ca_floatToIntBits_5c35a_Jxf58ca_isNaN_12338 : GoodIn wsJxf58ca_floatToIntBits_5c35a wsJxf58ca_isNaN_12338 := goodIn_r _ [9] (by decide +kernel) (by decide +kernel)
set_option maxRecDepth 20000 in
theorem gJxf58ca_floatToIntBits_5c35a_Jxf58ca_isNaN_12338 : GoodIn wsJxf58ca_floatToIntBits_5c35a (va_wsS RJxf58ca 59 yJxf58ca_isNaN_12338 wsJxf58ca_isNaN_12338) := goodIn_app (goodIn_of _ (by decide +kernel)) ggJxf58ca_floatToIntBits_5c35a_Jxf58ca_isNaN_12338
theorem dJxf58ca_floatToIntBits_5c35a_0 : decode cJxf58ca_floatToIntBits_5c35a 0 = .ok (.fload_n 0, 1) := by decide +kernel
theorem dJxf58ca_floatToIntBits_5c35a_1 : decode cJxf58ca_floatToIntBits_5c35a 1 = .ok (.invokestatic 59, 3) := by decide +kernel
theorem dJxf58ca_floatToIntBits_5c35a_4 : decode cJxf58ca_floatToIntBits_5c35a 4 = .ok (.ifCond .ne 8, 3) := by decide +kernel
theorem dJxf58ca_floatToIntBits_5c35a_7 : decode cJxf58ca_floatToIntBits_5c35a 7 = .ok (.fload_n 0, 1) := by decide +kernel
theorem dJxf58ca_floatToIntBits_5c35a_8 : decode cJxf58ca_floatToIntBits_5c35a 8 = .ok (.invokestatic 74, 3) := by decide +kernel
theorem dJxf58ca_floatToIntBits_5c35a_11 : decode cJxf58ca_floatToIntBits_5c35a 11 = .ok (.ireturn, 1) := by decide +kernel
theorem dJxf58ca_floatToIntBits_5c35a_12 : decode cJxf58ca_floatToIntBits_5c35a 12 = .ok (.ldc 77, 2) := by decide +kernel
theorem dJxf58ca_floatToIntBits_5c35a_14 : decode cJxf58ca_floatToIntBits_5c35a 14 = .ok (.ireturn, 1) := by decide +kernel
theorem dJ6_bitCount_0f7a4_0 : decode cJ6_bitCount_0f7a4 0 = .ok (.iload_n 0, 1) := by decide +kernel
theorem dJ6_bitCount_0f7a4_1 : decode cJ6_bitCount_0f7a4 1 = .ok (.iload_n 0, 1) := by decide +kernel
theorem dJ6_bitCount_0f7a4_2 : decode cJ6_bitCount_0f7a4 2 = .ok (.iconst 1, 1) := by decide +kernel
theorem dJ6_bitCount_0f7a4_3 : decode cJ6_bitCount_0f7a4 3 = .ok (.iushr, 1) := by decide +kernel
theorem dJ6_bitCount_0f7a4_4 : decode cJ6_bitCount_0f7a4 4 = .ok (.ldc_w 265, 3) := by decide +kernel
theorem dJ6_bitCount_0f7a4_7 : decode cJ6_bitCount_0f7a4 7 = .ok (.iand, 1) := by decide +kernel
theorem dJ6_bitCount_0f7a4_8 : decode cJ6_bitCount_0f7a4 8 = .ok (.isub, 1) := by decide +kernel
theorem dJ6_bitCount_0f7a4_9 : decode cJ6_bitCount_0f7a4 9 = .ok (.istore_n 0, 1) := by decide +kernel
theorem dJ6_bitCount_0f7a4_10 : decode cJ6_bitCount_0f7a4 10 = .ok (.iload_n 0, 1) := by decide +kernel
theorem dJ6_bitCount_0f7a4_11 : decode cJ6_bitCount_0f7a4 11 = .ok (.ldc_w 266, 3) := by decide +kernel
theorem dJ6_bitCount_0f7a4_14 : decode cJ6_bitCount_0f7a4 14 = .ok (.iand, 1) := by decide +kernel
theorem dJ6_bitCount_0f7a4_15 : decode cJ6_bitCount_0f7a4 15 = .ok (.iload_n 0, 1) := by decide +kernel
theorem dJ6_bitCount_0f7a4_16 : decode cJ6_bitCount_0f7a4 16 = .ok (.iconst 2, 1) := by decide +kernel
theorem dJ6_bitCount_0f7a4_17 : decode cJ6_bitCount_0f7a4 17 = .ok (.iushr, 1) := by decide +kernel
theorem dJ6_bitCount_0f7a4_18 : decode cJ6_bitCount_0f7a4 18 = .ok (.ldc_w 266, 3) := by decide +kernel
theorem dJ6_bitCount_0f7a4_21 : decode cJ6_bitCount_0f7a4 21 = .ok (.iand, 1) := by decide +kernel
theorem dJ6_bitCount_0f7a4_22 : decode cJ6_bitCount_0f7a4 22 = .ok (.iadd, 1) := by decide +kernel
theorem dJ6_bitCount_0f7a4_23 : decode cJ6_bitCount_0f7a4 23 = .ok (.istore_n 0, 1) := by decide +kernel
theorem dJ6_bitCount_0f7a4_24 : decode cJ6_bitCount_0f7a4 24 = .ok (.iload_n 0, 1) := by decide +kernel
theorem dJ6_bitCount_0f7a4_25 : decode cJ6_bitCount_0f7a4 25 = .ok (.iload_n 0, 1) := by decide +kernel
theorem dJ6_bitCount_0f7a4_26 : decode cJ6_bitCount_0f7a4 26 = .ok (.iconst 4, 1) := by decide +kernel
theorem dJ6_bitCount_0f7a4_27 : decode cJ6_bitCount_0f7a4 27 = .ok (.iushr, 1) := by decide +kernel
theorem dJ6_bitCount_0f7a4_28 : decode cJ6_bitCount_0f7a4 28 = .ok (.iadd, 1) := by decide +kernel
theorem dJ6_bitCount_0f7a4_29 : decode cJ6_bitCount_0f7a4 29 = .ok (.ldc_w 267, 3) := by decide +kernel
theorem dJ6_bitCount_0f7a4_32 : decode cJ6_bitCount_0f7a4 32 = .ok (.iand, 1) := by decide +kernel
theorem dJ6_bitCount_0f7a4_33 : decode cJ6_bitCount_0f7a4 33 = .ok (.istore_n 0, 1) := by decide +kernel
theorem dJ6_bitCount_0f7a4_34 : decode cJ6_bitCount_0f7a4 34 = .ok (.iload_n 0, 1) := by decide +kernel
theorem dJ6_bitCount_0f7a4_35 : decode cJ6_bitCount_0f7a4 35 = .ok (.iload_n 0, 1) := by decide +kernel
theorem dJ6_bitCount_0f7a4_36 : decode cJ6_bitCount_0f7a4 36 = .ok (.bipush 8, 2) := by decide +kernel
theorem dJ6_bitCount_0f7a4_38 : decode cJ6_bitCount_0f7a4 38 = .ok (.iushr, 1) := by decide +kernel
theorem dJ6_bitCount_0f7a4_39 : decode cJ6_bitCount_0f7a4 39 = .ok (.iadd, 1) := by decide +kernel
theorem dJ6_bitCount_0f7a4_40 : decode cJ6_bitCount_0f7a4 40 = .ok (.istore_n 0, 1) := by decide +kernel
theorem dJ6_bitCount_0f7a4_41 : decode cJ6_bitCount_0f7a4 41 = .ok (.iload_n 0, 1) := by decide +kernel
theorem dJ6_bitCount_0f7a4_42 : decode cJ6_bitCount_0f7a4 42 = .ok (.iload_n 0, 1) := by decide +kernel
theorem dJ6_bitCount_0f7a4_43 : decode cJ6_bitCount_0f7a4 43 = .ok (.bipush 16, 2) := by decide +kernel
theorem dJ6_bitCount_0f7a4_45 : decode cJ6_bitCount_0f7a4 45 = .ok (.iushr, 1) := by decide +kernel
theorem dJ6_bitCount_0f7a4_46 : decode cJ6_bitCount_0f7a4 46 = .ok (.iadd, 1) := by decide +kernel
theorem dJ6_bitCount_0f7a4_47 : decode cJ6_bitCount_0f7a4 47 = .ok (.istore_n 0, 1) := by decide +kernel
theorem dJ6_bitCount_0f7a4_48 : decode cJ6_bitCount_0f7a4 48 = .ok (.iload_n 0, 1) := by decide +kernel
theorem dJ6_bitCount_0f7a4_49 : decode cJ6_bitCount_0f7a4 49 = .ok (.bipush 63, 2) := by decide +kernel
theorem dJ6_bitCount_0f7a4_51 : decode cJ6_bitCount_0f7a4 51 = .ok (.iand, 1) := by decide +kernel
theorem dJ6_bitCount_0f7a4_52 : decode cJ6_bitCount_0f7a4 52 = .ok (.ireturn, 1) := by decide +kernel
theorem dJ9_max_7cf53_0 : decode cJ9_max_7cf53 0 = .ok (.iload_n 0, 1) := by decide +kernel
theorem dJ9_max_7cf53_1 : decode cJ9_max_7cf53 1 = .ok (.iload_n 1, 1) := by decide +kernel
theorem dJ9_max_7cf53_2 : decode cJ9_max_7cf53 2 = .ok (.if_icmp .lt 7, 3) := by decide +kernel
theorem dJ9_max_7cf53_5 : decode cJ9_max_7cf53 5 = .ok (.iload_n 0, 1) := by decide +kernel
theorem dJ9_max_7cf53_6 : decode cJ9_max_7cf53 6 = .ok (.goto 4, 3) := by decide +kernel
theorem dJ9_max_7cf53_9 : decode cJ9_max_7cf53 9 = .ok (.iload_n 1, 1) := by decide +kernel
theorem dJ9_max_7cf53_10 : decode cJ9_max_7cf53 10 = .ok (.ireturn, 1) := by decide +kernel
set_option maxRecDepth 20000 in
theorem ggL_add_X5_add : GoodIn wsL_add wsX5_add := goodIn_ca (goodIn_ca (goodIn_r _ [7, 8, 9, 10, 11, 12, 6, 13, 14, 15, 16, 17, 18, 19, 20, 21, 22, 23, 24, 25, 26, 27, 28, 29, 30, 31, 32, 33, 34, 35, 36, 37, 38, 39, 40, 41, 42, 43, 44, 45, 46, 47, 48, 49, 50, 51, 52, 53, 54, 55, 56, 57, 58, 59, 60, 61, 62, 63, 64, 65, 66, 67] (by decide +kernel) (by decide +kernel)) (goodIn_sub (fun _ h => List.mem_cons_of_mem _ (List.mem_append_left _ (List.mem_append_right _ h))) (by decide +kernel))) (goodIn_sub (fun _ h => List.mem_cons_of_mem _ (List.mem_append_right _ h)) (by decide +kernel))
set_option maxRecDepth 20000 in
theorem gL_add_X5_add : GoodIn wsL_add (wsV RL 7 RX5 yX5_add wsX5_add) := goodIn_app (goodIn_of _ (by decide +kernel)) ggL_add_X5_add
theorem dL_add_0 : decode cL_add 0 = .ok (.aload 4, 2) := by decide +kernel
theorem dL_add_2 : decode cL_add 2 = .ok (.iconst 0, 1) := by decide +kernel
theorem dL_add_3 : decode cL_add 3 = .ok (.aload_n 0, 1) := by decide +kernel
theorem dL_add_4 : decode cL_add 4 = .ok (.iload_n 1, 1) := by decide +kernel
theorem dL_add_5 : decode cL_add 5 = .ok (.iload_n 2, 1) := by decide +kernel
theorem dL_add_6 : decode cL_add 6 = .ok (.iload_n 3, 1) := by decide +kernel
theorem dL_add_7 : decode cL_add 7 = .ok (.invokevirtual 7, 3) := by decide +kernel
theorem dL_add_10 : decode cL_add 10 = .ok (.i2l, 1) := by decide +kernel
theorem dL_add_11 : decode cL_add 11 = .ok (.lastore, 1) := by decide +kernel
theorem dL_add_12 : decode cL_add 12 = .ok (.goto 11, 3) := by decide +kernel
theorem dL_add_15 : decode cL_add 15 = .ok (.astore 5, 2) := by decide +kernel
theorem dL_add_17 : decode cL_add 17 = .ok (.iconst 1, 1) := by decide +kernel
theorem dL_add_18 : decode cL_add 18 = .ok (.ireturn, 1) := by decide +kernel
theorem dL_add_19 : decode cL_add 19 = .ok (.astore 5, 2) := by decide +kernel
theorem dL_add_21 : decode cL_add 21 = .ok (.iconst 2, 1) := by decide +kernel
theorem dL_add_22 : decode cL_add 22 = .ok (.ireturn, 1) := by decide +kernel
theorem dL_add_23 : decode cL_add 23 = .ok (.iconst 0, 1) := by decide +kernel
theorem dL_add_24 : decode cL_add 24 = .ok (.ireturn, 1) := by decide +kernel
set_option maxRecDepth 20000 in
theorem ggL_strike_X5_strike : GoodIn wsL_strike wsX5_strike := goodIn_ca (goodIn_r _ [6, 7, 8, 9, 10, 11, 12, 5, 13, 14, 15, 16, 17, 18, 19, 20, 21, 22, 23, 24, 25, 26, 27, 28, 29, 30, 31, 32, 33, 34, 35, 36, 37, 38, 39, 40, 41, 42, 43, 44, 45, 46, 47, 48, 49, 50, 51, 52, 53, 54, 55, 56, 57, 58, 59, 60, 61] (by decide +kernel) (by decide +kernel)) (goodIn_sub (fun _ h => List.mem_cons_of_mem _ (List.mem_append_right _ h)) (by decide +kernel))
set_option maxRecDepth 20000 in
theorem gL_strike_X5_strike : GoodIn wsL_strike (wsV RL 17 RX5 yX5_strike wsX5_strike) := goodIn_app (goodIn_of _ (by decide +kernel)) ggL_strike_X5_strike
theorem dL_strike_0 : decode cL_strike 0 = .ok (.aload_n 2, 1) := by decide +kernel
theorem dL_strike_1 : decode cL_strike 1 = .ok (.iconst 0, 1) := by decide +kernel
theorem dL_strike_2 : decode cL_strike 2 = .ok (.aload_n 0, 1) := by decide +kernel
theorem dL_strike_3 : decode cL_strike 3 = .ok (.iload_n 1, 1) := by decide +kernel
theorem dL_strike_4 : decode cL_strike 4 = .ok (.invokevirtual 17, 3) := by decide +kernel
theorem dL_strike_7 : decode cL_strike 7 = .ok (.i2l, 1) := by decide +kernel
theorem dL_strike_8 : decode cL_strike 8 = .ok (.lastore, 1) := by decide +kernel
theorem dL_strike_9 : decode cL_strike 9 = .ok (.goto 6, 3) := by decide +kernel
theorem dL_strike_12 : decode cL_strike 12 = .ok (.astore_n 3, 1) := by decide +kernel
theorem dL_strike_13 : decode cL_strike 13 = .ok (.iconst 1, 1) := by decide +kernel
theorem dL_strike_14 : decode cL_strike 14 = .ok (.ireturn, 1) := by decide +kernel
theorem dL_strike_15 : decode cL_strike 15 = .ok (.iconst 0, 1) := by decide +kernel
theorem dL_strike_16 : decode cL_strike 16 = .ok (.ireturn, 1) := by decide +kernel
set_option maxRecDepth 20000 in
theorem ggL_move_X5_move : GoodIn wsL_move wsX5_move := goodIn_ca (goodIn_ca (goodIn_ca (goodIn_r _ [8, 9, 10, 11, 12, 13, 14, 15, 16, 17, 7, 18, 19, 20, 21, 22, 23, 24, 25, 26, 27, 28, 29, 30, 31, 32, 33, 34, 35, 36, 37, 38, 39, 40, 41, 42, 43, 44, 45, 46, 47, 48, 49, 50, 51, 52, 53, 54, 55, 56, 57, 58, 59, 60, 61, 62, 63, 64, 65, 66, 67, 68, 69, 70, 71, 72, 73, 74, 75, 76, 77, 78, 79, 80, 81, 82, 83, 84, 85, 86, 87] (by decide +kernel) (by decide +kernel)) (goodIn_sub (fun _ h => List.mem_cons_of_mem _ (List.mem_append_left _ (List.mem_append_left _ (List.mem_append_right _ h)))) (by decide +kernel))) (goodIn_sub (fun _ h => List.mem_cons_of_mem _ (List.mem_append_left _ (List.mem_append_right _ h))) (by decide +kernel))) (goodIn_sub (fun _ h => List.mem_cons_of_mem _ (List.mem_append_right _ h)) (by decide +kernel))
set_option maxRecDepth 20000 in
theorem gL_move_X5_move : GoodIn wsL_move (wsV RL 23 RX5 yX5_move wsX5_move) := goodIn_app (goodIn_of _ (by decide +kernel)) ggL_move_X5_move
theorem dL_move_0 : decode cL_move 0 = .ok (.aload 4, 2) := by decide +kernel
theorem dL_move_2 : decode cL_move 2 = .ok (.iconst 0, 1) := by decide +kernel
theorem dL_move_3 : decode cL_move 3 = .ok (.aload_n 0, 1) := by decide +kernel
theorem dL_move_4 : decode cL_move 4 = .ok (.iload_n 1, 1) := by decide +kernel
theorem dL_move_5 : decode cL_move 5 = .ok (.iload_n 2, 1) := by decide +kernel
theorem dL_move_6 : decode cL_move 6 = .ok (.iload_n 3, 1) := by decide +kernel
theorem dL_move_7 : decode cL_move 7 = .ok (.invokevirtual 23, 3) := by decide +kernel
theorem dL_move_10 : decode cL_move 10 = .ok (.i2l, 1) := by decide +kernel
theorem dL_move_11 : decode cL_move 11 = .ok (.lastore, 1) := by decide +kernel
theorem dL_move_12 : decode cL_move 12 = .ok (.goto 15, 3) := by decide +kernel
theorem dL_move_15 : decode cL_move 15 = .ok (.astore 5, 2) := by decide +kernel
theorem dL_move_17 : decode cL_move 17 = .ok (.iconst 1, 1) := by decide +kernel
theorem dL_move_18 : decode cL_move 18 = .ok (.ireturn, 1) := by decide +kernel
theorem dL_move_19 : decode cL_move 19 = .ok (.astore 5, 2) := by decide +kernel
theorem dL_move_21 : decode cL_move 21 = .ok (.iconst 2, 1) := by decide +kernel
theorem dL_move_22 : decode cL_move 22 = .ok (.ireturn, 1) := by decide +kernel
theorem dL_move_23 : decode cL_move 23 = .ok (.astore 5, 2) := by decide +kernel
theorem dL_move_25 : decode cL_move 25 = .ok (.iconst 3, 1) := by decide +kernel
theorem dL_move_26 : decode cL_move 26 = .ok (.ireturn, 1) := by decide +kernel
theorem dL_move_27 : decode cL_move 27 = .ok (.iconst 0, 1) := by decide +kernel
theorem dL_move_28 : decode cL_move 28 = .ok (.ireturn, 1) := by decide +kernel
set_option maxRecDepth 20000 in
theorem ggL_changeFame_X5_changeFame : GoodIn wsL_changeFame wsX5_changeFame := goodIn_ca (goodIn_ca (goodIn_r _ [7, 8, 9, 10, 11, 12, 13, 6, 14, 15, 16, 17, 18, 19, 20, 21, 22, 23, 24, 25, 26, 27, 28, 29, 30, 31, 32, 33, 34, 35, 36, 37, 38, 39, 40, 41, 42, 43, 44, 45, 46, 47, 48, 49, 50, 51, 52, 53, 54, 55, 56, 57, 58, 59, 60, 61] (by decide +kernel) (by decide +kernel)) (goodIn_sub (fun _ h => List.mem_cons_of_mem _ (List.mem_append_left _ (List.mem_append_right _ h))) (by decide +kernel))) (goodIn_sub (fun _ h => List.mem_cons_of_mem _ (List.mem_append_right _ h)) (by decide +kernel))
set_option maxRecDepth 20000 in
theorem gL_changeFame_X5_changeFame : GoodIn wsL_changeFame (wsV RL 26 RX5 yX5_changeFame wsX5_changeFame) := goodIn_app (goodIn_of _ (by decide +kernel)) ggL_changeFame_X5_changeFame
theorem dL_changeFame_0 : decode cL_changeFame 0 = .ok (.aload_n 3, 1) := by decide +kernel
theorem dL_changeFame_1 : decode cL_changeFame 1 = .ok (.iconst 0, 1) := by decide +kernel
theorem dL_changeFame_2 : decode cL_changeFame 2 = .ok (.aload_n 0, 1) := by decide +kernel
theorem dL_changeFame_3 : decode cL_changeFame 3 = .ok (.iload_n 1, 1) := by decide +kernel
theorem dL_changeFame_4 : decode cL_changeFame 4 = .ok (.iload_n 2, 1) := by decide +kernel
theorem dL_changeFame_5 : decode cL_changeFame 5 = .ok (.invokevirtual 26, 3) := by decide +kernel
theorem dL_changeFame_8 : decode cL_changeFame 8 = .ok (.i2l, 1) := by decide +kernel
theorem dL_changeFame_9 : decode cL_changeFame 9 = .ok (.lastore, 1) := by decide +kernel
theorem dL_changeFame_10 : decode cL_changeFame 10 = .ok (.goto 11, 3) := by decide +kernel
theorem dL_changeFame_13 : decode cL_changeFame 13 = .ok (.astore 4, 2) := by decide +kernel
theorem dL_changeFame_15 : decode cL_changeFame 15 = .ok (.iconst 1, 1) := by decide +kernel
theorem dL_changeFame_16 : decode cL_changeFame 16 = .ok (.ireturn, 1) := by decide +kernel
theorem dL_changeFame_17 : decode cL_changeFame 17 = .ok (.astore 4, 2) := by decide +kernel
theorem dL_changeFame_19 : decode cL_changeFame 19 = .ok (.iconst 2, 1) := by decide +kernel
theorem dL_changeFame_20 : decode cL_changeFame 20 = .ok (.ireturn, 1) := by decide +kernel
theorem dL_changeFame_21 : decode cL_changeFame 21 = .ok (.iconst 0, 1) := by decide +kernel
theorem dL_changeFame_22 : decode cL_changeFame 22 = .ok (.ireturn, 1) := by decide +kernel
set_option maxRecDepth 20000 in
theorem ggL_changePause_X5_changePause : GoodIn wsL_changePause wsX5_changePause := goodIn_ca (goodIn_ca (goodIn_r _ [7, 8, 9, 10, 11, 12, 13, 14, 15, 16, 17, 18, 19, 20, 21, 22, 23, 24, 25, 26, 27, 28, 6, 29, 30, 31, 32, 33, 34, 35, 36, 37, 38, 39, 40, 41, 42, 43, 44, 45, 46, 47, 48, 49, 50, 51, 52, 53, 54, 55, 56, 57, 58, 59, 60, 61, 62, 63, 64, 65, 66, 67, 68, 69, 70] (by decide +kernel) (by decide +kernel)) (goodIn_sub (fun _ h => List.mem_cons_of_mem _ (List.mem_append_left _ (List.mem_append_right _ h))) (by decide +kernel))) (goodIn_sub (fun _ h => List.mem_cons_of_mem _ (List.mem_append_right _ h)) (by decide +kernel))
set_option maxRecDepth 20000 in
theorem gL_changePause_X5_changePause : GoodIn wsL_changePause (wsV RL 30 RX5 yX5_changePause wsX5_changePause) := goodIn_app (goodIn_of _ (by decide +kernel)) ggL_changePause_X5_changePause
theorem dL_changePause_0 : decode cL_changePause 0 = .ok (.aload_n 2, 1) := by decide +kernel
theorem dL_changePause_1 : decode cL_changePause 1 = .ok (.iconst 0, 1) := by decide +kernel
theorem dL_changePause_2 : decode cL_changePause 2 = .ok (.aload_n 0, 1) := by decide +kernel
theorem dL_changePause_3 : decode cL_changePause 3 = .ok (.iload_n 1, 1) := by decide +kernel
theorem dL_changePause_4 : decode cL_changePause 4 = .ok (.invokevirtual 30, 3) := by decide +kernel
theorem dL_changePause_7 : decode cL_changePause 7 = .ok (.i2l, 1) := by decide +kernel
theorem dL_changePause_8 : decode cL_changePause 8 = .ok (.lastore, 1) := by decide +kernel
theorem dL_changePause_9 : decode cL_changePause 9 = .ok (.goto 9, 3) := by decide +kernel
theorem dL_changePause_12 : decode cL_changePause 12 = .ok (.astore_n 3, 1) := by decide +kernel
theorem dL_changePause_13 : decode cL_changePause 13 = .ok (.iconst 1, 1) := by decide +kernel
theorem dL_changePause_14 : decode cL_changePause 14 = .ok (.ireturn, 1) := by decide +kernel
theorem dL_changePause_15 : decode cL_changePause 15 = .ok (.astore_n 3, 1) := by decide +kernel
theorem dL_changePause_16 : decode cL_changePause 16 = .ok (.iconst 2, 1) := by decide +kernel
theorem dL_changePause_17 : decode cL_changePause 17 = .ok (.ireturn, 1) := by decide +kernel
theorem dL_changePause_18 : decode cL_changePause 18 = .ok (.iconst 0, 1) := by decide +kernel
theorem dL_changePause_19 : decode cL_changePause 19 = .ok (.ireturn, 1) := by decide +kernel
set_option maxRecDepth 20000 in
theorem ggL_book_X5_book : GoodIn wsL_book wsX5_book := goodIn_ca (goodIn_ca (goodIn_r _ [7, 8, 9, 10, 11, 12, 13, 14, 15, 6, 16, 17, 18, 19, 20, 21, 22, 23, 24, 25, 26, 27, 28, 29, 30, 31, 32, 33, 34, 35, 36, 37, 38, 39, 40, 41, 42, 43, 44, 45, 46, 47, 48, 49, 50, 51, 52, 53, 54, 55, 56, 57, 58, 59, 60, 61, 62, 63, 64, 65, 66, 67, 68, 69, 70, 71, 72, 73, 74, 75, 76, 77, 78, 79, 80, 81, 82, 83] (by decide +kernel) (by decide +kernel)) (goodIn_sub (fun _ h => List.mem_cons_of_mem _ (List.mem_append_left _ (List.mem_append_right _ h))) (by decide +kernel))) (goodIn_sub (fun _ h => List.mem_cons_of_mem _ (List.mem_append_right _ h)) (by decide +kernel))
set_option maxRecDepth 20000 in
theorem gL_book_X5_book : GoodIn wsL_book (wsV RL 33 RX5 yX5_book wsX5_book) := goodIn_app (goodIn_of _ (by decide +kernel)) ggL_book_X5_book
theorem dL_book_0 : decode cL_book 0 = .ok (.aload_n 2, 1) := by decide +kernel
theorem dL_book_1 : decode cL_book 1 = .ok (.iconst 0, 1) := by decide +kernel
theorem dL_book_2 : decode cL_book 2 = .ok (.aload_n 0, 1) := by decide +kernel
theorem dL_book_3 : decode cL_book 3 = .ok (.iload_n 1, 1) := by decide +kernel
theorem dL_book_4 : decode cL_book 4 = .ok (.invokevirtual 33, 3) := by decide +kernel
theorem dL_book_7 : decode cL_book 7 = .ok (.i2l, 1) := by decide +kernel
theorem dL_book_8 : decode cL_book 8 = .ok (.lastore, 1) := by decide +kernel
theorem dL_book_9 : decode cL_book 9 = .ok (.goto 9, 3) := by decide +kernel
theorem dL_book_12 : decode cL_book 12 = .ok (.astore_n 3, 1) := by decide +kernel
theorem dL_book_13 : decode cL_book 13 = .ok (.iconst 1, 1) := by decide +kernel
theorem dL_book_14 : decode cL_book 14 = .ok (.ireturn, 1) := by decide +kernel
theorem dL_book_15 : decode cL_book 15 = .ok (.astore_n 3, 1) := by decide +kernel
theorem dL_book_16 : decode cL_book 16 = .ok (.iconst 2, 1) := by decide +kernel
theorem dL_book_17 : decode cL_book 17 = .ok (.ireturn, 1) := by decide +kernel
theorem dL_book_18 : decode cL_book 18 = .ok (.iconst 0, 1) := by decide +kernel
theorem dL_book_19 : decode cL_book 19 = .ok (.ireturn, 1) := by decide +kernel
set_option maxRecDepth 20000 in
theorem ggL_cancel_X5_cancel : GoodIn wsL_cancel wsX5_cancel := goodIn_ca (goodIn_ca (goodIn_r _ [7, 8, 9, 10, 11, 12, 13, 14, 15, 6, 16, 17, 18, 19, 20, 21, 22, 23, 24, 25, 26, 27, 28, 29, 30, 31, 32, 33, 34, 35, 36, 37, 38, 39, 40, 41, 42, 43, 44, 45, 46, 47, 48, 49, 50, 51, 52, 53, 54, 55, 56, 57, 58, 59, 60, 61, 62, 63, 64, 65, 66, 67, 68, 69, 70, 71] (by decide +kernel) (by decide +kernel)) (goodIn_sub (fun _ h => List.mem_cons_of_mem _ (List.mem_append_left _ (List.mem_append_right _ h))) (by decide +kernel))) (goodIn_sub (fun _ h => List.mem_cons_of_mem _ (List.mem_append_right _ h)) (by decide +kernel))
set_option maxRecDepth 20000 in
theorem gL_cancel_X5_cancel : GoodIn wsL_cancel (wsV RL 36 RX5 yX5_cancel wsX5_cancel) := goodIn_app (goodIn_of _ (by decide +kernel)) ggL_cancel_X5_cancel
theorem dL_cancel_0 : decode cL_cancel 0 = .ok (.aload_n 2, 1) := by decide +kernel
theorem dL_cancel_1 : decode cL_cancel 1 = .ok (.iconst 0, 1) := by decide +kernel
theorem dL_cancel_2 : decode cL_cancel 2 = .ok (.aload_n 0, 1) := by decide +kernel
theorem dL_cancel_3 : decode cL_cancel 3 = .ok (.iload_n 1, 1) := by decide +kernel
theorem dL_cancel_4 : decode cL_cancel 4 = .ok (.invokevirtual 36, 3) := by decide +kernel
theorem dL_cancel_7 : decode cL_cancel 7 = .ok (.i2l, 1) := by decide +kernel
theorem dL_cancel_8 : decode cL_cancel 8 = .ok (.lastore, 1) := by decide +kernel
theorem dL_cancel_9 : decode cL_cancel 9 = .ok (.goto 9, 3) := by decide +kernel
theorem dL_cancel_12 : decode cL_cancel 12 = .ok (.astore_n 3, 1) := by decide +kernel
theorem dL_cancel_13 : decode cL_cancel 13 = .ok (.iconst 1, 1) := by decide +kernel
theorem dL_cancel_14 : decode cL_cancel 14 = .ok (.ireturn, 1) := by decide +kernel
theorem dL_cancel_15 : decode cL_cancel 15 = .ok (.astore_n 3, 1) := by decide +kernel
theorem dL_cancel_16 : decode cL_cancel 16 = .ok (.iconst 2, 1) := by decide +kernel
theorem dL_cancel_17 : decode cL_cancel 17 = .ok (.ireturn, 1) := by decide +kernel
theorem dL_cancel_18 : decode cL_cancel 18 = .ok (.iconst 0, 1) := by decide +kernel
theorem dL_cancel_19 : decode cL_cancel 19 = .ok (.ireturn, 1) := by decide +kernel
set_option maxRecDepth 20000 in
theorem ggL_append_X5_append : GoodIn wsL_append wsX5_append := goodIn_ca (goodIn_ca (goodIn_r _ [7, 8, 9, 10, 11, 12, 13, 14, 15, 16, 17, 18, 19, 20, 21, 22, 23, 24, 25, 26, 27, 28, 29, 30, 31, 32] (by decide +kernel) (by decide +kernel)) (goodIn_sub (fun _ h => List.mem_cons_of_mem _ (List.mem_append_left _ (List.mem_append_right _ h))) (by decide +kernel))) (goodIn_sub (fun _ h => List.mem_cons_of_mem _ (List.mem_append_right _ h)) (by decide +kernel))
set_option maxRecDepth 20000 in
theorem gL_append_X5_append : GoodIn wsL_append (wsV RL 39 RX5 yX5_append wsX5_append) := goodIn_app (goodIn_of _ (by decide +kernel)) ggL_append_X5_append
theorem dL_append_0 : decode cL_append 0 = .ok (.aload_n 2, 1) := by decide +kernel
theorem dL_append_1 : decode cL_append 1 = .ok (.iconst 0, 1) := by decide +kernel
theorem dL_append_2 : decode cL_append 2 = .ok (.aload_n 0, 1) := by decide +kernel
theorem dL_append_3 : decode cL_append 3 = .ok (.iload_n 1, 1) := by decide +kernel
theorem dL_append_4 : decode cL_append 4 = .ok (.invokevirtual 39, 3) := by decide +kernel
theorem dL_append_7 : decode cL_append 7 = .ok (.i2l, 1) := by decide +kernel
theorem dL_append_8 : decode cL_append 8 = .ok (.lastore, 1) := by decide +kernel
theorem dL_append_9 : decode cL_append 9 = .ok (.goto 9, 3) := by decide +kernel
theorem dL_append_12 : decode cL_append 12 = .ok (.astore_n 3, 1) := by decide +kernel
theorem dL_append_13 : decode cL_append 13 = .ok (.iconst 1, 1) := by decide +kernel
theorem dL_append_14 : decode cL_append 14 = .ok (.ireturn, 1) := by decide +kernel
theorem dL_append_15 : decode cL_append 15 = .ok (.astore_n 3, 1) := by decide +kernel
theorem dL_append_16 : decode cL_append 16 = .ok (.iconst 2, 1) := by decide +kernel
theorem dL_append_17 : decode cL_append 17 = .ok (.ireturn, 1) := by decide +kernel
theorem dL_append_18 : decode cL_append 18 = .ok (.iconst 0, 1) := by decide +kernel
theorem dL_append_19 : decode cL_append 19 = .ok (.ireturn, 1) := by decide +kernel
set_option maxRecDepth 20000 in
theorem ggL_read_X5_read : GoodIn wsL_read wsX5_read := goodIn_ca (goodIn_ca (goodIn_r _ [7, 8, 9, 10, 11, 12, 13, 14, 15, 16, 17, 18, 19, 20, 21, 22, 23, 24, 25, 26, 27, 28, 29, 30, 31, 32, 33, 34, 35, 36, 37, 38, 39, 40, 41, 42, 43, 44, 45, 46, 47, 48, 49, 50, 51, 52, 53, 54, 55, 56, 57, 58, 59, 60, 61, 62, 63, 64, 65, 66, 6, 67, 68, 69, 70, 71, 72, 73, 74, 75, 76, 77, 78, 79, 80, 81, 82, 83, 84, 85, 86, 87, 88, 89, 90, 91, 92, 93, 94, 95, 96, 97, 98, 99, 100, 101, 102, 103, 104, 105, 106, 107, 108, 109, 110, 111, 112, 113, 114, 115, 116, 117, 118, 119, 120, 121, 122, 123] (by decide +kernel) (by decide +kernel)) (goodIn_sub (fun _ h => List.mem_cons_of_mem _ (List.mem_append_left _ (List.mem_append_right _ h))) (by decide +kernel))) (goodIn_sub (fun _ h => List.mem_cons_of_mem _ (List.mem_append_right _ h)) (by decide +kernel))
set_option maxRecDepth 20000 in
theorem gL_read_X5_read : GoodIn wsL_read (wsV RL 42 RX5 yX5_read wsX5_read) := goodIn_app (goodIn_of _ (by decide +kernel)) ggL_read_X5_read
theorem dL_read_0 : decode cL_read 0 = .ok (.aload_n 1, 1) := by decide +kernel
theorem dL_read_1 : decode cL_read 1 = .ok (.iconst 0, 1) := by decide +kernel
theorem dL_read_2 : decode cL_read 2 = .ok (.aload_n 0, 1) := by decide +kernel
theorem dL_read_3 : decode cL_read 3 = .ok (.invokevirtual 42, 3) := by decide +kernel
theorem dL_read_6 : decode cL_read 6 = .ok (.i2l, 1) := by decide +kernel
theorem dL_read_7 : decode cL_read 7 = .ok (.lastore, 1) := by decide +kernel
theorem dL_read_8 : decode cL_read 8 = .ok (.goto 9, 3) := by decide +kernel
theorem dL_read_11 : decode cL_read 11 = .ok (.astore_n 2, 1) := by decide +kernel
theorem dL_read_12 : decode cL_read 12 = .ok (.iconst 1, 1) := by decide +kernel
theorem dL_read_13 : decode cL_read 13 = .ok (.ireturn, 1) := by decide +kernel
theorem dL_read_14 : decode cL_read 14 = .ok (.astore_n 2, 1) := by decide +kernel
theorem dL_read_15 : decode cL_read 15 = .ok (.iconst 2, 1) := by decide +kernel
theorem dL_read_16 : decode cL_read 16 = .ok (.ireturn, 1) := by decide +kernel
theorem dL_read_17 : decode cL_read 17 = .ok (.iconst 0, 1) := by decide +kernel
theorem dL_read_18 : decode cL_read 18 = .ok (.ireturn, 1) := by decide +kernel
