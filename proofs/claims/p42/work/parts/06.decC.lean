theorem dX5_mixWhole_105 : decode cX5_mixWhole 105 = .ok (.i2l, 1) := by decide +kernel
theorem dX5_mixWhole_106 : decode cX5_mixWhole 106 = .ok (.invokestatic 236, 3) := by decide +kernel
theorem dX5_mixWhole_109 : decode cX5_mixWhole 109 = .ok (.lstore_n 3, 1) := by decide +kernel
theorem dX5_mixWhole_110 : decode cX5_mixWhole 110 = .ok (.lload_n 3, 1) := by decide +kernel
theorem dX5_mixWhole_111 : decode cX5_mixWhole 111 = .ok (.aload_n 0, 1) := by decide +kernel
theorem dX5_mixWhole_112 : decode cX5_mixWhole 112 = .ok (.invokevirtual 312, 3) := by decide +kernel
theorem dX5_mixWhole_115 : decode cX5_mixWhole 115 = .ok (.i2l, 1) := by decide +kernel
theorem dX5_mixWhole_116 : decode cX5_mixWhole 116 = .ok (.invokestatic 236, 3) := by decide +kernel
theorem dX5_mixWhole_119 : decode cX5_mixWhole 119 = .ok (.lstore_n 3, 1) := by decide +kernel
theorem dX5_mixWhole_120 : decode cX5_mixWhole 120 = .ok (.lload_n 3, 1) := by decide +kernel
theorem dX5_mixWhole_121 : decode cX5_mixWhole 121 = .ok (.aload_n 0, 1) := by decide +kernel
theorem dX5_mixWhole_122 : decode cX5_mixWhole 122 = .ok (.invokevirtual 315, 3) := by decide +kernel
theorem dX5_mixWhole_125 : decode cX5_mixWhole 125 = .ok (.invokestatic 319, 3) := by decide +kernel
theorem dX5_mixWhole_128 : decode cX5_mixWhole 128 = .ok (.invokestatic 236, 3) := by decide +kernel
theorem dX5_mixWhole_131 : decode cX5_mixWhole 131 = .ok (.lreturn, 1) := by decide +kernel
theorem dX5_mix_0 : decode cX5_mix 0 = .ok (.ldc2_w 323, 3) := by decide +kernel
theorem dX5_mix_3 : decode cX5_mix 3 = .ok (.lload_n 0, 1) := by decide +kernel
theorem dX5_mix_4 : decode cX5_mix 4 = .ok (.lmul, 1) := by decide +kernel
theorem dX5_mix_5 : decode cX5_mix 5 = .ok (.lload_n 2, 1) := by decide +kernel
theorem dX5_mix_6 : decode cX5_mix 6 = .ok (.ladd, 1) := by decide +kernel
theorem dX5_mix_7 : decode cX5_mix 7 = .ok (.lreturn, 1) := by decide +kernel
set_option maxRecDepth 20000 in
theorem ggX5_floatBits_X5_bitsOf : GoodIn wsX5_floatBits wsX5_bitsOf := goodIn_r _ [4, 5] (by decide +kernel) (by decide +kernel)
set_option maxRecDepth 20000 in
theorem gX5_floatBits_X5_bitsOf : GoodIn wsX5_floatBits (va_wsS RX5 325 yX5_bitsOf wsX5_bitsOf) := goodIn_app (goodIn_of _ (by decide +kernel)) ggX5_floatBits_X5_bitsOf
theorem dX5_floatBits_0 : decode cX5_floatBits 0 = .ok (.fload_n 0, 1) := by decide +kernel
theorem dX5_floatBits_1 : decode cX5_floatBits 1 = .ok (.f2d, 1) := by decide +kernel
theorem dX5_floatBits_2 : decode cX5_floatBits 2 = .ok (.bipush 23, 2) := by decide +kernel
theorem dX5_floatBits_4 : decode cX5_floatBits 4 = .ok (.bipush 127, 2) := by decide +kernel
theorem dX5_floatBits_6 : decode cX5_floatBits 6 = .ok (.invokestatic 325, 3) := by decide +kernel
theorem dX5_floatBits_9 : decode cX5_floatBits 9 = .ok (.lreturn, 1) := by decide +kernel
set_option maxRecDepth 20000 in
theorem ggX5_doubleBits_X5_bitsOf : GoodIn wsX5_doubleBits wsX5_bitsOf := goodIn_r _ [4, 5] (by decide +kernel) (by decide +kernel)
set_option maxRecDepth 20000 in
theorem gX5_doubleBits_X5_bitsOf : GoodIn wsX5_doubleBits (va_wsS RX5 325 yX5_bitsOf wsX5_bitsOf) := goodIn_app (goodIn_of _ (by decide +kernel)) ggX5_doubleBits_X5_bitsOf
theorem dX5_doubleBits_0 : decode cX5_doubleBits 0 = .ok (.dload_n 0, 1) := by decide +kernel
theorem dX5_doubleBits_1 : decode cX5_doubleBits 1 = .ok (.bipush 52, 2) := by decide +kernel
theorem dX5_doubleBits_3 : decode cX5_doubleBits 3 = .ok (.sipush 1023, 3) := by decide +kernel
theorem dX5_doubleBits_6 : decode cX5_doubleBits 6 = .ok (.invokestatic 325, 3) := by decide +kernel
theorem dX5_doubleBits_9 : decode cX5_doubleBits 9 = .ok (.lreturn, 1) := by decide +kernel
theorem dX5_bitsOf_0 : decode cX5_bitsOf 0 = .ok (.dload_n 0, 1) := by decide +kernel
theorem dX5_bitsOf_1 : decode cX5_bitsOf 1 = .ok (.dconst 0, 1) := by decide +kernel
theorem dX5_bitsOf_2 : decode cX5_bitsOf 2 = .ok (.dcmp .l, 1) := by decide +kernel
theorem dX5_bitsOf_3 : decode cX5_bitsOf 3 = .ok (.ifCond .gt 5, 3) := by decide +kernel
theorem dX5_bitsOf_6 : decode cX5_bitsOf 6 = .ok (.lconst 0, 1) := by decide +kernel
theorem dX5_bitsOf_7 : decode cX5_bitsOf 7 = .ok (.lreturn, 1) := by decide +kernel
theorem dX5_bitsOf_8 : decode cX5_bitsOf 8 = .ok (.dload_n 0, 1) := by decide +kernel
theorem dX5_bitsOf_9 : decode cX5_bitsOf 9 = .ok (.dstore 4, 2) := by decide +kernel
theorem dX5_bitsOf_11 : decode cX5_bitsOf 11 = .ok (.iload_n 3, 1) := by decide +kernel
theorem dX5_bitsOf_12 : decode cX5_bitsOf 12 = .ok (.istore 6, 2) := by decide +kernel
theorem dX5_bitsOf_14 : decode cX5_bitsOf 14 = .ok (.dload 4, 2) := by decide +kernel
theorem dX5_bitsOf_16 : decode cX5_bitsOf 16 = .ok (.ldc2_w 329, 3) := by decide +kernel
theorem dX5_bitsOf_19 : decode cX5_bitsOf 19 = .ok (.dcmp .l, 1) := by decide +kernel
theorem dX5_bitsOf_20 : decode cX5_bitsOf 20 = .ok (.ifCond .lt 25, 3) := by decide +kernel
theorem dX5_bitsOf_23 : decode cX5_bitsOf 23 = .ok (.iload 6, 2) := by decide +kernel
theorem dX5_bitsOf_25 : decode cX5_bitsOf 25 = .ok (.iconst 2, 1) := by decide +kernel
theorem dX5_bitsOf_26 : decode cX5_bitsOf 26 = .ok (.iload_n 3, 1) := by decide +kernel
theorem dX5_bitsOf_27 : decode cX5_bitsOf 27 = .ok (.imul, 1) := by decide +kernel
theorem dX5_bitsOf_28 : decode cX5_bitsOf 28 = .ok (.if_icmp .ge 17, 3) := by decide +kernel
theorem dX5_bitsOf_31 : decode cX5_bitsOf 31 = .ok (.dload 4, 2) := by decide +kernel
theorem dX5_bitsOf_33 : decode cX5_bitsOf 33 = .ok (.ldc2_w 329, 3) := by decide +kernel
theorem dX5_bitsOf_36 : decode cX5_bitsOf 36 = .ok (.ddiv, 1) := by decide +kernel
theorem dX5_bitsOf_37 : decode cX5_bitsOf 37 = .ok (.dstore 4, 2) := by decide +kernel
theorem dX5_bitsOf_39 : decode cX5_bitsOf 39 = .ok (.iinc 6 1, 3) := by decide +kernel
theorem dX5_bitsOf_42 : decode cX5_bitsOf 42 = .ok (.goto (-28), 3) := by decide +kernel
theorem dX5_bitsOf_45 : decode cX5_bitsOf 45 = .ok (.dload 4, 2) := by decide +kernel
theorem dX5_bitsOf_47 : decode cX5_bitsOf 47 = .ok (.dconst 1, 1) := by decide +kernel
theorem dX5_bitsOf_48 : decode cX5_bitsOf 48 = .ok (.dcmp .g, 1) := by decide +kernel
theorem dX5_bitsOf_49 : decode cX5_bitsOf 49 = .ok (.ifCond .ge 23, 3) := by decide +kernel
theorem dX5_bitsOf_52 : decode cX5_bitsOf 52 = .ok (.iload 6, 2) := by decide +kernel
theorem dX5_bitsOf_54 : decode cX5_bitsOf 54 = .ok (.iconst 1, 1) := by decide +kernel
theorem dX5_bitsOf_55 : decode cX5_bitsOf 55 = .ok (.if_icmp .le 17, 3) := by decide +kernel
theorem dX5_bitsOf_58 : decode cX5_bitsOf 58 = .ok (.dload 4, 2) := by decide +kernel
theorem dX5_bitsOf_60 : decode cX5_bitsOf 60 = .ok (.ldc2_w 329, 3) := by decide +kernel
theorem dX5_bitsOf_63 : decode cX5_bitsOf 63 = .ok (.dmul, 1) := by decide +kernel
theorem dX5_bitsOf_64 : decode cX5_bitsOf 64 = .ok (.dstore 4, 2) := by decide +kernel
theorem dX5_bitsOf_66 : decode cX5_bitsOf 66 = .ok (.iinc 6 (-1), 3) := by decide +kernel
theorem dX5_bitsOf_69 : decode cX5_bitsOf 69 = .ok (.goto (-24), 3) := by decide +kernel
theorem dX5_bitsOf_72 : decode cX5_bitsOf 72 = .ok (.dload 4, 2) := by decide +kernel
theorem dX5_bitsOf_74 : decode cX5_bitsOf 74 = .ok (.dconst 1, 1) := by decide +kernel
theorem dX5_bitsOf_75 : decode cX5_bitsOf 75 = .ok (.dsub, 1) := by decide +kernel
theorem dX5_bitsOf_76 : decode cX5_bitsOf 76 = .ok (.lconst 1, 1) := by decide +kernel
theorem dX5_bitsOf_77 : decode cX5_bitsOf 77 = .ok (.iload_n 2, 1) := by decide +kernel
theorem dX5_bitsOf_78 : decode cX5_bitsOf 78 = .ok (.lshl, 1) := by decide +kernel
theorem dX5_bitsOf_79 : decode cX5_bitsOf 79 = .ok (.l2d, 1) := by decide +kernel
theorem dX5_bitsOf_80 : decode cX5_bitsOf 80 = .ok (.dmul, 1) := by decide +kernel
theorem dX5_bitsOf_81 : decode cX5_bitsOf 81 = .ok (.d2l, 1) := by decide +kernel
theorem dX5_bitsOf_82 : decode cX5_bitsOf 82 = .ok (.lstore 7, 2) := by decide +kernel
theorem dX5_bitsOf_84 : decode cX5_bitsOf 84 = .ok (.iload 6, 2) := by decide +kernel
theorem dX5_bitsOf_86 : decode cX5_bitsOf 86 = .ok (.i2l, 1) := by decide +kernel
theorem dX5_bitsOf_87 : decode cX5_bitsOf 87 = .ok (.iload_n 2, 1) := by decide +kernel
theorem dX5_bitsOf_88 : decode cX5_bitsOf 88 = .ok (.lshl, 1) := by decide +kernel
theorem dX5_bitsOf_89 : decode cX5_bitsOf 89 = .ok (.lload 7, 2) := by decide +kernel
theorem dX5_bitsOf_91 : decode cX5_bitsOf 91 = .ok (.ladd, 1) := by decide +kernel
theorem dX5_bitsOf_92 : decode cX5_bitsOf 92 = .ok (.lreturn, 1) := by decide +kernel
theorem dX5_requireRehearsal_0 : decode cX5_requireRehearsal 0 = .ok (.iload_n 1, 1) := by decide +kernel
theorem dX5_requireRehearsal_1 : decode cX5_requireRehearsal 1 = .ok (.ifCond .lt 14, 3) := by decide +kernel
theorem dX5_requireRehearsal_4 : decode cX5_requireRehearsal 4 = .ok (.iload_n 1, 1) := by decide +kernel
theorem dX5_requireRehearsal_5 : decode cX5_requireRehearsal 5 = .ok (.aload_n 0, 1) := by decide +kernel
theorem dX5_requireRehearsal_6 : decode cX5_requireRehearsal 6 = .ok (.getfield 10, 3) := by decide +kernel
theorem dX5_requireRehearsal_9 : decode cX5_requireRehearsal 9 = .ok (.getfield 71, 3) := by decide +kernel
theorem dX5_requireRehearsal_12 : decode cX5_requireRehearsal 12 = .ok (.if_icmp .lt 14, 3) := by decide +kernel
theorem dX5_requireRehearsal_15 : decode cX5_requireRehearsal 15 = .ok (.new 331, 3) := by decide +kernel
theorem dX5_requireRehearsal_18 : decode cX5_requireRehearsal 18 = .ok (.dup, 1) := by decide +kernel
theorem dX5_requireRehearsal_19 : decode cX5_requireRehearsal 19 = .ok (.ldc_w 333, 3) := by decide +kernel
theorem dX5_requireRehearsal_22 : decode cX5_requireRehearsal 22 = .ok (.invokespecial 335, 3) := by decide +kernel
theorem dX5_requireRehearsal_25 : decode cX5_requireRehearsal 25 = .ok (.athrow, 1) := by decide +kernel
theorem dX5_requireRehearsal_26 : decode cX5_requireRehearsal 26 = .ok (.return_, 1) := by decide +kernel
theorem dX5_requireTimes_0 : decode cX5_requireTimes 0 = .ok (.iload_n 0, 1) := by decide +kernel
theorem dX5_requireTimes_1 : decode cX5_requireTimes 1 = .ok (.ifCond .lt 20, 3) := by decide +kernel
theorem dX5_requireTimes_4 : decode cX5_requireTimes 4 = .ok (.iload_n 0, 1) := by decide +kernel
theorem dX5_requireTimes_5 : decode cX5_requireTimes 5 = .ok (.bipush 96, 2) := by decide +kernel
theorem dX5_requireTimes_7 : decode cX5_requireTimes 7 = .ok (.if_icmp .ge 14, 3) := by decide +kernel
theorem dX5_requireTimes_10 : decode cX5_requireTimes 10 = .ok (.iload_n 1, 1) := by decide +kernel
theorem dX5_requireTimes_11 : decode cX5_requireTimes 11 = .ok (.iload_n 0, 1) := by decide +kernel
theorem dX5_requireTimes_12 : decode cX5_requireTimes 12 = .ok (.if_icmp .le 9, 3) := by decide +kernel
theorem dX5_requireTimes_15 : decode cX5_requireTimes 15 = .ok (.iload_n 1, 1) := by decide +kernel
theorem dX5_requireTimes_16 : decode cX5_requireTimes 16 = .ok (.bipush 96, 2) := by decide +kernel
theorem dX5_requireTimes_18 : decode cX5_requireTimes 18 = .ok (.if_icmp .le 14, 3) := by decide +kernel
theorem dX5_requireTimes_21 : decode cX5_requireTimes 21 = .ok (.new 110, 3) := by decide +kernel
theorem dX5_requireTimes_24 : decode cX5_requireTimes 24 = .ok (.dup, 1) := by decide +kernel
theorem dX5_requireTimes_25 : decode cX5_requireTimes 25 = .ok (.ldc_w 336, 3) := by decide +kernel
theorem dX5_requireTimes_28 : decode cX5_requireTimes 28 = .ok (.invokespecial 114, 3) := by decide +kernel
theorem dX5_requireTimes_31 : decode cX5_requireTimes 31 = .ok (.athrow, 1) := by decide +kernel
theorem dX5_requireTimes_32 : decode cX5_requireTimes 32 = .ok (.return_, 1) := by decide +kernel
theorem dX5_requireFame_0 : decode cX5_requireFame 0 = .ok (.iload_n 0, 1) := by decide +kernel
theorem dX5_requireFame_1 : decode cX5_requireFame 1 = .ok (.iconst 1, 1) := by decide +kernel
theorem dX5_requireFame_2 : decode cX5_requireFame 2 = .ok (.if_icmp .lt 9, 3) := by decide +kernel
theorem dX5_requireFame_5 : decode cX5_requireFame 5 = .ok (.iload_n 0, 1) := by decide +kernel
theorem dX5_requireFame_6 : decode cX5_requireFame 6 = .ok (.bipush 50, 2) := by decide +kernel
theorem dX5_requireFame_8 : decode cX5_requireFame 8 = .ok (.if_icmp .le 14, 3) := by decide +kernel
theorem dX5_requireFame_11 : decode cX5_requireFame 11 = .ok (.new 110, 3) := by decide +kernel
theorem dX5_requireFame_14 : decode cX5_requireFame 14 = .ok (.dup, 1) := by decide +kernel
theorem dX5_requireFame_15 : decode cX5_requireFame 15 = .ok (.ldc_w 338, 3) := by decide +kernel
theorem dX5_requireFame_18 : decode cX5_requireFame 18 = .ok (.invokespecial 114, 3) := by decide +kernel
theorem dX5_requireFame_21 : decode cX5_requireFame 21 = .ok (.athrow, 1) := by decide +kernel
theorem dX5_requireFame_22 : decode cX5_requireFame 22 = .ok (.return_, 1) := by decide +kernel
theorem dX5_requireSlot_0 : decode cX5_requireSlot 0 = .ok (.iload_n 0, 1) := by decide +kernel
theorem dX5_requireSlot_1 : decode cX5_requireSlot 1 = .ok (.ifCond .lt 8, 3) := by decide +kernel
theorem dX5_requireSlot_4 : decode cX5_requireSlot 4 = .ok (.iload_n 0, 1) := by decide +kernel
theorem dX5_requireSlot_5 : decode cX5_requireSlot 5 = .ok (.iconst 2, 1) := by decide +kernel
theorem dX5_requireSlot_6 : decode cX5_requireSlot 6 = .ok (.if_icmp .lt 14, 3) := by decide +kernel
theorem dX5_requireSlot_9 : decode cX5_requireSlot 9 = .ok (.new 110, 3) := by decide +kernel
theorem dX5_requireSlot_12 : decode cX5_requireSlot 12 = .ok (.dup, 1) := by decide +kernel
theorem dX5_requireSlot_13 : decode cX5_requireSlot 13 = .ok (.ldc_w 340, 3) := by decide +kernel
theorem dX5_requireSlot_16 : decode cX5_requireSlot 16 = .ok (.invokespecial 114, 3) := by decide +kernel
theorem dX5_requireSlot_19 : decode cX5_requireSlot 19 = .ok (.athrow, 1) := by decide +kernel
theorem dX5_requireSlot_20 : decode cX5_requireSlot 20 = .ok (.return_, 1) := by decide +kernel
theorem dX5_requirePlacesFor_0 : decode cX5_requirePlacesFor 0 = .ok (.aload_n 0, 1) := by decide +kernel
theorem dX5_requirePlacesFor_1 : decode cX5_requirePlacesFor 1 = .ok (.getfield 10, 3) := by decide +kernel
theorem dX5_requirePlacesFor_4 : decode cX5_requirePlacesFor 4 = .ok (.getfield 71, 3) := by decide +kernel
theorem dX5_requirePlacesFor_7 : decode cX5_requirePlacesFor 7 = .ok (.iload_n 1, 1) := by decide +kernel
theorem dX5_requirePlacesFor_8 : decode cX5_requirePlacesFor 8 = .ok (.iadd, 1) := by decide +kernel
theorem dX5_requirePlacesFor_9 : decode cX5_requirePlacesFor 9 = .ok (.bipush 14, 2) := by decide +kernel
theorem dX5_requirePlacesFor_11 : decode cX5_requirePlacesFor 11 = .ok (.if_icmp .le 14, 3) := by decide +kernel
theorem dX5_requirePlacesFor_14 : decode cX5_requirePlacesFor 14 = .ok (.new 93, 3) := by decide +kernel
theorem dX5_requirePlacesFor_17 : decode cX5_requirePlacesFor 17 = .ok (.dup, 1) := by decide +kernel
theorem dX5_requirePlacesFor_18 : decode cX5_requirePlacesFor 18 = .ok (.ldc_w 342, 3) := by decide +kernel
theorem dX5_requirePlacesFor_21 : decode cX5_requirePlacesFor 21 = .ok (.invokespecial 97, 3) := by decide +kernel
theorem dX5_requirePlacesFor_24 : decode cX5_requirePlacesFor 24 = .ok (.athrow, 1) := by decide +kernel
theorem dX5_requirePlacesFor_25 : decode cX5_requirePlacesFor 25 = .ok (.return_, 1) := by decide +kernel
theorem dX5_bit_0 : decode cX5_bit 0 = .ok (.iconst 1, 1) := by decide +kernel
theorem dX5_bit_1 : decode cX5_bit 1 = .ok (.iload_n 0, 1) := by decide +kernel
theorem dX5_bit_2 : decode cX5_bit 2 = .ok (.ishl, 1) := by decide +kernel
theorem dX5_bit_3 : decode cX5_bit 3 = .ok (.ireturn, 1) := by decide +kernel
set_option maxRecDepth 20000 in
theorem ggX5_isIn_X5_bit : GoodIn wsX5_isIn wsX5_bit := goodIn_r _ [4] (by decide +kernel) (by decide +kernel)
set_option maxRecDepth 20000 in
theorem gX5_isIn_X5_bit : GoodIn wsX5_isIn (va_wsS RX5 131 yX5_bit wsX5_bit) := goodIn_app (goodIn_of _ (by decide +kernel)) ggX5_isIn_X5_bit
theorem dX5_isIn_0 : decode cX5_isIn 0 = .ok (.iload_n 0, 1) := by decide +kernel
theorem dX5_isIn_1 : decode cX5_isIn 1 = .ok (.iload_n 1, 1) := by decide +kernel
theorem dX5_isIn_2 : decode cX5_isIn 2 = .ok (.invokestatic 131, 3) := by decide +kernel
theorem dX5_isIn_5 : decode cX5_isIn 5 = .ok (.iand, 1) := by decide +kernel
theorem dX5_isIn_6 : decode cX5_isIn 6 = .ok (.ifCond .eq 7, 3) := by decide +kernel
theorem dX5_isIn_9 : decode cX5_isIn 9 = .ok (.iconst 1, 1) := by decide +kernel
theorem dX5_isIn_10 : decode cX5_isIn 10 = .ok (.goto 4, 3) := by decide +kernel
theorem dX5_isIn_13 : decode cX5_isIn 13 = .ok (.iconst 0, 1) := by decide +kernel
theorem dX5_isIn_14 : decode cX5_isIn 14 = .ok (.ireturn, 1) := by decide +kernel
theorem dX5_orderBy_0 : decode cX5_orderBy 0 = .ok (.iconst 0, 1) := by decide +kernel
theorem dX5_orderBy_1 : decode cX5_orderBy 1 = .ok (.istore_n 3, 1) := by decide +kernel
theorem dX5_orderBy_2 : decode cX5_orderBy 2 = .ok (.iload_n 3, 1) := by decide +kernel
theorem dX5_orderBy_3 : decode cX5_orderBy 3 = .ok (.iload_n 1, 1) := by decide +kernel
theorem dX5_orderBy_4 : decode cX5_orderBy 4 = .ok (.if_icmp .ge 52, 3) := by decide +kernel
theorem dX5_orderBy_7 : decode cX5_orderBy 7 = .ok (.iload_n 3, 1) := by decide +kernel
theorem dX5_orderBy_8 : decode cX5_orderBy 8 = .ok (.istore 4, 2) := by decide +kernel
theorem dX5_orderBy_10 : decode cX5_orderBy 10 = .ok (.iload 4, 2) := by decide +kernel
theorem dX5_orderBy_12 : decode cX5_orderBy 12 = .ok (.ifCond .le 33, 3) := by decide +kernel
theorem dX5_orderBy_15 : decode cX5_orderBy 15 = .ok (.aload_n 0, 1) := by decide +kernel
theorem dX5_orderBy_16 : decode cX5_orderBy 16 = .ok (.aload_n 2, 1) := by decide +kernel
theorem dX5_orderBy_17 : decode cX5_orderBy 17 = .ok (.iload 4, 2) := by decide +kernel
theorem dX5_orderBy_19 : decode cX5_orderBy 19 = .ok (.iconst 1, 1) := by decide +kernel
theorem dX5_orderBy_20 : decode cX5_orderBy 20 = .ok (.isub, 1) := by decide +kernel
theorem dX5_orderBy_21 : decode cX5_orderBy 21 = .ok (.iaload, 1) := by decide +kernel
theorem dX5_orderBy_22 : decode cX5_orderBy 22 = .ok (.iaload, 1) := by decide +kernel
theorem dX5_orderBy_23 : decode cX5_orderBy 23 = .ok (.aload_n 0, 1) := by decide +kernel
theorem dX5_orderBy_24 : decode cX5_orderBy 24 = .ok (.iload_n 3, 1) := by decide +kernel
theorem dX5_orderBy_25 : decode cX5_orderBy 25 = .ok (.iaload, 1) := by decide +kernel
theorem dX5_orderBy_26 : decode cX5_orderBy 26 = .ok (.if_icmp .le 19, 3) := by decide +kernel
theorem dX5_orderBy_29 : decode cX5_orderBy 29 = .ok (.aload_n 2, 1) := by decide +kernel
theorem dX5_orderBy_30 : decode cX5_orderBy 30 = .ok (.iload 4, 2) := by decide +kernel
theorem dX5_orderBy_32 : decode cX5_orderBy 32 = .ok (.aload_n 2, 1) := by decide +kernel
theorem dX5_orderBy_33 : decode cX5_orderBy 33 = .ok (.iload 4, 2) := by decide +kernel
theorem dX5_orderBy_35 : decode cX5_orderBy 35 = .ok (.iconst 1, 1) := by decide +kernel
theorem dX5_orderBy_36 : decode cX5_orderBy 36 = .ok (.isub, 1) := by decide +kernel
theorem dX5_orderBy_37 : decode cX5_orderBy 37 = .ok (.iaload, 1) := by decide +kernel
theorem dX5_orderBy_38 : decode cX5_orderBy 38 = .ok (.iastore, 1) := by decide +kernel
theorem dX5_orderBy_39 : decode cX5_orderBy 39 = .ok (.iinc 4 (-1), 3) := by decide +kernel
theorem dX5_orderBy_42 : decode cX5_orderBy 42 = .ok (.goto (-32), 3) := by decide +kernel
theorem dX5_orderBy_45 : decode cX5_orderBy 45 = .ok (.aload_n 2, 1) := by decide +kernel
theorem dX5_orderBy_46 : decode cX5_orderBy 46 = .ok (.iload 4, 2) := by decide +kernel
theorem dX5_orderBy_48 : decode cX5_orderBy 48 = .ok (.iload_n 3, 1) := by decide +kernel
theorem dX5_orderBy_49 : decode cX5_orderBy 49 = .ok (.iastore, 1) := by decide +kernel
theorem dX5_orderBy_50 : decode cX5_orderBy 50 = .ok (.iinc 3 1, 3) := by decide +kernel
theorem dX5_orderBy_53 : decode cX5_orderBy 53 = .ok (.goto (-51), 3) := by decide +kernel
theorem dX5_orderBy_56 : decode cX5_orderBy 56 = .ok (.return_, 1) := by decide +kernel
theorem dJ6_bitCount_0f7a4_0 : decode cJ6_bitCount_0f7a4 0 = .ok (.iload_n 0, 1) := by decide +kernel
theorem dJ6_bitCount_0f7a4_1 : decode cJ6_bitCount_0f7a4 1 = .ok (.iload_n 0, 1) := by decide +kernel
theorem dJ6_bitCount_0f7a4_2 : decode cJ6_bitCount_0f7a4 2 = .ok (.iconst 1, 1) := by decide +kernel
theorem dJ6_bitCount_0f7a4_3 : decode cJ6_bitCount_0f7a4 3 = .ok (.iushr, 1) := by decide +kernel
theorem dJ6_bitCount_0f7a4_4 : decode cJ6_bitCount_0f7a4 4 = .ok (.ldc_w 265, 3) := by decide +kernel
theorem dJ6_bitCount_0f7a4_7 : decode cJ6_bitCount_0f7a4 7 = .ok (.iand, 1) := by decide +kernel
theorem dJ6_bitCount_0f7a4_8 : decode cJ6_bitCount_0f7a4 8 = .ok (.isub, 1) := by decide +kernel
theorem dJ6_bitCount_0f7a4_9 : decode cJ6_bitCount_0f7a4 9 = .ok (.istore_n 0, 1) := by decide +kernel
theorem dJ6_bitCount_0f7a4_10 : decode cJ6_bitCount_0f7a4 10 = .ok (.iload_n 0, 1) := by decide +kernel
theorem dJ6_bitCount_0f7a4_11 : decode cJ6_bitCount_0f7a4 11 = .ok (.ldc_w 266, 3) := by decide +kernel
theorem dJ6_bitCount_0f7a4_14 : decode cJ6_bitCount_0f7a4 14 = .ok (.iand, 1) := by decide +kernel
theorem dJ6_bitCount_0f7a4_15 : decode cJ6_bitCount_0f7a4 15 = .ok (.iload_n 0, 1) := by decide +kernel
theorem dJ6_bitCount_0f7a4_16 : decode cJ6_bitCount_0f7a4 16 = .ok (.iconst 2, 1) := by decide +kernel
theorem dJ6_bitCount_0f7a4_17 : decode cJ6_bitCount_0f7a4 17 = .ok (.iushr, 1) := by decide +kernel
theorem dJ6_bitCount_0f7a4_18 : decode cJ6_bitCount_0f7a4 18 = .ok (.ldc_w 266, 3) := by decide +kernel
theorem dJ6_bitCount_0f7a4_21 : decode cJ6_bitCount_0f7a4 21 = .ok (.iand, 1) := by decide +kernel
theorem dJ6_bitCount_0f7a4_22 : decode cJ6_bitCount_0f7a4 22 = .ok (.iadd, 1) := by decide +kernel
theorem dJ6_bitCount_0f7a4_23 : decode cJ6_bitCount_0f7a4 23 = .ok (.istore_n 0, 1) := by decide +kernel
theorem dJ6_bitCount_0f7a4_24 : decode cJ6_bitCount_0f7a4 24 = .ok (.iload_n 0, 1) := by decide +kernel
theorem dJ6_bitCount_0f7a4_25 : decode cJ6_bitCount_0f7a4 25 = .ok (.iload_n 0, 1) := by decide +kernel
theorem dJ6_bitCount_0f7a4_26 : decode cJ6_bitCount_0f7a4 26 = .ok (.iconst 4, 1) := by decide +kernel
theorem dJ6_bitCount_0f7a4_27 : decode cJ6_bitCount_0f7a4 27 = .ok (.iushr, 1) := by decide +kernel
theorem dJ6_bitCount_0f7a4_28 : decode cJ6_bitCount_0f7a4 28 = .ok (.iadd, 1) := by decide +kernel
theorem dJ6_bitCount_0f7a4_29 : decode cJ6_bitCount_0f7a4 29 = .ok (.ldc_w 267, 3) := by decide +kernel
theorem dJ6_bitCount_0f7a4_32 : decode cJ6_bitCount_0f7a4 32 = .ok (.iand, 1) := by decide +kernel
theorem dJ6_bitCount_0f7a4_33 : decode cJ6_bitCount_0f7a4 33 = .ok (.istore_n 0, 1) := by decide +kernel
theorem dJ6_bitCount_0f7a4_34 : decode cJ6_bitCount_0f7a4 34 = .ok (.iload_n 0, 1) := by decide +kernel
theorem dJ6_bitCount_0f7a4_35 : decode cJ6_bitCount_0f7a4 35 = .ok (.iload_n 0, 1) := by decide +kernel
theorem dJ6_bitCount_0f7a4_36 : decode cJ6_bitCount_0f7a4 36 = .ok (.bipush 8, 2) := by decide +kernel
theorem dJ6_bitCount_0f7a4_38 : decode cJ6_bitCount_0f7a4 38 = .ok (.iushr, 1) := by decide +kernel
theorem dJ6_bitCount_0f7a4_39 : decode cJ6_bitCount_0f7a4 39 = .ok (.iadd, 1) := by decide +kernel
theorem dJ6_bitCount_0f7a4_40 : decode cJ6_bitCount_0f7a4 40 = .ok (.istore_n 0, 1) := by decide +kernel
theorem dJ6_bitCount_0f7a4_41 : decode cJ6_bitCount_0f7a4 41 = .ok (.iload_n 0, 1) := by decide +kernel
theorem dJ6_bitCount_0f7a4_42 : decode cJ6_bitCount_0f7a4 42 = .ok (.iload_n 0, 1) := by decide +kernel
theorem dJ6_bitCount_0f7a4_43 : decode cJ6_bitCount_0f7a4 43 = .ok (.bipush 16, 2) := by decide +kernel
theorem dJ6_bitCount_0f7a4_45 : decode cJ6_bitCount_0f7a4 45 = .ok (.iushr, 1) := by decide +kernel
theorem dJ6_bitCount_0f7a4_46 : decode cJ6_bitCount_0f7a4 46 = .ok (.iadd, 1) := by decide +kernel
theorem dJ6_bitCount_0f7a4_47 : decode cJ6_bitCount_0f7a4 47 = .ok (.istore_n 0, 1) := by decide +kernel
theorem dJ6_bitCount_0f7a4_48 : decode cJ6_bitCount_0f7a4 48 = .ok (.iload_n 0, 1) := by decide +kernel
theorem dJ6_bitCount_0f7a4_49 : decode cJ6_bitCount_0f7a4 49 = .ok (.bipush 63, 2) := by decide +kernel
theorem dJ6_bitCount_0f7a4_51 : decode cJ6_bitCount_0f7a4 51 = .ok (.iand, 1) := by decide +kernel
theorem dJ6_bitCount_0f7a4_52 : decode cJ6_bitCount_0f7a4 52 = .ok (.ireturn, 1) := by decide +kernel
theorem dJ9_max_7cf53_0 : decode cJ9_max_7cf53 0 = .ok (.iload_n 0, 1) := by decide +kernel
theorem dJ9_max_7cf53_1 : decode cJ9_max_7cf53 1 = .ok (.iload_n 1, 1) := by decide +kernel
theorem dJ9_max_7cf53_2 : decode cJ9_max_7cf53 2 = .ok (.if_icmp .lt 7, 3) := by decide +kernel
theorem dJ9_max_7cf53_5 : decode cJ9_max_7cf53 5 = .ok (.iload_n 0, 1) := by decide +kernel
theorem dJ9_max_7cf53_6 : decode cJ9_max_7cf53 6 = .ok (.goto 4, 3) := by decide +kernel
theorem dJ9_max_7cf53_9 : decode cJ9_max_7cf53 9 = .ok (.iload_n 1, 1) := by decide +kernel
theorem dJ9_max_7cf53_10 : decode cJ9_max_7cf53 10 = .ok (.ireturn, 1) := by decide +kernel
theorem dL_draw_0 : decode cL_draw 0 = .ok (.iload_n 1, 1) := by decide +kernel
theorem dL_draw_1 : decode cL_draw 1 = .ok (.aload_n 0, 1) := by decide +kernel
theorem dL_draw_2 : decode cL_draw 2 = .ok (.arraylength, 1) := by decide +kernel
theorem dL_draw_3 : decode cL_draw 3 = .ok (.if_icmp .ge 9, 3) := by decide +kernel
theorem dL_draw_6 : decode cL_draw 6 = .ok (.aload_n 0, 1) := by decide +kernel
theorem dL_draw_7 : decode cL_draw 7 = .ok (.iload_n 1, 1) := by decide +kernel
theorem dL_draw_8 : decode cL_draw 8 = .ok (.iaload, 1) := by decide +kernel
theorem dL_draw_9 : decode cL_draw 9 = .ok (.goto 11, 3) := by decide +kernel
theorem dL_draw_12 : decode cL_draw 12 = .ok (.ldc 7, 2) := by decide +kernel
theorem dL_draw_14 : decode cL_draw 14 = .ok (.iload_n 1, 1) := by decide +kernel
theorem dL_draw_15 : decode cL_draw 15 = .ok (.imul, 1) := by decide +kernel
theorem dL_draw_16 : decode cL_draw 16 = .ok (.sipush 11177, 3) := by decide +kernel
theorem dL_draw_19 : decode cL_draw 19 = .ok (.iadd, 1) := by decide +kernel
theorem dL_draw_20 : decode cL_draw 20 = .ok (.ldc 8, 2) := by decide +kernel
theorem dL_draw_22 : decode cL_draw 22 = .ok (.iand, 1) := by decide +kernel
theorem dL_draw_23 : decode cL_draw 23 = .ok (.ireturn, 1) := by decide +kernel
theorem dL_in_0 : decode cL_in 0 = .ok (.lload_n 0, 1) := by decide +kernel
theorem dL_in_1 : decode cL_in 1 = .ok (.lload_n 2, 1) := by decide +kernel
theorem dL_in_2 : decode cL_in 2 = .ok (.lcmp, 1) := by decide +kernel
theorem dL_in_3 : decode cL_in 3 = .ok (.ifCond .lt 14, 3) := by decide +kernel
theorem dL_in_6 : decode cL_in 6 = .ok (.lload_n 0, 1) := by decide +kernel
theorem dL_in_7 : decode cL_in 7 = .ok (.lload 4, 2) := by decide +kernel
theorem dL_in_9 : decode cL_in 9 = .ok (.lcmp, 1) := by decide +kernel
theorem dL_in_10 : decode cL_in 10 = .ok (.ifCond .gt 7, 3) := by decide +kernel
theorem dL_in_13 : decode cL_in 13 = .ok (.iconst 1, 1) := by decide +kernel
theorem dL_in_14 : decode cL_in 14 = .ok (.goto 4, 3) := by decide +kernel
theorem dL_in_17 : decode cL_in 17 = .ok (.iconst 0, 1) := by decide +kernel
theorem dL_in_18 : decode cL_in 18 = .ok (.ireturn, 1) := by decide +kernel
set_option maxRecDepth 20000 in
theorem ggL_add_X5_add : GoodIn wsL_add wsX5_add := goodIn_ca (goodIn_ca (goodIn_r _ [9, 10, 11, 12, 13, 14, 8, 15, 16, 17, 18, 19, 20, 21, 22, 23, 24, 25, 26, 27, 28, 29, 30, 31, 32, 33, 34, 35, 36, 37, 38, 39, 40, 41, 42, 43, 44, 45, 46, 47, 48, 49, 50, 51, 52, 53, 54, 55, 56, 57, 58, 59, 60, 61, 62, 63, 64, 65, 66, 67, 68, 69] (by decide +kernel) (by decide +kernel)) (goodIn_sub (fun _ h => List.mem_cons_of_mem _ (List.mem_append_left _ (List.mem_append_right _ h))) (by decide +kernel))) (goodIn_sub (fun _ h => List.mem_cons_of_mem _ (List.mem_append_right _ h)) (by decide +kernel))
set_option maxRecDepth 20000 in
theorem gL_add_X5_add : GoodIn wsL_add (wsV RL 9 RX5 yX5_add wsX5_add) := goodIn_app (goodIn_of _ (by decide +kernel)) ggL_add_X5_add
theorem dL_add_0 : decode cL_add 0 = .ok (.aload_n 0, 1) := by decide +kernel
theorem dL_add_1 : decode cL_add 1 = .ok (.iload_n 1, 1) := by decide +kernel
theorem dL_add_2 : decode cL_add 2 = .ok (.iload_n 2, 1) := by decide +kernel
theorem dL_add_3 : decode cL_add 3 = .ok (.iload_n 3, 1) := by decide +kernel
theorem dL_add_4 : decode cL_add 4 = .ok (.invokevirtual 9, 3) := by decide +kernel
theorem dL_add_7 : decode cL_add 7 = .ok (.i2l, 1) := by decide +kernel
theorem dL_add_8 : decode cL_add 8 = .ok (.lreturn, 1) := by decide +kernel
theorem dL_add_9 : decode cL_add 9 = .ok (.astore 4, 2) := by decide +kernel
theorem dL_add_11 : decode cL_add 11 = .ok (.ldc2_w 17, 3) := by decide +kernel
theorem dL_add_14 : decode cL_add 14 = .ok (.lreturn, 1) := by decide +kernel
theorem dL_add_15 : decode cL_add 15 = .ok (.astore 4, 2) := by decide +kernel
theorem dL_add_17 : decode cL_add 17 = .ok (.ldc2_w 21, 3) := by decide +kernel
theorem dL_add_20 : decode cL_add 20 = .ok (.lreturn, 1) := by decide +kernel
set_option maxRecDepth 20000 in
theorem ggL_strike_X5_strike : GoodIn wsL_strike wsX5_strike := goodIn_ca (goodIn_r _ [7, 8, 9, 10, 11, 12, 13, 6, 14, 15, 16, 17, 18, 19, 20, 21, 22, 23, 24, 25, 26, 27, 28, 29, 30, 31, 32, 33, 34, 35, 36, 37, 38, 39, 40, 41, 42, 43, 44, 45, 46, 47, 48, 49, 50, 51, 52, 53, 54, 55, 56, 57, 58, 59, 60, 61, 62] (by decide +kernel) (by decide +kernel)) (goodIn_sub (fun _ h => List.mem_cons_of_mem _ (List.mem_append_right _ h)) (by decide +kernel))
set_option maxRecDepth 20000 in
theorem gL_strike_X5_strike : GoodIn wsL_strike (wsV RL 23 RX5 yX5_strike wsX5_strike) := goodIn_app (goodIn_of _ (by decide +kernel)) ggL_strike_X5_strike
theorem dL_strike_0 : decode cL_strike 0 = .ok (.aload_n 0, 1) := by decide +kernel
theorem dL_strike_1 : decode cL_strike 1 = .ok (.iload_n 1, 1) := by decide +kernel
theorem dL_strike_2 : decode cL_strike 2 = .ok (.invokevirtual 23, 3) := by decide +kernel
theorem dL_strike_5 : decode cL_strike 5 = .ok (.i2l, 1) := by decide +kernel
theorem dL_strike_6 : decode cL_strike 6 = .ok (.lreturn, 1) := by decide +kernel
theorem dL_strike_7 : decode cL_strike 7 = .ok (.astore_n 2, 1) := by decide +kernel
theorem dL_strike_8 : decode cL_strike 8 = .ok (.ldc2_w 29, 3) := by decide +kernel
theorem dL_strike_11 : decode cL_strike 11 = .ok (.lreturn, 1) := by decide +kernel
set_option maxRecDepth 20000 in
theorem ggL_move_X5_move : GoodIn wsL_move wsX5_move := goodIn_ca (goodIn_ca (goodIn_ca (goodIn_r _ [11, 12, 13, 14, 15, 16, 17, 18, 19, 20, 10, 21, 22, 23, 24, 25, 26, 27, 28, 29, 30, 31, 32, 33, 34, 35, 36, 37, 38, 39, 40, 41, 42, 43, 44, 45, 46, 47, 48, 49, 50, 51, 52, 53, 54, 55, 56, 57, 58, 59, 60, 61, 62, 63, 64, 65, 66, 67, 68, 69, 70, 71, 72, 73, 74, 75, 76, 77, 78, 79, 80, 81, 82, 83, 84, 85, 86, 87, 88, 89, 90] (by decide +kernel) (by decide +kernel)) (goodIn_sub (fun _ h => List.mem_cons_of_mem _ (List.mem_append_left _ (List.mem_append_left _ (List.mem_append_right _ h)))) (by decide +kernel))) (goodIn_sub (fun _ h => List.mem_cons_of_mem _ (List.mem_append_left _ (List.mem_append_right _ h))) (by decide +kernel))) (goodIn_sub (fun _ h => List.mem_cons_of_mem _ (List.mem_append_right _ h)) (by decide +kernel))
set_option maxRecDepth 20000 in
theorem gL_move_X5_move : GoodIn wsL_move (wsV RL 31 RX5 yX5_move wsX5_move) := goodIn_app (goodIn_of _ (by decide +kernel)) ggL_move_X5_move
theorem dL_move_0 : decode cL_move 0 = .ok (.aload_n 0, 1) := by decide +kernel
theorem dL_move_1 : decode cL_move 1 = .ok (.iload_n 1, 1) := by decide +kernel
theorem dL_move_2 : decode cL_move 2 = .ok (.iload_n 2, 1) := by decide +kernel
theorem dL_move_3 : decode cL_move 3 = .ok (.iload_n 3, 1) := by decide +kernel
theorem dL_move_4 : decode cL_move 4 = .ok (.invokevirtual 31, 3) := by decide +kernel
theorem dL_move_7 : decode cL_move 7 = .ok (.i2l, 1) := by decide +kernel
theorem dL_move_8 : decode cL_move 8 = .ok (.lreturn, 1) := by decide +kernel
theorem dL_move_9 : decode cL_move 9 = .ok (.astore 4, 2) := by decide +kernel
theorem dL_move_11 : decode cL_move 11 = .ok (.ldc2_w 29, 3) := by decide +kernel
theorem dL_move_14 : decode cL_move 14 = .ok (.lreturn, 1) := by decide +kernel
theorem dL_move_15 : decode cL_move 15 = .ok (.astore 4, 2) := by decide +kernel
theorem dL_move_17 : decode cL_move 17 = .ok (.ldc2_w 17, 3) := by decide +kernel
theorem dL_move_20 : decode cL_move 20 = .ok (.lreturn, 1) := by decide +kernel
theorem dL_move_21 : decode cL_move 21 = .ok (.astore 4, 2) := by decide +kernel
theorem dL_move_23 : decode cL_move 23 = .ok (.ldc2_w 21, 3) := by decide +kernel
theorem dL_move_26 : decode cL_move 26 = .ok (.lreturn, 1) := by decide +kernel
set_option maxRecDepth 20000 in
theorem ggL_changeFame_X5_changeFame : GoodIn wsL_changeFame wsX5_changeFame := goodIn_ca (goodIn_ca (goodIn_r _ [9, 10, 11, 12, 13, 14, 15, 8, 16, 17, 18, 19, 20, 21, 22, 23, 24, 25, 26, 27, 28, 29, 30, 31, 32, 33, 34, 35, 36, 37, 38, 39, 40, 41, 42, 43, 44, 45, 46, 47, 48, 49, 50, 51, 52, 53, 54, 55, 56, 57, 58, 59, 60, 61, 62, 63] (by decide +kernel) (by decide +kernel)) (goodIn_sub (fun _ h => List.mem_cons_of_mem _ (List.mem_append_left _ (List.mem_append_right _ h))) (by decide +kernel))) (goodIn_sub (fun _ h => List.mem_cons_of_mem _ (List.mem_append_right _ h)) (by decide +kernel))
set_option maxRecDepth 20000 in
theorem gL_changeFame_X5_changeFame : GoodIn wsL_changeFame (wsV RL 34 RX5 yX5_changeFame wsX5_changeFame) := goodIn_app (goodIn_of _ (by decide +kernel)) ggL_changeFame_X5_changeFame
theorem dL_changeFame_0 : decode cL_changeFame 0 = .ok (.aload_n 0, 1) := by decide +kernel
theorem dL_changeFame_1 : decode cL_changeFame 1 = .ok (.iload_n 1, 1) := by decide +kernel
theorem dL_changeFame_2 : decode cL_changeFame 2 = .ok (.iload_n 2, 1) := by decide +kernel
theorem dL_changeFame_3 : decode cL_changeFame 3 = .ok (.invokevirtual 34, 3) := by decide +kernel
theorem dL_changeFame_6 : decode cL_changeFame 6 = .ok (.i2l, 1) := by decide +kernel
theorem dL_changeFame_7 : decode cL_changeFame 7 = .ok (.lreturn, 1) := by decide +kernel
theorem dL_changeFame_8 : decode cL_changeFame 8 = .ok (.astore_n 3, 1) := by decide +kernel
theorem dL_changeFame_9 : decode cL_changeFame 9 = .ok (.ldc2_w 29, 3) := by decide +kernel
theorem dL_changeFame_12 : decode cL_changeFame 12 = .ok (.lreturn, 1) := by decide +kernel
theorem dL_changeFame_13 : decode cL_changeFame 13 = .ok (.astore_n 3, 1) := by decide +kernel
theorem dL_changeFame_14 : decode cL_changeFame 14 = .ok (.ldc2_w 17, 3) := by decide +kernel
theorem dL_changeFame_17 : decode cL_changeFame 17 = .ok (.lreturn, 1) := by decide +kernel
set_option maxRecDepth 20000 in
theorem ggL_changePause_X5_changePause : GoodIn wsL_changePause wsX5_changePause := goodIn_ca (goodIn_ca (goodIn_r _ [9, 10, 11, 12, 13, 14, 15, 16, 17, 18, 19, 20, 21, 22, 23, 24, 25, 26, 27, 28, 29, 30, 8, 31, 32, 33, 34, 35, 36, 37, 38, 39, 40, 41, 42, 43, 44, 45, 46, 47, 48, 49, 50, 51, 52, 53, 54, 55, 56, 57, 58, 59, 60, 61, 62, 63, 64, 65, 66, 67, 68, 69, 70, 71, 72] (by decide +kernel) (by decide +kernel)) (goodIn_sub (fun _ h => List.mem_cons_of_mem _ (List.mem_append_left _ (List.mem_append_right _ h))) (by decide +kernel))) (goodIn_sub (fun _ h => List.mem_cons_of_mem _ (List.mem_append_right _ h)) (by decide +kernel))
set_option maxRecDepth 20000 in
theorem gL_changePause_X5_changePause : GoodIn wsL_changePause (wsV RL 38 RX5 yX5_changePause wsX5_changePause) := goodIn_app (goodIn_of _ (by decide +kernel)) ggL_changePause_X5_changePause
theorem dL_changePause_0 : decode cL_changePause 0 = .ok (.aload_n 0, 1) := by decide +kernel
theorem dL_changePause_1 : decode cL_changePause 1 = .ok (.iload_n 1, 1) := by decide +kernel
theorem dL_changePause_2 : decode cL_changePause 2 = .ok (.invokevirtual 38, 3) := by decide +kernel
theorem dL_changePause_5 : decode cL_changePause 5 = .ok (.i2l, 1) := by decide +kernel
theorem dL_changePause_6 : decode cL_changePause 6 = .ok (.lreturn, 1) := by decide +kernel
theorem dL_changePause_7 : decode cL_changePause 7 = .ok (.astore_n 2, 1) := by decide +kernel
theorem dL_changePause_8 : decode cL_changePause 8 = .ok (.ldc2_w 17, 3) := by decide +kernel
theorem dL_changePause_11 : decode cL_changePause 11 = .ok (.lreturn, 1) := by decide +kernel
theorem dL_changePause_12 : decode cL_changePause 12 = .ok (.astore_n 2, 1) := by decide +kernel
theorem dL_changePause_13 : decode cL_changePause 13 = .ok (.ldc2_w 21, 3) := by decide +kernel
theorem dL_changePause_16 : decode cL_changePause 16 = .ok (.lreturn, 1) := by decide +kernel
set_option maxRecDepth 20000 in
theorem ggL_book_X5_book : GoodIn wsL_book wsX5_book := goodIn_ca (goodIn_ca (goodIn_r _ [9, 10, 11, 12, 13, 14, 15, 16, 17, 8, 18, 19, 20, 21, 22, 23, 24, 25, 26, 27, 28, 29, 30, 31, 32, 33, 34, 35, 36, 37, 38, 39, 40, 41, 42, 43, 44, 45, 46, 47, 48, 49, 50, 51, 52, 53, 54, 55, 56, 57, 58, 59, 60, 61, 62, 63, 64, 65, 66, 67, 68, 69, 70, 71, 72, 73, 74, 75, 76, 77, 78, 79, 80, 81, 82, 83, 84, 85] (by decide +kernel) (by decide +kernel)) (goodIn_sub (fun _ h => List.mem_cons_of_mem _ (List.mem_append_left _ (List.mem_append_right _ h))) (by decide +kernel))) (goodIn_sub (fun _ h => List.mem_cons_of_mem _ (List.mem_append_right _ h)) (by decide +kernel))
set_option maxRecDepth 20000 in
theorem gL_book_X5_book : GoodIn wsL_book (wsV RL 41 RX5 yX5_book wsX5_book) := goodIn_app (goodIn_of _ (by decide +kernel)) ggL_book_X5_book
theorem dL_book_0 : decode cL_book 0 = .ok (.aload_n 0, 1) := by decide +kernel
theorem dL_book_1 : decode cL_book 1 = .ok (.iload_n 1, 1) := by decide +kernel
theorem dL_book_2 : decode cL_book 2 = .ok (.invokevirtual 41, 3) := by decide +kernel
theorem dL_book_5 : decode cL_book 5 = .ok (.i2l, 1) := by decide +kernel
theorem dL_book_6 : decode cL_book 6 = .ok (.lreturn, 1) := by decide +kernel
theorem dL_book_7 : decode cL_book 7 = .ok (.astore_n 2, 1) := by decide +kernel
theorem dL_book_8 : decode cL_book 8 = .ok (.ldc2_w 29, 3) := by decide +kernel
theorem dL_book_11 : decode cL_book 11 = .ok (.lreturn, 1) := by decide +kernel
theorem dL_book_12 : decode cL_book 12 = .ok (.astore_n 2, 1) := by decide +kernel
theorem dL_book_13 : decode cL_book 13 = .ok (.ldc2_w 21, 3) := by decide +kernel
theorem dL_book_16 : decode cL_book 16 = .ok (.lreturn, 1) := by decide +kernel
set_option maxRecDepth 20000 in
theorem ggL_cancel_X5_cancel : GoodIn wsL_cancel wsX5_cancel := goodIn_ca (goodIn_ca (goodIn_r _ [9, 10, 11, 12, 13, 14, 15, 16, 17, 8, 18, 19, 20, 21, 22, 23, 24, 25, 26, 27, 28, 29, 30, 31, 32, 33, 34, 35, 36, 37, 38, 39, 40, 41, 42, 43, 44, 45, 46, 47, 48, 49, 50, 51, 52, 53, 54, 55, 56, 57, 58, 59, 60, 61, 62, 63, 64, 65, 66, 67, 68, 69, 70, 71, 72, 73] (by decide +kernel) (by decide +kernel)) (goodIn_sub (fun _ h => List.mem_cons_of_mem _ (List.mem_append_left _ (List.mem_append_right _ h))) (by decide +kernel))) (goodIn_sub (fun _ h => List.mem_cons_of_mem _ (List.mem_append_right _ h)) (by decide +kernel))
set_option maxRecDepth 20000 in
theorem gL_cancel_X5_cancel : GoodIn wsL_cancel (wsV RL 44 RX5 yX5_cancel wsX5_cancel) := goodIn_app (goodIn_of _ (by decide +kernel)) ggL_cancel_X5_cancel
theorem dL_cancel_0 : decode cL_cancel 0 = .ok (.aload_n 0, 1) := by decide +kernel
theorem dL_cancel_1 : decode cL_cancel 1 = .ok (.iload_n 1, 1) := by decide +kernel
theorem dL_cancel_2 : decode cL_cancel 2 = .ok (.invokevirtual 44, 3) := by decide +kernel
theorem dL_cancel_5 : decode cL_cancel 5 = .ok (.i2l, 1) := by decide +kernel
theorem dL_cancel_6 : decode cL_cancel 6 = .ok (.lreturn, 1) := by decide +kernel
theorem dL_cancel_7 : decode cL_cancel 7 = .ok (.astore_n 2, 1) := by decide +kernel
theorem dL_cancel_8 : decode cL_cancel 8 = .ok (.ldc2_w 29, 3) := by decide +kernel
theorem dL_cancel_11 : decode cL_cancel 11 = .ok (.lreturn, 1) := by decide +kernel
theorem dL_cancel_12 : decode cL_cancel 12 = .ok (.astore_n 2, 1) := by decide +kernel
theorem dL_cancel_13 : decode cL_cancel 13 = .ok (.ldc2_w 21, 3) := by decide +kernel
theorem dL_cancel_16 : decode cL_cancel 16 = .ok (.lreturn, 1) := by decide +kernel
set_option maxRecDepth 20000 in
theorem ggL_append_X5_append : GoodIn wsL_append wsX5_append := goodIn_ca (goodIn_ca (goodIn_r _ [9, 10, 11, 12, 13, 14, 15, 16, 17, 18, 19, 20, 21, 22, 23, 24, 25, 26, 27, 28, 29, 30, 31, 32, 33, 34] (by decide +kernel) (by decide +kernel)) (goodIn_sub (fun _ h => List.mem_cons_of_mem _ (List.mem_append_left _ (List.mem_append_right _ h))) (by decide +kernel))) (goodIn_sub (fun _ h => List.mem_cons_of_mem _ (List.mem_append_right _ h)) (by decide +kernel))
set_option maxRecDepth 20000 in
theorem gL_append_X5_append : GoodIn wsL_append (wsV RL 47 RX5 yX5_append wsX5_append) := goodIn_app (goodIn_of _ (by decide +kernel)) ggL_append_X5_append
theorem dL_append_0 : decode cL_append 0 = .ok (.aload_n 0, 1) := by decide +kernel
theorem dL_append_1 : decode cL_append 1 = .ok (.iload_n 1, 1) := by decide +kernel
theorem dL_append_2 : decode cL_append 2 = .ok (.invokevirtual 47, 3) := by decide +kernel
theorem dL_append_5 : decode cL_append 5 = .ok (.i2l, 1) := by decide +kernel
theorem dL_append_6 : decode cL_append 6 = .ok (.lreturn, 1) := by decide +kernel
theorem dL_append_7 : decode cL_append 7 = .ok (.astore_n 2, 1) := by decide +kernel
theorem dL_append_8 : decode cL_append 8 = .ok (.ldc2_w 17, 3) := by decide +kernel
theorem dL_append_11 : decode cL_append 11 = .ok (.lreturn, 1) := by decide +kernel
theorem dL_append_12 : decode cL_append 12 = .ok (.astore_n 2, 1) := by decide +kernel
theorem dL_append_13 : decode cL_append 13 = .ok (.ldc2_w 21, 3) := by decide +kernel
theorem dL_append_16 : decode cL_append 16 = .ok (.lreturn, 1) := by decide +kernel
set_option maxRecDepth 20000 in
theorem ggL_read_X5_read : GoodIn wsL_read wsX5_read := goodIn_ca (goodIn_ca (goodIn_r _ [9, 10, 11, 12, 13, 14, 15, 16, 17, 18, 19, 20, 21, 22, 23, 24, 25, 26, 27, 28, 29, 30, 31, 32, 33, 34, 35, 36, 37, 38, 39, 40, 41, 42, 43, 44, 45, 46, 47, 48, 49, 50, 51, 52, 53, 54, 55, 56, 57, 58, 59, 60, 61, 62, 63, 64, 65, 66, 67, 68, 8, 69, 70, 71, 72, 73, 74, 75, 76, 77, 78, 79, 80, 81, 82, 83, 84, 85, 86, 87, 88, 89, 90, 91, 92, 93, 94, 95, 96, 97, 98, 99, 100, 101, 102, 103, 104, 105, 106, 107, 108, 109, 110, 111, 112, 113, 114, 115, 116, 117, 118, 119, 120, 121, 122, 123, 124, 125] (by decide +kernel) (by decide +kernel)) (goodIn_sub (fun _ h => List.mem_cons_of_mem _ (List.mem_append_left _ (List.mem_append_right _ h))) (by decide +kernel))) (goodIn_sub (fun _ h => List.mem_cons_of_mem _ (List.mem_append_right _ h)) (by decide +kernel))
set_option maxRecDepth 20000 in
theorem gL_read_X5_read : GoodIn wsL_read (wsV RL 50 RX5 yX5_read wsX5_read) := goodIn_app (goodIn_of _ (by decide +kernel)) ggL_read_X5_read
theorem dL_read_0 : decode cL_read 0 = .ok (.aload_n 0, 1) := by decide +kernel
theorem dL_read_1 : decode cL_read 1 = .ok (.invokevirtual 50, 3) := by decide +kernel
theorem dL_read_4 : decode cL_read 4 = .ok (.i2l, 1) := by decide +kernel
theorem dL_read_5 : decode cL_read 5 = .ok (.lreturn, 1) := by decide +kernel
theorem dL_read_6 : decode cL_read 6 = .ok (.astore_n 1, 1) := by decide +kernel
theorem dL_read_7 : decode cL_read 7 = .ok (.ldc2_w 17, 3) := by decide +kernel
theorem dL_read_10 : decode cL_read 10 = .ok (.lreturn, 1) := by decide +kernel
theorem dL_read_11 : decode cL_read 11 = .ok (.astore_n 1, 1) := by decide +kernel
theorem dL_read_12 : decode cL_read 12 = .ok (.ldc2_w 21, 3) := by decide +kernel
theorem dL_read_15 : decode cL_read 15 = .ok (.lreturn, 1) := by decide +kernel
set_option maxRecDepth 20000 in
theorem ggL_beginOf_X5_beginOf : GoodIn wsL_beginOf wsX5_beginOf := goodIn_ca (goodIn_r _ [7, 8, 9, 10, 11, 12, 6, 13, 14, 15, 16, 17, 18, 19, 20, 21, 22, 23, 24, 25, 26, 27, 28, 29] (by decide +kernel) (by decide +kernel)) (goodIn_sub (fun _ h => List.mem_cons_of_mem _ (List.mem_append_right _ h)) (by decide +kernel))
set_option maxRecDepth 20000 in
theorem gL_beginOf_X5_beginOf : GoodIn wsL_beginOf (wsV RL 54 RX5 yX5_beginOf wsX5_beginOf) := goodIn_app (goodIn_of _ (by decide +kernel)) ggL_beginOf_X5_beginOf
theorem dL_beginOf_0 : decode cL_beginOf 0 = .ok (.aload_n 0, 1) := by decide +kernel
theorem dL_beginOf_1 : decode cL_beginOf 1 = .ok (.iload_n 1, 1) := by decide +kernel
theorem dL_beginOf_2 : decode cL_beginOf 2 = .ok (.invokevirtual 54, 3) := by decide +kernel
theorem dL_beginOf_5 : decode cL_beginOf 5 = .ok (.i2l, 1) := by decide +kernel
theorem dL_beginOf_6 : decode cL_beginOf 6 = .ok (.lreturn, 1) := by decide +kernel
theorem dL_beginOf_7 : decode cL_beginOf 7 = .ok (.astore_n 2, 1) := by decide +kernel
theorem dL_beginOf_8 : decode cL_beginOf 8 = .ok (.ldc2_w 29, 3) := by decide +kernel
theorem dL_beginOf_11 : decode cL_beginOf 11 = .ok (.lreturn, 1) := by decide +kernel
set_option maxRecDepth 20000 in
theorem ggL_endOf_X5_endOf : GoodIn wsL_endOf wsX5_endOf := goodIn_ca (goodIn_r _ [7, 8, 9, 10, 11, 12, 6, 13, 14, 15, 16, 17, 18, 19, 20, 21, 22, 23, 24, 25, 26, 27, 28, 29] (by decide +kernel) (by decide +kernel)) (goodIn_sub (fun _ h => List.mem_cons_of_mem _ (List.mem_append_right _ h)) (by decide +kernel))
set_option maxRecDepth 20000 in
theorem gL_endOf_X5_endOf : GoodIn wsL_endOf (wsV RL 57 RX5 yX5_endOf wsX5_endOf) := goodIn_app (goodIn_of _ (by decide +kernel)) ggL_endOf_X5_endOf
theorem dL_endOf_0 : decode cL_endOf 0 = .ok (.aload_n 0, 1) := by decide +kernel
theorem dL_endOf_1 : decode cL_endOf 1 = .ok (.iload_n 1, 1) := by decide +kernel
theorem dL_endOf_2 : decode cL_endOf 2 = .ok (.invokevirtual 57, 3) := by decide +kernel
theorem dL_endOf_5 : decode cL_endOf 5 = .ok (.i2l, 1) := by decide +kernel
theorem dL_endOf_6 : decode cL_endOf 6 = .ok (.lreturn, 1) := by decide +kernel
theorem dL_endOf_7 : decode cL_endOf 7 = .ok (.astore_n 2, 1) := by decide +kernel
theorem dL_endOf_8 : decode cL_endOf 8 = .ok (.ldc2_w 29, 3) := by decide +kernel
theorem dL_endOf_11 : decode cL_endOf 11 = .ok (.lreturn, 1) := by decide +kernel
set_option maxRecDepth 20000 in
theorem ggL_fameOf_X5_fameOf : GoodIn wsL_fameOf wsX5_fameOf := goodIn_ca (goodIn_r _ [7, 8, 9, 10, 11, 12, 6, 13, 14, 15, 16, 17, 18, 19, 20, 21, 22, 23, 24, 25, 26, 27, 28, 29] (by decide +kernel) (by decide +kernel)) (goodIn_sub (fun _ h => List.mem_cons_of_mem _ (List.mem_append_right _ h)) (by decide +kernel))
set_option maxRecDepth 20000 in
theorem gL_fameOf_X5_fameOf : GoodIn wsL_fameOf (wsV RL 60 RX5 yX5_fameOf wsX5_fameOf) := goodIn_app (goodIn_of _ (by decide +kernel)) ggL_fameOf_X5_fameOf
theorem dL_fameOf_0 : decode cL_fameOf 0 = .ok (.aload_n 0, 1) := by decide +kernel
theorem dL_fameOf_1 : decode cL_fameOf 1 = .ok (.iload_n 1, 1) := by decide +kernel
theorem dL_fameOf_2 : decode cL_fameOf 2 = .ok (.invokevirtual 60, 3) := by decide +kernel
theorem dL_fameOf_5 : decode cL_fameOf 5 = .ok (.i2l, 1) := by decide +kernel
theorem dL_fameOf_6 : decode cL_fameOf 6 = .ok (.lreturn, 1) := by decide +kernel
theorem dL_fameOf_7 : decode cL_fameOf 7 = .ok (.astore_n 2, 1) := by decide +kernel
theorem dL_fameOf_8 : decode cL_fameOf 8 = .ok (.ldc2_w 29, 3) := by decide +kernel
theorem dL_fameOf_11 : decode cL_fameOf 11 = .ok (.lreturn, 1) := by decide +kernel
set_option maxRecDepth 20000 in
theorem ggL_isBooked_X5_isBooked : GoodIn wsL_isBooked wsX5_isBooked := goodIn_ca (goodIn_r _ [7, 8, 9, 10, 11, 6, 12, 13, 14, 15, 16, 17, 18, 19, 20, 21, 22, 23, 24, 25, 26, 27, 28, 29, 30, 31, 32, 33, 34, 35, 36, 37, 38, 39] (by decide +kernel) (by decide +kernel)) (goodIn_sub (fun _ h => List.mem_cons_of_mem _ (List.mem_append_right _ h)) (by decide +kernel))
set_option maxRecDepth 20000 in
theorem gL_isBooked_X5_isBooked : GoodIn wsL_isBooked (wsV RL 63 RX5 yX5_isBooked wsX5_isBooked) := goodIn_app (goodIn_of _ (by decide +kernel)) ggL_isBooked_X5_isBooked
theorem dL_isBooked_0 : decode cL_isBooked 0 = .ok (.aload_n 0, 1) := by decide +kernel
theorem dL_isBooked_1 : decode cL_isBooked 1 = .ok (.iload_n 1, 1) := by decide +kernel
theorem dL_isBooked_2 : decode cL_isBooked 2 = .ok (.invokevirtual 63, 3) := by decide +kernel
theorem dL_isBooked_5 : decode cL_isBooked 5 = .ok (.ifCond .eq 7, 3) := by decide +kernel
theorem dL_isBooked_8 : decode cL_isBooked 8 = .ok (.lconst 1, 1) := by decide +kernel
theorem dL_isBooked_9 : decode cL_isBooked 9 = .ok (.goto 4, 3) := by decide +kernel
theorem dL_isBooked_12 : decode cL_isBooked 12 = .ok (.lconst 0, 1) := by decide +kernel
theorem dL_isBooked_13 : decode cL_isBooked 13 = .ok (.lreturn, 1) := by decide +kernel
theorem dL_isBooked_14 : decode cL_isBooked 14 = .ok (.astore_n 2, 1) := by decide +kernel
theorem dL_isBooked_15 : decode cL_isBooked 15 = .ok (.ldc2_w 29, 3) := by decide +kernel
theorem dL_isBooked_18 : decode cL_isBooked 18 = .ok (.lreturn, 1) := by decide +kernel
set_option maxRecDepth 20000 in
theorem ggL_conflict_X5_areInConflict : GoodIn wsL_conflict wsX5_areInConflict := goodIn_ca (goodIn_r _ [7, 8, 9, 10, 11, 6, 12, 13, 14, 15, 16, 17, 18, 19, 20, 21, 22, 23, 24, 25, 26, 27, 28, 29, 30, 31, 32, 33, 34, 35, 36, 37, 38, 39, 40] (by decide +kernel) (by decide +kernel)) (goodIn_sub (fun _ h => List.mem_cons_of_mem _ (List.mem_append_right _ h)) (by decide +kernel))
set_option maxRecDepth 20000 in
theorem gL_conflict_X5_areInConflict : GoodIn wsL_conflict (wsV RL 67 RX5 yX5_areInConflict wsX5_areInConflict) := goodIn_app (goodIn_of _ (by decide +kernel)) ggL_conflict_X5_areInConflict
theorem dL_conflict_0 : decode cL_conflict 0 = .ok (.aload_n 0, 1) := by decide +kernel
theorem dL_conflict_1 : decode cL_conflict 1 = .ok (.iload_n 1, 1) := by decide +kernel
theorem dL_conflict_2 : decode cL_conflict 2 = .ok (.iload_n 2, 1) := by decide +kernel
theorem dL_conflict_3 : decode cL_conflict 3 = .ok (.invokevirtual 67, 3) := by decide +kernel
theorem dL_conflict_6 : decode cL_conflict 6 = .ok (.ifCond .eq 7, 3) := by decide +kernel
theorem dL_conflict_9 : decode cL_conflict 9 = .ok (.lconst 1, 1) := by decide +kernel
theorem dL_conflict_10 : decode cL_conflict 10 = .ok (.goto 4, 3) := by decide +kernel
theorem dL_conflict_13 : decode cL_conflict 13 = .ok (.lconst 0, 1) := by decide +kernel
theorem dL_conflict_14 : decode cL_conflict 14 = .ok (.lreturn, 1) := by decide +kernel
theorem dL_conflict_15 : decode cL_conflict 15 = .ok (.astore_n 3, 1) := by decide +kernel
theorem dL_conflict_16 : decode cL_conflict 16 = .ok (.ldc2_w 29, 3) := by decide +kernel
theorem dL_conflict_19 : decode cL_conflict 19 = .ok (.lreturn, 1) := by decide +kernel
set_option maxRecDepth 20000 in
theorem ggL_conflictsOf_X5_conflictsOf : GoodIn wsL_conflictsOf wsX5_conflictsOf := goodIn_ca (goodIn_r _ [7, 8, 9, 10, 11, 6, 12, 13, 14, 15, 16, 17, 18, 19, 20, 21, 22, 23, 24, 25, 26, 27, 28, 29, 30, 31, 32, 33, 34, 35, 36, 37, 38, 39, 40, 41, 42, 43, 44, 45, 46, 47, 48, 49, 50, 51, 52, 53, 54] (by decide +kernel) (by decide +kernel)) (goodIn_sub (fun _ h => List.mem_cons_of_mem _ (List.mem_append_right _ h)) (by decide +kernel))
set_option maxRecDepth 20000 in
theorem gL_conflictsOf_X5_conflictsOf : GoodIn wsL_conflictsOf (wsV RL 71 RX5 yX5_conflictsOf wsX5_conflictsOf) := goodIn_app (goodIn_of _ (by decide +kernel)) ggL_conflictsOf_X5_conflictsOf
theorem dL_conflictsOf_0 : decode cL_conflictsOf 0 = .ok (.aload_n 0, 1) := by decide +kernel
theorem dL_conflictsOf_1 : decode cL_conflictsOf 1 = .ok (.iload_n 1, 1) := by decide +kernel
theorem dL_conflictsOf_2 : decode cL_conflictsOf 2 = .ok (.invokevirtual 71, 3) := by decide +kernel
theorem dL_conflictsOf_5 : decode cL_conflictsOf 5 = .ok (.i2l, 1) := by decide +kernel
theorem dL_conflictsOf_6 : decode cL_conflictsOf 6 = .ok (.lreturn, 1) := by decide +kernel
theorem dL_conflictsOf_7 : decode cL_conflictsOf 7 = .ok (.astore_n 2, 1) := by decide +kernel
theorem dL_conflictsOf_8 : decode cL_conflictsOf 8 = .ok (.ldc2_w 29, 3) := by decide +kernel
theorem dL_conflictsOf_11 : decode cL_conflictsOf 11 = .ok (.lreturn, 1) := by decide +kernel
set_option maxRecDepth 20000 in
theorem ggL_roomOf_X5_roomOf : GoodIn wsL_roomOf wsX5_roomOf := goodIn_ca (goodIn_r _ [7, 8, 9, 10, 11, 12, 6, 13, 14, 15, 16, 17, 18, 19, 20, 21, 22, 23, 24, 25, 26, 27, 28, 29, 30, 31, 32, 33, 34, 35, 36, 37, 38, 39, 40, 41, 42, 43, 44, 45, 46, 47, 48, 49, 50, 51, 52, 53, 54, 55, 56, 57, 58, 59, 60, 61, 62, 63, 64, 65, 66, 67] (by decide +kernel) (by decide +kernel)) (goodIn_sub (fun _ h => List.mem_cons_of_mem _ (List.mem_append_right _ h)) (by decide +kernel))
set_option maxRecDepth 20000 in
theorem gL_roomOf_X5_roomOf : GoodIn wsL_roomOf (wsV RL 74 RX5 yX5_roomOf wsX5_roomOf) := goodIn_app (goodIn_of _ (by decide +kernel)) ggL_roomOf_X5_roomOf
theorem dL_roomOf_0 : decode cL_roomOf 0 = .ok (.aload_n 0, 1) := by decide +kernel
theorem dL_roomOf_1 : decode cL_roomOf 1 = .ok (.iload_n 1, 1) := by decide +kernel
theorem dL_roomOf_2 : decode cL_roomOf 2 = .ok (.invokevirtual 74, 3) := by decide +kernel
theorem dL_roomOf_5 : decode cL_roomOf 5 = .ok (.i2l, 1) := by decide +kernel
theorem dL_roomOf_6 : decode cL_roomOf 6 = .ok (.lreturn, 1) := by decide +kernel
theorem dL_roomOf_7 : decode cL_roomOf 7 = .ok (.astore_n 2, 1) := by decide +kernel
theorem dL_roomOf_8 : decode cL_roomOf 8 = .ok (.ldc2_w 29, 3) := by decide +kernel
theorem dL_roomOf_11 : decode cL_roomOf 11 = .ok (.lreturn, 1) := by decide +kernel
set_option maxRecDepth 20000 in
theorem ggL_bestWith_X5_bestWith : GoodIn wsL_bestWith wsX5_bestWith := goodIn_ca (goodIn_r _ [7, 8, 9, 10, 11, 12, 13, 6, 14, 15, 16, 17, 18, 19, 20, 21, 22, 23, 24, 25, 26, 27, 28, 29, 30, 31, 32, 33, 34, 35, 36, 37, 38, 39, 40, 41, 42, 43, 44, 45, 46, 47, 48, 49, 50, 51, 52, 53, 54, 55, 56, 57, 58, 59, 60, 61, 62, 63, 64, 65, 66, 67, 68, 69, 70, 71, 72, 73, 74, 75, 76, 77, 78, 79, 80, 81] (by decide +kernel) (by decide +kernel)) (goodIn_sub (fun _ h => List.mem_cons_of_mem _ (List.mem_append_right _ h)) (by decide +kernel))
set_option maxRecDepth 20000 in
theorem gL_bestWith_X5_bestWith : GoodIn wsL_bestWith (wsV RL 77 RX5 yX5_bestWith wsX5_bestWith) := goodIn_app (goodIn_of _ (by decide +kernel)) ggL_bestWith_X5_bestWith
theorem dL_bestWith_0 : decode cL_bestWith 0 = .ok (.aload_n 0, 1) := by decide +kernel
theorem dL_bestWith_1 : decode cL_bestWith 1 = .ok (.iload_n 1, 1) := by decide +kernel
theorem dL_bestWith_2 : decode cL_bestWith 2 = .ok (.invokevirtual 77, 3) := by decide +kernel
theorem dL_bestWith_5 : decode cL_bestWith 5 = .ok (.i2l, 1) := by decide +kernel
theorem dL_bestWith_6 : decode cL_bestWith 6 = .ok (.lreturn, 1) := by decide +kernel
theorem dL_bestWith_7 : decode cL_bestWith 7 = .ok (.astore_n 2, 1) := by decide +kernel
theorem dL_bestWith_8 : decode cL_bestWith 8 = .ok (.ldc2_w 29, 3) := by decide +kernel
theorem dL_bestWith_11 : decode cL_bestWith 11 = .ok (.lreturn, 1) := by decide +kernel
set_option maxRecDepth 20000 in
theorem ggL_keep_X5_keep : GoodIn wsL_keep wsX5_keep := goodIn_ca (goodIn_r _ [7, 8, 9, 10, 11, 12, 6, 13, 14, 15, 16, 17, 18, 19, 20, 21, 22, 23, 24, 25, 26, 27, 28, 29, 30, 31, 32, 33, 34, 35, 36, 37, 38, 39, 40, 41, 42, 43] (by decide +kernel) (by decide +kernel)) (goodIn_sub (fun _ h => List.mem_cons_of_mem _ (List.mem_append_right _ h)) (by decide +kernel))
set_option maxRecDepth 20000 in
theorem gL_keep_X5_keep : GoodIn wsL_keep (wsV RL 80 RX5 yX5_keep wsX5_keep) := goodIn_app (goodIn_of _ (by decide +kernel)) ggL_keep_X5_keep
theorem dL_keep_0 : decode cL_keep 0 = .ok (.aload_n 0, 1) := by decide +kernel
theorem dL_keep_1 : decode cL_keep 1 = .ok (.iload_n 1, 1) := by decide +kernel
theorem dL_keep_2 : decode cL_keep 2 = .ok (.invokevirtual 80, 3) := by decide +kernel
theorem dL_keep_5 : decode cL_keep 5 = .ok (.lconst 0, 1) := by decide +kernel
theorem dL_keep_6 : decode cL_keep 6 = .ok (.lreturn, 1) := by decide +kernel
theorem dL_keep_7 : decode cL_keep 7 = .ok (.astore_n 2, 1) := by decide +kernel
theorem dL_keep_8 : decode cL_keep 8 = .ok (.ldc2_w 17, 3) := by decide +kernel
theorem dL_keep_11 : decode cL_keep 11 = .ok (.lreturn, 1) := by decide +kernel
set_option maxRecDepth 20000 in
theorem ggL_goBack_X5_goBack : GoodIn wsL_goBack wsX5_goBack := goodIn_ca (goodIn_ca (goodIn_r _ [9, 10, 11, 12, 13, 14, 15, 16, 17, 8, 18, 19, 20, 21, 22, 23, 24, 25, 26, 27, 28, 29, 30, 31, 32, 33, 34, 35, 36, 37, 38, 39, 40, 41, 42, 43, 44, 45, 46, 47, 48, 49, 50, 51, 52, 53, 54, 55, 56, 57, 58, 59, 60] (by decide +kernel) (by decide +kernel)) (goodIn_sub (fun _ h => List.mem_cons_of_mem _ (List.mem_append_left _ (List.mem_append_right _ h))) (by decide +kernel))) (goodIn_sub (fun _ h => List.mem_cons_of_mem _ (List.mem_append_right _ h)) (by decide +kernel))
set_option maxRecDepth 20000 in
theorem gL_goBack_X5_goBack : GoodIn wsL_goBack (wsV RL 84 RX5 yX5_goBack wsX5_goBack) := goodIn_app (goodIn_of _ (by decide +kernel)) ggL_goBack_X5_goBack
theorem dL_goBack_0 : decode cL_goBack 0 = .ok (.aload_n 0, 1) := by decide +kernel
theorem dL_goBack_1 : decode cL_goBack 1 = .ok (.iload_n 1, 1) := by decide +kernel
theorem dL_goBack_2 : decode cL_goBack 2 = .ok (.invokevirtual 84, 3) := by decide +kernel
theorem dL_goBack_5 : decode cL_goBack 5 = .ok (.lconst 0, 1) := by decide +kernel
theorem dL_goBack_6 : decode cL_goBack 6 = .ok (.lreturn, 1) := by decide +kernel
theorem dL_goBack_7 : decode cL_goBack 7 = .ok (.astore_n 2, 1) := by decide +kernel
theorem dL_goBack_8 : decode cL_goBack 8 = .ok (.ldc2_w 17, 3) := by decide +kernel
theorem dL_goBack_11 : decode cL_goBack 11 = .ok (.lreturn, 1) := by decide +kernel
theorem dL_goBack_12 : decode cL_goBack 12 = .ok (.astore_n 2, 1) := by decide +kernel
theorem dL_goBack_13 : decode cL_goBack 13 = .ok (.ldc2_w 21, 3) := by decide +kernel
theorem dL_goBack_16 : decode cL_goBack 16 = .ok (.lreturn, 1) := by decide +kernel
set_option maxRecDepth 20000 in
theorem ggL_undo_X5_undo : GoodIn wsL_undo wsX5_undo := goodIn_ca (goodIn_r _ [7, 8, 9, 10, 11, 12, 13, 14, 15, 16, 17, 18, 19, 20, 21, 22, 23, 24, 25, 26, 27, 28, 29, 30, 31, 32, 33, 34, 35, 36, 37, 38, 39, 40, 41, 42, 43, 44, 45, 46, 47, 48, 49, 50, 51] (by decide +kernel) (by decide +kernel)) (goodIn_sub (fun _ h => List.mem_cons_of_mem _ (List.mem_append_right _ h)) (by decide +kernel))
set_option maxRecDepth 20000 in
theorem gL_undo_X5_undo : GoodIn wsL_undo (wsV RL 87 RX5 yX5_undo wsX5_undo) := goodIn_app (goodIn_of _ (by decide +kernel)) ggL_undo_X5_undo
theorem dL_undo_0 : decode cL_undo 0 = .ok (.aload_n 0, 1) := by decide +kernel
theorem dL_undo_1 : decode cL_undo 1 = .ok (.invokevirtual 87, 3) := by decide +kernel
theorem dL_undo_4 : decode cL_undo 4 = .ok (.lconst 0, 1) := by decide +kernel
theorem dL_undo_5 : decode cL_undo 5 = .ok (.lreturn, 1) := by decide +kernel
theorem dL_undo_6 : decode cL_undo 6 = .ok (.astore_n 1, 1) := by decide +kernel
theorem dL_undo_7 : decode cL_undo 7 = .ok (.ldc2_w 21, 3) := by decide +kernel
theorem dL_undo_10 : decode cL_undo 10 = .ok (.lreturn, 1) := by decide +kernel
set_option maxRecDepth 20000 in
theorem ggL_errors_X5_digest : GoodIn wsL_errors wsX5_digest := goodIn_ca (goodIn_r _ [8, 9, 10, 11, 12, 13, 14, 15, 16, 17, 18, 7, 19, 20, 21, 22, 23, 24, 25, 26, 27, 28, 29, 30, 31, 32, 33, 34, 35, 36, 37, 38, 39, 40, 41, 42, 43, 44, 45, 46, 47, 48, 49, 50, 51, 52, 53, 54, 55, 56, 57, 58, 59, 60, 61, 62, 63, 64, 65, 66, 67, 68, 69, 70, 71, 72, 73, 74, 75, 76, 77, 78, 79, 80, 81, 82, 83, 84, 85, 86, 87, 88, 89, 90, 91, 92, 93, 94, 95, 96, 97, 98, 99, 100, 101, 102, 103, 104, 105, 106, 107, 108, 109, 110, 111, 112, 113, 114, 115, 116, 117, 118, 119, 120, 121, 122, 123, 124, 125, 126, 127, 128, 129, 130, 131, 132, 133, 134, 135, 136, 137, 138, 139, 140, 141, 142, 143, 144, 145, 146, 147, 148, 149, 150, 151, 152, 153, 154, 155, 156, 157, 158, 159, 160, 161, 162, 163, 164, 165, 166, 167, 168, 169, 170, 171, 172, 173, 174, 175, 176, 177, 178, 179, 180, 181, 182, 183, 184, 185, 186, 187, 188, 189, 190, 191, 192, 193, 194, 195, 196, 197, 198, 199, 200, 201, 202, 203, 204, 205, 206, 207, 208, 209, 210, 211, 212, 213, 214, 215, 216, 217, 218, 219, 220, 221, 222, 223, 224, 225, 226, 227, 228, 229, 230, 231, 232, 233, 234, 235, 236, 237, 238, 239, 240, 241, 242, 243, 244, 245, 246, 247, 248, 249, 250, 251, 252, 253, 254, 255, 256, 257, 258, 259, 260, 261, 262, 263, 264, 265, 266, 267, 268, 269, 270, 271, 272, 273, 274, 444, 445, 446, 447, 448, 449, 450, 451, 452, 453, 454, 455, 456, 457, 458, 459, 460, 461, 462, 463, 464, 465, 466, 467, 468, 469] (by decide +kernel) (by decide +kernel)) (goodIn_sub (fun _ h => List.mem_cons_of_mem _ (List.mem_append_left _ (List.mem_append_left _ (List.mem_append_right _ h)))) (by decide +kernel))
set_option maxRecDepth 20000 in
theorem gL_errors_X5_digest : GoodIn wsL_errors (wsV RL 90 RX5 yX5_digest wsX5_digest) := goodIn_app (goodIn_of _ (by decide +kernel)) ggL_errors_X5_digest
set_option maxRecDepth 20000 in
theorem ggL_errors_X5_rehearsals : GoodIn wsL_errors wsX5_rehearsals := goodIn_r _ [19, 10, 11, 444, 445, 446, 447, 448, 449, 450, 451, 452, 453, 454, 455, 456] (by decide +kernel) (by decide +kernel)
set_option maxRecDepth 20000 in
theorem gL_errors_X5_rehearsals : GoodIn wsL_errors (wsV RL 94 RX5 yX5_rehearsals wsX5_rehearsals) := goodIn_app (goodIn_of _ (by decide +kernel)) ggL_errors_X5_rehearsals
set_option maxRecDepth 20000 in
theorem ggL_errors_L_add : GoodIn wsL_errors wsL_add := goodIn_ca (goodIn_ca (goodIn_r _ [279, 280, 281, 1, 2, 282, 283, 284, 7, 285, 260, 10, 11, 286, 287, 288, 289, 290, 291, 292, 293, 294, 295, 296, 297, 298, 299, 300, 301, 302, 303, 304, 305, 306, 307, 308, 309, 310, 56, 311, 89, 94, 75, 312, 313, 314, 315, 59, 58, 182, 316, 317, 318, 319, 444, 445, 446, 447, 448, 449, 450, 451, 452, 453, 454, 455, 456, 467, 468, 469] (by decide +kernel) (by decide +kernel)) (goodIn_sub (fun _ h => List.mem_cons_of_mem _ (List.mem_append_left _ (List.mem_append_right _ h))) (by decide +kernel))) (goodIn_sub (fun _ h => List.mem_cons_of_mem _ (List.mem_append_right _ h)) (by decide +kernel))
set_option maxRecDepth 20000 in
theorem gL_errors_L_add : GoodIn wsL_errors (va_wsS RL 97 yL_add wsL_add) := goodIn_app (goodIn_of _ (by decide +kernel)) ggL_errors_L_add
set_option maxRecDepth 20000 in
theorem ggL_errors_L_strike : GoodIn wsL_errors wsL_strike := goodIn_ca (goodIn_r _ [322, 323, 3, 324, 325, 326, 7, 327, 10, 48, 260, 33, 34, 35, 36, 37, 38, 11, 300, 301, 302, 303, 304, 305, 306, 307, 308, 309, 310, 56, 311, 89, 94, 75, 312, 313, 314, 315, 59, 58, 182, 328, 329, 330, 331, 79, 80, 444, 445, 446, 447, 448, 449, 450, 451, 452, 453, 454, 455, 456, 467, 468, 469] (by decide +kernel) (by decide +kernel)) (goodIn_sub (fun _ h => List.mem_cons_of_mem _ (List.mem_append_left _ (List.mem_append_left _ (List.mem_append_right _ h)))) (by decide +kernel))
set_option maxRecDepth 20000 in
theorem gL_errors_L_strike : GoodIn wsL_errors (va_wsS RL 102 yL_strike wsL_strike) := goodIn_app (goodIn_of _ (by decide +kernel)) ggL_errors_L_strike
set_option maxRecDepth 20000 in
theorem ggL_errors_L_move : GoodIn wsL_errors wsL_move := goodIn_ca (goodIn_ca (goodIn_ca (goodIn_r _ [334, 323, 280, 281, 3, 1, 2, 335, 336, 337, 7, 338, 298, 299, 10, 260, 32, 43, 33, 34, 35, 36, 37, 38, 11, 286, 287, 288, 289, 290, 71, 72, 73, 56, 74, 75, 76, 77, 78, 79, 80, 339, 340, 341, 342, 89, 94, 343, 95, 96, 97, 98, 58, 59, 53, 54, 55, 57, 300, 301, 302, 303, 304, 305, 306, 307, 308, 309, 310, 311, 312, 313, 314, 315, 182, 444, 445, 446, 447, 448, 449, 450, 451, 452, 453, 454, 455, 456, 467, 468, 469] (by decide +kernel) (by decide +kernel)) (goodIn_sub (fun _ h => List.mem_cons_of_mem _ (List.mem_append_right _ h)) (by decide +kernel))) (goodIn_sub (fun _ h => List.mem_cons_of_mem _ (List.mem_append_left _ (List.mem_append_left _ (List.mem_append_right _ h)))) (by decide +kernel))) (goodIn_sub (fun _ h => List.mem_cons_of_mem _ (List.mem_append_left _ (List.mem_append_right _ h))) (by decide +kernel))
set_option maxRecDepth 20000 in
theorem gL_errors_L_move : GoodIn wsL_errors (va_wsS RL 105 yL_move wsL_move) := goodIn_app (goodIn_of _ (by decide +kernel)) ggL_errors_L_move
set_option maxRecDepth 20000 in
theorem ggL_errors_L_changeFame : GoodIn wsL_errors wsL_changeFame := goodIn_ca (goodIn_ca (goodIn_r _ [346, 323, 280, 3, 1, 347, 348, 349, 7, 350, 10, 48, 260, 33, 34, 35, 36, 37, 38, 11, 291, 292, 293, 289, 290, 300, 301, 302, 303, 304, 305, 306, 307, 308, 309, 310, 56, 311, 89, 94, 75, 312, 313, 314, 315, 59, 58, 182, 444, 445, 446, 447, 448, 449, 450, 451, 452, 453, 454, 455, 456, 467, 468, 469] (by decide +kernel) (by decide +kernel)) (goodIn_sub (fun _ h => List.mem_cons_of_mem _ (List.mem_append_left _ (List.mem_append_left _ (List.mem_append_right _ h)))) (by decide +kernel))) (goodIn_sub (fun _ h => List.mem_cons_of_mem _ (List.mem_append_left _ (List.mem_append_right _ h))) (by decide +kernel))
set_option maxRecDepth 20000 in
theorem gL_errors_L_changeFame : GoodIn wsL_errors (va_wsS RL 107 yL_changeFame wsL_changeFame) := goodIn_app (goodIn_of _ (by decide +kernel)) ggL_errors_L_changeFame
set_option maxRecDepth 20000 in
theorem ggL_errors_L_changePause : GoodIn wsL_errors wsL_changePause := goodIn_ca (goodIn_ca (goodIn_r _ [353, 280, 281, 1, 2, 354, 355, 356, 7, 357, 289, 290, 298, 299, 10, 168, 260, 358, 359, 360, 56, 361, 89, 59, 58, 343, 72, 73, 74, 75, 76, 77, 78, 79, 80, 95, 96, 97, 98, 300, 301, 302, 303, 304, 305, 306, 307, 308, 309, 310, 311, 94, 312, 313, 314, 315, 182, 444, 445, 446, 447, 448, 449, 450, 451, 452, 453, 454, 455, 456, 467, 468, 469] (by decide +kernel) (by decide +kernel)) (goodIn_sub (fun _ h => List.mem_cons_of_mem _ (List.mem_append_left _ (List.mem_append_right _ h))) (by decide +kernel))) (goodIn_sub (fun _ h => List.mem_cons_of_mem _ (List.mem_append_right _ h)) (by decide +kernel))
set_option maxRecDepth 20000 in
theorem gL_errors_L_changePause : GoodIn wsL_errors (va_wsS RL 110 yL_changePause wsL_changePause) := goodIn_app (goodIn_of _ (by decide +kernel)) ggL_errors_L_changePause
set_option maxRecDepth 20000 in
theorem ggL_errors_L_book : GoodIn wsL_errors wsL_book := goodIn_ca (goodIn_ca (goodIn_r _ [364, 323, 281, 3, 2, 365, 366, 367, 7, 368, 298, 299, 10, 173, 260, 33, 34, 35, 36, 37, 38, 11, 71, 72, 73, 56, 74, 75, 76, 77, 78, 79, 80, 85, 86, 87, 88, 89, 90, 91, 92, 93, 59, 58, 94, 95, 96, 97, 98, 300, 301, 302, 303, 304, 305, 306, 307, 308, 309, 310, 311, 312, 313, 314, 315, 182, 178, 179, 180, 181, 444, 445, 446, 447, 448, 449, 450, 451, 452, 453, 454, 455, 456, 467, 468, 469] (by decide +kernel) (by decide +kernel)) (goodIn_sub (fun _ h => List.mem_cons_of_mem _ (List.mem_append_right _ h)) (by decide +kernel))) (goodIn_sub (fun _ h => List.mem_cons_of_mem _ (List.mem_append_left _ (List.mem_append_left _ (List.mem_append_right _ h)))) (by decide +kernel))
set_option maxRecDepth 20000 in
theorem gL_errors_L_book : GoodIn wsL_errors (va_wsS RL 112 yL_book wsL_book) := goodIn_app (goodIn_of _ (by decide +kernel)) ggL_errors_L_book
set_option maxRecDepth 20000 in
theorem ggL_errors_L_cancel : GoodIn wsL_errors wsL_cancel := goodIn_ca (goodIn_ca (goodIn_r _ [371, 323, 281, 3, 2, 372, 373, 374, 7, 375, 298, 299, 10, 260, 173, 33, 34, 35, 36, 37, 38, 11, 71, 72, 73, 56, 74, 75, 76, 77, 78, 79, 80, 300, 301, 302, 303, 304, 305, 306, 307, 308, 309, 310, 311, 89, 94, 312, 313, 314, 315, 59, 58, 182, 178, 179, 180, 181, 444, 445, 446, 447, 448, 449, 450, 451, 452, 453, 454, 455, 456, 467, 468, 469] (by decide +kernel) (by decide +kernel)) (goodIn_sub (fun _ h => List.mem_cons_of_mem _ (List.mem_append_right _ h)) (by decide +kernel))) (goodIn_sub (fun _ h => List.mem_cons_of_mem _ (List.mem_append_left _ (List.mem_append_left _ (List.mem_append_right _ h)))) (by decide +kernel))
set_option maxRecDepth 20000 in
theorem gL_errors_L_cancel : GoodIn wsL_errors (va_wsS RL 114 yL_cancel wsL_cancel) := goodIn_app (goodIn_of _ (by decide +kernel)) ggL_errors_L_cancel
set_option maxRecDepth 20000 in
theorem ggL_errors_L_append : GoodIn wsL_errors wsL_append := goodIn_ca (goodIn_ca (goodIn_r _ [378, 280, 281, 1, 2, 379, 380, 381, 7, 382, 289, 290, 298, 299, 13, 14, 383, 384, 385, 386, 387, 388, 389, 444, 445, 446, 447, 448, 449, 450, 457, 458, 459, 460, 461] (by decide +kernel) (by decide +kernel)) (goodIn_sub (fun _ h => List.mem_cons_of_mem _ (List.mem_append_left _ (List.mem_append_right _ h))) (by decide +kernel))) (goodIn_sub (fun _ h => List.mem_cons_of_mem _ (List.mem_append_right _ h)) (by decide +kernel))
set_option maxRecDepth 20000 in
theorem gL_errors_L_append : GoodIn wsL_errors (va_wsS RL 116 yL_append wsL_append) := goodIn_app (goodIn_of _ (by decide +kernel)) ggL_errors_L_append
set_option maxRecDepth 20000 in
theorem ggL_errors_L_keep : GoodIn wsL_errors wsL_keep := goodIn_ca (goodIn_r _ [392, 280, 1, 393, 394, 395, 7, 396, 397, 10, 12, 398, 399, 400, 289, 290, 401, 309, 310, 56, 311, 89, 94, 75, 312, 313, 314, 315, 59, 58, 182, 444, 445, 446, 447, 448, 449, 450, 451, 452, 453, 454, 455, 456] (by decide +kernel) (by decide +kernel)) (goodIn_sub (fun _ h => List.mem_cons_of_mem _ (List.mem_append_left _ (List.mem_append_right _ h))) (by decide +kernel))
set_option maxRecDepth 20000 in
theorem gL_errors_L_keep : GoodIn wsL_errors (va_wsS RL 118 yL_keep wsL_keep) := goodIn_app (goodIn_of _ (by decide +kernel)) ggL_errors_L_keep
set_option maxRecDepth 20000 in
theorem ggL_errors_L_goBack : GoodIn wsL_errors wsL_goBack := goodIn_ca (goodIn_ca (goodIn_r _ [404, 280, 281, 1, 2, 405, 406, 407, 7, 408, 298, 299, 12, 260, 10, 397, 398, 399, 400, 289, 290, 300, 301, 302, 303, 304, 305, 306, 307, 308, 309, 310, 56, 311, 89, 94, 75, 312, 313, 314, 315, 59, 58, 182, 401, 444, 445, 446, 447, 448, 449, 450, 467, 468, 469, 451, 452, 453, 454, 455, 456] (by decide +kernel) (by decide +kernel)) (goodIn_sub (fun _ h => List.mem_cons_of_mem _ (List.mem_append_right _ h)) (by decide +kernel))) (goodIn_sub (fun _ h => List.mem_cons_of_mem _ (List.mem_append_left _ (List.mem_append_right _ h))) (by decide +kernel))
set_option maxRecDepth 20000 in
theorem gL_errors_L_goBack : GoodIn wsL_errors (va_wsS RL 120 yL_goBack wsL_goBack) := goodIn_app (goodIn_of _ (by decide +kernel)) ggL_errors_L_goBack
set_option maxRecDepth 20000 in
theorem ggL_errors_L_beginOf : GoodIn wsL_errors wsL_beginOf := goodIn_ca (goodIn_r _ [411, 323, 3, 412, 29, 30, 7, 31, 10, 32, 33, 34, 35, 36, 37, 38, 11, 444, 445, 446, 447, 448, 449, 450, 451, 452, 453, 454, 455, 456] (by decide +kernel) (by decide +kernel)) (goodIn_sub (fun _ h => List.mem_cons_of_mem _ (List.mem_append_left _ (List.mem_append_left _ (List.mem_append_right _ h)))) (by decide +kernel))
set_option maxRecDepth 20000 in
theorem gL_errors_L_beginOf : GoodIn wsL_errors (va_wsS RL 122 yL_beginOf wsL_beginOf) := goodIn_app (goodIn_of _ (by decide +kernel)) ggL_errors_L_beginOf
set_option maxRecDepth 20000 in
theorem ggL_errors_L_endOf : GoodIn wsL_errors wsL_endOf := goodIn_ca (goodIn_r _ [415, 323, 3, 416, 40, 41, 7, 42, 10, 43, 33, 34, 35, 36, 37, 38, 11, 444, 445, 446, 447, 448, 449, 450, 451, 452, 453, 454, 455, 456] (by decide +kernel) (by decide +kernel)) (goodIn_sub (fun _ h => List.mem_cons_of_mem _ (List.mem_append_left _ (List.mem_append_left _ (List.mem_append_right _ h)))) (by decide +kernel))
set_option maxRecDepth 20000 in
theorem gL_errors_L_endOf : GoodIn wsL_errors (va_wsS RL 124 yL_endOf wsL_endOf) := goodIn_app (goodIn_of _ (by decide +kernel)) ggL_errors_L_endOf
set_option maxRecDepth 20000 in
theorem ggL_errors_L_fameOf : GoodIn wsL_errors wsL_fameOf := goodIn_ca (goodIn_r _ [419, 323, 3, 420, 45, 46, 7, 47, 10, 48, 33, 34, 35, 36, 37, 38, 11, 444, 445, 446, 447, 448, 449, 450, 451, 452, 453, 454, 455, 456] (by decide +kernel) (by decide +kernel)) (goodIn_sub (fun _ h => List.mem_cons_of_mem _ (List.mem_append_left _ (List.mem_append_left _ (List.mem_append_right _ h)))) (by decide +kernel))
set_option maxRecDepth 20000 in
theorem gL_errors_L_fameOf : GoodIn wsL_errors (va_wsS RL 126 yL_fameOf wsL_fameOf) := goodIn_app (goodIn_of _ (by decide +kernel)) ggL_errors_L_fameOf
set_option maxRecDepth 20000 in
theorem ggL_errors_L_isBooked : GoodIn wsL_errors wsL_isBooked := goodIn_ca (goodIn_r _ [423, 323, 3, 424, 68, 69, 7, 70, 10, 33, 34, 35, 36, 37, 38, 11, 71, 72, 73, 56, 74, 75, 76, 77, 78, 79, 80, 444, 445, 446, 447, 448, 449, 450, 451, 452, 453, 454, 455, 456] (by decide +kernel) (by decide +kernel)) (goodIn_sub (fun _ h => List.mem_cons_of_mem _ (List.mem_append_left _ (List.mem_append_left _ (List.mem_append_right _ h)))) (by decide +kernel))
set_option maxRecDepth 20000 in
theorem gL_errors_L_isBooked : GoodIn wsL_errors (va_wsS RL 128 yL_isBooked wsL_isBooked) := goodIn_app (goodIn_of _ (by decide +kernel)) ggL_errors_L_isBooked
set_option maxRecDepth 20000 in
theorem ggL_errors_L_conflict : GoodIn wsL_errors wsL_conflict := goodIn_ca (goodIn_r _ [427, 323, 3, 428, 429, 430, 7, 431, 10, 33, 34, 35, 36, 37, 38, 11, 187, 91, 92, 56, 93, 59, 58, 94, 95, 96, 97, 98, 444, 445, 446, 447, 448, 449, 450, 451, 452, 453, 454, 455, 456] (by decide +kernel) (by decide +kernel)) (goodIn_sub (fun _ h => List.mem_cons_of_mem _ (List.mem_append_left _ (List.mem_append_left _ (List.mem_append_right _ h)))) (by decide +kernel))
set_option maxRecDepth 20000 in
theorem gL_errors_L_conflict : GoodIn wsL_errors (va_wsS RL 130 yL_conflict wsL_conflict) := goodIn_app (goodIn_of _ (by decide +kernel)) ggL_errors_L_conflict
set_option maxRecDepth 20000 in
theorem ggL_errors_L_conflictsOf : GoodIn wsL_errors wsL_conflictsOf := goodIn_ca (goodIn_r _ [434, 323, 3, 435, 82, 83, 7, 84, 10, 33, 34, 35, 36, 37, 38, 11, 85, 86, 87, 56, 88, 89, 90, 91, 92, 93, 59, 58, 94, 95, 96, 97, 98, 79, 80, 99, 100, 101, 102, 103, 104, 105, 444, 445, 446, 447, 448, 449, 450, 451, 452, 453, 454, 455, 456] (by decide +kernel) (by decide +kernel)) (goodIn_sub (fun _ h => List.mem_cons_of_mem _ (List.mem_append_left _ (List.mem_append_left _ (List.mem_append_right _ h)))) (by decide +kernel))
set_option maxRecDepth 20000 in
theorem gL_errors_L_conflictsOf : GoodIn wsL_errors (va_wsS RL 133 yL_conflictsOf wsL_conflictsOf) := goodIn_app (goodIn_of _ (by decide +kernel)) ggL_errors_L_conflictsOf
set_option maxRecDepth 20000 in
theorem ggL_errors_L_roomOf : GoodIn wsL_errors wsL_roomOf := goodIn_ca (goodIn_r _ [438, 323, 3, 439, 107, 108, 7, 109, 110, 10, 33, 34, 35, 36, 37, 38, 11, 111, 112, 113, 114, 115, 116, 117, 118, 119, 120, 121, 122, 123, 124, 125, 126, 127, 128, 129, 130, 91, 92, 56, 93, 59, 58, 94, 95, 96, 97, 98, 79, 80, 76, 77, 78, 444, 445, 446, 447, 448, 449, 450, 451, 452, 453, 454, 455, 456, 462, 463] (by decide +kernel) (by decide +kernel)) (goodIn_sub (fun _ h => List.mem_cons_of_mem _ (List.mem_append_left _ (List.mem_append_left _ (List.mem_append_right _ h)))) (by decide +kernel))
set_option maxRecDepth 20000 in
theorem gL_errors_L_roomOf : GoodIn wsL_errors (va_wsS RL 135 yL_roomOf wsL_roomOf) := goodIn_app (goodIn_of _ (by decide +kernel)) ggL_errors_L_roomOf
set_option maxRecDepth 20000 in
theorem ggL_errors_L_bestWith : GoodIn wsL_errors wsL_bestWith := goodIn_ca (goodIn_r _ [442, 323, 3, 443, 132, 133, 7, 134, 10, 48, 135, 33, 34, 35, 36, 37, 38, 11, 136, 137, 138, 56, 139, 89, 79, 80, 78, 85, 86, 87, 88, 90, 91, 92, 93, 59, 58, 94, 95, 96, 97, 98, 140, 141, 142, 143, 144, 145, 146, 147, 148, 149, 150, 151, 152, 153, 154, 124, 125, 76, 77, 155, 156, 157, 158, 159, 444, 445, 446, 447, 448, 449, 450, 451, 452, 453, 454, 455, 456, 464, 465, 466] (by decide +kernel) (by decide +kernel)) (goodIn_sub (fun _ h => List.mem_cons_of_mem _ (List.mem_append_left _ (List.mem_append_left _ (List.mem_append_right _ h)))) (by decide +kernel))
set_option maxRecDepth 20000 in
theorem gL_errors_L_bestWith : GoodIn wsL_errors (va_wsS RL 137 yL_bestWith wsL_bestWith) := goodIn_app (goodIn_of _ (by decide +kernel)) ggL_errors_L_bestWith
theorem dL_errors_0 : decode cL_errors 0 = .ok (.aload_n 0, 1) := by decide +kernel
theorem dL_errors_1 : decode cL_errors 1 = .ok (.invokevirtual 90, 3) := by decide +kernel
theorem dL_errors_4 : decode cL_errors 4 = .ok (.lstore_n 1, 1) := by decide +kernel
theorem dL_errors_5 : decode cL_errors 5 = .ok (.aload_n 0, 1) := by decide +kernel
theorem dL_errors_6 : decode cL_errors 6 = .ok (.invokevirtual 94, 3) := by decide +kernel
theorem dL_errors_9 : decode cL_errors 9 = .ok (.istore_n 3, 1) := by decide +kernel
theorem dL_errors_10 : decode cL_errors 10 = .ok (.aload_n 0, 1) := by decide +kernel
theorem dL_errors_11 : decode cL_errors 11 = .ok (.iconst (-1), 1) := by decide +kernel
theorem dL_errors_12 : decode cL_errors 12 = .ok (.iconst 1, 1) := by decide +kernel
theorem dL_errors_13 : decode cL_errors 13 = .ok (.iconst 1, 1) := by decide +kernel
theorem dL_errors_14 : decode cL_errors 14 = .ok (.invokestatic 97, 3) := by decide +kernel
theorem dL_errors_17 : decode cL_errors 17 = .ok (.ldc2_w 17, 3) := by decide +kernel
theorem dL_errors_20 : decode cL_errors 20 = .ok (.lcmp, 1) := by decide +kernel
theorem dL_errors_21 : decode cL_errors 21 = .ok (.ifCond .ne 293, 3) := by decide +kernel
theorem dL_errors_24 : decode cL_errors 24 = .ok (.aload_n 0, 1) := by decide +kernel
theorem dL_errors_25 : decode cL_errors 25 = .ok (.bipush 96, 2) := by decide +kernel
theorem dL_errors_27 : decode cL_errors 27 = .ok (.bipush 97, 2) := by decide +kernel
theorem dL_errors_29 : decode cL_errors 29 = .ok (.iconst 1, 1) := by decide +kernel
theorem dL_errors_30 : decode cL_errors 30 = .ok (.invokestatic 97, 3) := by decide +kernel
theorem dL_errors_33 : decode cL_errors 33 = .ok (.ldc2_w 17, 3) := by decide +kernel
theorem dL_errors_36 : decode cL_errors 36 = .ok (.lcmp, 1) := by decide +kernel
theorem dL_errors_37 : decode cL_errors 37 = .ok (.ifCond .ne 277, 3) := by decide +kernel
theorem dL_errors_40 : decode cL_errors 40 = .ok (.aload_n 0, 1) := by decide +kernel
theorem dL_errors_41 : decode cL_errors 41 = .ok (.iconst 5, 1) := by decide +kernel
theorem dL_errors_42 : decode cL_errors 42 = .ok (.iconst 5, 1) := by decide +kernel
theorem dL_errors_43 : decode cL_errors 43 = .ok (.iconst 1, 1) := by decide +kernel
theorem dL_errors_44 : decode cL_errors 44 = .ok (.invokestatic 97, 3) := by decide +kernel
theorem dL_errors_47 : decode cL_errors 47 = .ok (.ldc2_w 17, 3) := by decide +kernel
theorem dL_errors_50 : decode cL_errors 50 = .ok (.lcmp, 1) := by decide +kernel
theorem dL_errors_51 : decode cL_errors 51 = .ok (.ifCond .ne 263, 3) := by decide +kernel
theorem dL_errors_54 : decode cL_errors 54 = .ok (.aload_n 0, 1) := by decide +kernel
theorem dL_errors_55 : decode cL_errors 55 = .ok (.iconst 0, 1) := by decide +kernel
theorem dL_errors_56 : decode cL_errors 56 = .ok (.iconst 1, 1) := by decide +kernel
theorem dL_errors_57 : decode cL_errors 57 = .ok (.iconst 0, 1) := by decide +kernel
theorem dL_errors_58 : decode cL_errors 58 = .ok (.invokestatic 97, 3) := by decide +kernel
theorem dL_errors_61 : decode cL_errors 61 = .ok (.ldc2_w 17, 3) := by decide +kernel
theorem dL_errors_64 : decode cL_errors 64 = .ok (.lcmp, 1) := by decide +kernel
theorem dL_errors_65 : decode cL_errors 65 = .ok (.ifCond .ne 249, 3) := by decide +kernel
theorem dL_errors_68 : decode cL_errors 68 = .ok (.iload_n 3, 1) := by decide +kernel
theorem dL_errors_69 : decode cL_errors 69 = .ok (.bipush 14, 2) := by decide +kernel
theorem dL_errors_71 : decode cL_errors 71 = .ok (.if_icmp .lt 17, 3) := by decide +kernel
theorem dL_errors_74 : decode cL_errors 74 = .ok (.aload_n 0, 1) := by decide +kernel
theorem dL_errors_75 : decode cL_errors 75 = .ok (.iconst 0, 1) := by decide +kernel
theorem dL_errors_76 : decode cL_errors 76 = .ok (.iconst 1, 1) := by decide +kernel
theorem dL_errors_77 : decode cL_errors 77 = .ok (.iconst 1, 1) := by decide +kernel
theorem dL_errors_78 : decode cL_errors 78 = .ok (.invokestatic 97, 3) := by decide +kernel
theorem dL_errors_81 : decode cL_errors 81 = .ok (.ldc2_w 21, 3) := by decide +kernel
theorem dL_errors_84 : decode cL_errors 84 = .ok (.lcmp, 1) := by decide +kernel
theorem dL_errors_85 : decode cL_errors 85 = .ok (.ifCond .ne 229, 3) := by decide +kernel
theorem dL_errors_88 : decode cL_errors 88 = .ok (.aload_n 0, 1) := by decide +kernel
theorem dL_errors_89 : decode cL_errors 89 = .ok (.iload_n 3, 1) := by decide +kernel
theorem dL_errors_90 : decode cL_errors 90 = .ok (.invokestatic 102, 3) := by decide +kernel
theorem dL_errors_93 : decode cL_errors 93 = .ok (.ldc2_w 29, 3) := by decide +kernel
theorem dL_errors_96 : decode cL_errors 96 = .ok (.lcmp, 1) := by decide +kernel
theorem dL_errors_97 : decode cL_errors 97 = .ok (.ifCond .ne 217, 3) := by decide +kernel
theorem dL_errors_100 : decode cL_errors 100 = .ok (.aload_n 0, 1) := by decide +kernel
theorem dL_errors_101 : decode cL_errors 101 = .ok (.iload_n 3, 1) := by decide +kernel
theorem dL_errors_102 : decode cL_errors 102 = .ok (.iconst 5, 1) := by decide +kernel
theorem dL_errors_103 : decode cL_errors 103 = .ok (.iconst 5, 1) := by decide +kernel
theorem dL_errors_104 : decode cL_errors 104 = .ok (.invokestatic 105, 3) := by decide +kernel
theorem dL_errors_107 : decode cL_errors 107 = .ok (.ldc2_w 29, 3) := by decide +kernel
theorem dL_errors_110 : decode cL_errors 110 = .ok (.lcmp, 1) := by decide +kernel
theorem dL_errors_111 : decode cL_errors 111 = .ok (.ifCond .ne 203, 3) := by decide +kernel
theorem dL_errors_114 : decode cL_errors 114 = .ok (.aload_n 0, 1) := by decide +kernel
theorem dL_errors_115 : decode cL_errors 115 = .ok (.iload_n 3, 1) := by decide +kernel
theorem dL_errors_116 : decode cL_errors 116 = .ok (.iconst 0, 1) := by decide +kernel
theorem dL_errors_117 : decode cL_errors 117 = .ok (.invokestatic 107, 3) := by decide +kernel
theorem dL_errors_120 : decode cL_errors 120 = .ok (.ldc2_w 29, 3) := by decide +kernel
theorem dL_errors_123 : decode cL_errors 123 = .ok (.lcmp, 1) := by decide +kernel
theorem dL_errors_124 : decode cL_errors 124 = .ok (.ifCond .ne 190, 3) := by decide +kernel
theorem dL_errors_127 : decode cL_errors 127 = .ok (.aload_n 0, 1) := by decide +kernel
theorem dL_errors_128 : decode cL_errors 128 = .ok (.iconst (-1), 1) := by decide +kernel
theorem dL_errors_129 : decode cL_errors 129 = .ok (.invokestatic 110, 3) := by decide +kernel
theorem dL_errors_132 : decode cL_errors 132 = .ok (.ldc2_w 17, 3) := by decide +kernel
theorem dL_errors_135 : decode cL_errors 135 = .ok (.lcmp, 1) := by decide +kernel
theorem dL_errors_136 : decode cL_errors 136 = .ok (.ifCond .ne 178, 3) := by decide +kernel
theorem dL_errors_139 : decode cL_errors 139 = .ok (.aload_n 0, 1) := by decide +kernel
theorem dL_errors_140 : decode cL_errors 140 = .ok (.bipush 9, 2) := by decide +kernel
theorem dL_errors_142 : decode cL_errors 142 = .ok (.invokestatic 110, 3) := by decide +kernel
theorem dL_errors_145 : decode cL_errors 145 = .ok (.ldc2_w 17, 3) := by decide +kernel
theorem dL_errors_148 : decode cL_errors 148 = .ok (.lcmp, 1) := by decide +kernel
theorem dL_errors_149 : decode cL_errors 149 = .ok (.ifCond .ne 165, 3) := by decide +kernel
theorem dL_errors_152 : decode cL_errors 152 = .ok (.aload_n 0, 1) := by decide +kernel
theorem dL_errors_153 : decode cL_errors 153 = .ok (.iload_n 3, 1) := by decide +kernel
theorem dL_errors_154 : decode cL_errors 154 = .ok (.invokestatic 112, 3) := by decide +kernel
theorem dL_errors_157 : decode cL_errors 157 = .ok (.ldc2_w 29, 3) := by decide +kernel
theorem dL_errors_160 : decode cL_errors 160 = .ok (.lcmp, 1) := by decide +kernel
theorem dL_errors_161 : decode cL_errors 161 = .ok (.ifCond .ne 153, 3) := by decide +kernel
theorem dL_errors_164 : decode cL_errors 164 = .ok (.aload_n 0, 1) := by decide +kernel
theorem dL_errors_165 : decode cL_errors 165 = .ok (.iconst (-1), 1) := by decide +kernel
theorem dL_errors_166 : decode cL_errors 166 = .ok (.invokestatic 114, 3) := by decide +kernel
theorem dL_errors_169 : decode cL_errors 169 = .ok (.ldc2_w 29, 3) := by decide +kernel
theorem dL_errors_172 : decode cL_errors 172 = .ok (.lcmp, 1) := by decide +kernel
theorem dL_errors_173 : decode cL_errors 173 = .ok (.ifCond .ne 141, 3) := by decide +kernel
theorem dL_errors_176 : decode cL_errors 176 = .ok (.aload_n 0, 1) := by decide +kernel
theorem dL_errors_177 : decode cL_errors 177 = .ok (.bipush 127, 2) := by decide +kernel
theorem dL_errors_179 : decode cL_errors 179 = .ok (.invokestatic 116, 3) := by decide +kernel
theorem dL_errors_182 : decode cL_errors 182 = .ok (.ldc2_w 17, 3) := by decide +kernel
theorem dL_errors_185 : decode cL_errors 185 = .ok (.lcmp, 1) := by decide +kernel
theorem dL_errors_186 : decode cL_errors 186 = .ok (.ifCond .ne 128, 3) := by decide +kernel
theorem dL_errors_189 : decode cL_errors 189 = .ok (.aload_n 0, 1) := by decide +kernel
theorem dL_errors_190 : decode cL_errors 190 = .ok (.iconst 2, 1) := by decide +kernel
theorem dL_errors_191 : decode cL_errors 191 = .ok (.invokestatic 118, 3) := by decide +kernel
theorem dL_errors_194 : decode cL_errors 194 = .ok (.ldc2_w 17, 3) := by decide +kernel
theorem dL_errors_197 : decode cL_errors 197 = .ok (.lcmp, 1) := by decide +kernel
theorem dL_errors_198 : decode cL_errors 198 = .ok (.ifCond .ne 116, 3) := by decide +kernel
theorem dL_errors_201 : decode cL_errors 201 = .ok (.aload_n 0, 1) := by decide +kernel
theorem dL_errors_202 : decode cL_errors 202 = .ok (.iconst (-1), 1) := by decide +kernel
theorem dL_errors_203 : decode cL_errors 203 = .ok (.invokestatic 120, 3) := by decide +kernel
theorem dL_errors_206 : decode cL_errors 206 = .ok (.ldc2_w 17, 3) := by decide +kernel
theorem dL_errors_209 : decode cL_errors 209 = .ok (.lcmp, 1) := by decide +kernel
theorem dL_errors_210 : decode cL_errors 210 = .ok (.ifCond .ne 104, 3) := by decide +kernel
theorem dL_errors_213 : decode cL_errors 213 = .ok (.aload_n 0, 1) := by decide +kernel
theorem dL_errors_214 : decode cL_errors 214 = .ok (.iload_n 3, 1) := by decide +kernel
theorem dL_errors_215 : decode cL_errors 215 = .ok (.invokestatic 122, 3) := by decide +kernel
theorem dL_errors_218 : decode cL_errors 218 = .ok (.ldc2_w 29, 3) := by decide +kernel
theorem dL_errors_221 : decode cL_errors 221 = .ok (.lcmp, 1) := by decide +kernel
theorem dL_errors_222 : decode cL_errors 222 = .ok (.ifCond .ne 92, 3) := by decide +kernel
theorem dL_errors_225 : decode cL_errors 225 = .ok (.aload_n 0, 1) := by decide +kernel
theorem dL_errors_226 : decode cL_errors 226 = .ok (.iconst (-1), 1) := by decide +kernel
theorem dL_errors_227 : decode cL_errors 227 = .ok (.invokestatic 124, 3) := by decide +kernel
theorem dL_errors_230 : decode cL_errors 230 = .ok (.ldc2_w 29, 3) := by decide +kernel
theorem dL_errors_233 : decode cL_errors 233 = .ok (.lcmp, 1) := by decide +kernel
theorem dL_errors_234 : decode cL_errors 234 = .ok (.ifCond .ne 80, 3) := by decide +kernel
theorem dL_errors_237 : decode cL_errors 237 = .ok (.aload_n 0, 1) := by decide +kernel
theorem dL_errors_238 : decode cL_errors 238 = .ok (.iload_n 3, 1) := by decide +kernel
theorem dL_errors_239 : decode cL_errors 239 = .ok (.invokestatic 126, 3) := by decide +kernel
theorem dL_errors_242 : decode cL_errors 242 = .ok (.ldc2_w 29, 3) := by decide +kernel
theorem dL_errors_245 : decode cL_errors 245 = .ok (.lcmp, 1) := by decide +kernel
theorem dL_errors_246 : decode cL_errors 246 = .ok (.ifCond .ne 68, 3) := by decide +kernel
theorem dL_errors_249 : decode cL_errors 249 = .ok (.aload_n 0, 1) := by decide +kernel
theorem dL_errors_250 : decode cL_errors 250 = .ok (.iload_n 3, 1) := by decide +kernel
theorem dL_errors_251 : decode cL_errors 251 = .ok (.invokestatic 128, 3) := by decide +kernel
theorem dL_errors_254 : decode cL_errors 254 = .ok (.ldc2_w 29, 3) := by decide +kernel
theorem dL_errors_257 : decode cL_errors 257 = .ok (.lcmp, 1) := by decide +kernel
theorem dL_errors_258 : decode cL_errors 258 = .ok (.ifCond .ne 56, 3) := by decide +kernel
theorem dL_errors_261 : decode cL_errors 261 = .ok (.aload_n 0, 1) := by decide +kernel
theorem dL_errors_262 : decode cL_errors 262 = .ok (.iload_n 3, 1) := by decide +kernel
theorem dL_errors_263 : decode cL_errors 263 = .ok (.iconst 0, 1) := by decide +kernel
theorem dL_errors_264 : decode cL_errors 264 = .ok (.invokestatic 130, 3) := by decide +kernel
theorem dL_errors_267 : decode cL_errors 267 = .ok (.ldc2_w 29, 3) := by decide +kernel
theorem dL_errors_270 : decode cL_errors 270 = .ok (.lcmp, 1) := by decide +kernel
theorem dL_errors_271 : decode cL_errors 271 = .ok (.ifCond .ne 43, 3) := by decide +kernel
theorem dL_errors_274 : decode cL_errors 274 = .ok (.aload_n 0, 1) := by decide +kernel
theorem dL_errors_275 : decode cL_errors 275 = .ok (.iload_n 3, 1) := by decide +kernel
theorem dL_errors_276 : decode cL_errors 276 = .ok (.invokestatic 133, 3) := by decide +kernel
theorem dL_errors_279 : decode cL_errors 279 = .ok (.ldc2_w 29, 3) := by decide +kernel
theorem dL_errors_282 : decode cL_errors 282 = .ok (.lcmp, 1) := by decide +kernel
theorem dL_errors_283 : decode cL_errors 283 = .ok (.ifCond .ne 31, 3) := by decide +kernel
theorem dL_errors_286 : decode cL_errors 286 = .ok (.aload_n 0, 1) := by decide +kernel
theorem dL_errors_287 : decode cL_errors 287 = .ok (.iconst (-1), 1) := by decide +kernel
theorem dL_errors_288 : decode cL_errors 288 = .ok (.invokestatic 135, 3) := by decide +kernel
theorem dL_errors_291 : decode cL_errors 291 = .ok (.ldc2_w 29, 3) := by decide +kernel
theorem dL_errors_294 : decode cL_errors 294 = .ok (.lcmp, 1) := by decide +kernel
theorem dL_errors_295 : decode cL_errors 295 = .ok (.ifCond .ne 19, 3) := by decide +kernel
theorem dL_errors_298 : decode cL_errors 298 = .ok (.aload_n 0, 1) := by decide +kernel
theorem dL_errors_299 : decode cL_errors 299 = .ok (.iload_n 3, 1) := by decide +kernel
theorem dL_errors_300 : decode cL_errors 300 = .ok (.invokestatic 137, 3) := by decide +kernel
theorem dL_errors_303 : decode cL_errors 303 = .ok (.ldc2_w 29, 3) := by decide +kernel
theorem dL_errors_306 : decode cL_errors 306 = .ok (.lcmp, 1) := by decide +kernel
theorem dL_errors_307 : decode cL_errors 307 = .ok (.ifCond .ne 7, 3) := by decide +kernel
theorem dL_errors_310 : decode cL_errors 310 = .ok (.iconst 1, 1) := by decide +kernel
theorem dL_errors_311 : decode cL_errors 311 = .ok (.goto 4, 3) := by decide +kernel
theorem dL_errors_314 : decode cL_errors 314 = .ok (.iconst 0, 1) := by decide +kernel
theorem dL_errors_315 : decode cL_errors 315 = .ok (.istore 4, 2) := by decide +kernel
theorem dL_errors_317 : decode cL_errors 317 = .ok (.iconst 0, 1) := by decide +kernel
theorem dL_errors_318 : decode cL_errors 318 = .ok (.istore 5, 2) := by decide +kernel
theorem dL_errors_320 : decode cL_errors 320 = .ok (.iload 5, 2) := by decide +kernel
theorem dL_errors_322 : decode cL_errors 322 = .ok (.iload_n 3, 1) := by decide +kernel
theorem dL_errors_323 : decode cL_errors 323 = .ok (.if_icmp .ge 232, 3) := by decide +kernel
theorem dL_errors_326 : decode cL_errors 326 = .ok (.iload 4, 2) := by decide +kernel
theorem dL_errors_328 : decode cL_errors 328 = .ok (.ifCond .eq 227, 3) := by decide +kernel
theorem dL_errors_331 : decode cL_errors 331 = .ok (.aload_n 0, 1) := by decide +kernel
theorem dL_errors_332 : decode cL_errors 332 = .ok (.iload 5, 2) := by decide +kernel
theorem dL_errors_334 : decode cL_errors 334 = .ok (.invokestatic 128, 3) := by decide +kernel
theorem dL_errors_337 : decode cL_errors 337 = .ok (.lconst 1, 1) := by decide +kernel
theorem dL_errors_338 : decode cL_errors 338 = .ok (.lcmp, 1) := by decide +kernel
theorem dL_errors_339 : decode cL_errors 339 = .ok (.ifCond .ne 7, 3) := by decide +kernel
theorem dL_errors_342 : decode cL_errors 342 = .ok (.iconst 1, 1) := by decide +kernel
theorem dL_errors_343 : decode cL_errors 343 = .ok (.goto 4, 3) := by decide +kernel
theorem dL_errors_346 : decode cL_errors 346 = .ok (.iconst 0, 1) := by decide +kernel
theorem dL_errors_347 : decode cL_errors 347 = .ok (.istore 6, 2) := by decide +kernel
theorem dL_errors_349 : decode cL_errors 349 = .ok (.aload_n 0, 1) := by decide +kernel
theorem dL_errors_350 : decode cL_errors 350 = .ok (.iload 5, 2) := by decide +kernel
theorem dL_errors_352 : decode cL_errors 352 = .ok (.bipush 9, 2) := by decide +kernel
theorem dL_errors_354 : decode cL_errors 354 = .ok (.bipush 9, 2) := by decide +kernel
theorem dL_errors_356 : decode cL_errors 356 = .ok (.invokestatic 105, 3) := by decide +kernel
theorem dL_errors_359 : decode cL_errors 359 = .ok (.ldc2_w 17, 3) := by decide +kernel
theorem dL_errors_362 : decode cL_errors 362 = .ok (.lcmp, 1) := by decide +kernel
theorem dL_errors_363 : decode cL_errors 363 = .ok (.ifCond .ne 99, 3) := by decide +kernel
theorem dL_errors_366 : decode cL_errors 366 = .ok (.aload_n 0, 1) := by decide +kernel
theorem dL_errors_367 : decode cL_errors 367 = .ok (.iload 5, 2) := by decide +kernel
theorem dL_errors_369 : decode cL_errors 369 = .ok (.iconst 0, 1) := by decide +kernel
theorem dL_errors_370 : decode cL_errors 370 = .ok (.bipush 97, 2) := by decide +kernel
theorem dL_errors_372 : decode cL_errors 372 = .ok (.invokestatic 105, 3) := by decide +kernel
theorem dL_errors_375 : decode cL_errors 375 = .ok (.ldc2_w 17, 3) := by decide +kernel
theorem dL_errors_378 : decode cL_errors 378 = .ok (.lcmp, 1) := by decide +kernel
theorem dL_errors_379 : decode cL_errors 379 = .ok (.ifCond .ne 83, 3) := by decide +kernel
theorem dL_errors_382 : decode cL_errors 382 = .ok (.aload_n 0, 1) := by decide +kernel
theorem dL_errors_383 : decode cL_errors 383 = .ok (.iload 5, 2) := by decide +kernel
theorem dL_errors_385 : decode cL_errors 385 = .ok (.bipush 51, 2) := by decide +kernel
theorem dL_errors_387 : decode cL_errors 387 = .ok (.invokestatic 107, 3) := by decide +kernel
theorem dL_errors_390 : decode cL_errors 390 = .ok (.ldc2_w 17, 3) := by decide +kernel
theorem dL_errors_393 : decode cL_errors 393 = .ok (.lcmp, 1) := by decide +kernel
theorem dL_errors_394 : decode cL_errors 394 = .ok (.ifCond .ne 68, 3) := by decide +kernel
theorem dL_errors_397 : decode cL_errors 397 = .ok (.aload_n 0, 1) := by decide +kernel
theorem dL_errors_398 : decode cL_errors 398 = .ok (.iload 5, 2) := by decide +kernel
theorem dL_errors_400 : decode cL_errors 400 = .ok (.iload 5, 2) := by decide +kernel
theorem dL_errors_402 : decode cL_errors 402 = .ok (.invokestatic 130, 3) := by decide +kernel
theorem dL_errors_405 : decode cL_errors 405 = .ok (.lconst 0, 1) := by decide +kernel
theorem dL_errors_406 : decode cL_errors 406 = .ok (.lcmp, 1) := by decide +kernel
theorem dL_errors_407 : decode cL_errors 407 = .ok (.ifCond .ne 55, 3) := by decide +kernel
theorem dL_errors_410 : decode cL_errors 410 = .ok (.aload_n 0, 1) := by decide +kernel
theorem dL_errors_411 : decode cL_errors 411 = .ok (.iload 5, 2) := by decide +kernel
theorem dL_errors_413 : decode cL_errors 413 = .ok (.iload_n 3, 1) := by decide +kernel
theorem dL_errors_414 : decode cL_errors 414 = .ok (.invokestatic 130, 3) := by decide +kernel
theorem dL_errors_417 : decode cL_errors 417 = .ok (.ldc2_w 29, 3) := by decide +kernel
theorem dL_errors_420 : decode cL_errors 420 = .ok (.lcmp, 1) := by decide +kernel
theorem dL_errors_421 : decode cL_errors 421 = .ok (.ifCond .ne 41, 3) := by decide +kernel
theorem dL_errors_424 : decode cL_errors 424 = .ok (.iload 6, 2) := by decide +kernel
theorem dL_errors_426 : decode cL_errors 426 = .ok (.ifCond .eq 19, 3) := by decide +kernel
theorem dL_errors_429 : decode cL_errors 429 = .ok (.aload_n 0, 1) := by decide +kernel
theorem dL_errors_430 : decode cL_errors 430 = .ok (.iload 5, 2) := by decide +kernel
theorem dL_errors_432 : decode cL_errors 432 = .ok (.invokestatic 112, 3) := by decide +kernel
theorem dL_errors_435 : decode cL_errors 435 = .ok (.ldc2_w 21, 3) := by decide +kernel
theorem dL_errors_438 : decode cL_errors 438 = .ok (.lcmp, 1) := by decide +kernel
theorem dL_errors_439 : decode cL_errors 439 = .ok (.ifCond .ne 23, 3) := by decide +kernel
theorem dL_errors_442 : decode cL_errors 442 = .ok (.goto 16, 3) := by decide +kernel
theorem dL_errors_445 : decode cL_errors 445 = .ok (.aload_n 0, 1) := by decide +kernel
theorem dL_errors_446 : decode cL_errors 446 = .ok (.iload 5, 2) := by decide +kernel
theorem dL_errors_448 : decode cL_errors 448 = .ok (.invokestatic 114, 3) := by decide +kernel
theorem dL_errors_451 : decode cL_errors 451 = .ok (.ldc2_w 21, 3) := by decide +kernel
theorem dL_errors_454 : decode cL_errors 454 = .ok (.lcmp, 1) := by decide +kernel
theorem dL_errors_455 : decode cL_errors 455 = .ok (.ifCond .ne 7, 3) := by decide +kernel
theorem dL_errors_458 : decode cL_errors 458 = .ok (.iconst 1, 1) := by decide +kernel
theorem dL_errors_459 : decode cL_errors 459 = .ok (.goto 4, 3) := by decide +kernel
theorem dL_errors_462 : decode cL_errors 462 = .ok (.iconst 0, 1) := by decide +kernel
theorem dL_errors_463 : decode cL_errors 463 = .ok (.istore 4, 2) := by decide +kernel
theorem dL_errors_465 : decode cL_errors 465 = .ok (.iconst 0, 1) := by decide +kernel
theorem dL_errors_466 : decode cL_errors 466 = .ok (.istore 7, 2) := by decide +kernel
theorem dL_errors_468 : decode cL_errors 468 = .ok (.iload 7, 2) := by decide +kernel
theorem dL_errors_470 : decode cL_errors 470 = .ok (.iload_n 3, 1) := by decide +kernel
theorem dL_errors_471 : decode cL_errors 471 = .ok (.if_icmp .ge 78, 3) := by decide +kernel
theorem dL_errors_474 : decode cL_errors 474 = .ok (.iload 4, 2) := by decide +kernel
theorem dL_errors_476 : decode cL_errors 476 = .ok (.ifCond .eq 73, 3) := by decide +kernel
theorem dL_errors_479 : decode cL_errors 479 = .ok (.aload_n 0, 1) := by decide +kernel
theorem dL_errors_480 : decode cL_errors 480 = .ok (.iload 5, 2) := by decide +kernel
theorem dL_errors_482 : decode cL_errors 482 = .ok (.iload 7, 2) := by decide +kernel
theorem dL_errors_484 : decode cL_errors 484 = .ok (.invokestatic 130, 3) := by decide +kernel
theorem dL_errors_487 : decode cL_errors 487 = .ok (.aload_n 0, 1) := by decide +kernel
theorem dL_errors_488 : decode cL_errors 488 = .ok (.iload 7, 2) := by decide +kernel
theorem dL_errors_490 : decode cL_errors 490 = .ok (.iload 5, 2) := by decide +kernel
theorem dL_errors_492 : decode cL_errors 492 = .ok (.invokestatic 130, 3) := by decide +kernel
theorem dL_errors_495 : decode cL_errors 495 = .ok (.lcmp, 1) := by decide +kernel
theorem dL_errors_496 : decode cL_errors 496 = .ok (.ifCond .ne 44, 3) := by decide +kernel
theorem dL_errors_499 : decode cL_errors 499 = .ok (.aload_n 0, 1) := by decide +kernel
theorem dL_errors_500 : decode cL_errors 500 = .ok (.iload 5, 2) := by decide +kernel
theorem dL_errors_502 : decode cL_errors 502 = .ok (.iload 7, 2) := by decide +kernel
theorem dL_errors_504 : decode cL_errors 504 = .ok (.invokestatic 130, 3) := by decide +kernel
theorem dL_errors_507 : decode cL_errors 507 = .ok (.lconst 0, 1) := by decide +kernel
theorem dL_errors_508 : decode cL_errors 508 = .ok (.lcmp, 1) := by decide +kernel
theorem dL_errors_509 : decode cL_errors 509 = .ok (.ifCond .eq 27, 3) := by decide +kernel
theorem dL_errors_512 : decode cL_errors 512 = .ok (.aload_n 0, 1) := by decide +kernel
theorem dL_errors_513 : decode cL_errors 513 = .ok (.iload 7, 2) := by decide +kernel
theorem dL_errors_515 : decode cL_errors 515 = .ok (.invokestatic 128, 3) := by decide +kernel
theorem dL_errors_518 : decode cL_errors 518 = .ok (.lconst 0, 1) := by decide +kernel
theorem dL_errors_519 : decode cL_errors 519 = .ok (.lcmp, 1) := by decide +kernel
theorem dL_errors_520 : decode cL_errors 520 = .ok (.ifCond .eq 16, 3) := by decide +kernel
theorem dL_errors_523 : decode cL_errors 523 = .ok (.aload_n 0, 1) := by decide +kernel
theorem dL_errors_524 : decode cL_errors 524 = .ok (.iload 5, 2) := by decide +kernel
theorem dL_errors_526 : decode cL_errors 526 = .ok (.invokestatic 112, 3) := by decide +kernel
theorem dL_errors_529 : decode cL_errors 529 = .ok (.ldc2_w 21, 3) := by decide +kernel
theorem dL_errors_532 : decode cL_errors 532 = .ok (.lcmp, 1) := by decide +kernel
theorem dL_errors_533 : decode cL_errors 533 = .ok (.ifCond .ne 7, 3) := by decide +kernel
theorem dL_errors_536 : decode cL_errors 536 = .ok (.iconst 1, 1) := by decide +kernel
theorem dL_errors_537 : decode cL_errors 537 = .ok (.goto 4, 3) := by decide +kernel
theorem dL_errors_540 : decode cL_errors 540 = .ok (.iconst 0, 1) := by decide +kernel
theorem dL_errors_541 : decode cL_errors 541 = .ok (.istore 4, 2) := by decide +kernel
theorem dL_errors_543 : decode cL_errors 543 = .ok (.iinc 7 1, 3) := by decide +kernel
theorem dL_errors_546 : decode cL_errors 546 = .ok (.goto (-78), 3) := by decide +kernel
theorem dL_errors_549 : decode cL_errors 549 = .ok (.iinc 5 1, 3) := by decide +kernel
theorem dL_errors_552 : decode cL_errors 552 = .ok (.goto (-232), 3) := by decide +kernel
theorem dL_errors_555 : decode cL_errors 555 = .ok (.iload 4, 2) := by decide +kernel
theorem dL_errors_557 : decode cL_errors 557 = .ok (.ifCond .eq 16, 3) := by decide +kernel
theorem dL_errors_560 : decode cL_errors 560 = .ok (.aload_n 0, 1) := by decide +kernel
theorem dL_errors_561 : decode cL_errors 561 = .ok (.invokevirtual 90, 3) := by decide +kernel
theorem dL_errors_564 : decode cL_errors 564 = .ok (.lload_n 1, 1) := by decide +kernel
theorem dL_errors_565 : decode cL_errors 565 = .ok (.lcmp, 1) := by decide +kernel
theorem dL_errors_566 : decode cL_errors 566 = .ok (.ifCond .ne 7, 3) := by decide +kernel
theorem dL_errors_569 : decode cL_errors 569 = .ok (.iconst 1, 1) := by decide +kernel
theorem dL_errors_570 : decode cL_errors 570 = .ok (.goto 4, 3) := by decide +kernel
theorem dL_errors_573 : decode cL_errors 573 = .ok (.iconst 0, 1) := by decide +kernel
theorem dL_errors_574 : decode cL_errors 574 = .ok (.ireturn, 1) := by decide +kernel
set_option maxRecDepth 20000 in
theorem ggL_kept_X5_rehearsals : GoodIn wsL_kept wsX5_rehearsals := goodIn_r _ [8, 9, 10, 255, 256, 257, 258, 259, 260, 261, 262, 263, 264, 265, 266, 267] (by decide +kernel) (by decide +kernel)
set_option maxRecDepth 20000 in
theorem gL_kept_X5_rehearsals : GoodIn wsL_kept (wsV RL 94 RX5 yX5_rehearsals wsX5_rehearsals) := goodIn_app (goodIn_of _ (by decide +kernel)) ggL_kept_X5_rehearsals
set_option maxRecDepth 20000 in
theorem ggL_kept_X5_bestChoice : GoodIn wsL_kept wsX5_bestChoice := goodIn_r _ [14, 15, 9, 16, 17, 18, 19, 20, 21, 22, 23, 24, 25, 26, 27, 28, 7, 29, 30, 31, 32, 33, 34, 35, 36, 37, 38, 39, 40, 41, 42, 43, 44, 45, 46, 47, 48, 49, 50, 51, 52, 255, 256, 257, 258, 259, 260, 261, 262, 263, 264, 265, 266, 267, 268, 269, 270] (by decide +kernel) (by decide +kernel)
set_option maxRecDepth 20000 in
theorem gL_kept_X5_bestChoice : GoodIn wsL_kept (wsV RL 139 RX5 yX5_bestChoice wsX5_bestChoice) := goodIn_app (goodIn_of _ (by decide +kernel)) ggL_kept_X5_bestChoice
set_option maxRecDepth 20000 in
theorem ggL_kept_X5_conflictsByPairs : GoodIn wsL_kept wsX5_conflictsByPairs := goodIn_r _ [56, 9, 10, 57, 58, 59, 25, 60, 61, 62, 63, 64, 65, 66, 67, 255, 256, 257, 258, 259, 260, 261, 262, 263, 264, 265, 266, 267] (by decide +kernel) (by decide +kernel)
set_option maxRecDepth 20000 in
theorem gL_kept_X5_conflictsByPairs : GoodIn wsL_kept (wsV RL 142 RX5 yX5_conflictsByPairs wsX5_conflictsByPairs) := goodIn_app (goodIn_of _ (by decide +kernel)) ggL_kept_X5_conflictsByPairs
set_option maxRecDepth 20000 in
theorem ggL_kept_X5_conflictsBySweep : GoodIn wsL_kept wsX5_conflictsBySweep := goodIn_r _ [71, 72, 9, 73, 74, 75, 76, 77, 78, 79, 80, 25, 81, 27, 62, 63, 82, 83, 84, 85, 61, 255, 256, 257, 258, 259, 260, 261, 262, 263, 264, 265, 266, 267] (by decide +kernel) (by decide +kernel)
set_option maxRecDepth 20000 in
theorem gL_kept_X5_conflictsBySweep : GoodIn wsL_kept (wsV RL 145 RX5 yX5_conflictsBySweep wsX5_conflictsBySweep) := goodIn_app (goodIn_of _ (by decide +kernel)) ggL_kept_X5_conflictsBySweep
set_option maxRecDepth 20000 in
theorem ggL_kept_X5_roomsBySweep : GoodIn wsL_kept wsX5_roomsBySweep := goodIn_r _ [89, 72, 9, 90, 91, 92, 76, 93, 94, 40, 41, 42, 82, 83, 84, 25, 85, 27, 61, 78, 79, 80, 81, 62, 63, 255, 256, 257, 258, 259, 260, 261, 262, 263, 264, 265, 266, 267] (by decide +kernel) (by decide +kernel)
set_option maxRecDepth 20000 in
theorem gL_kept_X5_roomsBySweep : GoodIn wsL_kept (wsV RL 148 RX5 yX5_roomsBySweep wsX5_roomsBySweep) := goodIn_app (goodIn_of _ (by decide +kernel)) ggL_kept_X5_roomsBySweep
set_option maxRecDepth 20000 in
theorem ggL_kept_X5_roomsByGiving : GoodIn wsL_kept wsX5_roomsByGiving := goodIn_r _ [98, 72, 9, 99, 100, 101, 76, 102, 103, 104, 94, 40, 41, 42, 105, 106, 107, 108, 109, 110, 43, 7, 44, 111, 112, 113, 114, 115, 58, 59, 25, 60, 61, 62, 63, 64, 65, 66, 67, 28, 29, 45, 46, 47, 255, 256, 257, 258, 259, 260, 261, 262, 263, 264, 265, 266, 267, 271, 272] (by decide +kernel) (by decide +kernel)
set_option maxRecDepth 20000 in
theorem gL_kept_X5_roomsByGiving : GoodIn wsL_kept (wsV RL 151 RX5 yX5_roomsByGiving wsX5_roomsByGiving) := goodIn_app (goodIn_of _ (by decide +kernel)) ggL_kept_X5_roomsByGiving
set_option maxRecDepth 20000 in
theorem ggL_kept_X5_bestByTrying : GoodIn wsL_kept wsX5_bestByTrying := goodIn_r _ [119, 15, 9, 120, 121, 122, 19, 123, 21, 124, 37, 125, 126, 127, 25, 128, 27, 129, 58, 59, 60, 61, 62, 63, 64, 65, 66, 67, 28, 7, 29, 130, 131, 132, 39, 40, 41, 42, 45, 46, 47, 255, 256, 257, 258, 259, 260, 261, 262, 263, 264, 265, 266, 267, 268, 269, 270] (by decide +kernel) (by decide +kernel)
set_option maxRecDepth 20000 in
theorem gL_kept_X5_bestByTrying : GoodIn wsL_kept (wsV RL 154 RX5 yX5_bestByTrying wsX5_bestByTrying) := goodIn_app (goodIn_of _ (by decide +kernel)) ggL_kept_X5_bestByTrying
set_option maxRecDepth 20000 in
theorem ggL_kept_X5_bestByTable : GoodIn wsL_kept wsX5_bestByTable := goodIn_r _ [136, 15, 9, 137, 23, 24, 25, 26, 27, 28, 7, 29, 138, 31, 32, 19, 33, 34, 21, 35, 36, 37, 38, 39, 40, 41, 42, 43, 44, 45, 46, 47, 48, 49, 50, 51, 52, 255, 256, 257, 258, 259, 260, 261, 262, 263, 264, 265, 266, 267, 268, 269, 270] (by decide +kernel) (by decide +kernel)
set_option maxRecDepth 20000 in
theorem gL_kept_X5_bestByTable : GoodIn wsL_kept (wsV RL 157 RX5 yX5_bestByTable wsX5_bestByTable) := goodIn_app (goodIn_of _ (by decide +kernel)) ggL_kept_X5_bestByTable
set_option maxRecDepth 20000 in
theorem ggL_kept_X5_bookedFame : GoodIn wsL_kept wsX5_bookedFame := goodIn_r _ [142, 9, 143, 144, 145, 146, 25, 147, 27, 148, 45, 7, 46, 47, 28, 29, 255, 256, 257, 258, 259, 260, 261, 262, 263, 264, 265, 266, 267] (by decide +kernel) (by decide +kernel)
set_option maxRecDepth 20000 in
theorem gL_kept_X5_bookedFame : GoodIn wsL_kept (wsV RL 160 RX5 yX5_bookedFame wsX5_bookedFame) := goodIn_app (goodIn_of _ (by decide +kernel)) ggL_kept_X5_bookedFame
set_option maxRecDepth 20000 in
theorem ggL_kept_X5_booked : GoodIn wsL_kept wsX5_booked := goodIn_r _ [152, 9, 143, 153, 154, 155, 156, 157, 158, 159, 255, 256, 257, 258, 259, 260, 261, 262, 263, 264, 265, 266, 267] (by decide +kernel) (by decide +kernel)
set_option maxRecDepth 20000 in
theorem gL_kept_X5_booked : GoodIn wsL_kept (wsV RL 163 RX5 yX5_booked wsX5_booked) := goodIn_app (goodIn_of _ (by decide +kernel)) ggL_kept_X5_booked
set_option maxRecDepth 20000 in
theorem ggL_kept_X5_mostRehearsals : GoodIn wsL_kept wsX5_mostRehearsals := goodIn_r _ [163, 15, 9, 164, 165, 166, 19, 167, 34, 21, 35, 38, 52, 43, 7, 44, 255, 256, 257, 258, 259, 260, 261, 262, 263, 264, 265, 266, 267, 268, 269, 270] (by decide +kernel) (by decide +kernel)
set_option maxRecDepth 20000 in
theorem gL_kept_X5_mostRehearsals : GoodIn wsL_kept (wsV RL 166 RX5 yX5_mostRehearsals wsX5_mostRehearsals) := goodIn_app (goodIn_of _ (by decide +kernel)) ggL_kept_X5_mostRehearsals
set_option maxRecDepth 20000 in
theorem ggL_kept_X5_savedStates : GoodIn wsL_kept wsX5_savedStates := goodIn_r _ [171, 172, 173, 255, 256, 257, 258, 259, 260, 261, 273, 274, 275] (by decide +kernel) (by decide +kernel)
set_option maxRecDepth 20000 in
theorem gL_kept_X5_savedStates : GoodIn wsL_kept (wsV RL 169 RX5 yX5_savedStates wsX5_savedStates) := goodIn_app (goodIn_of _ (by decide +kernel)) ggL_kept_X5_savedStates
set_option maxRecDepth 20000 in
theorem ggL_kept_L_in : GoodIn wsL_kept wsL_in := goodIn_r _ [177] (by decide +kernel) (by decide +kernel)
set_option maxRecDepth 20000 in
theorem gL_kept_L_in : GoodIn wsL_kept (va_wsS RL 174 yL_in wsL_in) := goodIn_app (goodIn_of _ (by decide +kernel)) ggL_kept_L_in
set_option maxRecDepth 20000 in
theorem ggL_kept_L_isBooked : GoodIn wsL_kept wsL_isBooked := goodIn_ca (goodIn_r _ [180, 181, 182, 183, 184, 185, 7, 186, 9, 187, 188, 189, 190, 191, 192, 10, 193, 194, 195, 25, 196, 197, 45, 46, 47, 28, 29, 255, 256, 257, 258, 259, 260, 261, 262, 263, 264, 265, 266, 267] (by decide +kernel) (by decide +kernel)) (goodIn_sub (fun _ h => List.mem_cons_of_mem _ (List.mem_append_right _ h)) (by decide +kernel))
set_option maxRecDepth 20000 in
theorem gL_kept_L_isBooked : GoodIn wsL_kept (va_wsS RL 128 yL_isBooked wsL_isBooked) := goodIn_app (goodIn_of _ (by decide +kernel)) ggL_kept_L_isBooked
set_option maxRecDepth 20000 in
theorem ggL_kept_L_fameOf : GoodIn wsL_kept wsL_fameOf := goodIn_ca (goodIn_r _ [200, 181, 182, 201, 202, 203, 7, 204, 9, 205, 187, 188, 189, 190, 191, 192, 10, 255, 256, 257, 258, 259, 260, 261, 262, 263, 264, 265, 266, 267] (by decide +kernel) (by decide +kernel)) (goodIn_sub (fun _ h => List.mem_cons_of_mem _ (List.mem_append_right _ h)) (by decide +kernel))
set_option maxRecDepth 20000 in
theorem gL_kept_L_fameOf : GoodIn wsL_kept (va_wsS RL 126 yL_fameOf wsL_fameOf) := goodIn_app (goodIn_of _ (by decide +kernel)) ggL_kept_L_fameOf
set_option maxRecDepth 20000 in
theorem ggL_kept_L_roomOf : GoodIn wsL_kept wsL_roomOf := goodIn_ca (goodIn_r _ [208, 181, 182, 209, 210, 211, 7, 212, 72, 9, 187, 188, 189, 190, 191, 192, 10, 213, 214, 215, 76, 216, 104, 105, 106, 107, 108, 109, 103, 110, 43, 44, 111, 112, 113, 114, 115, 58, 59, 25, 60, 61, 62, 63, 64, 65, 66, 67, 28, 29, 45, 46, 47, 255, 256, 257, 258, 259, 260, 261, 262, 263, 264, 265, 266, 267, 271, 272] (by decide +kernel) (by decide +kernel)) (goodIn_sub (fun _ h => List.mem_cons_of_mem _ (List.mem_append_right _ h)) (by decide +kernel))
set_option maxRecDepth 20000 in
theorem gL_kept_L_roomOf : GoodIn wsL_kept (va_wsS RL 135 yL_roomOf wsL_roomOf) := goodIn_app (goodIn_of _ (by decide +kernel)) ggL_kept_L_roomOf
set_option maxRecDepth 20000 in
theorem ggL_kept_L_conflict : GoodIn wsL_kept wsL_conflict := goodIn_ca (goodIn_r _ [219, 181, 182, 220, 221, 222, 7, 223, 9, 187, 188, 189, 190, 191, 192, 10, 57, 58, 59, 25, 60, 61, 62, 63, 64, 65, 66, 67, 255, 256, 257, 258, 259, 260, 261, 262, 263, 264, 265, 266, 267] (by decide +kernel) (by decide +kernel)) (goodIn_sub (fun _ h => List.mem_cons_of_mem _ (List.mem_append_right _ h)) (by decide +kernel))
set_option maxRecDepth 20000 in
theorem gL_kept_L_conflict : GoodIn wsL_kept (va_wsS RL 130 yL_conflict wsL_conflict) := goodIn_app (goodIn_of _ (by decide +kernel)) ggL_kept_L_conflict
set_option maxRecDepth 20000 in
theorem ggL_kept_L_conflictsOf : GoodIn wsL_kept wsL_conflictsOf := goodIn_ca (goodIn_r _ [226, 181, 182, 227, 228, 229, 7, 230, 9, 187, 188, 189, 190, 191, 192, 10, 231, 126, 127, 25, 128, 27, 129, 58, 59, 60, 61, 62, 63, 64, 65, 66, 67, 28, 29, 153, 154, 155, 156, 157, 158, 159, 255, 256, 257, 258, 259, 260, 261, 262, 263, 264, 265, 266, 267] (by decide +kernel) (by decide +kernel)) (goodIn_sub (fun _ h => List.mem_cons_of_mem _ (List.mem_append_right _ h)) (by decide +kernel))
set_option maxRecDepth 20000 in
theorem gL_kept_L_conflictsOf : GoodIn wsL_kept (va_wsS RL 133 yL_conflictsOf wsL_conflictsOf) := goodIn_app (goodIn_of _ (by decide +kernel)) ggL_kept_L_conflictsOf
set_option maxRecDepth 20000 in
theorem ggL_kept_L_beginOf : GoodIn wsL_kept wsL_beginOf := goodIn_ca (goodIn_r _ [234, 181, 182, 235, 236, 237, 7, 238, 9, 239, 187, 188, 189, 190, 191, 192, 10, 255, 256, 257, 258, 259, 260, 261, 262, 263, 264, 265, 266, 267] (by decide +kernel) (by decide +kernel)) (goodIn_sub (fun _ h => List.mem_cons_of_mem _ (List.mem_append_right _ h)) (by decide +kernel))
set_option maxRecDepth 20000 in
theorem gL_kept_L_beginOf : GoodIn wsL_kept (va_wsS RL 122 yL_beginOf wsL_beginOf) := goodIn_app (goodIn_of _ (by decide +kernel)) ggL_kept_L_beginOf
set_option maxRecDepth 20000 in
theorem ggL_kept_L_endOf : GoodIn wsL_kept wsL_endOf := goodIn_ca (goodIn_r _ [242, 181, 182, 243, 244, 245, 7, 246, 9, 247, 187, 188, 189, 190, 191, 192, 10, 255, 256, 257, 258, 259, 260, 261, 262, 263, 264, 265, 266, 267] (by decide +kernel) (by decide +kernel)) (goodIn_sub (fun _ h => List.mem_cons_of_mem _ (List.mem_append_right _ h)) (by decide +kernel))
set_option maxRecDepth 20000 in
theorem gL_kept_L_endOf : GoodIn wsL_kept (va_wsS RL 124 yL_endOf wsL_endOf) := goodIn_app (goodIn_of _ (by decide +kernel)) ggL_kept_L_endOf
set_option maxRecDepth 20000 in
theorem ggL_kept_L_bestWith : GoodIn wsL_kept wsL_bestWith := goodIn_ca (goodIn_r _ [250, 181, 182, 251, 252, 253, 7, 254, 9, 205, 15, 187, 188, 189, 190, 191, 192, 10, 137, 23, 24, 25, 26, 27, 28, 29, 47, 231, 126, 127, 128, 129, 58, 59, 60, 61, 62, 63, 64, 65, 66, 67, 138, 31, 32, 19, 33, 34, 21, 35, 36, 37, 38, 39, 40, 41, 42, 43, 44, 45, 46, 48, 49, 50, 51, 52, 255, 256, 257, 258, 259, 260, 261, 262, 263, 264, 265, 266, 267, 268, 269, 270] (by decide +kernel) (by decide +kernel)) (goodIn_sub (fun _ h => List.mem_cons_of_mem _ (List.mem_append_right _ h)) (by decide +kernel))
set_option maxRecDepth 20000 in
theorem gL_kept_L_bestWith : GoodIn wsL_kept (va_wsS RL 137 yL_bestWith wsL_bestWith) := goodIn_app (goodIn_of _ (by decide +kernel)) ggL_kept_L_bestWith
theorem dL_kept_0 : decode cL_kept 0 = .ok (.aload_n 0, 1) := by decide +kernel
theorem dL_kept_1 : decode cL_kept 1 = .ok (.invokevirtual 94, 3) := by decide +kernel
theorem dL_kept_4 : decode cL_kept 4 = .ok (.istore_n 1, 1) := by decide +kernel
theorem dL_kept_5 : decode cL_kept 5 = .ok (.aload_n 0, 1) := by decide +kernel
theorem dL_kept_6 : decode cL_kept 6 = .ok (.invokevirtual 139, 3) := by decide +kernel
theorem dL_kept_9 : decode cL_kept 9 = .ok (.istore_n 2, 1) := by decide +kernel
theorem dL_kept_10 : decode cL_kept 10 = .ok (.aload_n 0, 1) := by decide +kernel
theorem dL_kept_11 : decode cL_kept 11 = .ok (.invokevirtual 142, 3) := by decide +kernel
theorem dL_kept_14 : decode cL_kept 14 = .ok (.aload_n 0, 1) := by decide +kernel
theorem dL_kept_15 : decode cL_kept 15 = .ok (.invokevirtual 145, 3) := by decide +kernel
theorem dL_kept_18 : decode cL_kept 18 = .ok (.if_icmp .ne 130, 3) := by decide +kernel
theorem dL_kept_21 : decode cL_kept 21 = .ok (.aload_n 0, 1) := by decide +kernel
theorem dL_kept_22 : decode cL_kept 22 = .ok (.invokevirtual 148, 3) := by decide +kernel
theorem dL_kept_25 : decode cL_kept 25 = .ok (.aload_n 0, 1) := by decide +kernel
theorem dL_kept_26 : decode cL_kept 26 = .ok (.invokevirtual 151, 3) := by decide +kernel
theorem dL_kept_29 : decode cL_kept 29 = .ok (.if_icmp .ne 119, 3) := by decide +kernel
theorem dL_kept_32 : decode cL_kept 32 = .ok (.aload_n 0, 1) := by decide +kernel
theorem dL_kept_33 : decode cL_kept 33 = .ok (.invokevirtual 154, 3) := by decide +kernel
theorem dL_kept_36 : decode cL_kept 36 = .ok (.aload_n 0, 1) := by decide +kernel
theorem dL_kept_37 : decode cL_kept 37 = .ok (.invokevirtual 157, 3) := by decide +kernel
theorem dL_kept_40 : decode cL_kept 40 = .ok (.if_icmp .ne 108, 3) := by decide +kernel
theorem dL_kept_43 : decode cL_kept 43 = .ok (.aload_n 0, 1) := by decide +kernel
theorem dL_kept_44 : decode cL_kept 44 = .ok (.invokevirtual 160, 3) := by decide +kernel
theorem dL_kept_47 : decode cL_kept 47 = .ok (.aload_n 0, 1) := by decide +kernel
theorem dL_kept_48 : decode cL_kept 48 = .ok (.invokevirtual 157, 3) := by decide +kernel
theorem dL_kept_51 : decode cL_kept 51 = .ok (.if_icmp .gt 97, 3) := by decide +kernel
theorem dL_kept_54 : decode cL_kept 54 = .ok (.aload_n 0, 1) := by decide +kernel
theorem dL_kept_55 : decode cL_kept 55 = .ok (.invokevirtual 163, 3) := by decide +kernel
theorem dL_kept_58 : decode cL_kept 58 = .ok (.aload_n 0, 1) := by decide +kernel
theorem dL_kept_59 : decode cL_kept 59 = .ok (.invokevirtual 166, 3) := by decide +kernel
theorem dL_kept_62 : decode cL_kept 62 = .ok (.if_icmp .gt 86, 3) := by decide +kernel
theorem dL_kept_65 : decode cL_kept 65 = .ok (.aload_n 0, 1) := by decide +kernel
theorem dL_kept_66 : decode cL_kept 66 = .ok (.invokevirtual 169, 3) := by decide +kernel
theorem dL_kept_69 : decode cL_kept 69 = .ok (.i2l, 1) := by decide +kernel
theorem dL_kept_70 : decode cL_kept 70 = .ok (.lconst 0, 1) := by decide +kernel
theorem dL_kept_71 : decode cL_kept 71 = .ok (.ldc2_w 172, 3) := by decide +kernel
theorem dL_kept_74 : decode cL_kept 74 = .ok (.invokestatic 174, 3) := by decide +kernel
theorem dL_kept_77 : decode cL_kept 77 = .ok (.ifCond .eq 71, 3) := by decide +kernel
theorem dL_kept_80 : decode cL_kept 80 = .ok (.iload_n 1, 1) := by decide +kernel
theorem dL_kept_81 : decode cL_kept 81 = .ok (.i2l, 1) := by decide +kernel
theorem dL_kept_82 : decode cL_kept 82 = .ok (.lconst 0, 1) := by decide +kernel
theorem dL_kept_83 : decode cL_kept 83 = .ok (.ldc2_w 178, 3) := by decide +kernel
theorem dL_kept_86 : decode cL_kept 86 = .ok (.invokestatic 174, 3) := by decide +kernel
theorem dL_kept_89 : decode cL_kept 89 = .ok (.ifCond .eq 59, 3) := by decide +kernel
theorem dL_kept_92 : decode cL_kept 92 = .ok (.iload_n 1, 1) := by decide +kernel
theorem dL_kept_93 : decode cL_kept 93 = .ok (.ifCond .ne 7, 3) := by decide +kernel
theorem dL_kept_96 : decode cL_kept 96 = .ok (.iconst 1, 1) := by decide +kernel
theorem dL_kept_97 : decode cL_kept 97 = .ok (.goto 4, 3) := by decide +kernel
theorem dL_kept_100 : decode cL_kept 100 = .ok (.iconst 0, 1) := by decide +kernel
theorem dL_kept_101 : decode cL_kept 101 = .ok (.aload_n 0, 1) := by decide +kernel
theorem dL_kept_102 : decode cL_kept 102 = .ok (.invokevirtual 166, 3) := by decide +kernel
theorem dL_kept_105 : decode cL_kept 105 = .ok (.ifCond .ne 7, 3) := by decide +kernel
theorem dL_kept_108 : decode cL_kept 108 = .ok (.iconst 1, 1) := by decide +kernel
theorem dL_kept_109 : decode cL_kept 109 = .ok (.goto 4, 3) := by decide +kernel
theorem dL_kept_112 : decode cL_kept 112 = .ok (.iconst 0, 1) := by decide +kernel
theorem dL_kept_113 : decode cL_kept 113 = .ok (.if_icmp .ne 35, 3) := by decide +kernel
theorem dL_kept_116 : decode cL_kept 116 = .ok (.aload_n 0, 1) := by decide +kernel
theorem dL_kept_117 : decode cL_kept 117 = .ok (.invokevirtual 142, 3) := by decide +kernel
theorem dL_kept_120 : decode cL_kept 120 = .ok (.ifCond .ne 7, 3) := by decide +kernel
theorem dL_kept_123 : decode cL_kept 123 = .ok (.iconst 1, 1) := by decide +kernel
theorem dL_kept_124 : decode cL_kept 124 = .ok (.goto 4, 3) := by decide +kernel
theorem dL_kept_127 : decode cL_kept 127 = .ok (.iconst 0, 1) := by decide +kernel
theorem dL_kept_128 : decode cL_kept 128 = .ok (.aload_n 0, 1) := by decide +kernel
theorem dL_kept_129 : decode cL_kept 129 = .ok (.invokevirtual 148, 3) := by decide +kernel
theorem dL_kept_132 : decode cL_kept 132 = .ok (.iconst 2, 1) := by decide +kernel
theorem dL_kept_133 : decode cL_kept 133 = .ok (.if_icmp .ge 7, 3) := by decide +kernel
theorem dL_kept_136 : decode cL_kept 136 = .ok (.iconst 1, 1) := by decide +kernel
theorem dL_kept_137 : decode cL_kept 137 = .ok (.goto 4, 3) := by decide +kernel
theorem dL_kept_140 : decode cL_kept 140 = .ok (.iconst 0, 1) := by decide +kernel
theorem dL_kept_141 : decode cL_kept 141 = .ok (.if_icmp .ne 7, 3) := by decide +kernel
theorem dL_kept_144 : decode cL_kept 144 = .ok (.iconst 1, 1) := by decide +kernel
theorem dL_kept_145 : decode cL_kept 145 = .ok (.goto 4, 3) := by decide +kernel
theorem dL_kept_148 : decode cL_kept 148 = .ok (.iconst 0, 1) := by decide +kernel
theorem dL_kept_149 : decode cL_kept 149 = .ok (.istore_n 3, 1) := by decide +kernel
theorem dL_kept_150 : decode cL_kept 150 = .ok (.iconst 0, 1) := by decide +kernel
theorem dL_kept_151 : decode cL_kept 151 = .ok (.istore 4, 2) := by decide +kernel
theorem dL_kept_153 : decode cL_kept 153 = .ok (.iconst 0, 1) := by decide +kernel
theorem dL_kept_154 : decode cL_kept 154 = .ok (.istore 5, 2) := by decide +kernel
theorem dL_kept_156 : decode cL_kept 156 = .ok (.iconst 0, 1) := by decide +kernel
theorem dL_kept_157 : decode cL_kept 157 = .ok (.istore 6, 2) := by decide +kernel
theorem dL_kept_159 : decode cL_kept 159 = .ok (.iconst 0, 1) := by decide +kernel
theorem dL_kept_160 : decode cL_kept 160 = .ok (.istore 7, 2) := by decide +kernel
theorem dL_kept_162 : decode cL_kept 162 = .ok (.iconst 0, 1) := by decide +kernel
theorem dL_kept_163 : decode cL_kept 163 = .ok (.istore 8, 2) := by decide +kernel
theorem dL_kept_165 : decode cL_kept 165 = .ok (.iconst 0, 1) := by decide +kernel
theorem dL_kept_166 : decode cL_kept 166 = .ok (.istore 9, 2) := by decide +kernel
theorem dL_kept_168 : decode cL_kept 168 = .ok (.iload 9, 2) := by decide +kernel
theorem dL_kept_170 : decode cL_kept 170 = .ok (.iload_n 1, 1) := by decide +kernel
theorem dL_kept_171 : decode cL_kept 171 = .ok (.if_icmp .ge 361, 3) := by decide +kernel
theorem dL_kept_174 : decode cL_kept 174 = .ok (.iload_n 3, 1) := by decide +kernel
theorem dL_kept_175 : decode cL_kept 175 = .ok (.ifCond .eq 357, 3) := by decide +kernel
theorem dL_kept_178 : decode cL_kept 178 = .ok (.iload_n 2, 1) := by decide +kernel
theorem dL_kept_179 : decode cL_kept 179 = .ok (.iload 9, 2) := by decide +kernel
theorem dL_kept_181 : decode cL_kept 181 = .ok (.ishr, 1) := by decide +kernel
theorem dL_kept_182 : decode cL_kept 182 = .ok (.iconst 1, 1) := by decide +kernel
theorem dL_kept_183 : decode cL_kept 183 = .ok (.iand, 1) := by decide +kernel
theorem dL_kept_184 : decode cL_kept 184 = .ok (.iconst 1, 1) := by decide +kernel
theorem dL_kept_185 : decode cL_kept 185 = .ok (.if_icmp .ne 7, 3) := by decide +kernel
theorem dL_kept_188 : decode cL_kept 188 = .ok (.iconst 1, 1) := by decide +kernel
theorem dL_kept_189 : decode cL_kept 189 = .ok (.goto 4, 3) := by decide +kernel
theorem dL_kept_192 : decode cL_kept 192 = .ok (.iconst 0, 1) := by decide +kernel
theorem dL_kept_193 : decode cL_kept 193 = .ok (.istore 10, 2) := by decide +kernel
theorem dL_kept_195 : decode cL_kept 195 = .ok (.aload_n 0, 1) := by decide +kernel
theorem dL_kept_196 : decode cL_kept 196 = .ok (.iload 9, 2) := by decide +kernel
theorem dL_kept_198 : decode cL_kept 198 = .ok (.invokestatic 128, 3) := by decide +kernel
theorem dL_kept_201 : decode cL_kept 201 = .ok (.lconst 1, 1) := by decide +kernel
theorem dL_kept_202 : decode cL_kept 202 = .ok (.lcmp, 1) := by decide +kernel
theorem dL_kept_203 : decode cL_kept 203 = .ok (.ifCond .ne 7, 3) := by decide +kernel
theorem dL_kept_206 : decode cL_kept 206 = .ok (.iconst 1, 1) := by decide +kernel
theorem dL_kept_207 : decode cL_kept 207 = .ok (.goto 4, 3) := by decide +kernel
theorem dL_kept_210 : decode cL_kept 210 = .ok (.iconst 0, 1) := by decide +kernel
theorem dL_kept_211 : decode cL_kept 211 = .ok (.istore 11, 2) := by decide +kernel
theorem dL_kept_213 : decode cL_kept 213 = .ok (.iconst 0, 1) := by decide +kernel
theorem dL_kept_214 : decode cL_kept 214 = .ok (.istore 12, 2) := by decide +kernel
theorem dL_kept_216 : decode cL_kept 216 = .ok (.iload 4, 2) := by decide +kernel
theorem dL_kept_218 : decode cL_kept 218 = .ok (.iload 10, 2) := by decide +kernel
theorem dL_kept_220 : decode cL_kept 220 = .ok (.ifCond .eq 13, 3) := by decide +kernel
theorem dL_kept_223 : decode cL_kept 223 = .ok (.aload_n 0, 1) := by decide +kernel
theorem dL_kept_224 : decode cL_kept 224 = .ok (.iload 9, 2) := by decide +kernel
theorem dL_kept_226 : decode cL_kept 226 = .ok (.invokestatic 126, 3) := by decide +kernel
theorem dL_kept_229 : decode cL_kept 229 = .ok (.l2i, 1) := by decide +kernel
theorem dL_kept_230 : decode cL_kept 230 = .ok (.goto 4, 3) := by decide +kernel
theorem dL_kept_233 : decode cL_kept 233 = .ok (.iconst 0, 1) := by decide +kernel
theorem dL_kept_234 : decode cL_kept 234 = .ok (.iadd, 1) := by decide +kernel
theorem dL_kept_235 : decode cL_kept 235 = .ok (.istore 4, 2) := by decide +kernel
theorem dL_kept_237 : decode cL_kept 237 = .ok (.iload 5, 2) := by decide +kernel
theorem dL_kept_239 : decode cL_kept 239 = .ok (.iload 11, 2) := by decide +kernel
theorem dL_kept_241 : decode cL_kept 241 = .ok (.ifCond .eq 13, 3) := by decide +kernel
theorem dL_kept_244 : decode cL_kept 244 = .ok (.aload_n 0, 1) := by decide +kernel
theorem dL_kept_245 : decode cL_kept 245 = .ok (.iload 9, 2) := by decide +kernel
theorem dL_kept_247 : decode cL_kept 247 = .ok (.invokestatic 126, 3) := by decide +kernel
theorem dL_kept_250 : decode cL_kept 250 = .ok (.l2i, 1) := by decide +kernel
theorem dL_kept_251 : decode cL_kept 251 = .ok (.goto 4, 3) := by decide +kernel
theorem dL_kept_254 : decode cL_kept 254 = .ok (.iconst 0, 1) := by decide +kernel
theorem dL_kept_255 : decode cL_kept 255 = .ok (.iadd, 1) := by decide +kernel
theorem dL_kept_256 : decode cL_kept 256 = .ok (.istore 5, 2) := by decide +kernel
theorem dL_kept_258 : decode cL_kept 258 = .ok (.iload 6, 2) := by decide +kernel
theorem dL_kept_260 : decode cL_kept 260 = .ok (.iload 11, 2) := by decide +kernel
theorem dL_kept_262 : decode cL_kept 262 = .ok (.ifCond .eq 7, 3) := by decide +kernel
theorem dL_kept_265 : decode cL_kept 265 = .ok (.iconst 1, 1) := by decide +kernel
theorem dL_kept_266 : decode cL_kept 266 = .ok (.goto 4, 3) := by decide +kernel
theorem dL_kept_269 : decode cL_kept 269 = .ok (.iconst 0, 1) := by decide +kernel
theorem dL_kept_270 : decode cL_kept 270 = .ok (.iadd, 1) := by decide +kernel
theorem dL_kept_271 : decode cL_kept 271 = .ok (.istore 6, 2) := by decide +kernel
theorem dL_kept_273 : decode cL_kept 273 = .ok (.aload_n 0, 1) := by decide +kernel
theorem dL_kept_274 : decode cL_kept 274 = .ok (.iload 9, 2) := by decide +kernel
theorem dL_kept_276 : decode cL_kept 276 = .ok (.invokestatic 135, 3) := by decide +kernel
theorem dL_kept_279 : decode cL_kept 279 = .ok (.iload 8, 2) := by decide +kernel
theorem dL_kept_281 : decode cL_kept 281 = .ok (.i2l, 1) := by decide +kernel
theorem dL_kept_282 : decode cL_kept 282 = .ok (.lcmp, 1) := by decide +kernel
theorem dL_kept_283 : decode cL_kept 283 = .ok (.ifCond .lt 15, 3) := by decide +kernel
theorem dL_kept_286 : decode cL_kept 286 = .ok (.aload_n 0, 1) := by decide +kernel
theorem dL_kept_287 : decode cL_kept 287 = .ok (.iload 9, 2) := by decide +kernel
theorem dL_kept_289 : decode cL_kept 289 = .ok (.invokestatic 135, 3) := by decide +kernel
theorem dL_kept_292 : decode cL_kept 292 = .ok (.l2i, 1) := by decide +kernel
theorem dL_kept_293 : decode cL_kept 293 = .ok (.iconst 1, 1) := by decide +kernel
theorem dL_kept_294 : decode cL_kept 294 = .ok (.iadd, 1) := by decide +kernel
theorem dL_kept_295 : decode cL_kept 295 = .ok (.goto 5, 3) := by decide +kernel
theorem dL_kept_298 : decode cL_kept 298 = .ok (.iload 8, 2) := by decide +kernel
theorem dL_kept_300 : decode cL_kept 300 = .ok (.istore 8, 2) := by decide +kernel
theorem dL_kept_302 : decode cL_kept 302 = .ok (.iconst 0, 1) := by decide +kernel
theorem dL_kept_303 : decode cL_kept 303 = .ok (.istore 13, 2) := by decide +kernel
theorem dL_kept_305 : decode cL_kept 305 = .ok (.iload 13, 2) := by decide +kernel
theorem dL_kept_307 : decode cL_kept 307 = .ok (.iload_n 1, 1) := by decide +kernel
theorem dL_kept_308 : decode cL_kept 308 = .ok (.if_icmp .ge 105, 3) := by decide +kernel
theorem dL_kept_311 : decode cL_kept 311 = .ok (.iload_n 3, 1) := by decide +kernel
theorem dL_kept_312 : decode cL_kept 312 = .ok (.ifCond .eq 101, 3) := by decide +kernel
theorem dL_kept_315 : decode cL_kept 315 = .ok (.aload_n 0, 1) := by decide +kernel
theorem dL_kept_316 : decode cL_kept 316 = .ok (.iload 9, 2) := by decide +kernel
theorem dL_kept_318 : decode cL_kept 318 = .ok (.iload 13, 2) := by decide +kernel
theorem dL_kept_320 : decode cL_kept 320 = .ok (.invokestatic 130, 3) := by decide +kernel
theorem dL_kept_323 : decode cL_kept 323 = .ok (.lconst 1, 1) := by decide +kernel
theorem dL_kept_324 : decode cL_kept 324 = .ok (.lcmp, 1) := by decide +kernel
theorem dL_kept_325 : decode cL_kept 325 = .ok (.ifCond .ne 7, 3) := by decide +kernel
theorem dL_kept_328 : decode cL_kept 328 = .ok (.iconst 1, 1) := by decide +kernel
theorem dL_kept_329 : decode cL_kept 329 = .ok (.goto 4, 3) := by decide +kernel
theorem dL_kept_332 : decode cL_kept 332 = .ok (.iconst 0, 1) := by decide +kernel
theorem dL_kept_333 : decode cL_kept 333 = .ok (.istore 14, 2) := by decide +kernel
theorem dL_kept_335 : decode cL_kept 335 = .ok (.iload 12, 2) := by decide +kernel
theorem dL_kept_337 : decode cL_kept 337 = .ok (.iload 14, 2) := by decide +kernel
theorem dL_kept_339 : decode cL_kept 339 = .ok (.ifCond .eq 7, 3) := by decide +kernel
theorem dL_kept_342 : decode cL_kept 342 = .ok (.iconst 1, 1) := by decide +kernel
theorem dL_kept_343 : decode cL_kept 343 = .ok (.goto 4, 3) := by decide +kernel
theorem dL_kept_346 : decode cL_kept 346 = .ok (.iconst 0, 1) := by decide +kernel
theorem dL_kept_347 : decode cL_kept 347 = .ok (.iadd, 1) := by decide +kernel
theorem dL_kept_348 : decode cL_kept 348 = .ok (.istore 12, 2) := by decide +kernel
theorem dL_kept_350 : decode cL_kept 350 = .ok (.iload 14, 2) := by decide +kernel
theorem dL_kept_352 : decode cL_kept 352 = .ok (.ifCond .eq 49, 3) := by decide +kernel
theorem dL_kept_355 : decode cL_kept 355 = .ok (.iload 10, 2) := by decide +kernel
theorem dL_kept_357 : decode cL_kept 357 = .ok (.ifCond .eq 12, 3) := by decide +kernel
theorem dL_kept_360 : decode cL_kept 360 = .ok (.iload_n 2, 1) := by decide +kernel
theorem dL_kept_361 : decode cL_kept 361 = .ok (.iload 13, 2) := by decide +kernel
theorem dL_kept_363 : decode cL_kept 363 = .ok (.ishr, 1) := by decide +kernel
theorem dL_kept_364 : decode cL_kept 364 = .ok (.iconst 1, 1) := by decide +kernel
theorem dL_kept_365 : decode cL_kept 365 = .ok (.iand, 1) := by decide +kernel
theorem dL_kept_366 : decode cL_kept 366 = .ok (.ifCond .ne 39, 3) := by decide +kernel
theorem dL_kept_369 : decode cL_kept 369 = .ok (.iload 11, 2) := by decide +kernel
theorem dL_kept_371 : decode cL_kept 371 = .ok (.ifCond .eq 14, 3) := by decide +kernel
theorem dL_kept_374 : decode cL_kept 374 = .ok (.aload_n 0, 1) := by decide +kernel
theorem dL_kept_375 : decode cL_kept 375 = .ok (.iload 13, 2) := by decide +kernel
theorem dL_kept_377 : decode cL_kept 377 = .ok (.invokestatic 128, 3) := by decide +kernel
theorem dL_kept_380 : decode cL_kept 380 = .ok (.lconst 0, 1) := by decide +kernel
theorem dL_kept_381 : decode cL_kept 381 = .ok (.lcmp, 1) := by decide +kernel
theorem dL_kept_382 : decode cL_kept 382 = .ok (.ifCond .ne 23, 3) := by decide +kernel
theorem dL_kept_385 : decode cL_kept 385 = .ok (.aload_n 0, 1) := by decide +kernel
theorem dL_kept_386 : decode cL_kept 386 = .ok (.iload 9, 2) := by decide +kernel
theorem dL_kept_388 : decode cL_kept 388 = .ok (.invokestatic 135, 3) := by decide +kernel
theorem dL_kept_391 : decode cL_kept 391 = .ok (.aload_n 0, 1) := by decide +kernel
theorem dL_kept_392 : decode cL_kept 392 = .ok (.iload 13, 2) := by decide +kernel
theorem dL_kept_394 : decode cL_kept 394 = .ok (.invokestatic 135, 3) := by decide +kernel
theorem dL_kept_397 : decode cL_kept 397 = .ok (.lcmp, 1) := by decide +kernel
theorem dL_kept_398 : decode cL_kept 398 = .ok (.ifCond .eq 7, 3) := by decide +kernel
theorem dL_kept_401 : decode cL_kept 401 = .ok (.iconst 1, 1) := by decide +kernel
theorem dL_kept_402 : decode cL_kept 402 = .ok (.goto 4, 3) := by decide +kernel
theorem dL_kept_405 : decode cL_kept 405 = .ok (.iconst 0, 1) := by decide +kernel
theorem dL_kept_406 : decode cL_kept 406 = .ok (.istore_n 3, 1) := by decide +kernel
theorem dL_kept_407 : decode cL_kept 407 = .ok (.iinc 13 1, 3) := by decide +kernel
