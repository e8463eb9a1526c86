set_option maxRecDepth 20000 in
theorem gX4_weighed_X4_joined : GoodIn wsX4_weighed (va_wsS RX4 221 yX4_joined wsX4_joined) := goodIn_app (goodIn_of _ (by decide +kernel)) ggX4_weighed_X4_joined
theorem dX4_weighed_0 : decode cX4_weighed 0 = .ok (.lconst 0, 1) := by decide +kernel
theorem dX4_weighed_1 : decode cX4_weighed 1 = .ok (.lstore 4, 2) := by decide +kernel
theorem dX4_weighed_3 : decode cX4_weighed 3 = .ok (.iconst 0, 1) := by decide +kernel
theorem dX4_weighed_4 : decode cX4_weighed 4 = .ok (.istore 6, 2) := by decide +kernel
theorem dX4_weighed_6 : decode cX4_weighed 6 = .ok (.iload 6, 2) := by decide +kernel
theorem dX4_weighed_8 : decode cX4_weighed 8 = .ok (.aload_n 0, 1) := by decide +kernel
theorem dX4_weighed_9 : decode cX4_weighed 9 = .ok (.getfield 28, 3) := by decide +kernel
theorem dX4_weighed_12 : decode cX4_weighed 12 = .ok (.getfield 94, 3) := by decide +kernel
theorem dX4_weighed_15 : decode cX4_weighed 15 = .ok (.if_icmp .ge 30, 3) := by decide +kernel
theorem dX4_weighed_18 : decode cX4_weighed 18 = .ok (.iload 6, 2) := by decide +kernel
theorem dX4_weighed_20 : decode cX4_weighed 20 = .ok (.iload_n 3, 1) := by decide +kernel
theorem dX4_weighed_21 : decode cX4_weighed 21 = .ok (.if_icmp .eq 18, 3) := by decide +kernel
theorem dX4_weighed_24 : decode cX4_weighed 24 = .ok (.iload_n 1, 1) := by decide +kernel
theorem dX4_weighed_25 : decode cX4_weighed 25 = .ok (.lload 4, 2) := by decide +kernel
theorem dX4_weighed_27 : decode cX4_weighed 27 = .ok (.aload_n 0, 1) := by decide +kernel
theorem dX4_weighed_28 : decode cX4_weighed 28 = .ok (.iload 6, 2) := by decide +kernel
theorem dX4_weighed_30 : decode cX4_weighed 30 = .ok (.iload_n 2, 1) := by decide +kernel
theorem dX4_weighed_31 : decode cX4_weighed 31 = .ok (.invokevirtual 125, 3) := by decide +kernel
theorem dX4_weighed_34 : decode cX4_weighed 34 = .ok (.invokestatic 221, 3) := by decide +kernel
theorem dX4_weighed_37 : decode cX4_weighed 37 = .ok (.lstore 4, 2) := by decide +kernel
theorem dX4_weighed_39 : decode cX4_weighed 39 = .ok (.iinc 6 1, 3) := by decide +kernel
theorem dX4_weighed_42 : decode cX4_weighed 42 = .ok (.goto (-36), 3) := by decide +kernel
theorem dX4_weighed_45 : decode cX4_weighed 45 = .ok (.lload 4, 2) := by decide +kernel
theorem dX4_weighed_47 : decode cX4_weighed 47 = .ok (.lreturn, 1) := by decide +kernel
set_option maxRecDepth 20000 in
theorem ggX4_joined_X4_putIntoRow : GoodIn wsX4_joined wsX4_putIntoRow := goodIn_r _ [8, 9] (by decide +kernel) (by decide +kernel)
set_option maxRecDepth 20000 in
theorem gX4_joined_X4_putIntoRow : GoodIn wsX4_joined (va_wsS RX4 230 yX4_putIntoRow wsX4_putIntoRow) := goodIn_app (goodIn_of _ (by decide +kernel)) ggX4_joined_X4_putIntoRow
theorem dX4_joined_0 : decode cX4_joined 0 = .ok (.iload_n 0, 1) := by decide +kernel
theorem dX4_joined_1 : decode cX4_joined 1 = .ok (.ifCond .ne 7, 3) := by decide +kernel
theorem dX4_joined_4 : decode cX4_joined 4 = .ok (.lload_n 1, 1) := by decide +kernel
theorem dX4_joined_5 : decode cX4_joined 5 = .ok (.lload_n 3, 1) := by decide +kernel
theorem dX4_joined_6 : decode cX4_joined 6 = .ok (.ladd, 1) := by decide +kernel
theorem dX4_joined_7 : decode cX4_joined 7 = .ok (.lreturn, 1) := by decide +kernel
theorem dX4_joined_8 : decode cX4_joined 8 = .ok (.iload_n 0, 1) := by decide +kernel
theorem dX4_joined_9 : decode cX4_joined 9 = .ok (.iconst 1, 1) := by decide +kernel
theorem dX4_joined_10 : decode cX4_joined 10 = .ok (.if_icmp .ne 9, 3) := by decide +kernel
theorem dX4_joined_13 : decode cX4_joined 13 = .ok (.lload_n 1, 1) := by decide +kernel
theorem dX4_joined_14 : decode cX4_joined 14 = .ok (.lload_n 3, 1) := by decide +kernel
theorem dX4_joined_15 : decode cX4_joined 15 = .ok (.invokestatic 225, 3) := by decide +kernel
theorem dX4_joined_18 : decode cX4_joined 18 = .ok (.lreturn, 1) := by decide +kernel
theorem dX4_joined_19 : decode cX4_joined 19 = .ok (.lload_n 1, 1) := by decide +kernel
theorem dX4_joined_20 : decode cX4_joined 20 = .ok (.lload_n 3, 1) := by decide +kernel
theorem dX4_joined_21 : decode cX4_joined 21 = .ok (.invokestatic 230, 3) := by decide +kernel
theorem dX4_joined_24 : decode cX4_joined 24 = .ok (.lreturn, 1) := by decide +kernel
theorem dX4_putIntoRow_0 : decode cX4_putIntoRow 0 = .ok (.lload_n 2, 1) := by decide +kernel
theorem dX4_putIntoRow_1 : decode cX4_putIntoRow 1 = .ok (.lstore 4, 2) := by decide +kernel
theorem dX4_putIntoRow_3 : decode cX4_putIntoRow 3 = .ok (.bipush 54, 2) := by decide +kernel
theorem dX4_putIntoRow_5 : decode cX4_putIntoRow 5 = .ok (.istore 6, 2) := by decide +kernel
theorem dX4_putIntoRow_7 : decode cX4_putIntoRow 7 = .ok (.iload 6, 2) := by decide +kernel
theorem dX4_putIntoRow_9 : decode cX4_putIntoRow 9 = .ok (.ifCond .lt 49, 3) := by decide +kernel
theorem dX4_putIntoRow_12 : decode cX4_putIntoRow 12 = .ok (.lload 4, 2) := by decide +kernel
theorem dX4_putIntoRow_14 : decode cX4_putIntoRow 14 = .ok (.lconst 0, 1) := by decide +kernel
theorem dX4_putIntoRow_15 : decode cX4_putIntoRow 15 = .ok (.lcmp, 1) := by decide +kernel
theorem dX4_putIntoRow_16 : decode cX4_putIntoRow 16 = .ok (.ifCond .le 42, 3) := by decide +kernel
theorem dX4_putIntoRow_19 : decode cX4_putIntoRow 19 = .ok (.lload_n 0, 1) := by decide +kernel
theorem dX4_putIntoRow_20 : decode cX4_putIntoRow 20 = .ok (.iload 6, 2) := by decide +kernel
theorem dX4_putIntoRow_22 : decode cX4_putIntoRow 22 = .ok (.lushr, 1) := by decide +kernel
theorem dX4_putIntoRow_23 : decode cX4_putIntoRow 23 = .ok (.ldc2_w 233, 3) := by decide +kernel
theorem dX4_putIntoRow_26 : decode cX4_putIntoRow 26 = .ok (.land, 1) := by decide +kernel
theorem dX4_putIntoRow_27 : decode cX4_putIntoRow 27 = .ok (.lstore 7, 2) := by decide +kernel
theorem dX4_putIntoRow_29 : decode cX4_putIntoRow 29 = .ok (.lload 4, 2) := by decide +kernel
theorem dX4_putIntoRow_31 : decode cX4_putIntoRow 31 = .ok (.lload 7, 2) := by decide +kernel
theorem dX4_putIntoRow_33 : decode cX4_putIntoRow 33 = .ok (.lcmp, 1) := by decide +kernel
theorem dX4_putIntoRow_34 : decode cX4_putIntoRow 34 = .ok (.ifCond .le 18, 3) := by decide +kernel
theorem dX4_putIntoRow_37 : decode cX4_putIntoRow 37 = .ok (.lload_n 0, 1) := by decide +kernel
theorem dX4_putIntoRow_38 : decode cX4_putIntoRow 38 = .ok (.lload 4, 2) := by decide +kernel
theorem dX4_putIntoRow_40 : decode cX4_putIntoRow 40 = .ok (.lload 7, 2) := by decide +kernel
theorem dX4_putIntoRow_42 : decode cX4_putIntoRow 42 = .ok (.lsub, 1) := by decide +kernel
theorem dX4_putIntoRow_43 : decode cX4_putIntoRow 43 = .ok (.iload 6, 2) := by decide +kernel
theorem dX4_putIntoRow_45 : decode cX4_putIntoRow 45 = .ok (.lshl, 1) := by decide +kernel
theorem dX4_putIntoRow_46 : decode cX4_putIntoRow 46 = .ok (.ladd, 1) := by decide +kernel
theorem dX4_putIntoRow_47 : decode cX4_putIntoRow 47 = .ok (.lstore_n 0, 1) := by decide +kernel
theorem dX4_putIntoRow_48 : decode cX4_putIntoRow 48 = .ok (.lload 7, 2) := by decide +kernel
theorem dX4_putIntoRow_50 : decode cX4_putIntoRow 50 = .ok (.lstore 4, 2) := by decide +kernel
theorem dX4_putIntoRow_52 : decode cX4_putIntoRow 52 = .ok (.iinc 6 (-9), 3) := by decide +kernel
theorem dX4_putIntoRow_55 : decode cX4_putIntoRow 55 = .ok (.goto (-48), 3) := by decide +kernel
theorem dX4_putIntoRow_58 : decode cX4_putIntoRow 58 = .ok (.lload_n 0, 1) := by decide +kernel
theorem dX4_putIntoRow_59 : decode cX4_putIntoRow 59 = .ok (.lreturn, 1) := by decide +kernel
set_option maxRecDepth 20000 in
theorem ggX4_lossOf_X4_isIn : GoodIn wsX4_lossOf wsX4_isIn := goodIn_r _ [9] (by decide +kernel) (by decide +kernel)
set_option maxRecDepth 20000 in
theorem gX4_lossOf_X4_isIn : GoodIn wsX4_lossOf (va_wsS RX4 217 yX4_isIn wsX4_isIn) := goodIn_app (goodIn_of _ (by decide +kernel)) ggX4_lossOf_X4_isIn
theorem dX4_lossOf_0 : decode cX4_lossOf 0 = .ok (.lconst 0, 1) := by decide +kernel
theorem dX4_lossOf_1 : decode cX4_lossOf 1 = .ok (.lstore 4, 2) := by decide +kernel
theorem dX4_lossOf_3 : decode cX4_lossOf 3 = .ok (.iconst 0, 1) := by decide +kernel
theorem dX4_lossOf_4 : decode cX4_lossOf 4 = .ok (.istore 6, 2) := by decide +kernel
theorem dX4_lossOf_6 : decode cX4_lossOf 6 = .ok (.iload 6, 2) := by decide +kernel
theorem dX4_lossOf_8 : decode cX4_lossOf 8 = .ok (.bipush 64, 2) := by decide +kernel
theorem dX4_lossOf_10 : decode cX4_lossOf 10 = .ok (.if_icmp .ge 34, 3) := by decide +kernel
theorem dX4_lossOf_13 : decode cX4_lossOf 13 = .ok (.lload_n 2, 1) := by decide +kernel
theorem dX4_lossOf_14 : decode cX4_lossOf 14 = .ok (.iload 6, 2) := by decide +kernel
theorem dX4_lossOf_16 : decode cX4_lossOf 16 = .ok (.invokestatic 217, 3) := by decide +kernel
theorem dX4_lossOf_19 : decode cX4_lossOf 19 = .ok (.ifCond .eq 19, 3) := by decide +kernel
theorem dX4_lossOf_22 : decode cX4_lossOf 22 = .ok (.lload 4, 2) := by decide +kernel
theorem dX4_lossOf_24 : decode cX4_lossOf 24 = .ok (.aload_n 0, 1) := by decide +kernel
theorem dX4_lossOf_25 : decode cX4_lossOf 25 = .ok (.getfield 50, 3) := by decide +kernel
theorem dX4_lossOf_28 : decode cX4_lossOf 28 = .ok (.iload_n 1, 1) := by decide +kernel
theorem dX4_lossOf_29 : decode cX4_lossOf 29 = .ok (.aaload, 1) := by decide +kernel
theorem dX4_lossOf_30 : decode cX4_lossOf 30 = .ok (.iload 6, 2) := by decide +kernel
theorem dX4_lossOf_32 : decode cX4_lossOf 32 = .ok (.laload, 1) := by decide +kernel
theorem dX4_lossOf_33 : decode cX4_lossOf 33 = .ok (.invokestatic 225, 3) := by decide +kernel
theorem dX4_lossOf_36 : decode cX4_lossOf 36 = .ok (.lstore 4, 2) := by decide +kernel
theorem dX4_lossOf_38 : decode cX4_lossOf 38 = .ok (.iinc 6 1, 3) := by decide +kernel
theorem dX4_lossOf_41 : decode cX4_lossOf 41 = .ok (.goto (-35), 3) := by decide +kernel
theorem dX4_lossOf_44 : decode cX4_lossOf 44 = .ok (.lload 4, 2) := by decide +kernel
theorem dX4_lossOf_46 : decode cX4_lossOf 46 = .ok (.lreturn, 1) := by decide +kernel
set_option maxRecDepth 20000 in
theorem ggX4_bestLie_X4_weighed : GoodIn wsX4_bestLie wsX4_weighed := goodIn_r _ [7, 2, 8, 9, 10, 6, 11, 12, 13, 14, 15, 16, 17, 18, 19, 20, 21, 22, 23, 41, 42, 43, 44, 45, 46, 47, 48, 49, 50, 51, 52, 53, 54, 55, 56] (by decide +kernel) (by decide +kernel)
set_option maxRecDepth 20000 in
theorem gX4_bestLie_X4_weighed : GoodIn wsX4_bestLie (wsV RX4 136 RX4 yX4_weighed wsX4_weighed) := goodIn_app (goodIn_of _ (by decide +kernel)) ggX4_bestLie_X4_weighed
set_option maxRecDepth 20000 in
theorem ggX4_bestLie_X4_mergedWithTerm : GoodIn wsX4_bestLie wsX4_mergedWithTerm := goodIn_r _ [27, 28, 1, 29, 2, 13, 14, 6, 15, 16, 17, 18, 19, 20, 21, 22, 23, 30, 31, 32, 33, 34, 35, 36, 41, 42, 43, 44, 45, 46, 47, 48, 49, 50, 51, 57, 58, 59, 52, 53, 54, 55, 56] (by decide +kernel) (by decide +kernel)
set_option maxRecDepth 20000 in
theorem gX4_bestLie_X4_mergedWithTerm : GoodIn wsX4_bestLie (wsV RX4 235 RX4 yX4_mergedWithTerm wsX4_mergedWithTerm) := goodIn_app (goodIn_of _ (by decide +kernel)) ggX4_bestLie_X4_mergedWithTerm
set_option maxRecDepth 20000 in
theorem ggX4_bestLie_X4_lossOf : GoodIn wsX4_bestLie wsX4_lossOf := goodIn_r _ [40, 12, 16, 17, 18, 19, 34, 35, 6, 36, 41, 42, 43, 44, 45, 46, 47, 48, 49, 50, 51] (by decide +kernel) (by decide +kernel)
set_option maxRecDepth 20000 in
theorem gX4_bestLie_X4_lossOf : GoodIn wsX4_bestLie (wsV RX4 178 RX4 yX4_lossOf wsX4_lossOf) := goodIn_app (goodIn_of _ (by decide +kernel)) ggX4_bestLie_X4_lossOf
theorem dX4_bestLie_0 : decode cX4_bestLie 0 = .ok (.iconst 0, 1) := by decide +kernel
theorem dX4_bestLie_1 : decode cX4_bestLie 1 = .ok (.istore 6, 2) := by decide +kernel
theorem dX4_bestLie_3 : decode cX4_bestLie 3 = .ok (.iload 6, 2) := by decide +kernel
theorem dX4_bestLie_5 : decode cX4_bestLie 5 = .ok (.bipush 64, 2) := by decide +kernel
theorem dX4_bestLie_7 : decode cX4_bestLie 7 = .ok (.if_icmp .ge 24, 3) := by decide +kernel
theorem dX4_bestLie_10 : decode cX4_bestLie 10 = .ok (.aload_n 0, 1) := by decide +kernel
theorem dX4_bestLie_11 : decode cX4_bestLie 11 = .ok (.getfield 57, 3) := by decide +kernel
theorem dX4_bestLie_14 : decode cX4_bestLie 14 = .ok (.iload 6, 2) := by decide +kernel
theorem dX4_bestLie_16 : decode cX4_bestLie 16 = .ok (.aload_n 0, 1) := by decide +kernel
theorem dX4_bestLie_17 : decode cX4_bestLie 17 = .ok (.iload_n 2, 1) := by decide +kernel
theorem dX4_bestLie_18 : decode cX4_bestLie 18 = .ok (.iload 6, 2) := by decide +kernel
theorem dX4_bestLie_20 : decode cX4_bestLie 20 = .ok (.iload_n 1, 1) := by decide +kernel
theorem dX4_bestLie_21 : decode cX4_bestLie 21 = .ok (.invokevirtual 136, 3) := by decide +kernel
theorem dX4_bestLie_24 : decode cX4_bestLie 24 = .ok (.lastore, 1) := by decide +kernel
theorem dX4_bestLie_25 : decode cX4_bestLie 25 = .ok (.iinc 6 1, 3) := by decide +kernel
theorem dX4_bestLie_28 : decode cX4_bestLie 28 = .ok (.goto (-25), 3) := by decide +kernel
theorem dX4_bestLie_31 : decode cX4_bestLie 31 = .ok (.lload_n 3, 1) := by decide +kernel
theorem dX4_bestLie_32 : decode cX4_bestLie 32 = .ok (.lstore 6, 2) := by decide +kernel
theorem dX4_bestLie_34 : decode cX4_bestLie 34 = .ok (.bipush (-9), 2) := by decide +kernel
theorem dX4_bestLie_36 : decode cX4_bestLie 36 = .ok (.istore 8, 2) := by decide +kernel
theorem dX4_bestLie_38 : decode cX4_bestLie 38 = .ok (.sipush 4096, 3) := by decide +kernel
theorem dX4_bestLie_41 : decode cX4_bestLie 41 = .ok (.istore 9, 2) := by decide +kernel
theorem dX4_bestLie_43 : decode cX4_bestLie 43 = .ok (.iconst 0, 1) := by decide +kernel
theorem dX4_bestLie_44 : decode cX4_bestLie 44 = .ok (.istore 10, 2) := by decide +kernel
theorem dX4_bestLie_46 : decode cX4_bestLie 46 = .ok (.iload 10, 2) := by decide +kernel
theorem dX4_bestLie_48 : decode cX4_bestLie 48 = .ok (.iload 9, 2) := by decide +kernel
theorem dX4_bestLie_50 : decode cX4_bestLie 50 = .ok (.if_icmp .ge 79, 3) := by decide +kernel
theorem dX4_bestLie_53 : decode cX4_bestLie 53 = .ok (.lload 6, 2) := by decide +kernel
theorem dX4_bestLie_55 : decode cX4_bestLie 55 = .ok (.lconst 0, 1) := by decide +kernel
theorem dX4_bestLie_56 : decode cX4_bestLie 56 = .ok (.lcmp, 1) := by decide +kernel
theorem dX4_bestLie_57 : decode cX4_bestLie 57 = .ok (.ifCond .le 72, 3) := by decide +kernel
theorem dX4_bestLie_60 : decode cX4_bestLie 60 = .ok (.iload 10, 2) := by decide +kernel
theorem dX4_bestLie_62 : decode cX4_bestLie 62 = .ok (.bipush 64, 2) := by decide +kernel
theorem dX4_bestLie_64 : decode cX4_bestLie 64 = .ok (.idiv, 1) := by decide +kernel
theorem dX4_bestLie_65 : decode cX4_bestLie 65 = .ok (.istore 11, 2) := by decide +kernel
theorem dX4_bestLie_67 : decode cX4_bestLie 67 = .ok (.iload 10, 2) := by decide +kernel
theorem dX4_bestLie_69 : decode cX4_bestLie 69 = .ok (.bipush 64, 2) := by decide +kernel
theorem dX4_bestLie_71 : decode cX4_bestLie 71 = .ok (.irem, 1) := by decide +kernel
theorem dX4_bestLie_72 : decode cX4_bestLie 72 = .ok (.istore 12, 2) := by decide +kernel
theorem dX4_bestLie_74 : decode cX4_bestLie 74 = .ok (.iload 11, 2) := by decide +kernel
theorem dX4_bestLie_76 : decode cX4_bestLie 76 = .ok (.iload 12, 2) := by decide +kernel
theorem dX4_bestLie_78 : decode cX4_bestLie 78 = .ok (.iand, 1) := by decide +kernel
theorem dX4_bestLie_79 : decode cX4_bestLie 79 = .ok (.ifCond .ne 44, 3) := by decide +kernel
theorem dX4_bestLie_82 : decode cX4_bestLie 82 = .ok (.aload_n 0, 1) := by decide +kernel
theorem dX4_bestLie_83 : decode cX4_bestLie 83 = .ok (.iload_n 1, 1) := by decide +kernel
theorem dX4_bestLie_84 : decode cX4_bestLie 84 = .ok (.aload_n 0, 1) := by decide +kernel
theorem dX4_bestLie_85 : decode cX4_bestLie 85 = .ok (.aload_n 0, 1) := by decide +kernel
theorem dX4_bestLie_86 : decode cX4_bestLie 86 = .ok (.getfield 28, 3) := by decide +kernel
theorem dX4_bestLie_89 : decode cX4_bestLie 89 = .ok (.getfield 212, 3) := by decide +kernel
theorem dX4_bestLie_92 : decode cX4_bestLie 92 = .ok (.iload_n 1, 1) := by decide +kernel
theorem dX4_bestLie_93 : decode cX4_bestLie 93 = .ok (.iaload, 1) := by decide +kernel
theorem dX4_bestLie_94 : decode cX4_bestLie 94 = .ok (.iload_n 2, 1) := by decide +kernel
theorem dX4_bestLie_95 : decode cX4_bestLie 95 = .ok (.iload 11, 2) := by decide +kernel
theorem dX4_bestLie_97 : decode cX4_bestLie 97 = .ok (.iload 12, 2) := by decide +kernel
theorem dX4_bestLie_99 : decode cX4_bestLie 99 = .ok (.invokevirtual 235, 3) := by decide +kernel
theorem dX4_bestLie_102 : decode cX4_bestLie 102 = .ok (.invokevirtual 178, 3) := by decide +kernel
theorem dX4_bestLie_105 : decode cX4_bestLie 105 = .ok (.lstore 13, 2) := by decide +kernel
theorem dX4_bestLie_107 : decode cX4_bestLie 107 = .ok (.lload 13, 2) := by decide +kernel
theorem dX4_bestLie_109 : decode cX4_bestLie 109 = .ok (.lload 6, 2) := by decide +kernel
theorem dX4_bestLie_111 : decode cX4_bestLie 111 = .ok (.lcmp, 1) := by decide +kernel
theorem dX4_bestLie_112 : decode cX4_bestLie 112 = .ok (.ifCond .ge 11, 3) := by decide +kernel
theorem dX4_bestLie_115 : decode cX4_bestLie 115 = .ok (.lload 13, 2) := by decide +kernel
theorem dX4_bestLie_117 : decode cX4_bestLie 117 = .ok (.lstore 6, 2) := by decide +kernel
theorem dX4_bestLie_119 : decode cX4_bestLie 119 = .ok (.iload 10, 2) := by decide +kernel
theorem dX4_bestLie_121 : decode cX4_bestLie 121 = .ok (.istore 8, 2) := by decide +kernel
theorem dX4_bestLie_123 : decode cX4_bestLie 123 = .ok (.iinc 10 1, 3) := by decide +kernel
theorem dX4_bestLie_126 : decode cX4_bestLie 126 = .ok (.goto (-80), 3) := by decide +kernel
theorem dX4_bestLie_129 : decode cX4_bestLie 129 = .ok (.iload 5, 2) := by decide +kernel
theorem dX4_bestLie_131 : decode cX4_bestLie 131 = .ok (.ifCond .eq 16, 3) := by decide +kernel
theorem dX4_bestLie_134 : decode cX4_bestLie 134 = .ok (.iload 8, 2) := by decide +kernel
theorem dX4_bestLie_136 : decode cX4_bestLie 136 = .ok (.bipush (-9), 2) := by decide +kernel
theorem dX4_bestLie_138 : decode cX4_bestLie 138 = .ok (.if_icmp .eq 9, 3) := by decide +kernel
theorem dX4_bestLie_141 : decode cX4_bestLie 141 = .ok (.lload 6, 2) := by decide +kernel
theorem dX4_bestLie_143 : decode cX4_bestLie 143 = .ok (.l2i, 1) := by decide +kernel
theorem dX4_bestLie_144 : decode cX4_bestLie 144 = .ok (.goto 5, 3) := by decide +kernel
theorem dX4_bestLie_147 : decode cX4_bestLie 147 = .ok (.iload 8, 2) := by decide +kernel
theorem dX4_bestLie_149 : decode cX4_bestLie 149 = .ok (.ireturn, 1) := by decide +kernel
set_option maxRecDepth 20000 in
theorem ggX4_mergedWithTerm_X4_joined : GoodIn wsX4_mergedWithTerm wsX4_joined := goodIn_r _ [8, 9, 10, 11, 12, 13, 14, 7, 15, 16] (by decide +kernel) (by decide +kernel)
set_option maxRecDepth 20000 in
theorem gX4_mergedWithTerm_X4_joined : GoodIn wsX4_mergedWithTerm (va_wsS RX4 221 yX4_joined wsX4_joined) := goodIn_app (goodIn_of _ (by decide +kernel)) ggX4_mergedWithTerm_X4_joined
set_option maxRecDepth 20000 in
theorem ggX4_mergedWithTerm_X4_least : GoodIn wsX4_mergedWithTerm wsX4_least := goodIn_r _ [19, 20, 21, 22, 7, 23] (by decide +kernel) (by decide +kernel)
set_option maxRecDepth 20000 in
theorem gX4_mergedWithTerm_X4_least : GoodIn wsX4_mergedWithTerm (va_wsS RX4 140 yX4_least wsX4_least) := goodIn_app (goodIn_of _ (by decide +kernel)) ggX4_mergedWithTerm_X4_least
theorem dX4_mergedWithTerm_0 : decode cX4_mergedWithTerm 0 = .ok (.iconst 0, 1) := by decide +kernel
theorem dX4_mergedWithTerm_1 : decode cX4_mergedWithTerm 1 = .ok (.istore 5, 2) := by decide +kernel
theorem dX4_mergedWithTerm_3 : decode cX4_mergedWithTerm 3 = .ok (.iload 5, 2) := by decide +kernel
theorem dX4_mergedWithTerm_5 : decode cX4_mergedWithTerm 5 = .ok (.bipush 64, 2) := by decide +kernel
theorem dX4_mergedWithTerm_7 : decode cX4_mergedWithTerm 7 = .ok (.if_icmp .ge 54, 3) := by decide +kernel
theorem dX4_mergedWithTerm_10 : decode cX4_mergedWithTerm 10 = .ok (.iload_n 3, 1) := by decide +kernel
theorem dX4_mergedWithTerm_11 : decode cX4_mergedWithTerm 11 = .ok (.iload 5, 2) := by decide +kernel
theorem dX4_mergedWithTerm_13 : decode cX4_mergedWithTerm 13 = .ok (.iconst (-1), 1) := by decide +kernel
theorem dX4_mergedWithTerm_14 : decode cX4_mergedWithTerm 14 = .ok (.ixor, 1) := by decide +kernel
theorem dX4_mergedWithTerm_15 : decode cX4_mergedWithTerm 15 = .ok (.iand, 1) := by decide +kernel
theorem dX4_mergedWithTerm_16 : decode cX4_mergedWithTerm 16 = .ok (.iload 4, 2) := by decide +kernel
theorem dX4_mergedWithTerm_18 : decode cX4_mergedWithTerm 18 = .ok (.iload 5, 2) := by decide +kernel
theorem dX4_mergedWithTerm_20 : decode cX4_mergedWithTerm 20 = .ok (.iand, 1) := by decide +kernel
theorem dX4_mergedWithTerm_21 : decode cX4_mergedWithTerm 21 = .ok (.ior, 1) := by decide +kernel
theorem dX4_mergedWithTerm_22 : decode cX4_mergedWithTerm 22 = .ok (.istore 6, 2) := by decide +kernel
theorem dX4_mergedWithTerm_24 : decode cX4_mergedWithTerm 24 = .ok (.aload_n 0, 1) := by decide +kernel
theorem dX4_mergedWithTerm_25 : decode cX4_mergedWithTerm 25 = .ok (.getfield 60, 3) := by decide +kernel
theorem dX4_mergedWithTerm_28 : decode cX4_mergedWithTerm 28 = .ok (.iload 5, 2) := by decide +kernel
theorem dX4_mergedWithTerm_30 : decode cX4_mergedWithTerm 30 = .ok (.iload_n 2, 1) := by decide +kernel
theorem dX4_mergedWithTerm_31 : decode cX4_mergedWithTerm 31 = .ok (.aload_n 0, 1) := by decide +kernel
theorem dX4_mergedWithTerm_32 : decode cX4_mergedWithTerm 32 = .ok (.getfield 57, 3) := by decide +kernel
theorem dX4_mergedWithTerm_35 : decode cX4_mergedWithTerm 35 = .ok (.iload 5, 2) := by decide +kernel
theorem dX4_mergedWithTerm_37 : decode cX4_mergedWithTerm 37 = .ok (.laload, 1) := by decide +kernel
theorem dX4_mergedWithTerm_38 : decode cX4_mergedWithTerm 38 = .ok (.iload_n 1, 1) := by decide +kernel
theorem dX4_mergedWithTerm_39 : decode cX4_mergedWithTerm 39 = .ok (.aload_n 0, 1) := by decide +kernel
theorem dX4_mergedWithTerm_40 : decode cX4_mergedWithTerm 40 = .ok (.getfield 44, 3) := by decide +kernel
theorem dX4_mergedWithTerm_43 : decode cX4_mergedWithTerm 43 = .ok (.getfield 122, 3) := by decide +kernel
theorem dX4_mergedWithTerm_46 : decode cX4_mergedWithTerm 46 = .ok (.iload 6, 2) := by decide +kernel
theorem dX4_mergedWithTerm_48 : decode cX4_mergedWithTerm 48 = .ok (.iaload, 1) := by decide +kernel
theorem dX4_mergedWithTerm_49 : decode cX4_mergedWithTerm 49 = .ok (.imul, 1) := by decide +kernel
theorem dX4_mergedWithTerm_50 : decode cX4_mergedWithTerm 50 = .ok (.i2l, 1) := by decide +kernel
theorem dX4_mergedWithTerm_51 : decode cX4_mergedWithTerm 51 = .ok (.invokestatic 221, 3) := by decide +kernel
theorem dX4_mergedWithTerm_54 : decode cX4_mergedWithTerm 54 = .ok (.lastore, 1) := by decide +kernel
theorem dX4_mergedWithTerm_55 : decode cX4_mergedWithTerm 55 = .ok (.iinc 5 1, 3) := by decide +kernel
theorem dX4_mergedWithTerm_58 : decode cX4_mergedWithTerm 58 = .ok (.goto (-55), 3) := by decide +kernel
theorem dX4_mergedWithTerm_61 : decode cX4_mergedWithTerm 61 = .ok (.aload_n 0, 1) := by decide +kernel
theorem dX4_mergedWithTerm_62 : decode cX4_mergedWithTerm 62 = .ok (.getfield 28, 3) := by decide +kernel
theorem dX4_mergedWithTerm_65 : decode cX4_mergedWithTerm 65 = .ok (.getfield 101, 3) := by decide +kernel
theorem dX4_mergedWithTerm_68 : decode cX4_mergedWithTerm 68 = .ok (.aload_n 0, 1) := by decide +kernel
theorem dX4_mergedWithTerm_69 : decode cX4_mergedWithTerm 69 = .ok (.getfield 60, 3) := by decide +kernel
theorem dX4_mergedWithTerm_72 : decode cX4_mergedWithTerm 72 = .ok (.invokestatic 140, 3) := by decide +kernel
theorem dX4_mergedWithTerm_75 : decode cX4_mergedWithTerm 75 = .ok (.lreturn, 1) := by decide +kernel
theorem dX4_setsOfSayers_0 : decode cX4_setsOfSayers 0 = .ok (.iconst 1, 1) := by decide +kernel
theorem dX4_setsOfSayers_1 : decode cX4_setsOfSayers 1 = .ok (.aload_n 0, 1) := by decide +kernel
theorem dX4_setsOfSayers_2 : decode cX4_setsOfSayers 2 = .ok (.getfield 28, 3) := by decide +kernel
theorem dX4_setsOfSayers_5 : decode cX4_setsOfSayers 5 = .ok (.getfield 94, 3) := by decide +kernel
theorem dX4_setsOfSayers_8 : decode cX4_setsOfSayers 8 = .ok (.ishl, 1) := by decide +kernel
theorem dX4_setsOfSayers_9 : decode cX4_setsOfSayers 9 = .ok (.ireturn, 1) := by decide +kernel
set_option maxRecDepth 20000 in
theorem ggX4_findCommon_X4_setsOfSayers : GoodIn wsX4_findCommon wsX4_setsOfSayers := goodIn_r _ [7, 2, 13, 14, 15, 16, 17, 18, 19, 20, 21, 22, 23, 24, 25, 26, 27, 28] (by decide +kernel) (by decide +kernel)
set_option maxRecDepth 20000 in
theorem gX4_findCommon_X4_setsOfSayers : GoodIn wsX4_findCommon (wsV RX4 148 RX4 yX4_setsOfSayers wsX4_setsOfSayers) := goodIn_app (goodIn_of _ (by decide +kernel)) ggX4_findCommon_X4_setsOfSayers
set_option maxRecDepth 20000 in
theorem ggX4_findCommon_J6_numberOfTrailingZeros_0f7a4 : GoodIn wsX4_findCommon wsJ6_numberOfTrailingZeros_0f7a4 := goodIn_r _ [11, 12] (by decide +kernel) (by decide +kernel)
set_option maxRecDepth 20000 in
theorem gX4_findCommon_J6_numberOfTrailingZeros_0f7a4 : GoodIn wsX4_findCommon (va_wsS RX4 239 yJ6_numberOfTrailingZeros_0f7a4 wsJ6_numberOfTrailingZeros_0f7a4) := goodIn_app (goodIn_of _ (by decide +kernel)) ggX4_findCommon_J6_numberOfTrailingZeros_0f7a4
theorem dX4_findCommon_0 : decode cX4_findCommon 0 = .ok (.aload_n 0, 1) := by decide +kernel
theorem dX4_findCommon_1 : decode cX4_findCommon 1 = .ok (.getfield 53, 3) := by decide +kernel
theorem dX4_findCommon_4 : decode cX4_findCommon 4 = .ok (.iconst 0, 1) := by decide +kernel
theorem dX4_findCommon_5 : decode cX4_findCommon 5 = .ok (.aload_n 0, 1) := by decide +kernel
theorem dX4_findCommon_6 : decode cX4_findCommon 6 = .ok (.getfield 28, 3) := by decide +kernel
theorem dX4_findCommon_9 : decode cX4_findCommon 9 = .ok (.getfield 101, 3) := by decide +kernel
theorem dX4_findCommon_12 : decode cX4_findCommon 12 = .ok (.lastore, 1) := by decide +kernel
theorem dX4_findCommon_13 : decode cX4_findCommon 13 = .ok (.iconst 1, 1) := by decide +kernel
theorem dX4_findCommon_14 : decode cX4_findCommon 14 = .ok (.istore_n 1, 1) := by decide +kernel
theorem dX4_findCommon_15 : decode cX4_findCommon 15 = .ok (.iload_n 1, 1) := by decide +kernel
theorem dX4_findCommon_16 : decode cX4_findCommon 16 = .ok (.aload_n 0, 1) := by decide +kernel
theorem dX4_findCommon_17 : decode cX4_findCommon 17 = .ok (.invokevirtual 148, 3) := by decide +kernel
theorem dX4_findCommon_20 : decode cX4_findCommon 20 = .ok (.if_icmp .ge 42, 3) := by decide +kernel
theorem dX4_findCommon_23 : decode cX4_findCommon 23 = .ok (.iload_n 1, 1) := by decide +kernel
theorem dX4_findCommon_24 : decode cX4_findCommon 24 = .ok (.invokestatic 239, 3) := by decide +kernel
theorem dX4_findCommon_27 : decode cX4_findCommon 27 = .ok (.istore_n 2, 1) := by decide +kernel
theorem dX4_findCommon_28 : decode cX4_findCommon 28 = .ok (.aload_n 0, 1) := by decide +kernel
theorem dX4_findCommon_29 : decode cX4_findCommon 29 = .ok (.getfield 53, 3) := by decide +kernel
theorem dX4_findCommon_32 : decode cX4_findCommon 32 = .ok (.iload_n 1, 1) := by decide +kernel
theorem dX4_findCommon_33 : decode cX4_findCommon 33 = .ok (.aload_n 0, 1) := by decide +kernel
theorem dX4_findCommon_34 : decode cX4_findCommon 34 = .ok (.getfield 53, 3) := by decide +kernel
theorem dX4_findCommon_37 : decode cX4_findCommon 37 = .ok (.iload_n 1, 1) := by decide +kernel
theorem dX4_findCommon_38 : decode cX4_findCommon 38 = .ok (.iconst 1, 1) := by decide +kernel
theorem dX4_findCommon_39 : decode cX4_findCommon 39 = .ok (.iload_n 2, 1) := by decide +kernel
theorem dX4_findCommon_40 : decode cX4_findCommon 40 = .ok (.ishl, 1) := by decide +kernel
theorem dX4_findCommon_41 : decode cX4_findCommon 41 = .ok (.iconst (-1), 1) := by decide +kernel
theorem dX4_findCommon_42 : decode cX4_findCommon 42 = .ok (.ixor, 1) := by decide +kernel
theorem dX4_findCommon_43 : decode cX4_findCommon 43 = .ok (.iand, 1) := by decide +kernel
theorem dX4_findCommon_44 : decode cX4_findCommon 44 = .ok (.laload, 1) := by decide +kernel
theorem dX4_findCommon_45 : decode cX4_findCommon 45 = .ok (.aload_n 0, 1) := by decide +kernel
theorem dX4_findCommon_46 : decode cX4_findCommon 46 = .ok (.getfield 28, 3) := by decide +kernel
theorem dX4_findCommon_49 : decode cX4_findCommon 49 = .ok (.getfield 108, 3) := by decide +kernel
theorem dX4_findCommon_52 : decode cX4_findCommon 52 = .ok (.iload_n 2, 1) := by decide +kernel
theorem dX4_findCommon_53 : decode cX4_findCommon 53 = .ok (.laload, 1) := by decide +kernel
theorem dX4_findCommon_54 : decode cX4_findCommon 54 = .ok (.land, 1) := by decide +kernel
theorem dX4_findCommon_55 : decode cX4_findCommon 55 = .ok (.lastore, 1) := by decide +kernel
theorem dX4_findCommon_56 : decode cX4_findCommon 56 = .ok (.iinc 1 1, 3) := by decide +kernel
theorem dX4_findCommon_59 : decode cX4_findCommon 59 = .ok (.goto (-44), 3) := by decide +kernel
theorem dX4_findCommon_62 : decode cX4_findCommon 62 = .ok (.return_, 1) := by decide +kernel
theorem dX4_isQuarrel_0 : decode cX4_isQuarrel 0 = .ok (.aload_n 0, 1) := by decide +kernel
theorem dX4_isQuarrel_1 : decode cX4_isQuarrel 1 = .ok (.getfield 53, 3) := by decide +kernel
theorem dX4_isQuarrel_4 : decode cX4_isQuarrel 4 = .ok (.iload_n 1, 1) := by decide +kernel
theorem dX4_isQuarrel_5 : decode cX4_isQuarrel 5 = .ok (.laload, 1) := by decide +kernel
theorem dX4_isQuarrel_6 : decode cX4_isQuarrel 6 = .ok (.lconst 0, 1) := by decide +kernel
theorem dX4_isQuarrel_7 : decode cX4_isQuarrel 7 = .ok (.lcmp, 1) := by decide +kernel
theorem dX4_isQuarrel_8 : decode cX4_isQuarrel 8 = .ok (.ifCond .ne 7, 3) := by decide +kernel
theorem dX4_isQuarrel_11 : decode cX4_isQuarrel 11 = .ok (.iconst 1, 1) := by decide +kernel
theorem dX4_isQuarrel_12 : decode cX4_isQuarrel 12 = .ok (.goto 4, 3) := by decide +kernel
theorem dX4_isQuarrel_15 : decode cX4_isQuarrel 15 = .ok (.iconst 0, 1) := by decide +kernel
theorem dX4_isQuarrel_16 : decode cX4_isQuarrel 16 = .ok (.ireturn, 1) := by decide +kernel
set_option maxRecDepth 20000 in
theorem ggX4_isListed_X4_isLeastQuarrel : GoodIn wsX4_isListed wsX4_isLeastQuarrel := goodIn_r _ [5, 6, 7, 8, 9, 4, 10, 11, 16, 17, 18, 19, 20, 21, 22, 23, 24, 25, 26, 27, 28, 29, 30, 31] (by decide +kernel) (by decide +kernel)
set_option maxRecDepth 20000 in
theorem gX4_isListed_X4_isLeastQuarrel : GoodIn wsX4_isListed (wsV RX4 165 RX4 yX4_isLeastQuarrel wsX4_isLeastQuarrel) := goodIn_app (goodIn_of _ (by decide +kernel)) ggX4_isListed_X4_isLeastQuarrel
set_option maxRecDepth 20000 in
theorem ggX4_isListed_X4_isGreatestAgreed : GoodIn wsX4_isListed wsX4_isGreatestAgreed := goodIn_r _ [15, 6, 7, 8, 9, 4, 10, 11, 16, 17, 18, 19, 20, 21, 22, 23, 24, 25, 26, 27, 28, 29, 30, 31] (by decide +kernel) (by decide +kernel)
set_option maxRecDepth 20000 in
theorem gX4_isListed_X4_isGreatestAgreed : GoodIn wsX4_isListed (wsV RX4 242 RX4 yX4_isGreatestAgreed wsX4_isGreatestAgreed) := goodIn_app (goodIn_of _ (by decide +kernel)) ggX4_isListed_X4_isGreatestAgreed
theorem dX4_isListed_0 : decode cX4_isListed 0 = .ok (.iload_n 1, 1) := by decide +kernel
theorem dX4_isListed_1 : decode cX4_isListed 1 = .ok (.ifCond .ne 11, 3) := by decide +kernel
theorem dX4_isListed_4 : decode cX4_isListed 4 = .ok (.aload_n 0, 1) := by decide +kernel
theorem dX4_isListed_5 : decode cX4_isListed 5 = .ok (.iload_n 2, 1) := by decide +kernel
theorem dX4_isListed_6 : decode cX4_isListed 6 = .ok (.invokevirtual 165, 3) := by decide +kernel
theorem dX4_isListed_9 : decode cX4_isListed 9 = .ok (.goto 8, 3) := by decide +kernel
theorem dX4_isListed_12 : decode cX4_isListed 12 = .ok (.aload_n 0, 1) := by decide +kernel
theorem dX4_isListed_13 : decode cX4_isListed 13 = .ok (.iload_n 2, 1) := by decide +kernel
theorem dX4_isListed_14 : decode cX4_isListed 14 = .ok (.invokevirtual 242, 3) := by decide +kernel
theorem dX4_isListed_17 : decode cX4_isListed 17 = .ok (.ireturn, 1) := by decide +kernel
set_option maxRecDepth 20000 in
theorem ggX4_isLeastQuarrel_X4_isQuarrel : GoodIn wsX4_isLeastQuarrel wsX4_isQuarrel := goodIn_r _ [6, 7, 8, 9, 10, 11, 12, 13, 14, 15, 16, 17, 18] (by decide +kernel) (by decide +kernel)
set_option maxRecDepth 20000 in
theorem gX4_isLeastQuarrel_X4_isQuarrel : GoodIn wsX4_isLeastQuarrel (wsV RX4 152 RX4 yX4_isQuarrel wsX4_isQuarrel) := goodIn_app (goodIn_of _ (by decide +kernel)) ggX4_isLeastQuarrel_X4_isQuarrel
theorem dX4_isLeastQuarrel_0 : decode cX4_isLeastQuarrel 0 = .ok (.aload_n 0, 1) := by decide +kernel
theorem dX4_isLeastQuarrel_1 : decode cX4_isLeastQuarrel 1 = .ok (.iload_n 1, 1) := by decide +kernel
theorem dX4_isLeastQuarrel_2 : decode cX4_isLeastQuarrel 2 = .ok (.invokevirtual 152, 3) := by decide +kernel
theorem dX4_isLeastQuarrel_5 : decode cX4_isLeastQuarrel 5 = .ok (.ifCond .ne 5, 3) := by decide +kernel
theorem dX4_isLeastQuarrel_8 : decode cX4_isLeastQuarrel 8 = .ok (.iconst 0, 1) := by decide +kernel
theorem dX4_isLeastQuarrel_9 : decode cX4_isLeastQuarrel 9 = .ok (.ireturn, 1) := by decide +kernel
theorem dX4_isLeastQuarrel_10 : decode cX4_isLeastQuarrel 10 = .ok (.iconst 0, 1) := by decide +kernel
theorem dX4_isLeastQuarrel_11 : decode cX4_isLeastQuarrel 11 = .ok (.istore_n 2, 1) := by decide +kernel
theorem dX4_isLeastQuarrel_12 : decode cX4_isLeastQuarrel 12 = .ok (.iload_n 2, 1) := by decide +kernel
theorem dX4_isLeastQuarrel_13 : decode cX4_isLeastQuarrel 13 = .ok (.aload_n 0, 1) := by decide +kernel
theorem dX4_isLeastQuarrel_14 : decode cX4_isLeastQuarrel 14 = .ok (.getfield 28, 3) := by decide +kernel
theorem dX4_isLeastQuarrel_17 : decode cX4_isLeastQuarrel 17 = .ok (.getfield 94, 3) := by decide +kernel
theorem dX4_isLeastQuarrel_20 : decode cX4_isLeastQuarrel 20 = .ok (.if_icmp .ge 33, 3) := by decide +kernel
theorem dX4_isLeastQuarrel_23 : decode cX4_isLeastQuarrel 23 = .ok (.iload_n 1, 1) := by decide +kernel
theorem dX4_isLeastQuarrel_24 : decode cX4_isLeastQuarrel 24 = .ok (.iconst 1, 1) := by decide +kernel
theorem dX4_isLeastQuarrel_25 : decode cX4_isLeastQuarrel 25 = .ok (.iload_n 2, 1) := by decide +kernel
theorem dX4_isLeastQuarrel_26 : decode cX4_isLeastQuarrel 26 = .ok (.ishl, 1) := by decide +kernel
theorem dX4_isLeastQuarrel_27 : decode cX4_isLeastQuarrel 27 = .ok (.iand, 1) := by decide +kernel
theorem dX4_isLeastQuarrel_28 : decode cX4_isLeastQuarrel 28 = .ok (.ifCond .eq 19, 3) := by decide +kernel
theorem dX4_isLeastQuarrel_31 : decode cX4_isLeastQuarrel 31 = .ok (.aload_n 0, 1) := by decide +kernel
theorem dX4_isLeastQuarrel_32 : decode cX4_isLeastQuarrel 32 = .ok (.iload_n 1, 1) := by decide +kernel
theorem dX4_isLeastQuarrel_33 : decode cX4_isLeastQuarrel 33 = .ok (.iconst 1, 1) := by decide +kernel
theorem dX4_isLeastQuarrel_34 : decode cX4_isLeastQuarrel 34 = .ok (.iload_n 2, 1) := by decide +kernel
theorem dX4_isLeastQuarrel_35 : decode cX4_isLeastQuarrel 35 = .ok (.ishl, 1) := by decide +kernel
theorem dX4_isLeastQuarrel_36 : decode cX4_isLeastQuarrel 36 = .ok (.iconst (-1), 1) := by decide +kernel
theorem dX4_isLeastQuarrel_37 : decode cX4_isLeastQuarrel 37 = .ok (.ixor, 1) := by decide +kernel
theorem dX4_isLeastQuarrel_38 : decode cX4_isLeastQuarrel 38 = .ok (.iand, 1) := by decide +kernel
theorem dX4_isLeastQuarrel_39 : decode cX4_isLeastQuarrel 39 = .ok (.invokevirtual 152, 3) := by decide +kernel
theorem dX4_isLeastQuarrel_42 : decode cX4_isLeastQuarrel 42 = .ok (.ifCond .eq 5, 3) := by decide +kernel
theorem dX4_isLeastQuarrel_45 : decode cX4_isLeastQuarrel 45 = .ok (.iconst 0, 1) := by decide +kernel
theorem dX4_isLeastQuarrel_46 : decode cX4_isLeastQuarrel 46 = .ok (.ireturn, 1) := by decide +kernel
theorem dX4_isLeastQuarrel_47 : decode cX4_isLeastQuarrel 47 = .ok (.iinc 2 1, 3) := by decide +kernel
theorem dX4_isLeastQuarrel_50 : decode cX4_isLeastQuarrel 50 = .ok (.goto (-38), 3) := by decide +kernel
theorem dX4_isLeastQuarrel_53 : decode cX4_isLeastQuarrel 53 = .ok (.iconst 1, 1) := by decide +kernel
theorem dX4_isLeastQuarrel_54 : decode cX4_isLeastQuarrel 54 = .ok (.ireturn, 1) := by decide +kernel
set_option maxRecDepth 20000 in
theorem ggX4_isGreatestAgreed_X4_isQuarrel : GoodIn wsX4_isGreatestAgreed wsX4_isQuarrel := goodIn_r _ [6, 7, 8, 9, 10, 11, 12, 13, 14, 15, 16, 17, 18] (by decide +kernel) (by decide +kernel)
set_option maxRecDepth 20000 in
theorem gX4_isGreatestAgreed_X4_isQuarrel : GoodIn wsX4_isGreatestAgreed (wsV RX4 152 RX4 yX4_isQuarrel wsX4_isQuarrel) := goodIn_app (goodIn_of _ (by decide +kernel)) ggX4_isGreatestAgreed_X4_isQuarrel
theorem dX4_isGreatestAgreed_0 : decode cX4_isGreatestAgreed 0 = .ok (.aload_n 0, 1) := by decide +kernel
theorem dX4_isGreatestAgreed_1 : decode cX4_isGreatestAgreed 1 = .ok (.iload_n 1, 1) := by decide +kernel
theorem dX4_isGreatestAgreed_2 : decode cX4_isGreatestAgreed 2 = .ok (.invokevirtual 152, 3) := by decide +kernel
theorem dX4_isGreatestAgreed_5 : decode cX4_isGreatestAgreed 5 = .ok (.ifCond .eq 5, 3) := by decide +kernel
theorem dX4_isGreatestAgreed_8 : decode cX4_isGreatestAgreed 8 = .ok (.iconst 0, 1) := by decide +kernel
theorem dX4_isGreatestAgreed_9 : decode cX4_isGreatestAgreed 9 = .ok (.ireturn, 1) := by decide +kernel
theorem dX4_isGreatestAgreed_10 : decode cX4_isGreatestAgreed 10 = .ok (.iconst 0, 1) := by decide +kernel
theorem dX4_isGreatestAgreed_11 : decode cX4_isGreatestAgreed 11 = .ok (.istore_n 2, 1) := by decide +kernel
theorem dX4_isGreatestAgreed_12 : decode cX4_isGreatestAgreed 12 = .ok (.iload_n 2, 1) := by decide +kernel
theorem dX4_isGreatestAgreed_13 : decode cX4_isGreatestAgreed 13 = .ok (.aload_n 0, 1) := by decide +kernel
theorem dX4_isGreatestAgreed_14 : decode cX4_isGreatestAgreed 14 = .ok (.getfield 28, 3) := by decide +kernel
theorem dX4_isGreatestAgreed_17 : decode cX4_isGreatestAgreed 17 = .ok (.getfield 94, 3) := by decide +kernel
theorem dX4_isGreatestAgreed_20 : decode cX4_isGreatestAgreed 20 = .ok (.if_icmp .ge 31, 3) := by decide +kernel
theorem dX4_isGreatestAgreed_23 : decode cX4_isGreatestAgreed 23 = .ok (.iload_n 1, 1) := by decide +kernel
theorem dX4_isGreatestAgreed_24 : decode cX4_isGreatestAgreed 24 = .ok (.iconst 1, 1) := by decide +kernel
theorem dX4_isGreatestAgreed_25 : decode cX4_isGreatestAgreed 25 = .ok (.iload_n 2, 1) := by decide +kernel
theorem dX4_isGreatestAgreed_26 : decode cX4_isGreatestAgreed 26 = .ok (.ishl, 1) := by decide +kernel
theorem dX4_isGreatestAgreed_27 : decode cX4_isGreatestAgreed 27 = .ok (.iand, 1) := by decide +kernel
theorem dX4_isGreatestAgreed_28 : decode cX4_isGreatestAgreed 28 = .ok (.ifCond .ne 17, 3) := by decide +kernel
theorem dX4_isGreatestAgreed_31 : decode cX4_isGreatestAgreed 31 = .ok (.aload_n 0, 1) := by decide +kernel
theorem dX4_isGreatestAgreed_32 : decode cX4_isGreatestAgreed 32 = .ok (.iload_n 1, 1) := by decide +kernel
theorem dX4_isGreatestAgreed_33 : decode cX4_isGreatestAgreed 33 = .ok (.iconst 1, 1) := by decide +kernel
theorem dX4_isGreatestAgreed_34 : decode cX4_isGreatestAgreed 34 = .ok (.iload_n 2, 1) := by decide +kernel
theorem dX4_isGreatestAgreed_35 : decode cX4_isGreatestAgreed 35 = .ok (.ishl, 1) := by decide +kernel
theorem dX4_isGreatestAgreed_36 : decode cX4_isGreatestAgreed 36 = .ok (.ior, 1) := by decide +kernel
theorem dX4_isGreatestAgreed_37 : decode cX4_isGreatestAgreed 37 = .ok (.invokevirtual 152, 3) := by decide +kernel
theorem dX4_isGreatestAgreed_40 : decode cX4_isGreatestAgreed 40 = .ok (.ifCond .ne 5, 3) := by decide +kernel
theorem dX4_isGreatestAgreed_43 : decode cX4_isGreatestAgreed 43 = .ok (.iconst 0, 1) := by decide +kernel
theorem dX4_isGreatestAgreed_44 : decode cX4_isGreatestAgreed 44 = .ok (.ireturn, 1) := by decide +kernel
theorem dX4_isGreatestAgreed_45 : decode cX4_isGreatestAgreed 45 = .ok (.iinc 2 1, 3) := by decide +kernel
theorem dX4_isGreatestAgreed_48 : decode cX4_isGreatestAgreed 48 = .ok (.goto (-36), 3) := by decide +kernel
theorem dX4_isGreatestAgreed_51 : decode cX4_isGreatestAgreed 51 = .ok (.iconst 1, 1) := by decide +kernel
theorem dX4_isGreatestAgreed_52 : decode cX4_isGreatestAgreed 52 = .ok (.ireturn, 1) := by decide +kernel
set_option maxRecDepth 20000 in
theorem ggX4_ordersTurnedBy_X4_setsOfSayers : GoodIn wsX4_ordersTurnedBy wsX4_setsOfSayers := goodIn_r _ [7, 2, 20, 21, 22, 23, 24, 25, 26, 27, 28, 29, 30, 31, 32, 33, 34, 35] (by decide +kernel) (by decide +kernel)
set_option maxRecDepth 20000 in
theorem gX4_ordersTurnedBy_X4_setsOfSayers : GoodIn wsX4_ordersTurnedBy (wsV RX4 148 RX4 yX4_setsOfSayers wsX4_setsOfSayers) := goodIn_app (goodIn_of _ (by decide +kernel)) ggX4_ordersTurnedBy_X4_setsOfSayers
set_option maxRecDepth 20000 in
theorem ggX4_ordersTurnedBy_X4_isQuarrel : GoodIn wsX4_ordersTurnedBy wsX4_isQuarrel := goodIn_r _ [11, 12, 20, 21, 22, 23, 24, 25, 26, 27, 28, 29, 30] (by decide +kernel) (by decide +kernel)
set_option maxRecDepth 20000 in
theorem gX4_ordersTurnedBy_X4_isQuarrel : GoodIn wsX4_ordersTurnedBy (wsV RX4 152 RX4 yX4_isQuarrel wsX4_isQuarrel) := goodIn_app (goodIn_of _ (by decide +kernel)) ggX4_ordersTurnedBy_X4_isQuarrel
set_option maxRecDepth 20000 in
theorem ggX4_ordersTurnedBy_J6_bitCount_0f7a4 : GoodIn wsX4_ordersTurnedBy wsJ6_bitCount_0f7a4 := goodIn_r _ [16, 17, 18, 19] (by decide +kernel) (by decide +kernel)
set_option maxRecDepth 20000 in
theorem gX4_ordersTurnedBy_J6_bitCount_0f7a4 : GoodIn wsX4_ordersTurnedBy (va_wsS RX4 155 yJ6_bitCount_0f7a4 wsJ6_bitCount_0f7a4) := goodIn_app (goodIn_of _ (by decide +kernel)) ggX4_ordersTurnedBy_J6_bitCount_0f7a4
theorem dX4_ordersTurnedBy_0 : decode cX4_ordersTurnedBy 0 = .ok (.iconst 0, 1) := by decide +kernel
theorem dX4_ordersTurnedBy_1 : decode cX4_ordersTurnedBy 1 = .ok (.istore_n 2, 1) := by decide +kernel
theorem dX4_ordersTurnedBy_2 : decode cX4_ordersTurnedBy 2 = .ok (.iconst 0, 1) := by decide +kernel
theorem dX4_ordersTurnedBy_3 : decode cX4_ordersTurnedBy 3 = .ok (.istore_n 3, 1) := by decide +kernel
theorem dX4_ordersTurnedBy_4 : decode cX4_ordersTurnedBy 4 = .ok (.iload_n 3, 1) := by decide +kernel
theorem dX4_ordersTurnedBy_5 : decode cX4_ordersTurnedBy 5 = .ok (.aload_n 0, 1) := by decide +kernel
theorem dX4_ordersTurnedBy_6 : decode cX4_ordersTurnedBy 6 = .ok (.invokevirtual 148, 3) := by decide +kernel
theorem dX4_ordersTurnedBy_9 : decode cX4_ordersTurnedBy 9 = .ok (.if_icmp .ge 69, 3) := by decide +kernel
theorem dX4_ordersTurnedBy_12 : decode cX4_ordersTurnedBy 12 = .ok (.iload_n 3, 1) := by decide +kernel
theorem dX4_ordersTurnedBy_13 : decode cX4_ordersTurnedBy 13 = .ok (.iconst 1, 1) := by decide +kernel
theorem dX4_ordersTurnedBy_14 : decode cX4_ordersTurnedBy 14 = .ok (.iload_n 1, 1) := by decide +kernel
theorem dX4_ordersTurnedBy_15 : decode cX4_ordersTurnedBy 15 = .ok (.ishl, 1) := by decide +kernel
theorem dX4_ordersTurnedBy_16 : decode cX4_ordersTurnedBy 16 = .ok (.iand, 1) := by decide +kernel
theorem dX4_ordersTurnedBy_17 : decode cX4_ordersTurnedBy 17 = .ok (.ifCond .ne 55, 3) := by decide +kernel
theorem dX4_ordersTurnedBy_20 : decode cX4_ordersTurnedBy 20 = .ok (.aload_n 0, 1) := by decide +kernel
theorem dX4_ordersTurnedBy_21 : decode cX4_ordersTurnedBy 21 = .ok (.iload_n 3, 1) := by decide +kernel
theorem dX4_ordersTurnedBy_22 : decode cX4_ordersTurnedBy 22 = .ok (.invokevirtual 152, 3) := by decide +kernel
theorem dX4_ordersTurnedBy_25 : decode cX4_ordersTurnedBy 25 = .ok (.ifCond .ne 47, 3) := by decide +kernel
theorem dX4_ordersTurnedBy_28 : decode cX4_ordersTurnedBy 28 = .ok (.aload_n 0, 1) := by decide +kernel
theorem dX4_ordersTurnedBy_29 : decode cX4_ordersTurnedBy 29 = .ok (.iload_n 3, 1) := by decide +kernel
theorem dX4_ordersTurnedBy_30 : decode cX4_ordersTurnedBy 30 = .ok (.iconst 1, 1) := by decide +kernel
theorem dX4_ordersTurnedBy_31 : decode cX4_ordersTurnedBy 31 = .ok (.iload_n 1, 1) := by decide +kernel
theorem dX4_ordersTurnedBy_32 : decode cX4_ordersTurnedBy 32 = .ok (.ishl, 1) := by decide +kernel
theorem dX4_ordersTurnedBy_33 : decode cX4_ordersTurnedBy 33 = .ok (.ior, 1) := by decide +kernel
theorem dX4_ordersTurnedBy_34 : decode cX4_ordersTurnedBy 34 = .ok (.invokevirtual 152, 3) := by decide +kernel
theorem dX4_ordersTurnedBy_37 : decode cX4_ordersTurnedBy 37 = .ok (.ifCond .eq 35, 3) := by decide +kernel
theorem dX4_ordersTurnedBy_40 : decode cX4_ordersTurnedBy 40 = .ok (.iload_n 3, 1) := by decide +kernel
theorem dX4_ordersTurnedBy_41 : decode cX4_ordersTurnedBy 41 = .ok (.invokestatic 155, 3) := by decide +kernel
theorem dX4_ordersTurnedBy_44 : decode cX4_ordersTurnedBy 44 = .ok (.istore 4, 2) := by decide +kernel
theorem dX4_ordersTurnedBy_46 : decode cX4_ordersTurnedBy 46 = .ok (.iload_n 2, 1) := by decide +kernel
theorem dX4_ordersTurnedBy_47 : decode cX4_ordersTurnedBy 47 = .ok (.getstatic 171, 3) := by decide +kernel
theorem dX4_ordersTurnedBy_50 : decode cX4_ordersTurnedBy 50 = .ok (.iload 4, 2) := by decide +kernel
theorem dX4_ordersTurnedBy_52 : decode cX4_ordersTurnedBy 52 = .ok (.iaload, 1) := by decide +kernel
theorem dX4_ordersTurnedBy_53 : decode cX4_ordersTurnedBy 53 = .ok (.getstatic 171, 3) := by decide +kernel
theorem dX4_ordersTurnedBy_56 : decode cX4_ordersTurnedBy 56 = .ok (.aload_n 0, 1) := by decide +kernel
theorem dX4_ordersTurnedBy_57 : decode cX4_ordersTurnedBy 57 = .ok (.getfield 28, 3) := by decide +kernel
theorem dX4_ordersTurnedBy_60 : decode cX4_ordersTurnedBy 60 = .ok (.getfield 94, 3) := by decide +kernel
theorem dX4_ordersTurnedBy_63 : decode cX4_ordersTurnedBy 63 = .ok (.iconst 1, 1) := by decide +kernel
theorem dX4_ordersTurnedBy_64 : decode cX4_ordersTurnedBy 64 = .ok (.isub, 1) := by decide +kernel
theorem dX4_ordersTurnedBy_65 : decode cX4_ordersTurnedBy 65 = .ok (.iload 4, 2) := by decide +kernel
theorem dX4_ordersTurnedBy_67 : decode cX4_ordersTurnedBy 67 = .ok (.isub, 1) := by decide +kernel
theorem dX4_ordersTurnedBy_68 : decode cX4_ordersTurnedBy 68 = .ok (.iaload, 1) := by decide +kernel
theorem dX4_ordersTurnedBy_69 : decode cX4_ordersTurnedBy 69 = .ok (.imul, 1) := by decide +kernel
theorem dX4_ordersTurnedBy_70 : decode cX4_ordersTurnedBy 70 = .ok (.iadd, 1) := by decide +kernel
theorem dX4_ordersTurnedBy_71 : decode cX4_ordersTurnedBy 71 = .ok (.istore_n 2, 1) := by decide +kernel
theorem dX4_ordersTurnedBy_72 : decode cX4_ordersTurnedBy 72 = .ok (.iinc 3 1, 3) := by decide +kernel
theorem dX4_ordersTurnedBy_75 : decode cX4_ordersTurnedBy 75 = .ok (.goto (-71), 3) := by decide +kernel
theorem dX4_ordersTurnedBy_78 : decode cX4_ordersTurnedBy 78 = .ok (.iload_n 2, 1) := by decide +kernel
theorem dX4_ordersTurnedBy_79 : decode cX4_ordersTurnedBy 79 = .ok (.ireturn, 1) := by decide +kernel
theorem dX4_commonDivisor_0 : decode cX4_commonDivisor 0 = .ok (.iload_n 0, 1) := by decide +kernel
theorem dX4_commonDivisor_1 : decode cX4_commonDivisor 1 = .ok (.istore_n 2, 1) := by decide +kernel
theorem dX4_commonDivisor_2 : decode cX4_commonDivisor 2 = .ok (.iload_n 1, 1) := by decide +kernel
theorem dX4_commonDivisor_3 : decode cX4_commonDivisor 3 = .ok (.istore_n 3, 1) := by decide +kernel
theorem dX4_commonDivisor_4 : decode cX4_commonDivisor 4 = .ok (.iconst 0, 1) := by decide +kernel
theorem dX4_commonDivisor_5 : decode cX4_commonDivisor 5 = .ok (.istore 4, 2) := by decide +kernel
theorem dX4_commonDivisor_7 : decode cX4_commonDivisor 7 = .ok (.iload 4, 2) := by decide +kernel
theorem dX4_commonDivisor_9 : decode cX4_commonDivisor 9 = .ok (.bipush 64, 2) := by decide +kernel
theorem dX4_commonDivisor_11 : decode cX4_commonDivisor 11 = .ok (.if_icmp .ge 23, 3) := by decide +kernel
theorem dX4_commonDivisor_14 : decode cX4_commonDivisor 14 = .ok (.iload_n 3, 1) := by decide +kernel
theorem dX4_commonDivisor_15 : decode cX4_commonDivisor 15 = .ok (.ifCond .eq 19, 3) := by decide +kernel
theorem dX4_commonDivisor_18 : decode cX4_commonDivisor 18 = .ok (.iload_n 2, 1) := by decide +kernel
theorem dX4_commonDivisor_19 : decode cX4_commonDivisor 19 = .ok (.iload_n 3, 1) := by decide +kernel
theorem dX4_commonDivisor_20 : decode cX4_commonDivisor 20 = .ok (.irem, 1) := by decide +kernel
theorem dX4_commonDivisor_21 : decode cX4_commonDivisor 21 = .ok (.istore 5, 2) := by decide +kernel
theorem dX4_commonDivisor_23 : decode cX4_commonDivisor 23 = .ok (.iload_n 3, 1) := by decide +kernel
theorem dX4_commonDivisor_24 : decode cX4_commonDivisor 24 = .ok (.istore_n 2, 1) := by decide +kernel
theorem dX4_commonDivisor_25 : decode cX4_commonDivisor 25 = .ok (.iload 5, 2) := by decide +kernel
theorem dX4_commonDivisor_27 : decode cX4_commonDivisor 27 = .ok (.istore_n 3, 1) := by decide +kernel
theorem dX4_commonDivisor_28 : decode cX4_commonDivisor 28 = .ok (.iinc 4 1, 3) := by decide +kernel
theorem dX4_commonDivisor_31 : decode cX4_commonDivisor 31 = .ok (.goto (-24), 3) := by decide +kernel
theorem dX4_commonDivisor_34 : decode cX4_commonDivisor 34 = .ok (.iload_n 2, 1) := by decide +kernel
theorem dX4_commonDivisor_35 : decode cX4_commonDivisor 35 = .ok (.ireturn, 1) := by decide +kernel
set_option maxRecDepth 20000 in
theorem ggX4_sayerWorth_J13_bitCount_95d88 : GoodIn wsX4_sayerWorth wsJ13_bitCount_95d88 := goodIn_r _ [6, 7, 8, 9] (by decide +kernel) (by decide +kernel)
set_option maxRecDepth 20000 in
theorem gX4_sayerWorth_J13_bitCount_95d88 : GoodIn wsX4_sayerWorth (va_wsS RX4 201 yJ13_bitCount_95d88 wsJ13_bitCount_95d88) := goodIn_app (goodIn_of _ (by decide +kernel)) ggX4_sayerWorth_J13_bitCount_95d88
theorem dX4_sayerWorth_0 : decode cX4_sayerWorth 0 = .ok (.aload_n 0, 1) := by decide +kernel
theorem dX4_sayerWorth_1 : decode cX4_sayerWorth 1 = .ok (.dup, 1) := by decide +kernel
theorem dX4_sayerWorth_2 : decode cX4_sayerWorth 2 = .ok (.getfield 63, 3) := by decide +kernel
theorem dX4_sayerWorth_5 : decode cX4_sayerWorth 5 = .ok (.lconst 1, 1) := by decide +kernel
theorem dX4_sayerWorth_6 : decode cX4_sayerWorth 6 = .ok (.ladd, 1) := by decide +kernel
theorem dX4_sayerWorth_7 : decode cX4_sayerWorth 7 = .ok (.putfield 63, 3) := by decide +kernel
theorem dX4_sayerWorth_10 : decode cX4_sayerWorth 10 = .ok (.aload_n 0, 1) := by decide +kernel
theorem dX4_sayerWorth_11 : decode cX4_sayerWorth 11 = .ok (.getfield 28, 3) := by decide +kernel
theorem dX4_sayerWorth_14 : decode cX4_sayerWorth 14 = .ok (.getfield 101, 3) := by decide +kernel
theorem dX4_sayerWorth_17 : decode cX4_sayerWorth 17 = .ok (.aload_n 0, 1) := by decide +kernel
theorem dX4_sayerWorth_18 : decode cX4_sayerWorth 18 = .ok (.getfield 28, 3) := by decide +kernel
theorem dX4_sayerWorth_21 : decode cX4_sayerWorth 21 = .ok (.getfield 108, 3) := by decide +kernel
theorem dX4_sayerWorth_24 : decode cX4_sayerWorth 24 = .ok (.iload_n 1, 1) := by decide +kernel
theorem dX4_sayerWorth_25 : decode cX4_sayerWorth 25 = .ok (.laload, 1) := by decide +kernel
theorem dX4_sayerWorth_26 : decode cX4_sayerWorth 26 = .ok (.land, 1) := by decide +kernel
theorem dX4_sayerWorth_27 : decode cX4_sayerWorth 27 = .ok (.invokestatic 201, 3) := by decide +kernel
theorem dX4_sayerWorth_30 : decode cX4_sayerWorth 30 = .ok (.ireturn, 1) := by decide +kernel
set_option maxRecDepth 20000 in
theorem ggX4_weightyWorth_X4_sayerWorth : GoodIn wsX4_weightyWorth wsX4_sayerWorth := goodIn_r _ [8, 1, 3, 9, 10, 11, 12, 13, 14, 15, 16, 17, 18, 19, 20, 21, 22, 23, 24, 25, 26, 27, 28, 29, 30, 31] (by decide +kernel) (by decide +kernel)
set_option maxRecDepth 20000 in
theorem gX4_weightyWorth_X4_sayerWorth : GoodIn wsX4_weightyWorth (wsV RX4 186 RX4 yX4_sayerWorth wsX4_sayerWorth) := goodIn_app (goodIn_of _ (by decide +kernel)) ggX4_weightyWorth_X4_sayerWorth
theorem dX4_weightyWorth_0 : decode cX4_weightyWorth 0 = .ok (.aload_n 0, 1) := by decide +kernel
theorem dX4_weightyWorth_1 : decode cX4_weightyWorth 1 = .ok (.dup, 1) := by decide +kernel
theorem dX4_weightyWorth_2 : decode cX4_weightyWorth 2 = .ok (.getfield 63, 3) := by decide +kernel
theorem dX4_weightyWorth_5 : decode cX4_weightyWorth 5 = .ok (.ldc2_w 245, 3) := by decide +kernel
theorem dX4_weightyWorth_8 : decode cX4_weightyWorth 8 = .ok (.ladd, 1) := by decide +kernel
theorem dX4_weightyWorth_9 : decode cX4_weightyWorth 9 = .ok (.putfield 63, 3) := by decide +kernel
theorem dX4_weightyWorth_12 : decode cX4_weightyWorth 12 = .ok (.aload_n 0, 1) := by decide +kernel
theorem dX4_weightyWorth_13 : decode cX4_weightyWorth 13 = .ok (.iload_n 1, 1) := by decide +kernel
theorem dX4_weightyWorth_14 : decode cX4_weightyWorth 14 = .ok (.invokevirtual 186, 3) := by decide +kernel
theorem dX4_weightyWorth_17 : decode cX4_weightyWorth 17 = .ok (.aload_n 0, 1) := by decide +kernel
theorem dX4_weightyWorth_18 : decode cX4_weightyWorth 18 = .ok (.getfield 28, 3) := by decide +kernel
theorem dX4_weightyWorth_21 : decode cX4_weightyWorth 21 = .ok (.getfield 212, 3) := by decide +kernel
theorem dX4_weightyWorth_24 : decode cX4_weightyWorth 24 = .ok (.iload_n 1, 1) := by decide +kernel
theorem dX4_weightyWorth_25 : decode cX4_weightyWorth 25 = .ok (.iaload, 1) := by decide +kernel
theorem dX4_weightyWorth_26 : decode cX4_weightyWorth 26 = .ok (.imul, 1) := by decide +kernel
theorem dX4_weightyWorth_27 : decode cX4_weightyWorth 27 = .ok (.ireturn, 1) := by decide +kernel
set_option maxRecDepth 20000 in
theorem ggX4_loneWorth_X4_sayerWorth : GoodIn wsX4_loneWorth wsX4_sayerWorth := goodIn_r _ [8, 1, 3, 9, 10, 11, 12, 13, 14, 15, 23, 24, 25, 26, 27, 28, 29, 30, 31, 32, 33, 34, 35, 36, 37, 38] (by decide +kernel) (by decide +kernel)
set_option maxRecDepth 20000 in
theorem gX4_loneWorth_X4_sayerWorth : GoodIn wsX4_loneWorth (wsV RX4 186 RX4 yX4_sayerWorth wsX4_sayerWorth) := goodIn_app (goodIn_of _ (by decide +kernel)) ggX4_loneWorth_X4_sayerWorth
set_option maxRecDepth 20000 in
theorem ggX4_loneWorth_X3_saidByOthers : GoodIn wsX4_loneWorth wsX3_saidByOthers := goodIn_r _ [20, 21, 22, 34, 35, 36, 37, 38] (by decide +kernel) (by decide +kernel)
set_option maxRecDepth 20000 in
theorem gX4_loneWorth_X3_saidByOthers : GoodIn wsX4_loneWorth (wsV RX4 249 RX3 yX3_saidByOthers wsX3_saidByOthers) := goodIn_app (goodIn_of _ (by decide +kernel)) ggX4_loneWorth_X3_saidByOthers
set_option maxRecDepth 20000 in
theorem ggX4_loneWorth_J13_bitCount_95d88 : GoodIn wsX4_loneWorth wsJ13_bitCount_95d88 := goodIn_r _ [12, 13, 14, 15] (by decide +kernel) (by decide +kernel)
set_option maxRecDepth 20000 in
theorem gX4_loneWorth_J13_bitCount_95d88 : GoodIn wsX4_loneWorth (va_wsS RX4 201 yJ13_bitCount_95d88 wsJ13_bitCount_95d88) := goodIn_app (goodIn_of _ (by decide +kernel)) ggX4_loneWorth_J13_bitCount_95d88
theorem dX4_loneWorth_0 : decode cX4_loneWorth 0 = .ok (.aload_n 0, 1) := by decide +kernel
theorem dX4_loneWorth_1 : decode cX4_loneWorth 1 = .ok (.dup, 1) := by decide +kernel
theorem dX4_loneWorth_2 : decode cX4_loneWorth 2 = .ok (.getfield 63, 3) := by decide +kernel
theorem dX4_loneWorth_5 : decode cX4_loneWorth 5 = .ok (.ldc2_w 247, 3) := by decide +kernel
theorem dX4_loneWorth_8 : decode cX4_loneWorth 8 = .ok (.ladd, 1) := by decide +kernel
theorem dX4_loneWorth_9 : decode cX4_loneWorth 9 = .ok (.putfield 63, 3) := by decide +kernel
theorem dX4_loneWorth_12 : decode cX4_loneWorth 12 = .ok (.aload_n 0, 1) := by decide +kernel
theorem dX4_loneWorth_13 : decode cX4_loneWorth 13 = .ok (.iload_n 1, 1) := by decide +kernel
theorem dX4_loneWorth_14 : decode cX4_loneWorth 14 = .ok (.invokevirtual 186, 3) := by decide +kernel
theorem dX4_loneWorth_17 : decode cX4_loneWorth 17 = .ok (.aload_n 0, 1) := by decide +kernel
theorem dX4_loneWorth_18 : decode cX4_loneWorth 18 = .ok (.getfield 28, 3) := by decide +kernel
theorem dX4_loneWorth_21 : decode cX4_loneWorth 21 = .ok (.getfield 101, 3) := by decide +kernel
theorem dX4_loneWorth_24 : decode cX4_loneWorth 24 = .ok (.aload_n 0, 1) := by decide +kernel
theorem dX4_loneWorth_25 : decode cX4_loneWorth 25 = .ok (.getfield 28, 3) := by decide +kernel
theorem dX4_loneWorth_28 : decode cX4_loneWorth 28 = .ok (.getfield 108, 3) := by decide +kernel
theorem dX4_loneWorth_31 : decode cX4_loneWorth 31 = .ok (.iload_n 1, 1) := by decide +kernel
theorem dX4_loneWorth_32 : decode cX4_loneWorth 32 = .ok (.laload, 1) := by decide +kernel
theorem dX4_loneWorth_33 : decode cX4_loneWorth 33 = .ok (.land, 1) := by decide +kernel
theorem dX4_loneWorth_34 : decode cX4_loneWorth 34 = .ok (.aload_n 0, 1) := by decide +kernel
theorem dX4_loneWorth_35 : decode cX4_loneWorth 35 = .ok (.getfield 28, 3) := by decide +kernel
theorem dX4_loneWorth_38 : decode cX4_loneWorth 38 = .ok (.iload_n 1, 1) := by decide +kernel
theorem dX4_loneWorth_39 : decode cX4_loneWorth 39 = .ok (.invokevirtual 249, 3) := by decide +kernel
theorem dX4_loneWorth_42 : decode cX4_loneWorth 42 = .ok (.land, 1) := by decide +kernel
theorem dX4_loneWorth_43 : decode cX4_loneWorth 43 = .ok (.invokestatic 201, 3) := by decide +kernel
theorem dX4_loneWorth_46 : decode cX4_loneWorth 46 = .ok (.isub, 1) := by decide +kernel
theorem dX4_loneWorth_47 : decode cX4_loneWorth 47 = .ok (.ireturn, 1) := by decide +kernel
set_option maxRecDepth 20000 in
theorem ggX4_firmWorth_X4_weightyWorth : GoodIn wsX4_firmWorth wsX4_weightyWorth := goodIn_r _ [7, 1, 8, 9, 10, 11, 12, 6, 13, 14, 15, 16, 17, 18, 19, 20, 53, 54, 55, 56, 57, 58, 59, 60, 61, 62, 63, 64, 65, 66, 67, 68] (by decide +kernel) (by decide +kernel)
set_option maxRecDepth 20000 in
theorem gX4_firmWorth_X4_weightyWorth : GoodIn wsX4_firmWorth (wsV RX4 189 RX4 yX4_weightyWorth wsX4_weightyWorth) := goodIn_app (goodIn_of _ (by decide +kernel)) ggX4_firmWorth_X4_weightyWorth
set_option maxRecDepth 20000 in
theorem ggX4_firmWorth_X4_mergedBy : GoodIn wsX4_firmWorth wsX4_mergedBy := goodIn_r _ [24, 25, 9, 26, 27, 28, 6, 29, 30, 31, 32, 33, 34, 35, 36, 37, 38, 39, 40, 41, 42, 43, 44, 45, 46, 47, 48, 49, 50, 51, 52, 53, 54, 55, 56, 57, 58, 59, 60, 61, 62, 63, 64, 65, 66, 67, 68] (by decide +kernel) (by decide +kernel)
set_option maxRecDepth 20000 in
theorem gX4_firmWorth_X4_mergedBy : GoodIn wsX4_firmWorth (wsV RX4 132 RX4 yX4_mergedBy wsX4_mergedBy) := goodIn_app (goodIn_of _ (by decide +kernel)) ggX4_firmWorth_X4_mergedBy
set_option maxRecDepth 20000 in
theorem ggX4_firmWorth_J13_bitCount_95d88 : GoodIn wsX4_firmWorth wsJ13_bitCount_95d88 := goodIn_r _ [17, 18, 19, 20] (by decide +kernel) (by decide +kernel)
set_option maxRecDepth 20000 in
theorem gX4_firmWorth_J13_bitCount_95d88 : GoodIn wsX4_firmWorth (va_wsS RX4 201 yJ13_bitCount_95d88 wsJ13_bitCount_95d88) := goodIn_app (goodIn_of _ (by decide +kernel)) ggX4_firmWorth_J13_bitCount_95d88
theorem dX4_firmWorth_0 : decode cX4_firmWorth 0 = .ok (.aload_n 0, 1) := by decide +kernel
theorem dX4_firmWorth_1 : decode cX4_firmWorth 1 = .ok (.dup, 1) := by decide +kernel
theorem dX4_firmWorth_2 : decode cX4_firmWorth 2 = .ok (.getfield 63, 3) := by decide +kernel
theorem dX4_firmWorth_5 : decode cX4_firmWorth 5 = .ok (.ldc2_w 252, 3) := by decide +kernel
theorem dX4_firmWorth_8 : decode cX4_firmWorth 8 = .ok (.ladd, 1) := by decide +kernel
theorem dX4_firmWorth_9 : decode cX4_firmWorth 9 = .ok (.putfield 63, 3) := by decide +kernel
theorem dX4_firmWorth_12 : decode cX4_firmWorth 12 = .ok (.aload_n 0, 1) := by decide +kernel
theorem dX4_firmWorth_13 : decode cX4_firmWorth 13 = .ok (.iload_n 1, 1) := by decide +kernel
theorem dX4_firmWorth_14 : decode cX4_firmWorth 14 = .ok (.invokevirtual 189, 3) := by decide +kernel
theorem dX4_firmWorth_17 : decode cX4_firmWorth 17 = .ok (.aload_n 0, 1) := by decide +kernel
theorem dX4_firmWorth_18 : decode cX4_firmWorth 18 = .ok (.iconst 0, 1) := by decide +kernel
theorem dX4_firmWorth_19 : decode cX4_firmWorth 19 = .ok (.invokevirtual 132, 3) := by decide +kernel
theorem dX4_firmWorth_22 : decode cX4_firmWorth 22 = .ok (.invokestatic 201, 3) := by decide +kernel
theorem dX4_firmWorth_25 : decode cX4_firmWorth 25 = .ok (.iadd, 1) := by decide +kernel
theorem dX4_firmWorth_26 : decode cX4_firmWorth 26 = .ok (.ireturn, 1) := by decide +kernel
theorem dX5_init_0 : decode cX5_init 0 = .ok (.aload_n 0, 1) := by decide +kernel
theorem dX5_init_1 : decode cX5_init 1 = .ok (.invokespecial 1, 3) := by decide +kernel
theorem dX5_init_4 : decode cX5_init 4 = .ok (.aload_n 0, 1) := by decide +kernel
theorem dX5_init_5 : decode cX5_init 5 = .ok (.sipush 300, 3) := by decide +kernel
theorem dX5_init_8 : decode cX5_init 8 = .ok (.newarray .byte, 2) := by decide +kernel
theorem dX5_init_10 : decode cX5_init 10 = .ok (.putfield 7, 3) := by decide +kernel
theorem dX5_init_13 : decode cX5_init 13 = .ok (.aload_n 0, 1) := by decide +kernel
theorem dX5_init_14 : decode cX5_init 14 = .ok (.ldc2_w 13, 3) := by decide +kernel
theorem dX5_init_17 : decode cX5_init 17 = .ok (.putfield 15, 3) := by decide +kernel
theorem dX5_init_20 : decode cX5_init 20 = .ok (.aload_n 0, 1) := by decide +kernel
theorem dX5_init_21 : decode cX5_init 21 = .ok (.ldc2_w 13, 3) := by decide +kernel
theorem dX5_init_24 : decode cX5_init 24 = .ok (.putfield 19, 3) := by decide +kernel
theorem dX5_init_27 : decode cX5_init 27 = .ok (.aload_n 0, 1) := by decide +kernel
theorem dX5_init_28 : decode cX5_init 28 = .ok (.bipush 7, 2) := by decide +kernel
theorem dX5_init_30 : decode cX5_init 30 = .ok (.newarray .int, 2) := by decide +kernel
theorem dX5_init_32 : decode cX5_init 32 = .ok (.putfield 22, 3) := by decide +kernel
theorem dX5_init_35 : decode cX5_init 35 = .ok (.aload_n 0, 1) := by decide +kernel
theorem dX5_init_36 : decode cX5_init 36 = .ok (.bipush 7, 2) := by decide +kernel
theorem dX5_init_38 : decode cX5_init 38 = .ok (.newarray .long, 2) := by decide +kernel
theorem dX5_init_40 : decode cX5_init 40 = .ok (.putfield 26, 3) := by decide +kernel
theorem dX5_init_43 : decode cX5_init 43 = .ok (.aload_n 0, 1) := by decide +kernel
theorem dX5_init_44 : decode cX5_init 44 = .ok (.bipush 6, 2) := by decide +kernel
theorem dX5_init_46 : decode cX5_init 46 = .ok (.newarray .int, 2) := by decide +kernel
theorem dX5_init_48 : decode cX5_init 48 = .ok (.dup, 1) := by decide +kernel
theorem dX5_init_49 : decode cX5_init 49 = .ok (.iconst 0, 1) := by decide +kernel
theorem dX5_init_50 : decode cX5_init 50 = .ok (.iconst 1, 1) := by decide +kernel
theorem dX5_init_51 : decode cX5_init 51 = .ok (.iastore, 1) := by decide +kernel
theorem dX5_init_52 : decode cX5_init 52 = .ok (.dup, 1) := by decide +kernel
theorem dX5_init_53 : decode cX5_init 53 = .ok (.iconst 1, 1) := by decide +kernel
theorem dX5_init_54 : decode cX5_init 54 = .ok (.iconst 1, 1) := by decide +kernel
theorem dX5_init_55 : decode cX5_init 55 = .ok (.iastore, 1) := by decide +kernel
theorem dX5_init_56 : decode cX5_init 56 = .ok (.dup, 1) := by decide +kernel
theorem dX5_init_57 : decode cX5_init 57 = .ok (.iconst 2, 1) := by decide +kernel
theorem dX5_init_58 : decode cX5_init 58 = .ok (.iconst 1, 1) := by decide +kernel
theorem dX5_init_59 : decode cX5_init 59 = .ok (.iastore, 1) := by decide +kernel
theorem dX5_init_60 : decode cX5_init 60 = .ok (.dup, 1) := by decide +kernel
theorem dX5_init_61 : decode cX5_init 61 = .ok (.iconst 3, 1) := by decide +kernel
theorem dX5_init_62 : decode cX5_init 62 = .ok (.iconst 1, 1) := by decide +kernel
theorem dX5_init_63 : decode cX5_init 63 = .ok (.iastore, 1) := by decide +kernel
theorem dX5_init_64 : decode cX5_init 64 = .ok (.dup, 1) := by decide +kernel
theorem dX5_init_65 : decode cX5_init 65 = .ok (.iconst 4, 1) := by decide +kernel
theorem dX5_init_66 : decode cX5_init 66 = .ok (.iconst 1, 1) := by decide +kernel
theorem dX5_init_67 : decode cX5_init 67 = .ok (.iastore, 1) := by decide +kernel
theorem dX5_init_68 : decode cX5_init 68 = .ok (.dup, 1) := by decide +kernel
theorem dX5_init_69 : decode cX5_init 69 = .ok (.iconst 5, 1) := by decide +kernel
theorem dX5_init_70 : decode cX5_init 70 = .ok (.iconst 1, 1) := by decide +kernel
theorem dX5_init_71 : decode cX5_init 71 = .ok (.iastore, 1) := by decide +kernel
theorem dX5_init_72 : decode cX5_init 72 = .ok (.putfield 30, 3) := by decide +kernel
theorem dX5_init_75 : decode cX5_init 75 = .ok (.aload_n 0, 1) := by decide +kernel
theorem dX5_init_76 : decode cX5_init 76 = .ok (.bipush 7, 2) := by decide +kernel
theorem dX5_init_78 : decode cX5_init 78 = .ok (.newarray .int, 2) := by decide +kernel
theorem dX5_init_80 : decode cX5_init 80 = .ok (.putfield 33, 3) := by decide +kernel
theorem dX5_init_83 : decode cX5_init 83 = .ok (.aload_n 0, 1) := by decide +kernel
theorem dX5_init_84 : decode cX5_init 84 = .ok (.bipush 7, 2) := by decide +kernel
theorem dX5_init_86 : decode cX5_init 86 = .ok (.newarray .long, 2) := by decide +kernel
theorem dX5_init_88 : decode cX5_init 88 = .ok (.putfield 36, 3) := by decide +kernel
theorem dX5_init_91 : decode cX5_init 91 = .ok (.aload_n 0, 1) := by decide +kernel
theorem dX5_init_92 : decode cX5_init 92 = .ok (.bipush 9, 2) := by decide +kernel
theorem dX5_init_94 : decode cX5_init 94 = .ok (.newarray .int, 2) := by decide +kernel
theorem dX5_init_96 : decode cX5_init 96 = .ok (.putfield 39, 3) := by decide +kernel
theorem dX5_init_99 : decode cX5_init 99 = .ok (.aload_n 0, 1) := by decide +kernel
theorem dX5_init_100 : decode cX5_init 100 = .ok (.bipush 9, 2) := by decide +kernel
theorem dX5_init_102 : decode cX5_init 102 = .ok (.newarray .long, 2) := by decide +kernel
theorem dX5_init_104 : decode cX5_init 104 = .ok (.putfield 42, 3) := by decide +kernel
theorem dX5_init_107 : decode cX5_init 107 = .ok (.aload_n 0, 1) := by decide +kernel
theorem dX5_init_108 : decode cX5_init 108 = .ok (.bipush 9, 2) := by decide +kernel
theorem dX5_init_110 : decode cX5_init 110 = .ok (.newarray .long, 2) := by decide +kernel
theorem dX5_init_112 : decode cX5_init 112 = .ok (.putfield 45, 3) := by decide +kernel
theorem dX5_init_115 : decode cX5_init 115 = .ok (.aload_n 0, 1) := by decide +kernel
theorem dX5_init_116 : decode cX5_init 116 = .ok (.sipush 448, 3) := by decide +kernel
theorem dX5_init_119 : decode cX5_init 119 = .ok (.newarray .int, 2) := by decide +kernel
theorem dX5_init_121 : decode cX5_init 121 = .ok (.putfield 48, 3) := by decide +kernel
