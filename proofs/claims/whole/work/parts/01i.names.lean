theorem dX5_share_128 : decode cX5_share 128 = .ok (.irem, 1) := by decide +kernel
theorem dX5_share_129 : decode cX5_share 129 = .ok (.istore 7, 2) := by decide +kernel
theorem dX5_share_131 : decode cX5_share 131 = .ok (.iload 6, 2) := by decide +kernel
theorem dX5_share_133 : decode cX5_share 133 = .ok (.istore 5, 2) := by decide +kernel
theorem dX5_share_135 : decode cX5_share 135 = .ok (.iload 7, 2) := by decide +kernel
theorem dX5_share_137 : decode cX5_share 137 = .ok (.istore 6, 2) := by decide +kernel
theorem dX5_share_139 : decode cX5_share 139 = .ok (.goto (-20), 3) := by decide +kernel
theorem dX5_share_142 : decode cX5_share 142 = .ok (.iload_n 2, 1) := by decide +kernel
theorem dX5_share_143 : decode cX5_share 143 = .ok (.ifCond .ne 10, 3) := by decide +kernel
theorem dX5_share_146 : decode cX5_share 146 = .ok (.iload_n 3, 1) := by decide +kernel
theorem dX5_share_147 : decode cX5_share 147 = .ok (.iload 5, 2) := by decide +kernel
theorem dX5_share_149 : decode cX5_share 149 = .ok (.idiv, 1) := by decide +kernel
theorem dX5_share_150 : decode cX5_share 150 = .ok (.goto 8, 3) := by decide +kernel
theorem dX5_share_153 : decode cX5_share 153 = .ok (.iload 4, 2) := by decide +kernel
theorem dX5_share_155 : decode cX5_share 155 = .ok (.iload 5, 2) := by decide +kernel
theorem dX5_share_157 : decode cX5_share 157 = .ok (.idiv, 1) := by decide +kernel
theorem dX5_share_158 : decode cX5_share 158 = .ok (.ireturn, 1) := by decide +kernel
set_option maxRecDepth 20000 in
theorem ggX5_loss_X5_has : GoodIn wsX5_loss wsX5_has := goodIn_r _ [5] (by decide +kernel) (by decide +kernel)
set_option maxRecDepth 20000 in
theorem gX5_loss_X5_has : GoodIn wsX5_loss (va_wsS RX5 60 yX5_has wsX5_has) := goodIn_app (goodIn_of _ (by decide +kernel)) ggX5_loss_X5_has
theorem dX5_loss_0 : decode cX5_loss 0 = .ok (.iconst 0, 1) := by decide +kernel
theorem dX5_loss_1 : decode cX5_loss 1 = .ok (.istore_n 3, 1) := by decide +kernel
theorem dX5_loss_2 : decode cX5_loss 2 = .ok (.iconst 0, 1) := by decide +kernel
theorem dX5_loss_3 : decode cX5_loss 3 = .ok (.istore 4, 2) := by decide +kernel
theorem dX5_loss_5 : decode cX5_loss 5 = .ok (.iload 4, 2) := by decide +kernel
theorem dX5_loss_7 : decode cX5_loss 7 = .ok (.bipush 64, 2) := by decide +kernel
theorem dX5_loss_9 : decode cX5_loss 9 = .ok (.if_icmp .ge 41, 3) := by decide +kernel
theorem dX5_loss_12 : decode cX5_loss 12 = .ok (.lload_n 1, 1) := by decide +kernel
theorem dX5_loss_13 : decode cX5_loss 13 = .ok (.iload 4, 2) := by decide +kernel
theorem dX5_loss_15 : decode cX5_loss 15 = .ok (.invokestatic 60, 3) := by decide +kernel
theorem dX5_loss_18 : decode cX5_loss 18 = .ok (.ifCond .eq 24, 3) := by decide +kernel
theorem dX5_loss_21 : decode cX5_loss 21 = .ok (.aload_n 0, 1) := by decide +kernel
theorem dX5_loss_22 : decode cX5_loss 22 = .ok (.getfield 57, 3) := by decide +kernel
theorem dX5_loss_25 : decode cX5_loss 25 = .ok (.iload 4, 2) := by decide +kernel
theorem dX5_loss_27 : decode cX5_loss 27 = .ok (.iaload, 1) := by decide +kernel
theorem dX5_loss_28 : decode cX5_loss 28 = .ok (.iload_n 3, 1) := by decide +kernel
theorem dX5_loss_29 : decode cX5_loss 29 = .ok (.if_icmp .le 13, 3) := by decide +kernel
theorem dX5_loss_32 : decode cX5_loss 32 = .ok (.aload_n 0, 1) := by decide +kernel
theorem dX5_loss_33 : decode cX5_loss 33 = .ok (.getfield 57, 3) := by decide +kernel
theorem dX5_loss_36 : decode cX5_loss 36 = .ok (.iload 4, 2) := by decide +kernel
theorem dX5_loss_38 : decode cX5_loss 38 = .ok (.iaload, 1) := by decide +kernel
theorem dX5_loss_39 : decode cX5_loss 39 = .ok (.goto 4, 3) := by decide +kernel
theorem dX5_loss_42 : decode cX5_loss 42 = .ok (.iload_n 3, 1) := by decide +kernel
theorem dX5_loss_43 : decode cX5_loss 43 = .ok (.istore_n 3, 1) := by decide +kernel
theorem dX5_loss_44 : decode cX5_loss 44 = .ok (.iinc 4 1, 3) := by decide +kernel
theorem dX5_loss_47 : decode cX5_loss 47 = .ok (.goto (-42), 3) := by decide +kernel
theorem dX5_loss_50 : decode cX5_loss 50 = .ok (.iload_n 3, 1) := by decide +kernel
theorem dX5_loss_51 : decode cX5_loss 51 = .ok (.ireturn, 1) := by decide +kernel
set_option maxRecDepth 20000 in
theorem ggX5_laysTerm_X5_has : GoodIn wsX5_laysTerm wsX5_has := goodIn_r _ [8] (by decide +kernel) (by decide +kernel)
set_option maxRecDepth 20000 in
theorem gX5_laysTerm_X5_has : GoodIn wsX5_laysTerm (va_wsS RX5 60 yX5_has wsX5_has) := goodIn_app (goodIn_of _ (by decide +kernel)) ggX5_laysTerm_X5_has
theorem dX5_laysTerm_0 : decode cX5_laysTerm 0 = .ok (.iconst 0, 1) := by decide +kernel
theorem dX5_laysTerm_1 : decode cX5_laysTerm 1 = .ok (.istore 4, 2) := by decide +kernel
theorem dX5_laysTerm_3 : decode cX5_laysTerm 3 = .ok (.iload 4, 2) := by decide +kernel
theorem dX5_laysTerm_5 : decode cX5_laysTerm 5 = .ok (.bipush 64, 2) := by decide +kernel
theorem dX5_laysTerm_7 : decode cX5_laysTerm 7 = .ok (.if_icmp .ge 109, 3) := by decide +kernel
theorem dX5_laysTerm_10 : decode cX5_laysTerm 10 = .ok (.iload_n 2, 1) := by decide +kernel
theorem dX5_laysTerm_11 : decode cX5_laysTerm 11 = .ok (.iload 4, 2) := by decide +kernel
theorem dX5_laysTerm_13 : decode cX5_laysTerm 13 = .ok (.iconst (-1), 1) := by decide +kernel
theorem dX5_laysTerm_14 : decode cX5_laysTerm 14 = .ok (.ixor, 1) := by decide +kernel
theorem dX5_laysTerm_15 : decode cX5_laysTerm 15 = .ok (.iand, 1) := by decide +kernel
theorem dX5_laysTerm_16 : decode cX5_laysTerm 16 = .ok (.iload_n 3, 1) := by decide +kernel
theorem dX5_laysTerm_17 : decode cX5_laysTerm 17 = .ok (.iload 4, 2) := by decide +kernel
theorem dX5_laysTerm_19 : decode cX5_laysTerm 19 = .ok (.iand, 1) := by decide +kernel
theorem dX5_laysTerm_20 : decode cX5_laysTerm 20 = .ok (.ior, 1) := by decide +kernel
theorem dX5_laysTerm_21 : decode cX5_laysTerm 21 = .ok (.istore 5, 2) := by decide +kernel
theorem dX5_laysTerm_23 : decode cX5_laysTerm 23 = .ok (.iconst 0, 1) := by decide +kernel
theorem dX5_laysTerm_24 : decode cX5_laysTerm 24 = .ok (.istore 6, 2) := by decide +kernel
theorem dX5_laysTerm_26 : decode cX5_laysTerm 26 = .ok (.iconst 0, 1) := by decide +kernel
theorem dX5_laysTerm_27 : decode cX5_laysTerm 27 = .ok (.istore 7, 2) := by decide +kernel
theorem dX5_laysTerm_29 : decode cX5_laysTerm 29 = .ok (.iload 7, 2) := by decide +kernel
theorem dX5_laysTerm_31 : decode cX5_laysTerm 31 = .ok (.bipush 6, 2) := by decide +kernel
theorem dX5_laysTerm_33 : decode cX5_laysTerm 33 = .ok (.if_icmp .ge 36, 3) := by decide +kernel
theorem dX5_laysTerm_36 : decode cX5_laysTerm 36 = .ok (.iload 6, 2) := by decide +kernel
theorem dX5_laysTerm_38 : decode cX5_laysTerm 38 = .ok (.iload 5, 2) := by decide +kernel
theorem dX5_laysTerm_40 : decode cX5_laysTerm 40 = .ok (.i2l, 1) := by decide +kernel
theorem dX5_laysTerm_41 : decode cX5_laysTerm 41 = .ok (.iload 7, 2) := by decide +kernel
theorem dX5_laysTerm_43 : decode cX5_laysTerm 43 = .ok (.invokestatic 60, 3) := by decide +kernel
theorem dX5_laysTerm_46 : decode cX5_laysTerm 46 = .ok (.ifCond .eq 13, 3) := by decide +kernel
theorem dX5_laysTerm_49 : decode cX5_laysTerm 49 = .ok (.aload_n 0, 1) := by decide +kernel
theorem dX5_laysTerm_50 : decode cX5_laysTerm 50 = .ok (.getfield 30, 3) := by decide +kernel
theorem dX5_laysTerm_53 : decode cX5_laysTerm 53 = .ok (.iload 7, 2) := by decide +kernel
theorem dX5_laysTerm_55 : decode cX5_laysTerm 55 = .ok (.iaload, 1) := by decide +kernel
theorem dX5_laysTerm_56 : decode cX5_laysTerm 56 = .ok (.goto 4, 3) := by decide +kernel
theorem dX5_laysTerm_59 : decode cX5_laysTerm 59 = .ok (.iconst 0, 1) := by decide +kernel
theorem dX5_laysTerm_60 : decode cX5_laysTerm 60 = .ok (.iadd, 1) := by decide +kernel
theorem dX5_laysTerm_61 : decode cX5_laysTerm 61 = .ok (.istore 6, 2) := by decide +kernel
theorem dX5_laysTerm_63 : decode cX5_laysTerm 63 = .ok (.iinc 7 1, 3) := by decide +kernel
theorem dX5_laysTerm_66 : decode cX5_laysTerm 66 = .ok (.goto (-37), 3) := by decide +kernel
theorem dX5_laysTerm_69 : decode cX5_laysTerm 69 = .ok (.aload_n 0, 1) := by decide +kernel
theorem dX5_laysTerm_70 : decode cX5_laysTerm 70 = .ok (.getfield 48, 3) := by decide +kernel
theorem dX5_laysTerm_73 : decode cX5_laysTerm 73 = .ok (.bipush 64, 2) := by decide +kernel
theorem dX5_laysTerm_75 : decode cX5_laysTerm 75 = .ok (.iload_n 1, 1) := by decide +kernel
theorem dX5_laysTerm_76 : decode cX5_laysTerm 76 = .ok (.imul, 1) := by decide +kernel
theorem dX5_laysTerm_77 : decode cX5_laysTerm 77 = .ok (.iload 4, 2) := by decide +kernel
theorem dX5_laysTerm_79 : decode cX5_laysTerm 79 = .ok (.iadd, 1) := by decide +kernel
theorem dX5_laysTerm_80 : decode cX5_laysTerm 80 = .ok (.aload_n 0, 1) := by decide +kernel
theorem dX5_laysTerm_81 : decode cX5_laysTerm 81 = .ok (.getfield 22, 3) := by decide +kernel
theorem dX5_laysTerm_84 : decode cX5_laysTerm 84 = .ok (.iload_n 1, 1) := by decide +kernel
theorem dX5_laysTerm_85 : decode cX5_laysTerm 85 = .ok (.iaload, 1) := by decide +kernel
theorem dX5_laysTerm_86 : decode cX5_laysTerm 86 = .ok (.aload_n 0, 1) := by decide +kernel
theorem dX5_laysTerm_87 : decode cX5_laysTerm 87 = .ok (.getfield 154, 3) := by decide +kernel
theorem dX5_laysTerm_90 : decode cX5_laysTerm 90 = .ok (.ifCond .ne 8, 3) := by decide +kernel
theorem dX5_laysTerm_93 : decode cX5_laysTerm 93 = .ok (.iload 6, 2) := by decide +kernel
theorem dX5_laysTerm_95 : decode cX5_laysTerm 95 = .ok (.goto 13, 3) := by decide +kernel
theorem dX5_laysTerm_98 : decode cX5_laysTerm 98 = .ok (.iload 5, 2) := by decide +kernel
theorem dX5_laysTerm_100 : decode cX5_laysTerm 100 = .ok (.ifCond .ne 7, 3) := by decide +kernel
theorem dX5_laysTerm_103 : decode cX5_laysTerm 103 = .ok (.iconst 0, 1) := by decide +kernel
theorem dX5_laysTerm_104 : decode cX5_laysTerm 104 = .ok (.goto 4, 3) := by decide +kernel
theorem dX5_laysTerm_107 : decode cX5_laysTerm 107 = .ok (.iconst 1, 1) := by decide +kernel
theorem dX5_laysTerm_108 : decode cX5_laysTerm 108 = .ok (.imul, 1) := by decide +kernel
theorem dX5_laysTerm_109 : decode cX5_laysTerm 109 = .ok (.iastore, 1) := by decide +kernel
theorem dX5_laysTerm_110 : decode cX5_laysTerm 110 = .ok (.iinc 4 1, 3) := by decide +kernel
theorem dX5_laysTerm_113 : decode cX5_laysTerm 113 = .ok (.goto (-110), 3) := by decide +kernel
theorem dX5_laysTerm_116 : decode cX5_laysTerm 116 = .ok (.return_, 1) := by decide +kernel
set_option maxRecDepth 20000 in
theorem ggX5_lie_X5_isSayer : GoodIn wsX5_lie wsX5_isSayer := goodIn_r _ [8, 9, 10, 11, 7, 12, 67, 68, 69, 70, 71, 72, 73, 74, 75, 76, 77, 78, 79, 80, 81, 82, 83, 84, 85, 86, 87, 88, 89, 90, 91, 92, 93, 94, 95] (by decide +kernel) (by decide +kernel)
set_option maxRecDepth 20000 in
theorem gX5_lie_X5_isSayer : GoodIn wsX5_lie (wsV RX5 147 RX5 yX5_isSayer wsX5_isSayer) := goodIn_app (goodIn_of _ (by decide +kernel)) ggX5_lie_X5_isSayer
set_option maxRecDepth 20000 in
theorem ggX5_lie_X5_in : GoodIn wsX5_lie wsX5_in := goodIn_r _ [12] (by decide +kernel) (by decide +kernel)
set_option maxRecDepth 20000 in
theorem gX5_lie_X5_in : GoodIn wsX5_lie (va_wsS RX5 66 yX5_in wsX5_in) := goodIn_app (goodIn_of _ (by decide +kernel)) ggX5_lie_X5_in
set_option maxRecDepth 20000 in
theorem ggX5_lie_X5_laysAll : GoodIn wsX5_lie wsX5_laysAll := goodIn_r _ [16, 9, 3, 17, 18, 19, 7, 20, 21, 22, 23, 24, 25, 26, 27, 28, 29, 30, 31, 32, 33, 34, 35, 67, 68, 69, 70, 71, 72, 73, 74, 75, 76, 77, 78, 79, 80, 81, 82, 83, 84, 85, 86, 87, 88, 89, 90, 91, 92, 93, 94, 95] (by decide +kernel) (by decide +kernel)
set_option maxRecDepth 20000 in
theorem gX5_lie_X5_laysAll : GoodIn wsX5_lie (wsV RX5 188 RX5 yX5_laysAll wsX5_laysAll) := goodIn_app (goodIn_of _ (by decide +kernel)) ggX5_lie_X5_laysAll
set_option maxRecDepth 20000 in
theorem ggX5_lie_X5_farOf : GoodIn wsX5_lie wsX5_farOf := goodIn_r _ [26, 27, 28, 7, 29, 30, 31, 32, 33, 34, 35, 67, 68, 69, 70, 71, 72, 73, 74, 75, 76, 77, 78, 79, 80, 81, 82, 83, 84, 85, 86, 87, 88, 89, 90, 91, 92, 93, 94, 95] (by decide +kernel) (by decide +kernel)
set_option maxRecDepth 20000 in
theorem gX5_lie_X5_farOf : GoodIn wsX5_lie (wsV RX5 164 RX5 yX5_farOf wsX5_farOf) := goodIn_app (goodIn_of _ (by decide +kernel)) ggX5_lie_X5_farOf
set_option maxRecDepth 20000 in
theorem ggX5_lie_X5_mergedBy : GoodIn wsX5_lie wsX5_mergedBy := goodIn_r _ [39, 40, 41, 42, 27, 28, 7, 29, 43, 44, 45, 46, 9, 21, 47, 48, 49, 50, 51, 52, 53, 54, 55, 56, 57, 58, 67, 68, 69, 70, 71, 72, 73, 74, 75, 76, 77, 78, 79, 80, 81, 82, 83, 84, 85, 86, 87, 88, 89, 90, 91, 92, 93, 94, 95] (by decide +kernel) (by decide +kernel)
set_option maxRecDepth 20000 in
theorem gX5_lie_X5_mergedBy : GoodIn wsX5_lie (wsV RX5 191 RX5 yX5_mergedBy wsX5_mergedBy) := goodIn_app (goodIn_of _ (by decide +kernel)) ggX5_lie_X5_mergedBy
set_option maxRecDepth 20000 in
theorem ggX5_lie_X5_loss : GoodIn wsX5_lie wsX5_loss := goodIn_r _ [62, 2, 27, 28, 7, 29, 67, 68, 69, 70, 71, 72, 73, 74, 75, 76, 77, 78, 79, 80, 81, 82, 83, 84, 85, 86, 87, 88, 89, 90, 91, 92, 93, 94, 95] (by decide +kernel) (by decide +kernel)
set_option maxRecDepth 20000 in
theorem gX5_lie_X5_loss : GoodIn wsX5_lie (wsV RX5 215 RX5 yX5_loss wsX5_loss) := goodIn_app (goodIn_of _ (by decide +kernel)) ggX5_lie_X5_loss
set_option maxRecDepth 20000 in
theorem ggX5_lie_X5_laysTerm : GoodIn wsX5_lie wsX5_laysTerm := goodIn_r _ [66, 34, 21, 22, 35, 27, 28, 7, 29, 67, 68, 69, 70, 71, 72, 73, 74, 75, 76, 77, 78, 79, 80, 81, 82, 83, 84, 85, 86, 87, 88, 89, 90, 91, 92, 93, 94, 95] (by decide +kernel) (by decide +kernel)
set_option maxRecDepth 20000 in
theorem gX5_lie_X5_laysTerm : GoodIn wsX5_lie (wsV RX5 218 RX5 yX5_laysTerm wsX5_laysTerm) := goodIn_app (goodIn_of _ (by decide +kernel)) ggX5_lie_X5_laysTerm
theorem dX5_lie_0 : decode cX5_lie 0 = .ok (.aload_n 0, 1) := by decide +kernel
theorem dX5_lie_1 : decode cX5_lie 1 = .ok (.iload_n 1, 1) := by decide +kernel
theorem dX5_lie_2 : decode cX5_lie 2 = .ok (.invokevirtual 147, 3) := by decide +kernel
theorem dX5_lie_5 : decode cX5_lie 5 = .ok (.ifCond .eq 27, 3) := by decide +kernel
theorem dX5_lie_8 : decode cX5_lie 8 = .ok (.iload_n 2, 1) := by decide +kernel
theorem dX5_lie_9 : decode cX5_lie 9 = .ok (.i2l, 1) := by decide +kernel
theorem dX5_lie_10 : decode cX5_lie 10 = .ok (.lconst 0, 1) := by decide +kernel
theorem dX5_lie_11 : decode cX5_lie 11 = .ok (.ldc2_w 186, 3) := by decide +kernel
theorem dX5_lie_14 : decode cX5_lie 14 = .ok (.invokestatic 66, 3) := by decide +kernel
theorem dX5_lie_17 : decode cX5_lie 17 = .ok (.ifCond .eq 15, 3) := by decide +kernel
theorem dX5_lie_20 : decode cX5_lie 20 = .ok (.iload_n 3, 1) := by decide +kernel
theorem dX5_lie_21 : decode cX5_lie 21 = .ok (.i2l, 1) := by decide +kernel
theorem dX5_lie_22 : decode cX5_lie 22 = .ok (.lconst 0, 1) := by decide +kernel
theorem dX5_lie_23 : decode cX5_lie 23 = .ok (.ldc2_w 186, 3) := by decide +kernel
theorem dX5_lie_26 : decode cX5_lie 26 = .ok (.invokestatic 66, 3) := by decide +kernel
theorem dX5_lie_29 : decode cX5_lie 29 = .ok (.ifCond .ne 5, 3) := by decide +kernel
theorem dX5_lie_32 : decode cX5_lie 32 = .ok (.iconst (-1), 1) := by decide +kernel
theorem dX5_lie_33 : decode cX5_lie 33 = .ok (.ireturn, 1) := by decide +kernel
theorem dX5_lie_34 : decode cX5_lie 34 = .ok (.aload_n 0, 1) := by decide +kernel
theorem dX5_lie_35 : decode cX5_lie 35 = .ok (.invokevirtual 188, 3) := by decide +kernel
theorem dX5_lie_38 : decode cX5_lie 38 = .ok (.iconst 0, 1) := by decide +kernel
theorem dX5_lie_39 : decode cX5_lie 39 = .ok (.istore 4, 2) := by decide +kernel
theorem dX5_lie_41 : decode cX5_lie 41 = .ok (.iload 4, 2) := by decide +kernel
theorem dX5_lie_43 : decode cX5_lie 43 = .ok (.bipush 64, 2) := by decide +kernel
theorem dX5_lie_45 : decode cX5_lie 45 = .ok (.if_icmp .ge 28, 3) := by decide +kernel
theorem dX5_lie_48 : decode cX5_lie 48 = .ok (.aload_n 0, 1) := by decide +kernel
theorem dX5_lie_49 : decode cX5_lie 49 = .ok (.getfield 57, 3) := by decide +kernel
theorem dX5_lie_52 : decode cX5_lie 52 = .ok (.iload 4, 2) := by decide +kernel
theorem dX5_lie_54 : decode cX5_lie 54 = .ok (.aload_n 0, 1) := by decide +kernel
theorem dX5_lie_55 : decode cX5_lie 55 = .ok (.iload 4, 2) := by decide +kernel
theorem dX5_lie_57 : decode cX5_lie 57 = .ok (.aload_n 0, 1) := by decide +kernel
theorem dX5_lie_58 : decode cX5_lie 58 = .ok (.getfield 26, 3) := by decide +kernel
theorem dX5_lie_61 : decode cX5_lie 61 = .ok (.iload_n 1, 1) := by decide +kernel
theorem dX5_lie_62 : decode cX5_lie 62 = .ok (.laload, 1) := by decide +kernel
theorem dX5_lie_63 : decode cX5_lie 63 = .ok (.invokevirtual 164, 3) := by decide +kernel
theorem dX5_lie_66 : decode cX5_lie 66 = .ok (.iastore, 1) := by decide +kernel
theorem dX5_lie_67 : decode cX5_lie 67 = .ok (.iinc 4 1, 3) := by decide +kernel
theorem dX5_lie_70 : decode cX5_lie 70 = .ok (.goto (-29), 3) := by decide +kernel
theorem dX5_lie_73 : decode cX5_lie 73 = .ok (.aload_n 0, 1) := by decide +kernel
theorem dX5_lie_74 : decode cX5_lie 74 = .ok (.aload_n 0, 1) := by decide +kernel
theorem dX5_lie_75 : decode cX5_lie 75 = .ok (.iload_n 2, 1) := by decide +kernel
theorem dX5_lie_76 : decode cX5_lie 76 = .ok (.invokevirtual 191, 3) := by decide +kernel
theorem dX5_lie_79 : decode cX5_lie 79 = .ok (.invokevirtual 215, 3) := by decide +kernel
theorem dX5_lie_82 : decode cX5_lie 82 = .ok (.istore 4, 2) := by decide +kernel
theorem dX5_lie_84 : decode cX5_lie 84 = .ok (.iload 4, 2) := by decide +kernel
theorem dX5_lie_86 : decode cX5_lie 86 = .ok (.istore 5, 2) := by decide +kernel
theorem dX5_lie_88 : decode cX5_lie 88 = .ok (.bipush (-9), 2) := by decide +kernel
theorem dX5_lie_90 : decode cX5_lie 90 = .ok (.istore 6, 2) := by decide +kernel
theorem dX5_lie_92 : decode cX5_lie 92 = .ok (.iconst 0, 1) := by decide +kernel
theorem dX5_lie_93 : decode cX5_lie 93 = .ok (.istore 7, 2) := by decide +kernel
theorem dX5_lie_95 : decode cX5_lie 95 = .ok (.iload 7, 2) := by decide +kernel
theorem dX5_lie_97 : decode cX5_lie 97 = .ok (.sipush 4096, 3) := by decide +kernel
theorem dX5_lie_100 : decode cX5_lie 100 = .ok (.if_icmp .ge 72, 3) := by decide +kernel
theorem dX5_lie_103 : decode cX5_lie 103 = .ok (.iload_n 3, 1) := by decide +kernel
theorem dX5_lie_104 : decode cX5_lie 104 = .ok (.iconst 2, 1) := by decide +kernel
theorem dX5_lie_105 : decode cX5_lie 105 = .ok (.if_icmp .ge 67, 3) := by decide +kernel
theorem dX5_lie_108 : decode cX5_lie 108 = .ok (.iload 7, 2) := by decide +kernel
theorem dX5_lie_110 : decode cX5_lie 110 = .ok (.bipush 64, 2) := by decide +kernel
theorem dX5_lie_112 : decode cX5_lie 112 = .ok (.idiv, 1) := by decide +kernel
theorem dX5_lie_113 : decode cX5_lie 113 = .ok (.iload 7, 2) := by decide +kernel
theorem dX5_lie_115 : decode cX5_lie 115 = .ok (.bipush 64, 2) := by decide +kernel
theorem dX5_lie_117 : decode cX5_lie 117 = .ok (.irem, 1) := by decide +kernel
theorem dX5_lie_118 : decode cX5_lie 118 = .ok (.iand, 1) := by decide +kernel
theorem dX5_lie_119 : decode cX5_lie 119 = .ok (.ifCond .eq 6, 3) := by decide +kernel
theorem dX5_lie_122 : decode cX5_lie 122 = .ok (.goto 44, 3) := by decide +kernel
theorem dX5_lie_125 : decode cX5_lie 125 = .ok (.aload_n 0, 1) := by decide +kernel
theorem dX5_lie_126 : decode cX5_lie 126 = .ok (.iload_n 1, 1) := by decide +kernel
theorem dX5_lie_127 : decode cX5_lie 127 = .ok (.iload 7, 2) := by decide +kernel
theorem dX5_lie_129 : decode cX5_lie 129 = .ok (.bipush 64, 2) := by decide +kernel
theorem dX5_lie_131 : decode cX5_lie 131 = .ok (.idiv, 1) := by decide +kernel
theorem dX5_lie_132 : decode cX5_lie 132 = .ok (.iload 7, 2) := by decide +kernel
theorem dX5_lie_134 : decode cX5_lie 134 = .ok (.bipush 64, 2) := by decide +kernel
theorem dX5_lie_136 : decode cX5_lie 136 = .ok (.irem, 1) := by decide +kernel
theorem dX5_lie_137 : decode cX5_lie 137 = .ok (.invokevirtual 218, 3) := by decide +kernel
theorem dX5_lie_140 : decode cX5_lie 140 = .ok (.aload_n 0, 1) := by decide +kernel
theorem dX5_lie_141 : decode cX5_lie 141 = .ok (.aload_n 0, 1) := by decide +kernel
theorem dX5_lie_142 : decode cX5_lie 142 = .ok (.iload_n 2, 1) := by decide +kernel
theorem dX5_lie_143 : decode cX5_lie 143 = .ok (.invokevirtual 191, 3) := by decide +kernel
theorem dX5_lie_146 : decode cX5_lie 146 = .ok (.invokevirtual 215, 3) := by decide +kernel
theorem dX5_lie_149 : decode cX5_lie 149 = .ok (.istore 8, 2) := by decide +kernel
theorem dX5_lie_151 : decode cX5_lie 151 = .ok (.iload 8, 2) := by decide +kernel
theorem dX5_lie_153 : decode cX5_lie 153 = .ok (.iload 5, 2) := by decide +kernel
theorem dX5_lie_155 : decode cX5_lie 155 = .ok (.if_icmp .ge 11, 3) := by decide +kernel
theorem dX5_lie_158 : decode cX5_lie 158 = .ok (.iload 8, 2) := by decide +kernel
theorem dX5_lie_160 : decode cX5_lie 160 = .ok (.istore 5, 2) := by decide +kernel
theorem dX5_lie_162 : decode cX5_lie 162 = .ok (.iload 7, 2) := by decide +kernel
theorem dX5_lie_164 : decode cX5_lie 164 = .ok (.istore 6, 2) := by decide +kernel
theorem dX5_lie_166 : decode cX5_lie 166 = .ok (.iinc 7 1, 3) := by decide +kernel
theorem dX5_lie_169 : decode cX5_lie 169 = .ok (.goto (-74), 3) := by decide +kernel
theorem dX5_lie_172 : decode cX5_lie 172 = .ok (.iload_n 3, 1) := by decide +kernel
theorem dX5_lie_173 : decode cX5_lie 173 = .ok (.iconst 2, 1) := by decide +kernel
theorem dX5_lie_174 : decode cX5_lie 174 = .ok (.if_icmp .ne 8, 3) := by decide +kernel
theorem dX5_lie_177 : decode cX5_lie 177 = .ok (.iload 4, 2) := by decide +kernel
theorem dX5_lie_179 : decode cX5_lie 179 = .ok (.goto 26, 3) := by decide +kernel
theorem dX5_lie_182 : decode cX5_lie 182 = .ok (.iload 6, 2) := by decide +kernel
theorem dX5_lie_184 : decode cX5_lie 184 = .ok (.bipush (-9), 2) := by decide +kernel
theorem dX5_lie_186 : decode cX5_lie 186 = .ok (.if_icmp .ne 8, 3) := by decide +kernel
theorem dX5_lie_189 : decode cX5_lie 189 = .ok (.bipush (-9), 2) := by decide +kernel
theorem dX5_lie_191 : decode cX5_lie 191 = .ok (.goto 14, 3) := by decide +kernel
theorem dX5_lie_194 : decode cX5_lie 194 = .ok (.iload_n 3, 1) := by decide +kernel
theorem dX5_lie_195 : decode cX5_lie 195 = .ok (.ifCond .ne 8, 3) := by decide +kernel
theorem dX5_lie_198 : decode cX5_lie 198 = .ok (.iload 6, 2) := by decide +kernel
theorem dX5_lie_200 : decode cX5_lie 200 = .ok (.goto 5, 3) := by decide +kernel
theorem dX5_lie_203 : decode cX5_lie 203 = .ok (.iload 5, 2) := by decide +kernel
theorem dX5_lie_205 : decode cX5_lie 205 = .ok (.ireturn, 1) := by decide +kernel
set_option maxRecDepth 20000 in
theorem ggX5_plain_X5_many : GoodIn wsX5_plain wsX5_many := goodIn_r _ [7, 8, 9, 6, 10] (by decide +kernel) (by decide +kernel)
set_option maxRecDepth 20000 in
theorem gX5_plain_X5_many : GoodIn wsX5_plain (va_wsS RX5 204 yX5_many wsX5_many) := goodIn_app (goodIn_of _ (by decide +kernel)) ggX5_plain_X5_many
theorem dX5_plain_0 : decode cX5_plain 0 = .ok (.aload_n 0, 1) := by decide +kernel
theorem dX5_plain_1 : decode cX5_plain 1 = .ok (.dup, 1) := by decide +kernel
theorem dX5_plain_2 : decode cX5_plain 2 = .ok (.getfield 222, 3) := by decide +kernel
theorem dX5_plain_5 : decode cX5_plain 5 = .ok (.lconst 1, 1) := by decide +kernel
theorem dX5_plain_6 : decode cX5_plain 6 = .ok (.ladd, 1) := by decide +kernel
theorem dX5_plain_7 : decode cX5_plain 7 = .ok (.putfield 222, 3) := by decide +kernel
theorem dX5_plain_10 : decode cX5_plain 10 = .ok (.aload_n 0, 1) := by decide +kernel
theorem dX5_plain_11 : decode cX5_plain 11 = .ok (.getfield 15, 3) := by decide +kernel
theorem dX5_plain_14 : decode cX5_plain 14 = .ok (.aload_n 0, 1) := by decide +kernel
theorem dX5_plain_15 : decode cX5_plain 15 = .ok (.getfield 26, 3) := by decide +kernel
theorem dX5_plain_18 : decode cX5_plain 18 = .ok (.iload_n 1, 1) := by decide +kernel
theorem dX5_plain_19 : decode cX5_plain 19 = .ok (.laload, 1) := by decide +kernel
theorem dX5_plain_20 : decode cX5_plain 20 = .ok (.land, 1) := by decide +kernel
theorem dX5_plain_21 : decode cX5_plain 21 = .ok (.invokestatic 204, 3) := by decide +kernel
theorem dX5_plain_24 : decode cX5_plain 24 = .ok (.ireturn, 1) := by decide +kernel
set_option maxRecDepth 20000 in
theorem ggX5_weighty_X5_plain : GoodIn wsX5_weighty wsX5_plain := goodIn_r _ [8, 1, 9, 10, 11, 12, 7, 13, 14, 15, 16, 17, 18, 19, 20, 21, 22, 23, 24, 25, 26, 27, 28, 29, 30, 31, 32, 33, 34, 35, 36, 37, 38, 39, 40, 41, 42, 43, 44, 45] (by decide +kernel) (by decide +kernel)
set_option maxRecDepth 20000 in
theorem gX5_weighty_X5_plain : GoodIn wsX5_weighty (wsV RX5 227 RX5 yX5_plain wsX5_plain) := goodIn_app (goodIn_of _ (by decide +kernel)) ggX5_weighty_X5_plain
theorem dX5_weighty_0 : decode cX5_weighty 0 = .ok (.aload_n 0, 1) := by decide +kernel
theorem dX5_weighty_1 : decode cX5_weighty 1 = .ok (.dup, 1) := by decide +kernel
theorem dX5_weighty_2 : decode cX5_weighty 2 = .ok (.getfield 222, 3) := by decide +kernel
theorem dX5_weighty_5 : decode cX5_weighty 5 = .ok (.ldc2_w 225, 3) := by decide +kernel
theorem dX5_weighty_8 : decode cX5_weighty 8 = .ok (.ladd, 1) := by decide +kernel
theorem dX5_weighty_9 : decode cX5_weighty 9 = .ok (.putfield 222, 3) := by decide +kernel
theorem dX5_weighty_12 : decode cX5_weighty 12 = .ok (.aload_n 0, 1) := by decide +kernel
theorem dX5_weighty_13 : decode cX5_weighty 13 = .ok (.iload_n 1, 1) := by decide +kernel
theorem dX5_weighty_14 : decode cX5_weighty 14 = .ok (.invokevirtual 227, 3) := by decide +kernel
theorem dX5_weighty_17 : decode cX5_weighty 17 = .ok (.aload_n 0, 1) := by decide +kernel
theorem dX5_weighty_18 : decode cX5_weighty 18 = .ok (.getfield 22, 3) := by decide +kernel
theorem dX5_weighty_21 : decode cX5_weighty 21 = .ok (.iload_n 1, 1) := by decide +kernel
theorem dX5_weighty_22 : decode cX5_weighty 22 = .ok (.iaload, 1) := by decide +kernel
theorem dX5_weighty_23 : decode cX5_weighty 23 = .ok (.imul, 1) := by decide +kernel
theorem dX5_weighty_24 : decode cX5_weighty 24 = .ok (.ireturn, 1) := by decide +kernel
set_option maxRecDepth 20000 in
theorem ggX5_worth_X5_in : GoodIn wsX5_worth wsX5_in := goodIn_r _ [11] (by decide +kernel) (by decide +kernel)
set_option maxRecDepth 20000 in
theorem gX5_worth_X5_in : GoodIn wsX5_worth (va_wsS RX5 66 yX5_in wsX5_in) := goodIn_app (goodIn_of _ (by decide +kernel)) ggX5_worth_X5_in
set_option maxRecDepth 20000 in
theorem ggX5_worth_X5_isSayer : GoodIn wsX5_worth wsX5_isSayer := goodIn_r _ [15, 4, 8, 9, 10, 11, 73, 74, 75, 76, 77, 78, 79, 80, 81, 82, 83, 84, 85, 86, 87, 88, 89, 90, 91, 92, 93, 94, 95, 96, 97, 98, 99, 100, 101] (by decide +kernel) (by decide +kernel)
set_option maxRecDepth 20000 in
theorem gX5_worth_X5_isSayer : GoodIn wsX5_worth (wsV RX5 147 RX5 yX5_isSayer wsX5_isSayer) := goodIn_app (goodIn_of _ (by decide +kernel)) ggX5_worth_X5_isSayer
set_option maxRecDepth 20000 in
theorem ggX5_worth_X5_plain : GoodIn wsX5_worth wsX5_plain := goodIn_r _ [19, 2, 6, 5, 20, 21, 10, 22, 23, 24, 25, 73, 74, 75, 76, 77, 78, 79, 80, 81, 82, 83, 84, 85, 86, 87, 88, 89, 90, 91, 92, 93, 94, 95, 96, 97, 98, 99, 100, 101] (by decide +kernel) (by decide +kernel)
set_option maxRecDepth 20000 in
theorem gX5_worth_X5_plain : GoodIn wsX5_worth (wsV RX5 227 RX5 yX5_plain wsX5_plain) := goodIn_app (goodIn_of _ (by decide +kernel)) ggX5_worth_X5_plain
set_option maxRecDepth 20000 in
theorem ggX5_worth_X5_weighty : GoodIn wsX5_worth wsX5_weighty := goodIn_r _ [29, 2, 30, 31, 16, 17, 18, 10, 19, 6, 5, 20, 21, 22, 23, 24, 25, 73, 74, 75, 76, 77, 78, 79, 80, 81, 82, 83, 84, 85, 86, 87, 88, 89, 90, 91, 92, 93, 94, 95, 96, 97, 98, 99, 100, 101] (by decide +kernel) (by decide +kernel)
set_option maxRecDepth 20000 in
theorem gX5_worth_X5_weighty : GoodIn wsX5_worth (wsV RX5 232 RX5 yX5_weighty wsX5_weighty) := goodIn_app (goodIn_of _ (by decide +kernel)) ggX5_worth_X5_weighty
set_option maxRecDepth 20000 in
theorem ggX5_worth_X5_many : GoodIn wsX5_worth wsX5_many := goodIn_r _ [22, 23, 24, 10, 25] (by decide +kernel) (by decide +kernel)
set_option maxRecDepth 20000 in
theorem gX5_worth_X5_many : GoodIn wsX5_worth (va_wsS RX5 204 yX5_many wsX5_many) := goodIn_app (goodIn_of _ (by decide +kernel)) ggX5_worth_X5_many
set_option maxRecDepth 20000 in
theorem ggX5_worth_X5_laysAll : GoodIn wsX5_worth wsX5_laysAll := goodIn_r _ [35, 4, 5, 36, 37, 38, 10, 39, 40, 31, 41, 42, 43, 44, 23, 24, 25, 45, 46, 47, 48, 49, 50, 73, 74, 75, 76, 77, 78, 79, 80, 81, 82, 83, 84, 85, 86, 87, 88, 89, 90, 91, 92, 93, 94, 95, 96, 97, 98, 99, 100, 101] (by decide +kernel) (by decide +kernel)
set_option maxRecDepth 20000 in
theorem gX5_worth_X5_laysAll : GoodIn wsX5_worth (wsV RX5 188 RX5 yX5_laysAll wsX5_laysAll) := goodIn_app (goodIn_of _ (by decide +kernel)) ggX5_worth_X5_laysAll
set_option maxRecDepth 20000 in
theorem ggX5_worth_X5_mergedBy : GoodIn wsX5_worth wsX5_mergedBy := goodIn_r _ [54, 6, 55, 56, 23, 24, 10, 25, 57, 58, 59, 60, 4, 40, 61, 62, 63, 64, 65, 66, 67, 68, 69, 70, 71, 72, 73, 74, 75, 76, 77, 78, 79, 80, 81, 82, 83, 84, 85, 86, 87, 88, 89, 90, 91, 92, 93, 94, 95, 96, 97, 98, 99, 100, 101] (by decide +kernel) (by decide +kernel)
set_option maxRecDepth 20000 in
theorem gX5_worth_X5_mergedBy : GoodIn wsX5_worth (wsV RX5 191 RX5 yX5_mergedBy wsX5_mergedBy) := goodIn_app (goodIn_of _ (by decide +kernel)) ggX5_worth_X5_mergedBy
theorem dX5_worth_0 : decode cX5_worth 0 = .ok (.iload_n 1, 1) := by decide +kernel
theorem dX5_worth_1 : decode cX5_worth 1 = .ok (.i2l, 1) := by decide +kernel
theorem dX5_worth_2 : decode cX5_worth 2 = .ok (.lconst 0, 1) := by decide +kernel
theorem dX5_worth_3 : decode cX5_worth 3 = .ok (.ldc2_w 230, 3) := by decide +kernel
theorem dX5_worth_6 : decode cX5_worth 6 = .ok (.invokestatic 66, 3) := by decide +kernel
theorem dX5_worth_9 : decode cX5_worth 9 = .ok (.ifCond .eq 11, 3) := by decide +kernel
theorem dX5_worth_12 : decode cX5_worth 12 = .ok (.aload_n 0, 1) := by decide +kernel
theorem dX5_worth_13 : decode cX5_worth 13 = .ok (.iload_n 2, 1) := by decide +kernel
theorem dX5_worth_14 : decode cX5_worth 14 = .ok (.invokevirtual 147, 3) := by decide +kernel
theorem dX5_worth_17 : decode cX5_worth 17 = .ok (.ifCond .ne 5, 3) := by decide +kernel
theorem dX5_worth_20 : decode cX5_worth 20 = .ok (.iconst (-1), 1) := by decide +kernel
theorem dX5_worth_21 : decode cX5_worth 21 = .ok (.ireturn, 1) := by decide +kernel
theorem dX5_worth_22 : decode cX5_worth 22 = .ok (.iload_n 1, 1) := by decide +kernel
theorem dX5_worth_23 : decode cX5_worth 23 = .ok (.iconst 2, 1) := by decide +kernel
theorem dX5_worth_24 : decode cX5_worth 24 = .ok (.if_icmp .ge 21, 3) := by decide +kernel
theorem dX5_worth_27 : decode cX5_worth 27 = .ok (.iload_n 1, 1) := by decide +kernel
theorem dX5_worth_28 : decode cX5_worth 28 = .ok (.ifCond .ne 11, 3) := by decide +kernel
theorem dX5_worth_31 : decode cX5_worth 31 = .ok (.aload_n 0, 1) := by decide +kernel
theorem dX5_worth_32 : decode cX5_worth 32 = .ok (.iload_n 2, 1) := by decide +kernel
theorem dX5_worth_33 : decode cX5_worth 33 = .ok (.invokevirtual 227, 3) := by decide +kernel
theorem dX5_worth_36 : decode cX5_worth 36 = .ok (.goto 8, 3) := by decide +kernel
theorem dX5_worth_39 : decode cX5_worth 39 = .ok (.aload_n 0, 1) := by decide +kernel
theorem dX5_worth_40 : decode cX5_worth 40 = .ok (.iload_n 2, 1) := by decide +kernel
theorem dX5_worth_41 : decode cX5_worth 41 = .ok (.invokevirtual 232, 3) := by decide +kernel
theorem dX5_worth_44 : decode cX5_worth 44 = .ok (.ireturn, 1) := by decide +kernel
theorem dX5_worth_45 : decode cX5_worth 45 = .ok (.iload_n 1, 1) := by decide +kernel
theorem dX5_worth_46 : decode cX5_worth 46 = .ok (.iconst 2, 1) := by decide +kernel
theorem dX5_worth_47 : decode cX5_worth 47 = .ok (.if_icmp .ne 78, 3) := by decide +kernel
theorem dX5_worth_50 : decode cX5_worth 50 = .ok (.aload_n 0, 1) := by decide +kernel
theorem dX5_worth_51 : decode cX5_worth 51 = .ok (.dup, 1) := by decide +kernel
theorem dX5_worth_52 : decode cX5_worth 52 = .ok (.getfield 222, 3) := by decide +kernel
theorem dX5_worth_55 : decode cX5_worth 55 = .ok (.ldc2_w 235, 3) := by decide +kernel
theorem dX5_worth_58 : decode cX5_worth 58 = .ok (.ladd, 1) := by decide +kernel
theorem dX5_worth_59 : decode cX5_worth 59 = .ok (.putfield 222, 3) := by decide +kernel
theorem dX5_worth_62 : decode cX5_worth 62 = .ok (.lconst 0, 1) := by decide +kernel
theorem dX5_worth_63 : decode cX5_worth 63 = .ok (.lstore_n 3, 1) := by decide +kernel
theorem dX5_worth_64 : decode cX5_worth 64 = .ok (.iconst 0, 1) := by decide +kernel
theorem dX5_worth_65 : decode cX5_worth 65 = .ok (.istore 5, 2) := by decide +kernel
theorem dX5_worth_67 : decode cX5_worth 67 = .ok (.iload 5, 2) := by decide +kernel
theorem dX5_worth_69 : decode cX5_worth 69 = .ok (.aload_n 0, 1) := by decide +kernel
theorem dX5_worth_70 : decode cX5_worth 70 = .ok (.getfield 142, 3) := by decide +kernel
theorem dX5_worth_73 : decode cX5_worth 73 = .ok (.if_icmp .ge 29, 3) := by decide +kernel
theorem dX5_worth_76 : decode cX5_worth 76 = .ok (.lload_n 3, 1) := by decide +kernel
theorem dX5_worth_77 : decode cX5_worth 77 = .ok (.iload 5, 2) := by decide +kernel
theorem dX5_worth_79 : decode cX5_worth 79 = .ok (.iload_n 2, 1) := by decide +kernel
theorem dX5_worth_80 : decode cX5_worth 80 = .ok (.if_icmp .ne 7, 3) := by decide +kernel
theorem dX5_worth_83 : decode cX5_worth 83 = .ok (.lconst 0, 1) := by decide +kernel
theorem dX5_worth_84 : decode cX5_worth 84 = .ok (.goto 10, 3) := by decide +kernel
theorem dX5_worth_87 : decode cX5_worth 87 = .ok (.aload_n 0, 1) := by decide +kernel
theorem dX5_worth_88 : decode cX5_worth 88 = .ok (.getfield 26, 3) := by decide +kernel
theorem dX5_worth_91 : decode cX5_worth 91 = .ok (.iload 5, 2) := by decide +kernel
theorem dX5_worth_93 : decode cX5_worth 93 = .ok (.laload, 1) := by decide +kernel
theorem dX5_worth_94 : decode cX5_worth 94 = .ok (.lor, 1) := by decide +kernel
theorem dX5_worth_95 : decode cX5_worth 95 = .ok (.lstore_n 3, 1) := by decide +kernel
theorem dX5_worth_96 : decode cX5_worth 96 = .ok (.iinc 5 1, 3) := by decide +kernel
theorem dX5_worth_99 : decode cX5_worth 99 = .ok (.goto (-32), 3) := by decide +kernel
theorem dX5_worth_102 : decode cX5_worth 102 = .ok (.aload_n 0, 1) := by decide +kernel
theorem dX5_worth_103 : decode cX5_worth 103 = .ok (.iload_n 2, 1) := by decide +kernel
theorem dX5_worth_104 : decode cX5_worth 104 = .ok (.invokevirtual 227, 3) := by decide +kernel
theorem dX5_worth_107 : decode cX5_worth 107 = .ok (.aload_n 0, 1) := by decide +kernel
theorem dX5_worth_108 : decode cX5_worth 108 = .ok (.getfield 15, 3) := by decide +kernel
theorem dX5_worth_111 : decode cX5_worth 111 = .ok (.aload_n 0, 1) := by decide +kernel
theorem dX5_worth_112 : decode cX5_worth 112 = .ok (.getfield 26, 3) := by decide +kernel
theorem dX5_worth_115 : decode cX5_worth 115 = .ok (.iload_n 2, 1) := by decide +kernel
theorem dX5_worth_116 : decode cX5_worth 116 = .ok (.laload, 1) := by decide +kernel
theorem dX5_worth_117 : decode cX5_worth 117 = .ok (.land, 1) := by decide +kernel
theorem dX5_worth_118 : decode cX5_worth 118 = .ok (.lload_n 3, 1) := by decide +kernel
theorem dX5_worth_119 : decode cX5_worth 119 = .ok (.land, 1) := by decide +kernel
theorem dX5_worth_120 : decode cX5_worth 120 = .ok (.invokestatic 204, 3) := by decide +kernel
theorem dX5_worth_123 : decode cX5_worth 123 = .ok (.isub, 1) := by decide +kernel
theorem dX5_worth_124 : decode cX5_worth 124 = .ok (.ireturn, 1) := by decide +kernel
theorem dX5_worth_125 : decode cX5_worth 125 = .ok (.aload_n 0, 1) := by decide +kernel
theorem dX5_worth_126 : decode cX5_worth 126 = .ok (.dup, 1) := by decide +kernel
theorem dX5_worth_127 : decode cX5_worth 127 = .ok (.getfield 222, 3) := by decide +kernel
theorem dX5_worth_130 : decode cX5_worth 130 = .ok (.ldc2_w 237, 3) := by decide +kernel
theorem dX5_worth_133 : decode cX5_worth 133 = .ok (.ladd, 1) := by decide +kernel
theorem dX5_worth_134 : decode cX5_worth 134 = .ok (.putfield 222, 3) := by decide +kernel
theorem dX5_worth_137 : decode cX5_worth 137 = .ok (.aload_n 0, 1) := by decide +kernel
theorem dX5_worth_138 : decode cX5_worth 138 = .ok (.invokevirtual 188, 3) := by decide +kernel
theorem dX5_worth_141 : decode cX5_worth 141 = .ok (.aload_n 0, 1) := by decide +kernel
theorem dX5_worth_142 : decode cX5_worth 142 = .ok (.iload_n 2, 1) := by decide +kernel
theorem dX5_worth_143 : decode cX5_worth 143 = .ok (.invokevirtual 232, 3) := by decide +kernel
theorem dX5_worth_146 : decode cX5_worth 146 = .ok (.aload_n 0, 1) := by decide +kernel
theorem dX5_worth_147 : decode cX5_worth 147 = .ok (.iconst 0, 1) := by decide +kernel
theorem dX5_worth_148 : decode cX5_worth 148 = .ok (.invokevirtual 191, 3) := by decide +kernel
theorem dX5_worth_151 : decode cX5_worth 151 = .ok (.invokestatic 204, 3) := by decide +kernel
theorem dX5_worth_154 : decode cX5_worth 154 = .ok (.iadd, 1) := by decide +kernel
theorem dX5_worth_155 : decode cX5_worth 155 = .ok (.ireturn, 1) := by decide +kernel
set_option maxRecDepth 20000 in
theorem ggX5_count_X5_many : GoodIn wsX5_count wsX5_many := goodIn_r _ [9, 10, 11, 8, 12] (by decide +kernel) (by decide +kernel)
set_option maxRecDepth 20000 in
theorem gX5_count_X5_many : GoodIn wsX5_count (va_wsS RX5 204 yX5_many wsX5_many) := goodIn_app (goodIn_of _ (by decide +kernel)) ggX5_count_X5_many
theorem dX5_count_0 : decode cX5_count 0 = .ok (.iconst 0, 1) := by decide +kernel
theorem dX5_count_1 : decode cX5_count 1 = .ok (.istore_n 2, 1) := by decide +kernel
theorem dX5_count_2 : decode cX5_count 2 = .ok (.iconst 0, 1) := by decide +kernel
theorem dX5_count_3 : decode cX5_count 3 = .ok (.istore_n 3, 1) := by decide +kernel
theorem dX5_count_4 : decode cX5_count 4 = .ok (.iload_n 3, 1) := by decide +kernel
theorem dX5_count_5 : decode cX5_count 5 = .ok (.aload_n 0, 1) := by decide +kernel
theorem dX5_count_6 : decode cX5_count 6 = .ok (.getfield 142, 3) := by decide +kernel
theorem dX5_count_9 : decode cX5_count 9 = .ok (.if_icmp .ge 18, 3) := by decide +kernel
theorem dX5_count_12 : decode cX5_count 12 = .ok (.iload_n 2, 1) := by decide +kernel
theorem dX5_count_13 : decode cX5_count 13 = .ok (.aload_n 0, 1) := by decide +kernel
theorem dX5_count_14 : decode cX5_count 14 = .ok (.getfield 22, 3) := by decide +kernel
theorem dX5_count_17 : decode cX5_count 17 = .ok (.iload_n 3, 1) := by decide +kernel
theorem dX5_count_18 : decode cX5_count 18 = .ok (.iaload, 1) := by decide +kernel
theorem dX5_count_19 : decode cX5_count 19 = .ok (.iadd, 1) := by decide +kernel
theorem dX5_count_20 : decode cX5_count 20 = .ok (.istore_n 2, 1) := by decide +kernel
theorem dX5_count_21 : decode cX5_count 21 = .ok (.iinc 3 1, 3) := by decide +kernel
theorem dX5_count_24 : decode cX5_count 24 = .ok (.goto (-20), 3) := by decide +kernel
theorem dX5_count_27 : decode cX5_count 27 = .ok (.iload_n 1, 1) := by decide +kernel
theorem dX5_count_28 : decode cX5_count 28 = .ok (.ifCond .ne 10, 3) := by decide +kernel
theorem dX5_count_31 : decode cX5_count 31 = .ok (.aload_n 0, 1) := by decide +kernel
theorem dX5_count_32 : decode cX5_count 32 = .ok (.getfield 139, 3) := by decide +kernel
theorem dX5_count_35 : decode cX5_count 35 = .ok (.goto 52, 3) := by decide +kernel
theorem dX5_count_38 : decode cX5_count 38 = .ok (.iload_n 1, 1) := by decide +kernel
theorem dX5_count_39 : decode cX5_count 39 = .ok (.iconst 1, 1) := by decide +kernel
theorem dX5_count_40 : decode cX5_count 40 = .ok (.if_icmp .ne 10, 3) := by decide +kernel
theorem dX5_count_43 : decode cX5_count 43 = .ok (.aload_n 0, 1) := by decide +kernel
theorem dX5_count_44 : decode cX5_count 44 = .ok (.getfield 142, 3) := by decide +kernel
theorem dX5_count_47 : decode cX5_count 47 = .ok (.goto 40, 3) := by decide +kernel
theorem dX5_count_50 : decode cX5_count 50 = .ok (.iload_n 1, 1) := by decide +kernel
theorem dX5_count_51 : decode cX5_count 51 = .ok (.iconst 2, 1) := by decide +kernel
theorem dX5_count_52 : decode cX5_count 52 = .ok (.if_icmp .ne 10, 3) := by decide +kernel
theorem dX5_count_55 : decode cX5_count 55 = .ok (.aload_n 0, 1) := by decide +kernel
theorem dX5_count_56 : decode cX5_count 56 = .ok (.getfield 70, 3) := by decide +kernel
theorem dX5_count_59 : decode cX5_count 59 = .ok (.goto 28, 3) := by decide +kernel
theorem dX5_count_62 : decode cX5_count 62 = .ok (.iload_n 1, 1) := by decide +kernel
theorem dX5_count_63 : decode cX5_count 63 = .ok (.iconst 3, 1) := by decide +kernel
theorem dX5_count_64 : decode cX5_count 64 = .ok (.if_icmp .ne 7, 3) := by decide +kernel
theorem dX5_count_67 : decode cX5_count 67 = .ok (.iload_n 2, 1) := by decide +kernel
theorem dX5_count_68 : decode cX5_count 68 = .ok (.goto 19, 3) := by decide +kernel
theorem dX5_count_71 : decode cX5_count 71 = .ok (.iload_n 1, 1) := by decide +kernel
theorem dX5_count_72 : decode cX5_count 72 = .ok (.iconst 4, 1) := by decide +kernel
theorem dX5_count_73 : decode cX5_count 73 = .ok (.if_icmp .ne 13, 3) := by decide +kernel
theorem dX5_count_76 : decode cX5_count 76 = .ok (.aload_n 0, 1) := by decide +kernel
theorem dX5_count_77 : decode cX5_count 77 = .ok (.getfield 15, 3) := by decide +kernel
theorem dX5_count_80 : decode cX5_count 80 = .ok (.invokestatic 204, 3) := by decide +kernel
theorem dX5_count_83 : decode cX5_count 83 = .ok (.goto 4, 3) := by decide +kernel
theorem dX5_count_86 : decode cX5_count 86 = .ok (.iconst (-1), 1) := by decide +kernel
theorem dX5_count_87 : decode cX5_count 87 = .ok (.ireturn, 1) := by decide +kernel
theorem dX5_trace_0 : decode cX5_trace 0 = .ok (.aload_n 0, 1) := by decide +kernel
theorem dX5_trace_1 : decode cX5_trace 1 = .ok (.getfield 222, 3) := by decide +kernel
theorem dX5_trace_4 : decode cX5_trace 4 = .ok (.lreturn, 1) := by decide +kernel
theorem dJ6_numberOfTrailingZeros_0f7a4_0 : decode cJ6_numberOfTrailingZeros_0f7a4 0 = .ok (.iload_n 0, 1) := by decide +kernel
theorem dJ6_numberOfTrailingZeros_0f7a4_1 : decode cJ6_numberOfTrailingZeros_0f7a4 1 = .ok (.iconst (-1), 1) := by decide +kernel
theorem dJ6_numberOfTrailingZeros_0f7a4_2 : decode cJ6_numberOfTrailingZeros_0f7a4 2 = .ok (.ixor, 1) := by decide +kernel
theorem dJ6_numberOfTrailingZeros_0f7a4_3 : decode cJ6_numberOfTrailingZeros_0f7a4 3 = .ok (.iload_n 0, 1) := by decide +kernel
theorem dJ6_numberOfTrailingZeros_0f7a4_4 : decode cJ6_numberOfTrailingZeros_0f7a4 4 = .ok (.iconst 1, 1) := by decide +kernel
theorem dJ6_numberOfTrailingZeros_0f7a4_5 : decode cJ6_numberOfTrailingZeros_0f7a4 5 = .ok (.isub, 1) := by decide +kernel
theorem dJ6_numberOfTrailingZeros_0f7a4_6 : decode cJ6_numberOfTrailingZeros_0f7a4 6 = .ok (.iand, 1) := by decide +kernel
theorem dJ6_numberOfTrailingZeros_0f7a4_7 : decode cJ6_numberOfTrailingZeros_0f7a4 7 = .ok (.istore_n 0, 1) := by decide +kernel
theorem dJ6_numberOfTrailingZeros_0f7a4_8 : decode cJ6_numberOfTrailingZeros_0f7a4 8 = .ok (.iload_n 0, 1) := by decide +kernel
theorem dJ6_numberOfTrailingZeros_0f7a4_9 : decode cJ6_numberOfTrailingZeros_0f7a4 9 = .ok (.ifCond .gt 8, 3) := by decide +kernel
theorem dJ6_numberOfTrailingZeros_0f7a4_12 : decode cJ6_numberOfTrailingZeros_0f7a4 12 = .ok (.iload_n 0, 1) := by decide +kernel
theorem dJ6_numberOfTrailingZeros_0f7a4_13 : decode cJ6_numberOfTrailingZeros_0f7a4 13 = .ok (.bipush 32, 2) := by decide +kernel
theorem dJ6_numberOfTrailingZeros_0f7a4_15 : decode cJ6_numberOfTrailingZeros_0f7a4 15 = .ok (.iand, 1) := by decide +kernel
theorem dJ6_numberOfTrailingZeros_0f7a4_16 : decode cJ6_numberOfTrailingZeros_0f7a4 16 = .ok (.ireturn, 1) := by decide +kernel
theorem dJ6_numberOfTrailingZeros_0f7a4_17 : decode cJ6_numberOfTrailingZeros_0f7a4 17 = .ok (.iconst 1, 1) := by decide +kernel
theorem dJ6_numberOfTrailingZeros_0f7a4_18 : decode cJ6_numberOfTrailingZeros_0f7a4 18 = .ok (.istore_n 1, 1) := by decide +kernel
theorem dJ6_numberOfTrailingZeros_0f7a4_19 : decode cJ6_numberOfTrailingZeros_0f7a4 19 = .ok (.iload_n 0, 1) := by decide +kernel
theorem dJ6_numberOfTrailingZeros_0f7a4_20 : decode cJ6_numberOfTrailingZeros_0f7a4 20 = .ok (.ldc_w 264, 3) := by decide +kernel
theorem dJ6_numberOfTrailingZeros_0f7a4_23 : decode cJ6_numberOfTrailingZeros_0f7a4 23 = .ok (.if_icmp .le 11, 3) := by decide +kernel
theorem dJ6_numberOfTrailingZeros_0f7a4_26 : decode cJ6_numberOfTrailingZeros_0f7a4 26 = .ok (.iinc 1 16, 3) := by decide +kernel
theorem dJ6_numberOfTrailingZeros_0f7a4_29 : decode cJ6_numberOfTrailingZeros_0f7a4 29 = .ok (.iload_n 0, 1) := by decide +kernel
theorem dJ6_numberOfTrailingZeros_0f7a4_30 : decode cJ6_numberOfTrailingZeros_0f7a4 30 = .ok (.bipush 16, 2) := by decide +kernel
theorem dJ6_numberOfTrailingZeros_0f7a4_32 : decode cJ6_numberOfTrailingZeros_0f7a4 32 = .ok (.iushr, 1) := by decide +kernel
theorem dJ6_numberOfTrailingZeros_0f7a4_33 : decode cJ6_numberOfTrailingZeros_0f7a4 33 = .ok (.istore_n 0, 1) := by decide +kernel
theorem dJ6_numberOfTrailingZeros_0f7a4_34 : decode cJ6_numberOfTrailingZeros_0f7a4 34 = .ok (.iload_n 0, 1) := by decide +kernel
theorem dJ6_numberOfTrailingZeros_0f7a4_35 : decode cJ6_numberOfTrailingZeros_0f7a4 35 = .ok (.sipush 256, 3) := by decide +kernel
theorem dJ6_numberOfTrailingZeros_0f7a4_38 : decode cJ6_numberOfTrailingZeros_0f7a4 38 = .ok (.if_icmp .le 11, 3) := by decide +kernel
theorem dJ6_numberOfTrailingZeros_0f7a4_41 : decode cJ6_numberOfTrailingZeros_0f7a4 41 = .ok (.iinc 1 8, 3) := by decide +kernel
theorem dJ6_numberOfTrailingZeros_0f7a4_44 : decode cJ6_numberOfTrailingZeros_0f7a4 44 = .ok (.iload_n 0, 1) := by decide +kernel
theorem dJ6_numberOfTrailingZeros_0f7a4_45 : decode cJ6_numberOfTrailingZeros_0f7a4 45 = .ok (.bipush 8, 2) := by decide +kernel
theorem dJ6_numberOfTrailingZeros_0f7a4_47 : decode cJ6_numberOfTrailingZeros_0f7a4 47 = .ok (.iushr, 1) := by decide +kernel
theorem dJ6_numberOfTrailingZeros_0f7a4_48 : decode cJ6_numberOfTrailingZeros_0f7a4 48 = .ok (.istore_n 0, 1) := by decide +kernel
theorem dJ6_numberOfTrailingZeros_0f7a4_49 : decode cJ6_numberOfTrailingZeros_0f7a4 49 = .ok (.iload_n 0, 1) := by decide +kernel
theorem dJ6_numberOfTrailingZeros_0f7a4_50 : decode cJ6_numberOfTrailingZeros_0f7a4 50 = .ok (.bipush 16, 2) := by decide +kernel
theorem dJ6_numberOfTrailingZeros_0f7a4_52 : decode cJ6_numberOfTrailingZeros_0f7a4 52 = .ok (.if_icmp .le 10, 3) := by decide +kernel
theorem dJ6_numberOfTrailingZeros_0f7a4_55 : decode cJ6_numberOfTrailingZeros_0f7a4 55 = .ok (.iinc 1 4, 3) := by decide +kernel
theorem dJ6_numberOfTrailingZeros_0f7a4_58 : decode cJ6_numberOfTrailingZeros_0f7a4 58 = .ok (.iload_n 0, 1) := by decide +kernel
theorem dJ6_numberOfTrailingZeros_0f7a4_59 : decode cJ6_numberOfTrailingZeros_0f7a4 59 = .ok (.iconst 4, 1) := by decide +kernel
theorem dJ6_numberOfTrailingZeros_0f7a4_60 : decode cJ6_numberOfTrailingZeros_0f7a4 60 = .ok (.iushr, 1) := by decide +kernel
theorem dJ6_numberOfTrailingZeros_0f7a4_61 : decode cJ6_numberOfTrailingZeros_0f7a4 61 = .ok (.istore_n 0, 1) := by decide +kernel
theorem dJ6_numberOfTrailingZeros_0f7a4_62 : decode cJ6_numberOfTrailingZeros_0f7a4 62 = .ok (.iload_n 0, 1) := by decide +kernel
theorem dJ6_numberOfTrailingZeros_0f7a4_63 : decode cJ6_numberOfTrailingZeros_0f7a4 63 = .ok (.iconst 4, 1) := by decide +kernel
theorem dJ6_numberOfTrailingZeros_0f7a4_64 : decode cJ6_numberOfTrailingZeros_0f7a4 64 = .ok (.if_icmp .le 10, 3) := by decide +kernel
theorem dJ6_numberOfTrailingZeros_0f7a4_67 : decode cJ6_numberOfTrailingZeros_0f7a4 67 = .ok (.iinc 1 2, 3) := by decide +kernel
theorem dJ6_numberOfTrailingZeros_0f7a4_70 : decode cJ6_numberOfTrailingZeros_0f7a4 70 = .ok (.iload_n 0, 1) := by decide +kernel
theorem dJ6_numberOfTrailingZeros_0f7a4_71 : decode cJ6_numberOfTrailingZeros_0f7a4 71 = .ok (.iconst 2, 1) := by decide +kernel
theorem dJ6_numberOfTrailingZeros_0f7a4_72 : decode cJ6_numberOfTrailingZeros_0f7a4 72 = .ok (.iushr, 1) := by decide +kernel
theorem dJ6_numberOfTrailingZeros_0f7a4_73 : decode cJ6_numberOfTrailingZeros_0f7a4 73 = .ok (.istore_n 0, 1) := by decide +kernel
theorem dJ6_numberOfTrailingZeros_0f7a4_74 : decode cJ6_numberOfTrailingZeros_0f7a4 74 = .ok (.iload_n 1, 1) := by decide +kernel
theorem dJ6_numberOfTrailingZeros_0f7a4_75 : decode cJ6_numberOfTrailingZeros_0f7a4 75 = .ok (.iload_n 0, 1) := by decide +kernel
theorem dJ6_numberOfTrailingZeros_0f7a4_76 : decode cJ6_numberOfTrailingZeros_0f7a4 76 = .ok (.iconst 1, 1) := by decide +kernel
theorem dJ6_numberOfTrailingZeros_0f7a4_77 : decode cJ6_numberOfTrailingZeros_0f7a4 77 = .ok (.iushr, 1) := by decide +kernel
theorem dJ6_numberOfTrailingZeros_0f7a4_78 : decode cJ6_numberOfTrailingZeros_0f7a4 78 = .ok (.iadd, 1) := by decide +kernel
theorem dJ6_numberOfTrailingZeros_0f7a4_79 : decode cJ6_numberOfTrailingZeros_0f7a4 79 = .ok (.ireturn, 1) := by decide +kernel
theorem dJ6_bitCount_0f7a4_0 : decode cJ6_bitCount_0f7a4 0 = .ok (.iload_n 0, 1) := by decide +kernel
theorem dJ6_bitCount_0f7a4_1 : decode cJ6_bitCount_0f7a4 1 = .ok (.iload_n 0, 1) := by decide +kernel
theorem dJ6_bitCount_0f7a4_2 : decode cJ6_bitCount_0f7a4 2 = .ok (.iconst 1, 1) := by decide +kernel
theorem dJ6_bitCount_0f7a4_3 : decode cJ6_bitCount_0f7a4 3 = .ok (.iushr, 1) := by decide +kernel
theorem dJ6_bitCount_0f7a4_4 : decode cJ6_bitCount_0f7a4 4 = .ok (.ldc_w 265, 3) := by decide +kernel
theorem dJ6_bitCount_0f7a4_7 : decode cJ6_bitCount_0f7a4 7 = .ok (.iand, 1) := by decide +kernel
theorem dJ6_bitCount_0f7a4_8 : decode cJ6_bitCount_0f7a4 8 = .ok (.isub, 1) := by decide +kernel
theorem dJ6_bitCount_0f7a4_9 : decode cJ6_bitCount_0f7a4 9 = .ok (.istore_n 0, 1) := by decide +kernel
theorem dJ6_bitCount_0f7a4_10 : decode cJ6_bitCount_0f7a4 10 = .ok (.iload_n 0, 1) := by decide +kernel
theorem dJ6_bitCount_0f7a4_11 : decode cJ6_bitCount_0f7a4 11 = .ok (.ldc_w 266, 3) := by decide +kernel
theorem dJ6_bitCount_0f7a4_14 : decode cJ6_bitCount_0f7a4 14 = .ok (.iand, 1) := by decide +kernel
theorem dJ6_bitCount_0f7a4_15 : decode cJ6_bitCount_0f7a4 15 = .ok (.iload_n 0, 1) := by decide +kernel
theorem dJ6_bitCount_0f7a4_16 : decode cJ6_bitCount_0f7a4 16 = .ok (.iconst 2, 1) := by decide +kernel
theorem dJ6_bitCount_0f7a4_17 : decode cJ6_bitCount_0f7a4 17 = .ok (.iushr, 1) := by decide +kernel
theorem dJ6_bitCount_0f7a4_18 : decode cJ6_bitCount_0f7a4 18 = .ok (.ldc_w 266, 3) := by decide +kernel
theorem dJ6_bitCount_0f7a4_21 : decode cJ6_bitCount_0f7a4 21 = .ok (.iand, 1) := by decide +kernel
theorem dJ6_bitCount_0f7a4_22 : decode cJ6_bitCount_0f7a4 22 = .ok (.iadd, 1) := by decide +kernel
theorem dJ6_bitCount_0f7a4_23 : decode cJ6_bitCount_0f7a4 23 = .ok (.istore_n 0, 1) := by decide +kernel
theorem dJ6_bitCount_0f7a4_24 : decode cJ6_bitCount_0f7a4 24 = .ok (.iload_n 0, 1) := by decide +kernel
theorem dJ6_bitCount_0f7a4_25 : decode cJ6_bitCount_0f7a4 25 = .ok (.iload_n 0, 1) := by decide +kernel
theorem dJ6_bitCount_0f7a4_26 : decode cJ6_bitCount_0f7a4 26 = .ok (.iconst 4, 1) := by decide +kernel
theorem dJ6_bitCount_0f7a4_27 : decode cJ6_bitCount_0f7a4 27 = .ok (.iushr, 1) := by decide +kernel
theorem dJ6_bitCount_0f7a4_28 : decode cJ6_bitCount_0f7a4 28 = .ok (.iadd, 1) := by decide +kernel
theorem dJ6_bitCount_0f7a4_29 : decode cJ6_bitCount_0f7a4 29 = .ok (.ldc_w 267, 3) := by decide +kernel
theorem dJ6_bitCount_0f7a4_32 : decode cJ6_bitCount_0f7a4 32 = .ok (.iand, 1) := by decide +kernel
theorem dJ6_bitCount_0f7a4_33 : decode cJ6_bitCount_0f7a4 33 = .ok (.istore_n 0, 1) := by decide +kernel
theorem dJ6_bitCount_0f7a4_34 : decode cJ6_bitCount_0f7a4 34 = .ok (.iload_n 0, 1) := by decide +kernel
theorem dJ6_bitCount_0f7a4_35 : decode cJ6_bitCount_0f7a4 35 = .ok (.iload_n 0, 1) := by decide +kernel
theorem dJ6_bitCount_0f7a4_36 : decode cJ6_bitCount_0f7a4 36 = .ok (.bipush 8, 2) := by decide +kernel
theorem dJ6_bitCount_0f7a4_38 : decode cJ6_bitCount_0f7a4 38 = .ok (.iushr, 1) := by decide +kernel
theorem dJ6_bitCount_0f7a4_39 : decode cJ6_bitCount_0f7a4 39 = .ok (.iadd, 1) := by decide +kernel
theorem dJ6_bitCount_0f7a4_40 : decode cJ6_bitCount_0f7a4 40 = .ok (.istore_n 0, 1) := by decide +kernel
theorem dJ6_bitCount_0f7a4_41 : decode cJ6_bitCount_0f7a4 41 = .ok (.iload_n 0, 1) := by decide +kernel
theorem dJ6_bitCount_0f7a4_42 : decode cJ6_bitCount_0f7a4 42 = .ok (.iload_n 0, 1) := by decide +kernel
theorem dJ6_bitCount_0f7a4_43 : decode cJ6_bitCount_0f7a4 43 = .ok (.bipush 16, 2) := by decide +kernel
theorem dJ6_bitCount_0f7a4_45 : decode cJ6_bitCount_0f7a4 45 = .ok (.iushr, 1) := by decide +kernel
theorem dJ6_bitCount_0f7a4_46 : decode cJ6_bitCount_0f7a4 46 = .ok (.iadd, 1) := by decide +kernel
theorem dJ6_bitCount_0f7a4_47 : decode cJ6_bitCount_0f7a4 47 = .ok (.istore_n 0, 1) := by decide +kernel
theorem dJ6_bitCount_0f7a4_48 : decode cJ6_bitCount_0f7a4 48 = .ok (.iload_n 0, 1) := by decide +kernel
theorem dJ6_bitCount_0f7a4_49 : decode cJ6_bitCount_0f7a4 49 = .ok (.bipush 63, 2) := by decide +kernel
theorem dJ6_bitCount_0f7a4_51 : decode cJ6_bitCount_0f7a4 51 = .ok (.iand, 1) := by decide +kernel
theorem dJ6_bitCount_0f7a4_52 : decode cJ6_bitCount_0f7a4 52 = .ok (.ireturn, 1) := by decide +kernel
theorem dJ13_bitCount_95d88_0 : decode cJ13_bitCount_95d88 0 = .ok (.lload_n 0, 1) := by decide +kernel
theorem dJ13_bitCount_95d88_1 : decode cJ13_bitCount_95d88 1 = .ok (.lload_n 0, 1) := by decide +kernel
theorem dJ13_bitCount_95d88_2 : decode cJ13_bitCount_95d88 2 = .ok (.iconst 1, 1) := by decide +kernel
theorem dJ13_bitCount_95d88_3 : decode cJ13_bitCount_95d88 3 = .ok (.lushr, 1) := by decide +kernel
theorem dJ13_bitCount_95d88_4 : decode cJ13_bitCount_95d88 4 = .ok (.ldc2_w 314, 3) := by decide +kernel
theorem dJ13_bitCount_95d88_7 : decode cJ13_bitCount_95d88 7 = .ok (.land, 1) := by decide +kernel
theorem dJ13_bitCount_95d88_8 : decode cJ13_bitCount_95d88 8 = .ok (.lsub, 1) := by decide +kernel
theorem dJ13_bitCount_95d88_9 : decode cJ13_bitCount_95d88 9 = .ok (.lstore_n 0, 1) := by decide +kernel
theorem dJ13_bitCount_95d88_10 : decode cJ13_bitCount_95d88 10 = .ok (.lload_n 0, 1) := by decide +kernel
theorem dJ13_bitCount_95d88_11 : decode cJ13_bitCount_95d88 11 = .ok (.ldc2_w 316, 3) := by decide +kernel
theorem dJ13_bitCount_95d88_14 : decode cJ13_bitCount_95d88 14 = .ok (.land, 1) := by decide +kernel
theorem dJ13_bitCount_95d88_15 : decode cJ13_bitCount_95d88 15 = .ok (.lload_n 0, 1) := by decide +kernel
theorem dJ13_bitCount_95d88_16 : decode cJ13_bitCount_95d88 16 = .ok (.iconst 2, 1) := by decide +kernel
theorem dJ13_bitCount_95d88_17 : decode cJ13_bitCount_95d88 17 = .ok (.lushr, 1) := by decide +kernel
theorem dJ13_bitCount_95d88_18 : decode cJ13_bitCount_95d88 18 = .ok (.ldc2_w 316, 3) := by decide +kernel
theorem dJ13_bitCount_95d88_21 : decode cJ13_bitCount_95d88 21 = .ok (.land, 1) := by decide +kernel
theorem dJ13_bitCount_95d88_22 : decode cJ13_bitCount_95d88 22 = .ok (.ladd, 1) := by decide +kernel
theorem dJ13_bitCount_95d88_23 : decode cJ13_bitCount_95d88 23 = .ok (.lstore_n 0, 1) := by decide +kernel
theorem dJ13_bitCount_95d88_24 : decode cJ13_bitCount_95d88 24 = .ok (.lload_n 0, 1) := by decide +kernel
theorem dJ13_bitCount_95d88_25 : decode cJ13_bitCount_95d88 25 = .ok (.lload_n 0, 1) := by decide +kernel
theorem dJ13_bitCount_95d88_26 : decode cJ13_bitCount_95d88 26 = .ok (.iconst 4, 1) := by decide +kernel
theorem dJ13_bitCount_95d88_27 : decode cJ13_bitCount_95d88 27 = .ok (.lushr, 1) := by decide +kernel
theorem dJ13_bitCount_95d88_28 : decode cJ13_bitCount_95d88 28 = .ok (.ladd, 1) := by decide +kernel
theorem dJ13_bitCount_95d88_29 : decode cJ13_bitCount_95d88 29 = .ok (.ldc2_w 318, 3) := by decide +kernel
theorem dJ13_bitCount_95d88_32 : decode cJ13_bitCount_95d88 32 = .ok (.land, 1) := by decide +kernel
theorem dJ13_bitCount_95d88_33 : decode cJ13_bitCount_95d88 33 = .ok (.lstore_n 0, 1) := by decide +kernel
theorem dJ13_bitCount_95d88_34 : decode cJ13_bitCount_95d88 34 = .ok (.lload_n 0, 1) := by decide +kernel
theorem dJ13_bitCount_95d88_35 : decode cJ13_bitCount_95d88 35 = .ok (.lload_n 0, 1) := by decide +kernel
theorem dJ13_bitCount_95d88_36 : decode cJ13_bitCount_95d88 36 = .ok (.bipush 8, 2) := by decide +kernel
theorem dJ13_bitCount_95d88_38 : decode cJ13_bitCount_95d88 38 = .ok (.lushr, 1) := by decide +kernel
theorem dJ13_bitCount_95d88_39 : decode cJ13_bitCount_95d88 39 = .ok (.ladd, 1) := by decide +kernel
theorem dJ13_bitCount_95d88_40 : decode cJ13_bitCount_95d88 40 = .ok (.lstore_n 0, 1) := by decide +kernel
theorem dJ13_bitCount_95d88_41 : decode cJ13_bitCount_95d88 41 = .ok (.lload_n 0, 1) := by decide +kernel
theorem dJ13_bitCount_95d88_42 : decode cJ13_bitCount_95d88 42 = .ok (.lload_n 0, 1) := by decide +kernel
theorem dJ13_bitCount_95d88_43 : decode cJ13_bitCount_95d88 43 = .ok (.bipush 16, 2) := by decide +kernel
theorem dJ13_bitCount_95d88_45 : decode cJ13_bitCount_95d88 45 = .ok (.lushr, 1) := by decide +kernel
theorem dJ13_bitCount_95d88_46 : decode cJ13_bitCount_95d88 46 = .ok (.ladd, 1) := by decide +kernel
theorem dJ13_bitCount_95d88_47 : decode cJ13_bitCount_95d88 47 = .ok (.lstore_n 0, 1) := by decide +kernel
theorem dJ13_bitCount_95d88_48 : decode cJ13_bitCount_95d88 48 = .ok (.lload_n 0, 1) := by decide +kernel
theorem dJ13_bitCount_95d88_49 : decode cJ13_bitCount_95d88 49 = .ok (.lload_n 0, 1) := by decide +kernel
theorem dJ13_bitCount_95d88_50 : decode cJ13_bitCount_95d88 50 = .ok (.bipush 32, 2) := by decide +kernel
theorem dJ13_bitCount_95d88_52 : decode cJ13_bitCount_95d88 52 = .ok (.lushr, 1) := by decide +kernel
theorem dJ13_bitCount_95d88_53 : decode cJ13_bitCount_95d88 53 = .ok (.ladd, 1) := by decide +kernel
theorem dJ13_bitCount_95d88_54 : decode cJ13_bitCount_95d88 54 = .ok (.lstore_n 0, 1) := by decide +kernel
theorem dJ13_bitCount_95d88_55 : decode cJ13_bitCount_95d88 55 = .ok (.lload_n 0, 1) := by decide +kernel
theorem dJ13_bitCount_95d88_56 : decode cJ13_bitCount_95d88 56 = .ok (.l2i, 1) := by decide +kernel
theorem dJ13_bitCount_95d88_57 : decode cJ13_bitCount_95d88 57 = .ok (.bipush 127, 2) := by decide +kernel
theorem dJ13_bitCount_95d88_59 : decode cJ13_bitCount_95d88 59 = .ok (.iand, 1) := by decide +kernel
theorem dJ13_bitCount_95d88_60 : decode cJ13_bitCount_95d88 60 = .ok (.ireturn, 1) := by decide +kernel
theorem dJ9_max_f86c9_0 : decode cJ9_max_f86c9 0 = .ok (.lload_n 0, 1) := by decide +kernel
theorem dJ9_max_f86c9_1 : decode cJ9_max_f86c9 1 = .ok (.lload_n 2, 1) := by decide +kernel
theorem dJ9_max_f86c9_2 : decode cJ9_max_f86c9 2 = .ok (.lcmp, 1) := by decide +kernel
theorem dJ9_max_f86c9_3 : decode cJ9_max_f86c9 3 = .ok (.ifCond .lt 7, 3) := by decide +kernel
theorem dJ9_max_f86c9_6 : decode cJ9_max_f86c9 6 = .ok (.lload_n 0, 1) := by decide +kernel
theorem dJ9_max_f86c9_7 : decode cJ9_max_f86c9 7 = .ok (.goto 4, 3) := by decide +kernel
theorem dJ9_max_f86c9_10 : decode cJ9_max_f86c9 10 = .ok (.lload_n 2, 1) := by decide +kernel
theorem dJ9_max_f86c9_11 : decode cJ9_max_f86c9 11 = .ok (.lreturn, 1) := by decide +kernel
theorem dJ9_min_f86c9_0 : decode cJ9_min_f86c9 0 = .ok (.lload_n 0, 1) := by decide +kernel
theorem dJ9_min_f86c9_1 : decode cJ9_min_f86c9 1 = .ok (.lload_n 2, 1) := by decide +kernel
theorem dJ9_min_f86c9_2 : decode cJ9_min_f86c9 2 = .ok (.lcmp, 1) := by decide +kernel
theorem dJ9_min_f86c9_3 : decode cJ9_min_f86c9 3 = .ok (.ifCond .gt 7, 3) := by decide +kernel
theorem dJ9_min_f86c9_6 : decode cJ9_min_f86c9 6 = .ok (.lload_n 0, 1) := by decide +kernel
theorem dJ9_min_f86c9_7 : decode cJ9_min_f86c9 7 = .ok (.goto 4, 3) := by decide +kernel
theorem dJ9_min_f86c9_10 : decode cJ9_min_f86c9 10 = .ok (.lload_n 2, 1) := by decide +kernel
theorem dJ9_min_f86c9_11 : decode cJ9_min_f86c9 11 = .ok (.lreturn, 1) := by decide +kernel
theorem dJ7_fill_d0a16_0 : decode cJ7_fill_d0a16 0 = .ok (.iconst 0, 1) := by decide +kernel
theorem dJ7_fill_d0a16_1 : decode cJ7_fill_d0a16 1 = .ok (.istore_n 3, 1) := by decide +kernel
theorem dJ7_fill_d0a16_2 : decode cJ7_fill_d0a16 2 = .ok (.aload_n 0, 1) := by decide +kernel
theorem dJ7_fill_d0a16_3 : decode cJ7_fill_d0a16 3 = .ok (.arraylength, 1) := by decide +kernel
theorem dJ7_fill_d0a16_4 : decode cJ7_fill_d0a16 4 = .ok (.istore 4, 2) := by decide +kernel
theorem dJ7_fill_d0a16_6 : decode cJ7_fill_d0a16 6 = .ok (.iload_n 3, 1) := by decide +kernel
theorem dJ7_fill_d0a16_7 : decode cJ7_fill_d0a16 7 = .ok (.iload 4, 2) := by decide +kernel
theorem dJ7_fill_d0a16_9 : decode cJ7_fill_d0a16 9 = .ok (.if_icmp .ge 13, 3) := by decide +kernel
theorem dJ7_fill_d0a16_12 : decode cJ7_fill_d0a16 12 = .ok (.aload_n 0, 1) := by decide +kernel
theorem dJ7_fill_d0a16_13 : decode cJ7_fill_d0a16 13 = .ok (.iload_n 3, 1) := by decide +kernel
theorem dJ7_fill_d0a16_14 : decode cJ7_fill_d0a16 14 = .ok (.lload_n 1, 1) := by decide +kernel
theorem dJ7_fill_d0a16_15 : decode cJ7_fill_d0a16 15 = .ok (.lastore, 1) := by decide +kernel
theorem dJ7_fill_d0a16_16 : decode cJ7_fill_d0a16 16 = .ok (.iinc 3 1, 3) := by decide +kernel
theorem dJ7_fill_d0a16_19 : decode cJ7_fill_d0a16 19 = .ok (.goto (-13), 3) := by decide +kernel
theorem dJ7_fill_d0a16_22 : decode cJ7_fill_d0a16 22 = .ok (.return_, 1) := by decide +kernel
theorem dJ7_fill_53178_0 : decode cJ7_fill_53178 0 = .ok (.iconst 0, 1) := by decide +kernel
theorem dJ7_fill_53178_1 : decode cJ7_fill_53178 1 = .ok (.istore_n 2, 1) := by decide +kernel
theorem dJ7_fill_53178_2 : decode cJ7_fill_53178 2 = .ok (.aload_n 0, 1) := by decide +kernel
theorem dJ7_fill_53178_3 : decode cJ7_fill_53178 3 = .ok (.arraylength, 1) := by decide +kernel
theorem dJ7_fill_53178_4 : decode cJ7_fill_53178 4 = .ok (.istore_n 3, 1) := by decide +kernel
theorem dJ7_fill_53178_5 : decode cJ7_fill_53178 5 = .ok (.iload_n 2, 1) := by decide +kernel
theorem dJ7_fill_53178_6 : decode cJ7_fill_53178 6 = .ok (.iload_n 3, 1) := by decide +kernel
theorem dJ7_fill_53178_7 : decode cJ7_fill_53178 7 = .ok (.if_icmp .ge 13, 3) := by decide +kernel
theorem dJ7_fill_53178_10 : decode cJ7_fill_53178 10 = .ok (.aload_n 0, 1) := by decide +kernel
theorem dJ7_fill_53178_11 : decode cJ7_fill_53178 11 = .ok (.iload_n 2, 1) := by decide +kernel
theorem dJ7_fill_53178_12 : decode cJ7_fill_53178 12 = .ok (.iload_n 1, 1) := by decide +kernel
theorem dJ7_fill_53178_13 : decode cJ7_fill_53178 13 = .ok (.iastore, 1) := by decide +kernel
theorem dJ7_fill_53178_14 : decode cJ7_fill_53178 14 = .ok (.iinc 2 1, 3) := by decide +kernel
theorem dJ7_fill_53178_17 : decode cJ7_fill_53178 17 = .ok (.goto (-12), 3) := by decide +kernel
theorem dJ7_fill_53178_20 : decode cJ7_fill_53178 20 = .ok (.return_, 1) := by decide +kernel
