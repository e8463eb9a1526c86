set_option maxRecDepth 20000 in
theorem ggX0_init_J7_fill_53178 : GoodIn wsX0_init wsJ7_fill_53178 := goodIn_r _ [11] (by decide +kernel) (by decide +kernel)
set_option maxRecDepth 20000 in
theorem gX0_init_J7_fill_53178 : GoodIn wsX0_init (va_wsS RX0 15 yJ7_fill_53178 wsJ7_fill_53178) := goodIn_app (goodIn_of _ (by decide +kernel)) ggX0_init_J7_fill_53178
set_option maxRecDepth 20000 in
theorem ggX0_init_J6_bitCount_0f7a4 : GoodIn wsX0_init wsJ6_bitCount_0f7a4 := goodIn_r _ [15, 16, 17, 18] (by decide +kernel) (by decide +kernel)
set_option maxRecDepth 20000 in
theorem gX0_init_J6_bitCount_0f7a4 : GoodIn wsX0_init (va_wsS RX0 28 yJ6_bitCount_0f7a4 wsJ6_bitCount_0f7a4) := goodIn_app (goodIn_of _ (by decide +kernel)) ggX0_init_J6_bitCount_0f7a4
theorem dX0_init_0 : decode cX0_init 0 = .ok (.aload_n 0, 1) := by decide +kernel
theorem dX0_init_1 : decode cX0_init 1 = .ok (.invokespecial 3, 3) := by decide +kernel
theorem dX0_init_4 : decode cX0_init 4 = .ok (.aload_n 0, 1) := by decide +kernel
theorem dX0_init_5 : decode cX0_init 5 = .ok (.bipush 6, 2) := by decide +kernel
theorem dX0_init_7 : decode cX0_init 7 = .ok (.newarray .int, 2) := by decide +kernel
theorem dX0_init_9 : decode cX0_init 9 = .ok (.putfield 9, 3) := by decide +kernel
theorem dX0_init_12 : decode cX0_init 12 = .ok (.aload_n 0, 1) := by decide +kernel
theorem dX0_init_13 : decode cX0_init 13 = .ok (.getfield 9, 3) := by decide +kernel
theorem dX0_init_16 : decode cX0_init 16 = .ok (.iconst 1, 1) := by decide +kernel
theorem dX0_init_17 : decode cX0_init 17 = .ok (.invokestatic 15, 3) := by decide +kernel
theorem dX0_init_20 : decode cX0_init 20 = .ok (.aload_n 0, 1) := by decide +kernel
theorem dX0_init_21 : decode cX0_init 21 = .ok (.iconst 0, 1) := by decide +kernel
theorem dX0_init_22 : decode cX0_init 22 = .ok (.putfield 21, 3) := by decide +kernel
theorem dX0_init_25 : decode cX0_init 25 = .ok (.aload_n 0, 1) := by decide +kernel
theorem dX0_init_26 : decode cX0_init 26 = .ok (.bipush 64, 2) := by decide +kernel
theorem dX0_init_28 : decode cX0_init 28 = .ok (.newarray .int, 2) := by decide +kernel
theorem dX0_init_30 : decode cX0_init 30 = .ok (.putfield 25, 3) := by decide +kernel
theorem dX0_init_33 : decode cX0_init 33 = .ok (.iconst 0, 1) := by decide +kernel
theorem dX0_init_34 : decode cX0_init 34 = .ok (.istore_n 1, 1) := by decide +kernel
theorem dX0_init_35 : decode cX0_init 35 = .ok (.iload_n 1, 1) := by decide +kernel
theorem dX0_init_36 : decode cX0_init 36 = .ok (.bipush 64, 2) := by decide +kernel
theorem dX0_init_38 : decode cX0_init 38 = .ok (.if_icmp .ge 19, 3) := by decide +kernel
theorem dX0_init_41 : decode cX0_init 41 = .ok (.aload_n 0, 1) := by decide +kernel
theorem dX0_init_42 : decode cX0_init 42 = .ok (.getfield 25, 3) := by decide +kernel
theorem dX0_init_45 : decode cX0_init 45 = .ok (.iload_n 1, 1) := by decide +kernel
theorem dX0_init_46 : decode cX0_init 46 = .ok (.iload_n 1, 1) := by decide +kernel
theorem dX0_init_47 : decode cX0_init 47 = .ok (.invokestatic 28, 3) := by decide +kernel
theorem dX0_init_50 : decode cX0_init 50 = .ok (.iastore, 1) := by decide +kernel
theorem dX0_init_51 : decode cX0_init 51 = .ok (.iinc 1 1, 3) := by decide +kernel
theorem dX0_init_54 : decode cX0_init 54 = .ok (.goto (-19), 3) := by decide +kernel
theorem dX0_init_57 : decode cX0_init 57 = .ok (.return_, 1) := by decide +kernel
set_option maxRecDepth 20000 in
theorem ggX0_findLengths_J6_numberOfTrailingZeros_0f7a4 : GoodIn wsX0_findLengths wsJ6_numberOfTrailingZeros_0f7a4 := goodIn_r _ [7, 8] (by decide +kernel) (by decide +kernel)
set_option maxRecDepth 20000 in
theorem gX0_findLengths_J6_numberOfTrailingZeros_0f7a4 : GoodIn wsX0_findLengths (va_wsS RX0 34 yJ6_numberOfTrailingZeros_0f7a4 wsJ6_numberOfTrailingZeros_0f7a4) := goodIn_app (goodIn_of _ (by decide +kernel)) ggX0_findLengths_J6_numberOfTrailingZeros_0f7a4
theorem dX0_findLengths_0 : decode cX0_findLengths 0 = .ok (.aload_n 0, 1) := by decide +kernel
theorem dX0_findLengths_1 : decode cX0_findLengths 1 = .ok (.getfield 25, 3) := by decide +kernel
theorem dX0_findLengths_4 : decode cX0_findLengths 4 = .ok (.iconst 0, 1) := by decide +kernel
theorem dX0_findLengths_5 : decode cX0_findLengths 5 = .ok (.iconst 0, 1) := by decide +kernel
theorem dX0_findLengths_6 : decode cX0_findLengths 6 = .ok (.iastore, 1) := by decide +kernel
theorem dX0_findLengths_7 : decode cX0_findLengths 7 = .ok (.iconst 1, 1) := by decide +kernel
theorem dX0_findLengths_8 : decode cX0_findLengths 8 = .ok (.istore_n 1, 1) := by decide +kernel
theorem dX0_findLengths_9 : decode cX0_findLengths 9 = .ok (.iload_n 1, 1) := by decide +kernel
theorem dX0_findLengths_10 : decode cX0_findLengths 10 = .ok (.bipush 64, 2) := by decide +kernel
theorem dX0_findLengths_12 : decode cX0_findLengths 12 = .ok (.if_icmp .ge 50, 3) := by decide +kernel
theorem dX0_findLengths_15 : decode cX0_findLengths 15 = .ok (.iload_n 1, 1) := by decide +kernel
theorem dX0_findLengths_16 : decode cX0_findLengths 16 = .ok (.invokestatic 34, 3) := by decide +kernel
theorem dX0_findLengths_19 : decode cX0_findLengths 19 = .ok (.istore_n 2, 1) := by decide +kernel
theorem dX0_findLengths_20 : decode cX0_findLengths 20 = .ok (.aload_n 0, 1) := by decide +kernel
theorem dX0_findLengths_21 : decode cX0_findLengths 21 = .ok (.getfield 25, 3) := by decide +kernel
theorem dX0_findLengths_24 : decode cX0_findLengths 24 = .ok (.iload_n 1, 1) := by decide +kernel
theorem dX0_findLengths_25 : decode cX0_findLengths 25 = .ok (.aload_n 0, 1) := by decide +kernel
theorem dX0_findLengths_26 : decode cX0_findLengths 26 = .ok (.getfield 21, 3) := by decide +kernel
theorem dX0_findLengths_29 : decode cX0_findLengths 29 = .ok (.ifCond .eq 7, 3) := by decide +kernel
theorem dX0_findLengths_32 : decode cX0_findLengths 32 = .ok (.iconst 1, 1) := by decide +kernel
theorem dX0_findLengths_33 : decode cX0_findLengths 33 = .ok (.goto 22, 3) := by decide +kernel
theorem dX0_findLengths_36 : decode cX0_findLengths 36 = .ok (.aload_n 0, 1) := by decide +kernel
theorem dX0_findLengths_37 : decode cX0_findLengths 37 = .ok (.getfield 25, 3) := by decide +kernel
theorem dX0_findLengths_40 : decode cX0_findLengths 40 = .ok (.iload_n 1, 1) := by decide +kernel
theorem dX0_findLengths_41 : decode cX0_findLengths 41 = .ok (.iconst 1, 1) := by decide +kernel
theorem dX0_findLengths_42 : decode cX0_findLengths 42 = .ok (.iload_n 2, 1) := by decide +kernel
theorem dX0_findLengths_43 : decode cX0_findLengths 43 = .ok (.ishl, 1) := by decide +kernel
theorem dX0_findLengths_44 : decode cX0_findLengths 44 = .ok (.iconst (-1), 1) := by decide +kernel
theorem dX0_findLengths_45 : decode cX0_findLengths 45 = .ok (.ixor, 1) := by decide +kernel
theorem dX0_findLengths_46 : decode cX0_findLengths 46 = .ok (.iand, 1) := by decide +kernel
theorem dX0_findLengths_47 : decode cX0_findLengths 47 = .ok (.iaload, 1) := by decide +kernel
theorem dX0_findLengths_48 : decode cX0_findLengths 48 = .ok (.aload_n 0, 1) := by decide +kernel
theorem dX0_findLengths_49 : decode cX0_findLengths 49 = .ok (.getfield 9, 3) := by decide +kernel
theorem dX0_findLengths_52 : decode cX0_findLengths 52 = .ok (.iload_n 2, 1) := by decide +kernel
theorem dX0_findLengths_53 : decode cX0_findLengths 53 = .ok (.iaload, 1) := by decide +kernel
theorem dX0_findLengths_54 : decode cX0_findLengths 54 = .ok (.iadd, 1) := by decide +kernel
theorem dX0_findLengths_55 : decode cX0_findLengths 55 = .ok (.iastore, 1) := by decide +kernel
theorem dX0_findLengths_56 : decode cX0_findLengths 56 = .ok (.iinc 1 1, 3) := by decide +kernel
theorem dX0_findLengths_59 : decode cX0_findLengths 59 = .ok (.goto (-50), 3) := by decide +kernel
theorem dX0_findLengths_62 : decode cX0_findLengths 62 = .ok (.return_, 1) := by decide +kernel
set_option maxRecDepth 20000 in
theorem ggX0_findFars_J7_fill_d0a16 : GoodIn wsX0_findFars wsJ7_fill_d0a16 := goodIn_r _ [7] (by decide +kernel) (by decide +kernel)
set_option maxRecDepth 20000 in
theorem gX0_findFars_J7_fill_d0a16 : GoodIn wsX0_findFars (va_wsS RX0 37 yJ7_fill_d0a16 wsJ7_fill_d0a16) := goodIn_app (goodIn_of _ (by decide +kernel)) ggX0_findFars_J7_fill_d0a16
set_option maxRecDepth 20000 in
theorem ggX0_findFars_X4_isIn : GoodIn wsX0_findFars wsX4_isIn := goodIn_r _ [10] (by decide +kernel) (by decide +kernel)
set_option maxRecDepth 20000 in
theorem gX0_findFars_X4_isIn_n42 : GoodIn wsX0_findFars (wsX4_isIn) := ggX0_findFars_X4_isIn
set_option maxRecDepth 20000 in
theorem ggX0_findFars_X0_spread : GoodIn wsX0_findFars wsX0_spread := goodIn_r _ [14, 15, 16, 17, 18] (by decide +kernel) (by decide +kernel)
set_option maxRecDepth 20000 in
theorem gX0_findFars_X0_spread : GoodIn wsX0_findFars (va_wsS RX0 46 yX0_spread wsX0_spread) := goodIn_app (goodIn_of _ (by decide +kernel)) ggX0_findFars_X0_spread
theorem dX0_findFars_0 : decode cX0_findFars 0 = .ok (.lload_n 1, 1) := by decide +kernel
theorem dX0_findFars_1 : decode cX0_findFars 1 = .ok (.lconst 0, 1) := by decide +kernel
theorem dX0_findFars_2 : decode cX0_findFars 2 = .ok (.lcmp, 1) := by decide +kernel
theorem dX0_findFars_3 : decode cX0_findFars 3 = .ok (.ifCond .ne 9, 3) := by decide +kernel
theorem dX0_findFars_6 : decode cX0_findFars 6 = .ok (.aload_n 3, 1) := by decide +kernel
theorem dX0_findFars_7 : decode cX0_findFars 7 = .ok (.lconst 0, 1) := by decide +kernel
theorem dX0_findFars_8 : decode cX0_findFars 8 = .ok (.invokestatic 37, 3) := by decide +kernel
theorem dX0_findFars_11 : decode cX0_findFars 11 = .ok (.return_, 1) := by decide +kernel
theorem dX0_findFars_12 : decode cX0_findFars 12 = .ok (.aload_n 0, 1) := by decide +kernel
theorem dX0_findFars_13 : decode cX0_findFars 13 = .ok (.getfield 21, 3) := by decide +kernel
theorem dX0_findFars_16 : decode cX0_findFars 16 = .ok (.ifCond .eq 7, 3) := by decide +kernel
theorem dX0_findFars_19 : decode cX0_findFars 19 = .ok (.lconst 1, 1) := by decide +kernel
theorem dX0_findFars_20 : decode cX0_findFars 20 = .ok (.goto 6, 3) := by decide +kernel
theorem dX0_findFars_23 : decode cX0_findFars 23 = .ok (.ldc2_w 40, 3) := by decide +kernel
theorem dX0_findFars_26 : decode cX0_findFars 26 = .ok (.lstore 4, 2) := by decide +kernel
theorem dX0_findFars_28 : decode cX0_findFars 28 = .ok (.iconst 0, 1) := by decide +kernel
theorem dX0_findFars_29 : decode cX0_findFars 29 = .ok (.istore 6, 2) := by decide +kernel
theorem dX0_findFars_31 : decode cX0_findFars 31 = .ok (.iload 6, 2) := by decide +kernel
theorem dX0_findFars_33 : decode cX0_findFars 33 = .ok (.bipush 64, 2) := by decide +kernel
theorem dX0_findFars_35 : decode cX0_findFars 35 = .ok (.if_icmp .ge 28, 3) := by decide +kernel
theorem dX0_findFars_38 : decode cX0_findFars 38 = .ok (.aload_n 3, 1) := by decide +kernel
theorem dX0_findFars_39 : decode cX0_findFars 39 = .ok (.iload 6, 2) := by decide +kernel
theorem dX0_findFars_41 : decode cX0_findFars 41 = .ok (.lload_n 1, 1) := by decide +kernel
theorem dX0_findFars_42 : decode cX0_findFars 42 = .ok (.iload 6, 2) := by decide +kernel
theorem dX0_findFars_44 : decode cX0_findFars 44 = .ok (.invokestatic 42, 3) := by decide +kernel
theorem dX0_findFars_47 : decode cX0_findFars 47 = .ok (.ifCond .eq 7, 3) := by decide +kernel
theorem dX0_findFars_50 : decode cX0_findFars 50 = .ok (.lconst 0, 1) := by decide +kernel
theorem dX0_findFars_51 : decode cX0_findFars 51 = .ok (.goto 5, 3) := by decide +kernel
theorem dX0_findFars_54 : decode cX0_findFars 54 = .ok (.lload 4, 2) := by decide +kernel
theorem dX0_findFars_56 : decode cX0_findFars 56 = .ok (.lastore, 1) := by decide +kernel
theorem dX0_findFars_57 : decode cX0_findFars 57 = .ok (.iinc 6 1, 3) := by decide +kernel
theorem dX0_findFars_60 : decode cX0_findFars 60 = .ok (.goto (-29), 3) := by decide +kernel
theorem dX0_findFars_63 : decode cX0_findFars 63 = .ok (.aload_n 0, 1) := by decide +kernel
theorem dX0_findFars_64 : decode cX0_findFars 64 = .ok (.getfield 21, 3) := by decide +kernel
theorem dX0_findFars_67 : decode cX0_findFars 67 = .ok (.ifCond .ne 34, 3) := by decide +kernel
theorem dX0_findFars_70 : decode cX0_findFars 70 = .ok (.iconst 0, 1) := by decide +kernel
theorem dX0_findFars_71 : decode cX0_findFars 71 = .ok (.istore 6, 2) := by decide +kernel
theorem dX0_findFars_73 : decode cX0_findFars 73 = .ok (.iload 6, 2) := by decide +kernel
theorem dX0_findFars_75 : decode cX0_findFars 75 = .ok (.bipush 6, 2) := by decide +kernel
theorem dX0_findFars_77 : decode cX0_findFars 77 = .ok (.if_icmp .ge 24, 3) := by decide +kernel
theorem dX0_findFars_80 : decode cX0_findFars 80 = .ok (.aload_n 3, 1) := by decide +kernel
theorem dX0_findFars_81 : decode cX0_findFars 81 = .ok (.iconst 1, 1) := by decide +kernel
theorem dX0_findFars_82 : decode cX0_findFars 82 = .ok (.iload 6, 2) := by decide +kernel
theorem dX0_findFars_84 : decode cX0_findFars 84 = .ok (.ishl, 1) := by decide +kernel
theorem dX0_findFars_85 : decode cX0_findFars 85 = .ok (.aload_n 0, 1) := by decide +kernel
theorem dX0_findFars_86 : decode cX0_findFars 86 = .ok (.getfield 9, 3) := by decide +kernel
theorem dX0_findFars_89 : decode cX0_findFars 89 = .ok (.iload 6, 2) := by decide +kernel
theorem dX0_findFars_91 : decode cX0_findFars 91 = .ok (.iaload, 1) := by decide +kernel
theorem dX0_findFars_92 : decode cX0_findFars 92 = .ok (.invokestatic 46, 3) := by decide +kernel
theorem dX0_findFars_95 : decode cX0_findFars 95 = .ok (.iinc 6 1, 3) := by decide +kernel
theorem dX0_findFars_98 : decode cX0_findFars 98 = .ok (.goto (-25), 3) := by decide +kernel
theorem dX0_findFars_101 : decode cX0_findFars 101 = .ok (.return_, 1) := by decide +kernel
theorem dX0_spread_0 : decode cX0_spread 0 = .ok (.iconst 0, 1) := by decide +kernel
theorem dX0_spread_1 : decode cX0_spread 1 = .ok (.istore_n 3, 1) := by decide +kernel
theorem dX0_spread_2 : decode cX0_spread 2 = .ok (.iload_n 3, 1) := by decide +kernel
theorem dX0_spread_3 : decode cX0_spread 3 = .ok (.bipush 64, 2) := by decide +kernel
theorem dX0_spread_5 : decode cX0_spread 5 = .ok (.if_icmp .ge 26, 3) := by decide +kernel
theorem dX0_spread_8 : decode cX0_spread 8 = .ok (.aload_n 0, 1) := by decide +kernel
theorem dX0_spread_9 : decode cX0_spread 9 = .ok (.iload_n 3, 1) := by decide +kernel
theorem dX0_spread_10 : decode cX0_spread 10 = .ok (.aload_n 0, 1) := by decide +kernel
theorem dX0_spread_11 : decode cX0_spread 11 = .ok (.iload_n 3, 1) := by decide +kernel
theorem dX0_spread_12 : decode cX0_spread 12 = .ok (.laload, 1) := by decide +kernel
theorem dX0_spread_13 : decode cX0_spread 13 = .ok (.aload_n 0, 1) := by decide +kernel
theorem dX0_spread_14 : decode cX0_spread 14 = .ok (.iload_n 3, 1) := by decide +kernel
theorem dX0_spread_15 : decode cX0_spread 15 = .ok (.iload_n 1, 1) := by decide +kernel
theorem dX0_spread_16 : decode cX0_spread 16 = .ok (.ixor, 1) := by decide +kernel
theorem dX0_spread_17 : decode cX0_spread 17 = .ok (.laload, 1) := by decide +kernel
theorem dX0_spread_18 : decode cX0_spread 18 = .ok (.iload_n 2, 1) := by decide +kernel
theorem dX0_spread_19 : decode cX0_spread 19 = .ok (.i2l, 1) := by decide +kernel
theorem dX0_spread_20 : decode cX0_spread 20 = .ok (.ladd, 1) := by decide +kernel
theorem dX0_spread_21 : decode cX0_spread 21 = .ok (.invokestatic 50, 3) := by decide +kernel
theorem dX0_spread_24 : decode cX0_spread 24 = .ok (.lastore, 1) := by decide +kernel
theorem dX0_spread_25 : decode cX0_spread 25 = .ok (.iinc 3 1, 3) := by decide +kernel
theorem dX0_spread_28 : decode cX0_spread 28 = .ok (.goto (-26), 3) := by decide +kernel
theorem dX0_spread_31 : decode cX0_spread 31 = .ok (.return_, 1) := by decide +kernel
theorem dX1_init_0 : decode cX1_init 0 = .ok (.aload_n 0, 1) := by decide +kernel
theorem dX1_init_1 : decode cX1_init 1 = .ok (.invokespecial 3, 3) := by decide +kernel
theorem dX1_init_4 : decode cX1_init 4 = .ok (.aload_n 0, 1) := by decide +kernel
theorem dX1_init_5 : decode cX1_init 5 = .ok (.aload_n 1, 1) := by decide +kernel
theorem dX1_init_6 : decode cX1_init 6 = .ok (.putfield 9, 3) := by decide +kernel
theorem dX1_init_9 : decode cX1_init 9 = .ok (.aload_n 0, 1) := by decide +kernel
theorem dX1_init_10 : decode cX1_init 10 = .ok (.iconst 0, 1) := by decide +kernel
theorem dX1_init_11 : decode cX1_init 11 = .ok (.putfield 15, 3) := by decide +kernel
theorem dX1_init_14 : decode cX1_init 14 = .ok (.aload_n 0, 1) := by decide +kernel
theorem dX1_init_15 : decode cX1_init 15 = .ok (.sipush 258, 3) := by decide +kernel
theorem dX1_init_18 : decode cX1_init 18 = .ok (.putfield 19, 3) := by decide +kernel
theorem dX1_init_21 : decode cX1_init 21 = .ok (.aload_n 0, 1) := by decide +kernel
theorem dX1_init_22 : decode cX1_init 22 = .ok (.iconst (-1), 1) := by decide +kernel
theorem dX1_init_23 : decode cX1_init 23 = .ok (.putfield 22, 3) := by decide +kernel
theorem dX1_init_26 : decode cX1_init 26 = .ok (.return_, 1) := by decide +kernel
theorem dX1_isFaulty_0 : decode cX1_isFaulty 0 = .ok (.aload_n 0, 1) := by decide +kernel
theorem dX1_isFaulty_1 : decode cX1_isFaulty 1 = .ok (.getfield 22, 3) := by decide +kernel
theorem dX1_isFaulty_4 : decode cX1_isFaulty 4 = .ok (.iconst (-1), 1) := by decide +kernel
theorem dX1_isFaulty_5 : decode cX1_isFaulty 5 = .ok (.if_icmp .eq 7, 3) := by decide +kernel
theorem dX1_isFaulty_8 : decode cX1_isFaulty 8 = .ok (.iconst 1, 1) := by decide +kernel
theorem dX1_isFaulty_9 : decode cX1_isFaulty 9 = .ok (.goto 4, 3) := by decide +kernel
theorem dX1_isFaulty_12 : decode cX1_isFaulty 12 = .ok (.iconst 0, 1) := by decide +kernel
theorem dX1_isFaulty_13 : decode cX1_isFaulty 13 = .ok (.ireturn, 1) := by decide +kernel
set_option maxRecDepth 20000 in
theorem ggX1_readItems_X3_empty : GoodIn wsX1_readItems wsX3_empty := goodIn_r _ [6, 7, 8, 9, 10, 104, 105, 106, 107, 108] (by decide +kernel) (by decide +kernel)
set_option maxRecDepth 20000 in
theorem gX1_readItems_X3_empty : GoodIn wsX1_readItems (wsV RX1 25 RX3 yX3_empty wsX3_empty) := goodIn_app (goodIn_of _ (by decide +kernel)) ggX1_readItems_X3_empty
set_option maxRecDepth 20000 in
theorem ggX1_readItems_X1_begin : GoodIn wsX1_readItems wsX1_begin := goodIn_r _ [15, 16, 17, 1, 18, 19, 20, 21, 22, 23, 24, 25, 26, 27, 28, 29, 30, 31, 32, 33, 34, 35, 36, 37, 38, 39, 40, 41, 42, 43, 44, 45, 46, 47, 48, 49, 100, 101, 102, 103, 109, 110, 111, 112] (by decide +kernel) (by decide +kernel)
set_option maxRecDepth 20000 in
theorem gX1_readItems_X1_begin : GoodIn wsX1_readItems (wsV RX1 30 RX1 yX1_begin wsX1_begin) := goodIn_app (goodIn_of _ (by decide +kernel)) ggX1_readItems_X1_begin
set_option maxRecDepth 20000 in
theorem ggX1_readItems_X1_isFaulty : GoodIn wsX1_readItems wsX1_isFaulty := goodIn_r _ [53, 18, 100, 101, 102, 103] (by decide +kernel) (by decide +kernel)
set_option maxRecDepth 20000 in
theorem gX1_readItems_X1_isFaulty : GoodIn wsX1_readItems (wsV RX1 33 RX1 yX1_isFaulty wsX1_isFaulty) := goodIn_app (goodIn_of _ (by decide +kernel)) ggX1_readItems_X1_isFaulty
set_option maxRecDepth 20000 in
theorem ggX1_readItems_X1_readItem : GoodIn wsX1_readItems wsX1_readItem := goodIn_r _ [57, 1, 58, 59, 60, 14, 61, 17, 16, 62, 63, 64, 65, 66, 67, 68, 50, 51, 52, 53, 18, 69, 70, 71, 72, 73, 74, 75, 76, 77, 44, 45, 46, 78, 79, 80, 81, 82, 83, 84, 85, 86, 87, 88, 5, 89, 7, 9, 90, 91, 92, 93, 94, 95, 96, 97, 10, 98, 99, 100, 101, 102, 103, 104, 105, 106, 107, 108, 109, 110, 111, 112] (by decide +kernel) (by decide +kernel)
set_option maxRecDepth 20000 in
theorem gX1_readItems_X1_readItem : GoodIn wsX1_readItems (wsV RX1 37 RX1 yX1_readItem wsX1_readItem) := goodIn_app (goodIn_of _ (by decide +kernel)) ggX1_readItems_X1_readItem
theorem dX1_readItems_0 : decode cX1_readItems 0 = .ok (.aload_n 1, 1) := by decide +kernel
theorem dX1_readItems_1 : decode cX1_readItems 1 = .ok (.invokevirtual 25, 3) := by decide +kernel
theorem dX1_readItems_4 : decode cX1_readItems 4 = .ok (.aload_n 0, 1) := by decide +kernel
theorem dX1_readItems_5 : decode cX1_readItems 5 = .ok (.invokevirtual 30, 3) := by decide +kernel
theorem dX1_readItems_8 : decode cX1_readItems 8 = .ok (.iconst 0, 1) := by decide +kernel
theorem dX1_readItems_9 : decode cX1_readItems 9 = .ok (.istore_n 2, 1) := by decide +kernel
theorem dX1_readItems_10 : decode cX1_readItems 10 = .ok (.iload_n 2, 1) := by decide +kernel
theorem dX1_readItems_11 : decode cX1_readItems 11 = .ok (.sipush 300, 3) := by decide +kernel
theorem dX1_readItems_14 : decode cX1_readItems 14 = .ok (.if_icmp .ge 31, 3) := by decide +kernel
theorem dX1_readItems_17 : decode cX1_readItems 17 = .ok (.aload_n 0, 1) := by decide +kernel
theorem dX1_readItems_18 : decode cX1_readItems 18 = .ok (.invokevirtual 33, 3) := by decide +kernel
theorem dX1_readItems_21 : decode cX1_readItems 21 = .ok (.ifCond .ne 24, 3) := by decide +kernel
theorem dX1_readItems_24 : decode cX1_readItems 24 = .ok (.aload_n 0, 1) := by decide +kernel
theorem dX1_readItems_25 : decode cX1_readItems 25 = .ok (.getfield 19, 3) := by decide +kernel
theorem dX1_readItems_28 : decode cX1_readItems 28 = .ok (.sipush 258, 3) := by decide +kernel
theorem dX1_readItems_31 : decode cX1_readItems 31 = .ok (.if_icmp .eq 14, 3) := by decide +kernel
theorem dX1_readItems_34 : decode cX1_readItems 34 = .ok (.aload_n 0, 1) := by decide +kernel
theorem dX1_readItems_35 : decode cX1_readItems 35 = .ok (.aload_n 1, 1) := by decide +kernel
theorem dX1_readItems_36 : decode cX1_readItems 36 = .ok (.invokevirtual 37, 3) := by decide +kernel
theorem dX1_readItems_39 : decode cX1_readItems 39 = .ok (.iinc 2 1, 3) := by decide +kernel
theorem dX1_readItems_42 : decode cX1_readItems 42 = .ok (.goto (-32), 3) := by decide +kernel
theorem dX1_readItems_45 : decode cX1_readItems 45 = .ok (.return_, 1) := by decide +kernel
set_option maxRecDepth 20000 in
theorem ggX1_readQuestion_X1_begin : GoodIn wsX1_readQuestion wsX1_begin := goodIn_r _ [5, 6, 7, 8, 9, 10, 11, 12, 13, 14, 15, 16, 17, 18, 19, 20, 21, 22, 23, 24, 25, 26, 27, 28, 29, 30, 31, 32, 33, 34, 35, 36, 37, 38, 39, 40, 73, 74, 75, 76, 77, 78, 79, 80] (by decide +kernel) (by decide +kernel)
set_option maxRecDepth 20000 in
theorem gX1_readQuestion_X1_begin : GoodIn wsX1_readQuestion (wsV RX1 30 RX1 yX1_begin wsX1_begin) := goodIn_app (goodIn_of _ (by decide +kernel)) ggX1_readQuestion_X1_begin
set_option maxRecDepth 20000 in
theorem ggX1_readQuestion_X1_readSaying : GoodIn wsX1_readQuestion wsX1_readSaying := goodIn_r _ [44, 8, 45, 46, 47, 4, 48, 49, 50, 51, 9, 52, 53, 54, 55, 7, 6, 56, 57, 58, 59, 60, 61, 62, 63, 64, 35, 36, 37, 65, 66, 67, 68, 41, 42, 43, 69, 70, 71, 72, 73, 74, 75, 76, 77, 78, 79, 80] (by decide +kernel) (by decide +kernel)
set_option maxRecDepth 20000 in
theorem gX1_readQuestion_X1_readSaying : GoodIn wsX1_readQuestion (wsV RX1 41 RX1 yX1_readSaying wsX1_readSaying) := goodIn_app (goodIn_of _ (by decide +kernel)) ggX1_readQuestion_X1_readSaying
set_option maxRecDepth 20000 in
theorem ggX1_readQuestion_X1_expect : GoodIn wsX1_readQuestion wsX1_expect := goodIn_r _ [72, 8, 48, 49, 50, 4, 51, 9, 65, 66, 67, 68, 6, 7, 52, 53, 54, 55, 73, 74, 75, 76, 77, 78, 79, 80] (by decide +kernel) (by decide +kernel)
set_option maxRecDepth 20000 in
theorem gX1_readQuestion_X1_expect : GoodIn wsX1_readQuestion (wsV RX1 45 RX1 yX1_expect wsX1_expect) := goodIn_app (goodIn_of _ (by decide +kernel)) ggX1_readQuestion_X1_expect
theorem dX1_readQuestion_0 : decode cX1_readQuestion 0 = .ok (.aload_n 0, 1) := by decide +kernel
theorem dX1_readQuestion_1 : decode cX1_readQuestion 1 = .ok (.invokevirtual 30, 3) := by decide +kernel
theorem dX1_readQuestion_4 : decode cX1_readQuestion 4 = .ok (.aload_n 0, 1) := by decide +kernel
theorem dX1_readQuestion_5 : decode cX1_readQuestion 5 = .ok (.iconst 0, 1) := by decide +kernel
theorem dX1_readQuestion_6 : decode cX1_readQuestion 6 = .ok (.invokevirtual 41, 3) := by decide +kernel
theorem dX1_readQuestion_9 : decode cX1_readQuestion 9 = .ok (.lstore_n 1, 1) := by decide +kernel
theorem dX1_readQuestion_10 : decode cX1_readQuestion 10 = .ok (.aload_n 0, 1) := by decide +kernel
theorem dX1_readQuestion_11 : decode cX1_readQuestion 11 = .ok (.sipush 258, 3) := by decide +kernel
theorem dX1_readQuestion_14 : decode cX1_readQuestion 14 = .ok (.invokevirtual 45, 3) := by decide +kernel
theorem dX1_readQuestion_17 : decode cX1_readQuestion 17 = .ok (.lload_n 1, 1) := by decide +kernel
theorem dX1_readQuestion_18 : decode cX1_readQuestion 18 = .ok (.lreturn, 1) := by decide +kernel
set_option maxRecDepth 20000 in
theorem ggX1_readItem_X1_advance : GoodIn wsX1_readItem wsX1_advance := goodIn_r _ [6, 1, 7, 8, 59, 60, 61, 62, 68, 69, 70, 71] (by decide +kernel) (by decide +kernel)
set_option maxRecDepth 20000 in
theorem gX1_readItem_X1_advance : GoodIn wsX1_readItem (wsV RX1 52 RX1 yX1_advance wsX1_advance) := goodIn_app (goodIn_of _ (by decide +kernel)) ggX1_readItem_X1_advance
set_option maxRecDepth 20000 in
theorem ggX1_readItem_X1_readSaying : GoodIn wsX1_readItem wsX1_readSaying := goodIn_r _ [12, 1, 13, 14, 15, 5, 16, 17, 18, 19, 20, 2, 3, 4, 6, 7, 8, 21, 22, 23, 24, 25, 26, 27, 28, 29, 30, 31, 32, 33, 34, 35, 36, 9, 10, 11, 37, 38, 39, 40, 59, 60, 61, 62, 68, 69, 70, 71] (by decide +kernel) (by decide +kernel)
set_option maxRecDepth 20000 in
theorem gX1_readItem_X1_readSaying : GoodIn wsX1_readItem (wsV RX1 41 RX1 yX1_readSaying wsX1_readSaying) := goodIn_app (goodIn_of _ (by decide +kernel)) ggX1_readItem_X1_readSaying
set_option maxRecDepth 20000 in
theorem ggX1_readItem_X3_addLaw : GoodIn wsX1_readItem wsX3_addLaw := goodIn_r _ [45, 46, 47, 63, 64, 65, 66, 67] (by decide +kernel) (by decide +kernel)
set_option maxRecDepth 20000 in
theorem gX1_readItem_X3_addLaw : GoodIn wsX1_readItem (wsV RX1 55 RX3 yX3_addLaw wsX3_addLaw) := goodIn_app (goodIn_of _ (by decide +kernel)) ggX1_readItem_X3_addLaw
set_option maxRecDepth 20000 in
theorem ggX1_readItem_X1_expect : GoodIn wsX1_readItem wsX1_expect := goodIn_r _ [40, 1, 16, 17, 18, 5, 19, 20, 33, 34, 35, 36, 8, 7, 2, 3, 4, 6, 59, 60, 61, 62, 68, 69, 70, 71] (by decide +kernel) (by decide +kernel)
set_option maxRecDepth 20000 in
theorem gX1_readItem_X1_expect : GoodIn wsX1_readItem (wsV RX1 45 RX1 yX1_expect wsX1_expect) := goodIn_app (goodIn_of _ (by decide +kernel)) ggX1_readItem_X1_expect
set_option maxRecDepth 20000 in
theorem ggX1_readItem_X1_readWeight : GoodIn wsX1_readItem wsX1_readWeight := goodIn_r _ [51, 1, 33, 34, 35, 5, 36, 20, 8, 7, 2, 3, 4, 6, 59, 60, 61, 62, 68, 69, 70, 71] (by decide +kernel) (by decide +kernel)
set_option maxRecDepth 20000 in
theorem gX1_readItem_X1_readWeight : GoodIn wsX1_readItem (wsV RX1 62 RX1 yX1_readWeight wsX1_readWeight) := goodIn_app (goodIn_of _ (by decide +kernel)) ggX1_readItem_X1_readWeight
set_option maxRecDepth 20000 in
theorem ggX1_readItem_X3_addSayer : GoodIn wsX1_readItem wsX3_addSayer := goodIn_r _ [55, 56, 57, 58, 63, 64, 65, 66, 67] (by decide +kernel) (by decide +kernel)
set_option maxRecDepth 20000 in
theorem gX1_readItem_X3_addSayer : GoodIn wsX1_readItem (wsV RX1 66 RX3 yX3_addSayer wsX3_addSayer) := goodIn_app (goodIn_of _ (by decide +kernel)) ggX1_readItem_X3_addSayer
set_option maxRecDepth 20000 in
theorem ggX1_readItem_X1_fail : GoodIn wsX1_readItem wsX1_fail := goodIn_r _ [36, 20, 8, 7, 59, 60, 61, 62, 68, 69, 70, 71] (by decide +kernel) (by decide +kernel)
set_option maxRecDepth 20000 in
theorem gX1_readItem_X1_fail : GoodIn wsX1_readItem (wsV RX1 70 RX1 yX1_fail wsX1_fail) := goodIn_app (goodIn_of _ (by decide +kernel)) ggX1_readItem_X1_fail
theorem dX1_readItem_0 : decode cX1_readItem 0 = .ok (.aload_n 0, 1) := by decide +kernel
theorem dX1_readItem_1 : decode cX1_readItem 1 = .ok (.getfield 19, 3) := by decide +kernel
theorem dX1_readItem_4 : decode cX1_readItem 4 = .ok (.sipush 256, 3) := by decide +kernel
theorem dX1_readItem_7 : decode cX1_readItem 7 = .ok (.if_icmp .ne 33, 3) := by decide +kernel
theorem dX1_readItem_10 : decode cX1_readItem 10 = .ok (.aload_n 1, 1) := by decide +kernel
theorem dX1_readItem_11 : decode cX1_readItem 11 = .ok (.getfield 49, 3) := by decide +kernel
theorem dX1_readItem_14 : decode cX1_readItem 14 = .ok (.iconst 3, 1) := by decide +kernel
theorem dX1_readItem_15 : decode cX1_readItem 15 = .ok (.if_icmp .ge 25, 3) := by decide +kernel
theorem dX1_readItem_18 : decode cX1_readItem 18 = .ok (.aload_n 0, 1) := by decide +kernel
theorem dX1_readItem_19 : decode cX1_readItem 19 = .ok (.invokevirtual 52, 3) := by decide +kernel
theorem dX1_readItem_22 : decode cX1_readItem 22 = .ok (.aload_n 1, 1) := by decide +kernel
theorem dX1_readItem_23 : decode cX1_readItem 23 = .ok (.aload_n 0, 1) := by decide +kernel
theorem dX1_readItem_24 : decode cX1_readItem 24 = .ok (.iconst 0, 1) := by decide +kernel
theorem dX1_readItem_25 : decode cX1_readItem 25 = .ok (.invokevirtual 41, 3) := by decide +kernel
theorem dX1_readItem_28 : decode cX1_readItem 28 = .ok (.invokevirtual 55, 3) := by decide +kernel
theorem dX1_readItem_31 : decode cX1_readItem 31 = .ok (.aload_n 0, 1) := by decide +kernel
theorem dX1_readItem_32 : decode cX1_readItem 32 = .ok (.bipush 59, 2) := by decide +kernel
theorem dX1_readItem_34 : decode cX1_readItem 34 = .ok (.invokevirtual 45, 3) := by decide +kernel
theorem dX1_readItem_37 : decode cX1_readItem 37 = .ok (.goto 54, 3) := by decide +kernel
theorem dX1_readItem_40 : decode cX1_readItem 40 = .ok (.aload_n 0, 1) := by decide +kernel
theorem dX1_readItem_41 : decode cX1_readItem 41 = .ok (.getfield 19, 3) := by decide +kernel
theorem dX1_readItem_44 : decode cX1_readItem 44 = .ok (.sipush 257, 3) := by decide +kernel
theorem dX1_readItem_47 : decode cX1_readItem 47 = .ok (.if_icmp .ne 40, 3) := by decide +kernel
theorem dX1_readItem_50 : decode cX1_readItem 50 = .ok (.aload_n 1, 1) := by decide +kernel
theorem dX1_readItem_51 : decode cX1_readItem 51 = .ok (.getfield 59, 3) := by decide +kernel
theorem dX1_readItem_54 : decode cX1_readItem 54 = .ok (.bipush 7, 2) := by decide +kernel
theorem dX1_readItem_56 : decode cX1_readItem 56 = .ok (.if_icmp .ge 31, 3) := by decide +kernel
theorem dX1_readItem_59 : decode cX1_readItem 59 = .ok (.aload_n 0, 1) := by decide +kernel
theorem dX1_readItem_60 : decode cX1_readItem 60 = .ok (.invokevirtual 52, 3) := by decide +kernel
theorem dX1_readItem_63 : decode cX1_readItem 63 = .ok (.aload_n 0, 1) := by decide +kernel
theorem dX1_readItem_64 : decode cX1_readItem 64 = .ok (.invokevirtual 62, 3) := by decide +kernel
theorem dX1_readItem_67 : decode cX1_readItem 67 = .ok (.istore_n 2, 1) := by decide +kernel
theorem dX1_readItem_68 : decode cX1_readItem 68 = .ok (.aload_n 1, 1) := by decide +kernel
theorem dX1_readItem_69 : decode cX1_readItem 69 = .ok (.iload_n 2, 1) := by decide +kernel
theorem dX1_readItem_70 : decode cX1_readItem 70 = .ok (.aload_n 0, 1) := by decide +kernel
theorem dX1_readItem_71 : decode cX1_readItem 71 = .ok (.iconst 0, 1) := by decide +kernel
theorem dX1_readItem_72 : decode cX1_readItem 72 = .ok (.invokevirtual 41, 3) := by decide +kernel
theorem dX1_readItem_75 : decode cX1_readItem 75 = .ok (.invokevirtual 66, 3) := by decide +kernel
theorem dX1_readItem_78 : decode cX1_readItem 78 = .ok (.aload_n 0, 1) := by decide +kernel
theorem dX1_readItem_79 : decode cX1_readItem 79 = .ok (.bipush 59, 2) := by decide +kernel
theorem dX1_readItem_81 : decode cX1_readItem 81 = .ok (.invokevirtual 45, 3) := by decide +kernel
theorem dX1_readItem_84 : decode cX1_readItem 84 = .ok (.goto 7, 3) := by decide +kernel
theorem dX1_readItem_87 : decode cX1_readItem 87 = .ok (.aload_n 0, 1) := by decide +kernel
theorem dX1_readItem_88 : decode cX1_readItem 88 = .ok (.invokevirtual 70, 3) := by decide +kernel
theorem dX1_readItem_91 : decode cX1_readItem 91 = .ok (.return_, 1) := by decide +kernel
set_option maxRecDepth 20000 in
theorem ggX1_readWeight_X1_fail : GoodIn wsX1_readWeight wsX1_fail := goodIn_r _ [6, 7, 8, 9, 14, 15, 16, 17, 18, 19, 20, 21] (by decide +kernel) (by decide +kernel)
set_option maxRecDepth 20000 in
theorem gX1_readWeight_X1_fail : GoodIn wsX1_readWeight (wsV RX1 70 RX1 yX1_fail wsX1_fail) := goodIn_app (goodIn_of _ (by decide +kernel)) ggX1_readWeight_X1_fail
set_option maxRecDepth 20000 in
theorem ggX1_readWeight_X1_advance : GoodIn wsX1_readWeight wsX1_advance := goodIn_r _ [13, 1, 9, 8, 14, 15, 16, 17, 18, 19, 20, 21] (by decide +kernel) (by decide +kernel)
set_option maxRecDepth 20000 in
theorem gX1_readWeight_X1_advance : GoodIn wsX1_readWeight (wsV RX1 52 RX1 yX1_advance wsX1_advance) := goodIn_app (goodIn_of _ (by decide +kernel)) ggX1_readWeight_X1_advance
theorem dX1_readWeight_0 : decode cX1_readWeight 0 = .ok (.aload_n 0, 1) := by decide +kernel
theorem dX1_readWeight_1 : decode cX1_readWeight 1 = .ok (.getfield 19, 3) := by decide +kernel
theorem dX1_readWeight_4 : decode cX1_readWeight 4 = .ok (.bipush 48, 2) := by decide +kernel
theorem dX1_readWeight_6 : decode cX1_readWeight 6 = .ok (.isub, 1) := by decide +kernel
theorem dX1_readWeight_7 : decode cX1_readWeight 7 = .ok (.istore_n 1, 1) := by decide +kernel
theorem dX1_readWeight_8 : decode cX1_readWeight 8 = .ok (.iload_n 1, 1) := by decide +kernel
theorem dX1_readWeight_9 : decode cX1_readWeight 9 = .ok (.iconst 1, 1) := by decide +kernel
theorem dX1_readWeight_10 : decode cX1_readWeight 10 = .ok (.if_icmp .lt 9, 3) := by decide +kernel
theorem dX1_readWeight_13 : decode cX1_readWeight 13 = .ok (.iload_n 1, 1) := by decide +kernel
theorem dX1_readWeight_14 : decode cX1_readWeight 14 = .ok (.bipush 9, 2) := by decide +kernel
theorem dX1_readWeight_16 : decode cX1_readWeight 16 = .ok (.if_icmp .le 9, 3) := by decide +kernel
theorem dX1_readWeight_19 : decode cX1_readWeight 19 = .ok (.aload_n 0, 1) := by decide +kernel
theorem dX1_readWeight_20 : decode cX1_readWeight 20 = .ok (.invokevirtual 70, 3) := by decide +kernel
theorem dX1_readWeight_23 : decode cX1_readWeight 23 = .ok (.iconst 0, 1) := by decide +kernel
theorem dX1_readWeight_24 : decode cX1_readWeight 24 = .ok (.ireturn, 1) := by decide +kernel
theorem dX1_readWeight_25 : decode cX1_readWeight 25 = .ok (.aload_n 0, 1) := by decide +kernel
theorem dX1_readWeight_26 : decode cX1_readWeight 26 = .ok (.invokevirtual 52, 3) := by decide +kernel
theorem dX1_readWeight_29 : decode cX1_readWeight 29 = .ok (.iload_n 1, 1) := by decide +kernel
theorem dX1_readWeight_30 : decode cX1_readWeight 30 = .ok (.ireturn, 1) := by decide +kernel
set_option maxRecDepth 20000 in
theorem ggX1_readSaying_X1_readBoth : GoodIn wsX1_readSaying wsX1_readBoth := goodIn_r _ [17, 1, 18, 19, 20, 5, 6, 7, 8, 9, 10, 11, 12, 13, 14, 15, 16, 21, 22, 23, 24, 25, 26, 27, 28, 29, 30, 31, 32, 33, 34, 35, 36, 37, 38, 39, 0, 2, 3, 4, 40, 41, 42, 43, 44, 45, 46, 47] (by decide +kernel) (by decide +kernel)
set_option maxRecDepth 20000 in
theorem gX1_readSaying_X1_readBoth : GoodIn wsX1_readSaying (wsV RX1 73 RX1 yX1_readBoth wsX1_readBoth) := goodIn_app (goodIn_of _ (by decide +kernel)) ggX1_readSaying_X1_readBoth
set_option maxRecDepth 20000 in
theorem ggX1_readSaying_X1_isFaulty : GoodIn wsX1_readSaying wsX1_isFaulty := goodIn_r _ [9, 10, 40, 41, 42, 43] (by decide +kernel) (by decide +kernel)
set_option maxRecDepth 20000 in
theorem gX1_readSaying_X1_isFaulty : GoodIn wsX1_readSaying (wsV RX1 33 RX1 yX1_isFaulty wsX1_isFaulty) := goodIn_app (goodIn_of _ (by decide +kernel)) ggX1_readSaying_X1_isFaulty
set_option maxRecDepth 20000 in
theorem ggX1_readSaying_X1_advance : GoodIn wsX1_readSaying wsX1_advance := goodIn_r _ [14, 1, 15, 16, 40, 41, 42, 43, 44, 45, 46, 47] (by decide +kernel) (by decide +kernel)
set_option maxRecDepth 20000 in
theorem gX1_readSaying_X1_advance : GoodIn wsX1_readSaying (wsV RX1 52 RX1 yX1_advance wsX1_advance) := goodIn_app (goodIn_of _ (by decide +kernel)) ggX1_readSaying_X1_advance
theorem dX1_readSaying_0 : decode cX1_readSaying 0 = .ok (.aload_n 0, 1) := by decide +kernel
theorem dX1_readSaying_1 : decode cX1_readSaying 1 = .ok (.iload_n 1, 1) := by decide +kernel
theorem dX1_readSaying_2 : decode cX1_readSaying 2 = .ok (.invokevirtual 73, 3) := by decide +kernel
theorem dX1_readSaying_5 : decode cX1_readSaying 5 = .ok (.lstore_n 2, 1) := by decide +kernel
theorem dX1_readSaying_6 : decode cX1_readSaying 6 = .ok (.iconst 0, 1) := by decide +kernel
theorem dX1_readSaying_7 : decode cX1_readSaying 7 = .ok (.istore 4, 2) := by decide +kernel
theorem dX1_readSaying_9 : decode cX1_readSaying 9 = .ok (.iload 4, 2) := by decide +kernel
theorem dX1_readSaying_11 : decode cX1_readSaying 11 = .ok (.sipush 300, 3) := by decide +kernel
theorem dX1_readSaying_14 : decode cX1_readSaying 14 = .ok (.if_icmp .ge 37, 3) := by decide +kernel
theorem dX1_readSaying_17 : decode cX1_readSaying 17 = .ok (.aload_n 0, 1) := by decide +kernel
theorem dX1_readSaying_18 : decode cX1_readSaying 18 = .ok (.invokevirtual 33, 3) := by decide +kernel
theorem dX1_readSaying_21 : decode cX1_readSaying 21 = .ok (.ifCond .ne 30, 3) := by decide +kernel
theorem dX1_readSaying_24 : decode cX1_readSaying 24 = .ok (.aload_n 0, 1) := by decide +kernel
theorem dX1_readSaying_25 : decode cX1_readSaying 25 = .ok (.getfield 19, 3) := by decide +kernel
theorem dX1_readSaying_28 : decode cX1_readSaying 28 = .ok (.bipush 124, 2) := by decide +kernel
theorem dX1_readSaying_30 : decode cX1_readSaying 30 = .ok (.if_icmp .ne 21, 3) := by decide +kernel
theorem dX1_readSaying_33 : decode cX1_readSaying 33 = .ok (.aload_n 0, 1) := by decide +kernel
theorem dX1_readSaying_34 : decode cX1_readSaying 34 = .ok (.invokevirtual 52, 3) := by decide +kernel
theorem dX1_readSaying_37 : decode cX1_readSaying 37 = .ok (.lload_n 2, 1) := by decide +kernel
theorem dX1_readSaying_38 : decode cX1_readSaying 38 = .ok (.aload_n 0, 1) := by decide +kernel
theorem dX1_readSaying_39 : decode cX1_readSaying 39 = .ok (.iload_n 1, 1) := by decide +kernel
theorem dX1_readSaying_40 : decode cX1_readSaying 40 = .ok (.invokevirtual 73, 3) := by decide +kernel
theorem dX1_readSaying_43 : decode cX1_readSaying 43 = .ok (.lor, 1) := by decide +kernel
theorem dX1_readSaying_44 : decode cX1_readSaying 44 = .ok (.lstore_n 2, 1) := by decide +kernel
theorem dX1_readSaying_45 : decode cX1_readSaying 45 = .ok (.iinc 4 1, 3) := by decide +kernel
theorem dX1_readSaying_48 : decode cX1_readSaying 48 = .ok (.goto (-39), 3) := by decide +kernel
theorem dX1_readSaying_51 : decode cX1_readSaying 51 = .ok (.lload_n 2, 1) := by decide +kernel
theorem dX1_readSaying_52 : decode cX1_readSaying 52 = .ok (.lreturn, 1) := by decide +kernel
set_option maxRecDepth 20000 in
theorem ggX1_readBoth_X1_readOne : GoodIn wsX1_readBoth wsX1_readOne := goodIn_r _ [17, 1, 18, 6, 7, 8, 5, 9, 10, 19, 20, 21, 22, 23, 24, 25, 26, 27, 28, 16, 15, 11, 12, 13, 14, 2, 3, 4, 29, 30, 31, 32, 33, 34, 35, 0, 36, 37, 38, 39, 40, 41, 42, 43, 44, 45, 46, 47] (by decide +kernel) (by decide +kernel)
set_option maxRecDepth 20000 in
theorem gX1_readBoth_X1_readOne : GoodIn wsX1_readBoth (wsV RX1 76 RX1 yX1_readOne wsX1_readOne) := goodIn_app (goodIn_of _ (by decide +kernel)) ggX1_readBoth_X1_readOne
set_option maxRecDepth 20000 in
theorem ggX1_readBoth_X1_isFaulty : GoodIn wsX1_readBoth wsX1_isFaulty := goodIn_r _ [9, 10, 40, 41, 42, 43] (by decide +kernel) (by decide +kernel)
set_option maxRecDepth 20000 in
theorem gX1_readBoth_X1_isFaulty : GoodIn wsX1_readBoth (wsV RX1 33 RX1 yX1_isFaulty wsX1_isFaulty) := goodIn_app (goodIn_of _ (by decide +kernel)) ggX1_readBoth_X1_isFaulty
set_option maxRecDepth 20000 in
theorem ggX1_readBoth_X1_advance : GoodIn wsX1_readBoth wsX1_advance := goodIn_r _ [14, 1, 15, 16, 40, 41, 42, 43, 44, 45, 46, 47] (by decide +kernel) (by decide +kernel)
set_option maxRecDepth 20000 in
theorem gX1_readBoth_X1_advance : GoodIn wsX1_readBoth (wsV RX1 52 RX1 yX1_advance wsX1_advance) := goodIn_app (goodIn_of _ (by decide +kernel)) ggX1_readBoth_X1_advance
theorem dX1_readBoth_0 : decode cX1_readBoth 0 = .ok (.aload_n 0, 1) := by decide +kernel
theorem dX1_readBoth_1 : decode cX1_readBoth 1 = .ok (.iload_n 1, 1) := by decide +kernel
theorem dX1_readBoth_2 : decode cX1_readBoth 2 = .ok (.invokevirtual 76, 3) := by decide +kernel
theorem dX1_readBoth_5 : decode cX1_readBoth 5 = .ok (.lstore_n 2, 1) := by decide +kernel
theorem dX1_readBoth_6 : decode cX1_readBoth 6 = .ok (.iconst 0, 1) := by decide +kernel
theorem dX1_readBoth_7 : decode cX1_readBoth 7 = .ok (.istore 4, 2) := by decide +kernel
theorem dX1_readBoth_9 : decode cX1_readBoth 9 = .ok (.iload 4, 2) := by decide +kernel
theorem dX1_readBoth_11 : decode cX1_readBoth 11 = .ok (.sipush 300, 3) := by decide +kernel
theorem dX1_readBoth_14 : decode cX1_readBoth 14 = .ok (.if_icmp .ge 37, 3) := by decide +kernel
theorem dX1_readBoth_17 : decode cX1_readBoth 17 = .ok (.aload_n 0, 1) := by decide +kernel
theorem dX1_readBoth_18 : decode cX1_readBoth 18 = .ok (.invokevirtual 33, 3) := by decide +kernel
theorem dX1_readBoth_21 : decode cX1_readBoth 21 = .ok (.ifCond .ne 30, 3) := by decide +kernel
theorem dX1_readBoth_24 : decode cX1_readBoth 24 = .ok (.aload_n 0, 1) := by decide +kernel
theorem dX1_readBoth_25 : decode cX1_readBoth 25 = .ok (.getfield 19, 3) := by decide +kernel
theorem dX1_readBoth_28 : decode cX1_readBoth 28 = .ok (.bipush 38, 2) := by decide +kernel
theorem dX1_readBoth_30 : decode cX1_readBoth 30 = .ok (.if_icmp .ne 21, 3) := by decide +kernel
theorem dX1_readBoth_33 : decode cX1_readBoth 33 = .ok (.aload_n 0, 1) := by decide +kernel
theorem dX1_readBoth_34 : decode cX1_readBoth 34 = .ok (.invokevirtual 52, 3) := by decide +kernel
theorem dX1_readBoth_37 : decode cX1_readBoth 37 = .ok (.lload_n 2, 1) := by decide +kernel
theorem dX1_readBoth_38 : decode cX1_readBoth 38 = .ok (.aload_n 0, 1) := by decide +kernel
theorem dX1_readBoth_39 : decode cX1_readBoth 39 = .ok (.iload_n 1, 1) := by decide +kernel
theorem dX1_readBoth_40 : decode cX1_readBoth 40 = .ok (.invokevirtual 76, 3) := by decide +kernel
theorem dX1_readBoth_43 : decode cX1_readBoth 43 = .ok (.land, 1) := by decide +kernel
theorem dX1_readBoth_44 : decode cX1_readBoth 44 = .ok (.lstore_n 2, 1) := by decide +kernel
theorem dX1_readBoth_45 : decode cX1_readBoth 45 = .ok (.iinc 4 1, 3) := by decide +kernel
theorem dX1_readBoth_48 : decode cX1_readBoth 48 = .ok (.goto (-39), 3) := by decide +kernel
theorem dX1_readBoth_51 : decode cX1_readBoth 51 = .ok (.lload_n 2, 1) := by decide +kernel
theorem dX1_readBoth_52 : decode cX1_readBoth 52 = .ok (.lreturn, 1) := by decide +kernel
set_option maxRecDepth 20000 in
theorem ggX1_readOne_X1_isFaulty : GoodIn wsX1_readOne wsX1_isFaulty := goodIn_r _ [7, 8, 40, 41, 42, 43] (by decide +kernel) (by decide +kernel)
set_option maxRecDepth 20000 in
theorem gX1_readOne_X1_isFaulty : GoodIn wsX1_readOne (wsV RX1 33 RX1 yX1_isFaulty wsX1_isFaulty) := goodIn_app (goodIn_of _ (by decide +kernel)) ggX1_readOne_X1_isFaulty
set_option maxRecDepth 20000 in
theorem ggX1_readOne_X1_beginsOne : GoodIn wsX1_readOne wsX1_beginsOne := goodIn_r _ [11, 12, 13, 14] (by decide +kernel) (by decide +kernel)
set_option maxRecDepth 20000 in
theorem gX1_readOne_X1_beginsOne : GoodIn wsX1_readOne (va_wsS RX1 79 yX1_beginsOne wsX1_beginsOne) := goodIn_app (goodIn_of _ (by decide +kernel)) ggX1_readOne_X1_beginsOne
set_option maxRecDepth 20000 in
theorem ggX1_readOne_X1_fail : GoodIn wsX1_readOne wsX1_fail := goodIn_r _ [18, 8, 19, 20, 40, 41, 42, 43, 44, 45, 46, 47] (by decide +kernel) (by decide +kernel)
set_option maxRecDepth 20000 in
theorem gX1_readOne_X1_fail : GoodIn wsX1_readOne (wsV RX1 70 RX1 yX1_fail wsX1_fail) := goodIn_app (goodIn_of _ (by decide +kernel)) ggX1_readOne_X1_fail
set_option maxRecDepth 20000 in
theorem ggX1_readOne_X1_advance : GoodIn wsX1_readOne wsX1_advance := goodIn_r _ [24, 1, 20, 19, 40, 41, 42, 43, 44, 45, 46, 47] (by decide +kernel) (by decide +kernel)
set_option maxRecDepth 20000 in
theorem gX1_readOne_X1_advance : GoodIn wsX1_readOne (wsV RX1 52 RX1 yX1_advance wsX1_advance) := goodIn_app (goodIn_of _ (by decide +kernel)) ggX1_readOne_X1_advance
set_option maxRecDepth 20000 in
theorem ggX1_readOne_X1_readOne : GoodIn wsX1_readOne wsX1_readOne := goodIn_r _ [0, 1, 2, 3, 4, 5, 6, 7, 8, 9, 10, 11, 12, 13, 14, 15, 16, 17, 18, 19, 20, 21, 22, 23, 24, 25, 26, 27, 28, 29, 30, 31, 32, 33, 34, 35, 36, 37, 38, 39, 40, 41, 42, 43, 44, 45, 46, 47] (by decide +kernel) (by decide +kernel)
set_option maxRecDepth 20000 in
theorem gX1_readOne_X1_readOne : GoodIn wsX1_readOne (wsV RX1 76 RX1 yX1_readOne wsX1_readOne) := goodIn_app (goodIn_of _ (by decide +kernel)) ggX1_readOne_X1_readOne
set_option maxRecDepth 20000 in
theorem ggX1_readOne_X1_readSaying : GoodIn wsX1_readOne wsX1_readSaying := goodIn_r _ [36, 1, 37, 38, 39, 6, 3, 4, 5, 7, 8, 21, 22, 23, 24, 20, 19, 35, 25, 26, 27, 0, 2, 9, 10, 11, 12, 13, 14, 15, 16, 17, 18, 28, 29, 30, 31, 32, 33, 34, 40, 41, 42, 43, 44, 45, 46, 47] (by decide +kernel) (by decide +kernel)
set_option maxRecDepth 20000 in
theorem gX1_readOne_X1_readSaying : GoodIn wsX1_readOne (wsV RX1 41 RX1 yX1_readSaying wsX1_readSaying) := goodIn_app (goodIn_of _ (by decide +kernel)) ggX1_readOne_X1_readSaying
set_option maxRecDepth 20000 in
theorem ggX1_readOne_X1_expect : GoodIn wsX1_readOne wsX1_expect := goodIn_r _ [34, 1, 3, 4, 5, 6, 7, 8, 15, 16, 17, 18, 19, 20, 21, 22, 23, 24, 40, 41, 42, 43, 44, 45, 46, 47] (by decide +kernel) (by decide +kernel)
set_option maxRecDepth 20000 in
theorem gX1_readOne_X1_expect : GoodIn wsX1_readOne (wsV RX1 45 RX1 yX1_expect wsX1_expect) := goodIn_app (goodIn_of _ (by decide +kernel)) ggX1_readOne_X1_expect
set_option maxRecDepth 20000 in
theorem ggX1_readOne_X4_isLetter : GoodIn wsX1_readOne wsX4_isLetter := goodIn_r _ [14] (by decide +kernel) (by decide +kernel)
set_option maxRecDepth 20000 in
theorem gX1_readOne_X4_isLetter_n85 : GoodIn wsX1_readOne (wsX4_isLetter) := ggX1_readOne_X4_isLetter
theorem dX1_readOne_0 : decode cX1_readOne 0 = .ok (.aload_n 0, 1) := by decide +kernel
theorem dX1_readOne_1 : decode cX1_readOne 1 = .ok (.getfield 19, 3) := by decide +kernel
theorem dX1_readOne_4 : decode cX1_readOne 4 = .ok (.istore_n 2, 1) := by decide +kernel
theorem dX1_readOne_5 : decode cX1_readOne 5 = .ok (.aload_n 0, 1) := by decide +kernel
theorem dX1_readOne_6 : decode cX1_readOne 6 = .ok (.invokevirtual 33, 3) := by decide +kernel
theorem dX1_readOne_9 : decode cX1_readOne 9 = .ok (.ifCond .ne 11, 3) := by decide +kernel
theorem dX1_readOne_12 : decode cX1_readOne 12 = .ok (.iload_n 2, 1) := by decide +kernel
theorem dX1_readOne_13 : decode cX1_readOne 13 = .ok (.iload_n 1, 1) := by decide +kernel
theorem dX1_readOne_14 : decode cX1_readOne 14 = .ok (.invokestatic 79, 3) := by decide +kernel
theorem dX1_readOne_17 : decode cX1_readOne 17 = .ok (.ifCond .ne 9, 3) := by decide +kernel
theorem dX1_readOne_20 : decode cX1_readOne 20 = .ok (.aload_n 0, 1) := by decide +kernel
theorem dX1_readOne_21 : decode cX1_readOne 21 = .ok (.invokevirtual 70, 3) := by decide +kernel
theorem dX1_readOne_24 : decode cX1_readOne 24 = .ok (.lconst 0, 1) := by decide +kernel
theorem dX1_readOne_25 : decode cX1_readOne 25 = .ok (.lreturn, 1) := by decide +kernel
theorem dX1_readOne_26 : decode cX1_readOne 26 = .ok (.aload_n 0, 1) := by decide +kernel
theorem dX1_readOne_27 : decode cX1_readOne 27 = .ok (.invokevirtual 52, 3) := by decide +kernel
theorem dX1_readOne_30 : decode cX1_readOne 30 = .ok (.iload_n 2, 1) := by decide +kernel
theorem dX1_readOne_31 : decode cX1_readOne 31 = .ok (.bipush 33, 2) := by decide +kernel
theorem dX1_readOne_33 : decode cX1_readOne 33 = .ok (.if_icmp .ne 15, 3) := by decide +kernel
theorem dX1_readOne_36 : decode cX1_readOne 36 = .ok (.aload_n 0, 1) := by decide +kernel
theorem dX1_readOne_37 : decode cX1_readOne 37 = .ok (.iload_n 1, 1) := by decide +kernel
theorem dX1_readOne_38 : decode cX1_readOne 38 = .ok (.iconst 1, 1) := by decide +kernel
theorem dX1_readOne_39 : decode cX1_readOne 39 = .ok (.iadd, 1) := by decide +kernel
theorem dX1_readOne_40 : decode cX1_readOne 40 = .ok (.invokevirtual 76, 3) := by decide +kernel
theorem dX1_readOne_43 : decode cX1_readOne 43 = .ok (.ldc2_w 83, 3) := by decide +kernel
theorem dX1_readOne_46 : decode cX1_readOne 46 = .ok (.lxor, 1) := by decide +kernel
theorem dX1_readOne_47 : decode cX1_readOne 47 = .ok (.lreturn, 1) := by decide +kernel
theorem dX1_readOne_48 : decode cX1_readOne 48 = .ok (.iload_n 2, 1) := by decide +kernel
theorem dX1_readOne_49 : decode cX1_readOne 49 = .ok (.bipush 40, 2) := by decide +kernel
theorem dX1_readOne_51 : decode cX1_readOne 51 = .ok (.if_icmp .ne 19, 3) := by decide +kernel
theorem dX1_readOne_54 : decode cX1_readOne 54 = .ok (.aload_n 0, 1) := by decide +kernel
theorem dX1_readOne_55 : decode cX1_readOne 55 = .ok (.iload_n 1, 1) := by decide +kernel
theorem dX1_readOne_56 : decode cX1_readOne 56 = .ok (.iconst 1, 1) := by decide +kernel
theorem dX1_readOne_57 : decode cX1_readOne 57 = .ok (.iadd, 1) := by decide +kernel
theorem dX1_readOne_58 : decode cX1_readOne 58 = .ok (.invokevirtual 41, 3) := by decide +kernel
theorem dX1_readOne_61 : decode cX1_readOne 61 = .ok (.lstore_n 3, 1) := by decide +kernel
theorem dX1_readOne_62 : decode cX1_readOne 62 = .ok (.aload_n 0, 1) := by decide +kernel
theorem dX1_readOne_63 : decode cX1_readOne 63 = .ok (.bipush 41, 2) := by decide +kernel
theorem dX1_readOne_65 : decode cX1_readOne 65 = .ok (.invokevirtual 45, 3) := by decide +kernel
theorem dX1_readOne_68 : decode cX1_readOne 68 = .ok (.lload_n 3, 1) := by decide +kernel
theorem dX1_readOne_69 : decode cX1_readOne 69 = .ok (.lreturn, 1) := by decide +kernel
theorem dX1_readOne_70 : decode cX1_readOne 70 = .ok (.iload_n 2, 1) := by decide +kernel
theorem dX1_readOne_71 : decode cX1_readOne 71 = .ok (.invokestatic 85, 3) := by decide +kernel
theorem dX1_readOne_74 : decode cX1_readOne 74 = .ok (.ifCond .eq 12, 3) := by decide +kernel
theorem dX1_readOne_77 : decode cX1_readOne 77 = .ok (.getstatic 89, 3) := by decide +kernel
theorem dX1_readOne_80 : decode cX1_readOne 80 = .ok (.iload_n 2, 1) := by decide +kernel
theorem dX1_readOne_81 : decode cX1_readOne 81 = .ok (.bipush 97, 2) := by decide +kernel
theorem dX1_readOne_83 : decode cX1_readOne 83 = .ok (.isub, 1) := by decide +kernel
theorem dX1_readOne_84 : decode cX1_readOne 84 = .ok (.laload, 1) := by decide +kernel
theorem dX1_readOne_85 : decode cX1_readOne 85 = .ok (.lreturn, 1) := by decide +kernel
theorem dX1_readOne_86 : decode cX1_readOne 86 = .ok (.iload_n 2, 1) := by decide +kernel
theorem dX1_readOne_87 : decode cX1_readOne 87 = .ok (.bipush 49, 2) := by decide +kernel
theorem dX1_readOne_89 : decode cX1_readOne 89 = .ok (.if_icmp .ne 9, 3) := by decide +kernel
theorem dX1_readOne_92 : decode cX1_readOne 92 = .ok (.ldc2_w 83, 3) := by decide +kernel
theorem dX1_readOne_95 : decode cX1_readOne 95 = .ok (.goto 4, 3) := by decide +kernel
theorem dX1_readOne_98 : decode cX1_readOne 98 = .ok (.lconst 0, 1) := by decide +kernel
theorem dX1_readOne_99 : decode cX1_readOne 99 = .ok (.lreturn, 1) := by decide +kernel
set_option maxRecDepth 20000 in
theorem ggX1_beginsOne_X4_isLetter : GoodIn wsX1_beginsOne wsX4_isLetter := goodIn_r _ [3] (by decide +kernel) (by decide +kernel)
set_option maxRecDepth 20000 in
theorem gX1_beginsOne_X4_isLetter_n85 : GoodIn wsX1_beginsOne (wsX4_isLetter) := ggX1_beginsOne_X4_isLetter
theorem dX1_beginsOne_0 : decode cX1_beginsOne 0 = .ok (.iload_n 0, 1) := by decide +kernel
theorem dX1_beginsOne_1 : decode cX1_beginsOne 1 = .ok (.bipush 33, 2) := by decide +kernel
theorem dX1_beginsOne_3 : decode cX1_beginsOne 3 = .ok (.if_icmp .eq 9, 3) := by decide +kernel
theorem dX1_beginsOne_6 : decode cX1_beginsOne 6 = .ok (.iload_n 0, 1) := by decide +kernel
theorem dX1_beginsOne_7 : decode cX1_beginsOne 7 = .ok (.bipush 40, 2) := by decide +kernel
theorem dX1_beginsOne_9 : decode cX1_beginsOne 9 = .ok (.if_icmp .ne 15, 3) := by decide +kernel
theorem dX1_beginsOne_12 : decode cX1_beginsOne 12 = .ok (.iload_n 1, 1) := by decide +kernel
theorem dX1_beginsOne_13 : decode cX1_beginsOne 13 = .ok (.bipush 8, 2) := by decide +kernel
theorem dX1_beginsOne_15 : decode cX1_beginsOne 15 = .ok (.if_icmp .ge 7, 3) := by decide +kernel
theorem dX1_beginsOne_18 : decode cX1_beginsOne 18 = .ok (.iconst 1, 1) := by decide +kernel
theorem dX1_beginsOne_19 : decode cX1_beginsOne 19 = .ok (.goto 4, 3) := by decide +kernel
theorem dX1_beginsOne_22 : decode cX1_beginsOne 22 = .ok (.iconst 0, 1) := by decide +kernel
theorem dX1_beginsOne_23 : decode cX1_beginsOne 23 = .ok (.ireturn, 1) := by decide +kernel
theorem dX1_beginsOne_24 : decode cX1_beginsOne 24 = .ok (.iload_n 0, 1) := by decide +kernel
theorem dX1_beginsOne_25 : decode cX1_beginsOne 25 = .ok (.bipush 48, 2) := by decide +kernel
theorem dX1_beginsOne_27 : decode cX1_beginsOne 27 = .ok (.if_icmp .eq 16, 3) := by decide +kernel
theorem dX1_beginsOne_30 : decode cX1_beginsOne 30 = .ok (.iload_n 0, 1) := by decide +kernel
theorem dX1_beginsOne_31 : decode cX1_beginsOne 31 = .ok (.bipush 49, 2) := by decide +kernel
theorem dX1_beginsOne_33 : decode cX1_beginsOne 33 = .ok (.if_icmp .eq 10, 3) := by decide +kernel
theorem dX1_beginsOne_36 : decode cX1_beginsOne 36 = .ok (.iload_n 0, 1) := by decide +kernel
theorem dX1_beginsOne_37 : decode cX1_beginsOne 37 = .ok (.invokestatic 85, 3) := by decide +kernel
theorem dX1_beginsOne_40 : decode cX1_beginsOne 40 = .ok (.ifCond .eq 7, 3) := by decide +kernel
theorem dX1_beginsOne_43 : decode cX1_beginsOne 43 = .ok (.iconst 1, 1) := by decide +kernel
theorem dX1_beginsOne_44 : decode cX1_beginsOne 44 = .ok (.goto 4, 3) := by decide +kernel
theorem dX1_beginsOne_47 : decode cX1_beginsOne 47 = .ok (.iconst 0, 1) := by decide +kernel
theorem dX1_beginsOne_48 : decode cX1_beginsOne 48 = .ok (.ireturn, 1) := by decide +kernel
set_option maxRecDepth 20000 in
theorem ggX1_expect_X1_isFaulty : GoodIn wsX1_expect wsX1_isFaulty := goodIn_r _ [6, 7, 18, 19, 20, 21] (by decide +kernel) (by decide +kernel)
set_option maxRecDepth 20000 in
theorem gX1_expect_X1_isFaulty : GoodIn wsX1_expect (wsV RX1 33 RX1 yX1_isFaulty wsX1_isFaulty) := goodIn_app (goodIn_of _ (by decide +kernel)) ggX1_expect_X1_isFaulty
set_option maxRecDepth 20000 in
theorem ggX1_expect_X1_fail : GoodIn wsX1_expect wsX1_fail := goodIn_r _ [11, 7, 12, 13, 18, 19, 20, 21, 22, 23, 24, 25] (by decide +kernel) (by decide +kernel)
set_option maxRecDepth 20000 in
theorem gX1_expect_X1_fail : GoodIn wsX1_expect (wsV RX1 70 RX1 yX1_fail wsX1_fail) := goodIn_app (goodIn_of _ (by decide +kernel)) ggX1_expect_X1_fail
set_option maxRecDepth 20000 in
theorem ggX1_expect_X1_advance : GoodIn wsX1_expect wsX1_advance := goodIn_r _ [17, 1, 13, 12, 18, 19, 20, 21, 22, 23, 24, 25] (by decide +kernel) (by decide +kernel)
set_option maxRecDepth 20000 in
theorem gX1_expect_X1_advance : GoodIn wsX1_expect (wsV RX1 52 RX1 yX1_advance wsX1_advance) := goodIn_app (goodIn_of _ (by decide +kernel)) ggX1_expect_X1_advance
theorem dX1_expect_0 : decode cX1_expect 0 = .ok (.aload_n 0, 1) := by decide +kernel
theorem dX1_expect_1 : decode cX1_expect 1 = .ok (.invokevirtual 33, 3) := by decide +kernel
theorem dX1_expect_4 : decode cX1_expect 4 = .ok (.ifCond .ne 11, 3) := by decide +kernel
theorem dX1_expect_7 : decode cX1_expect 7 = .ok (.aload_n 0, 1) := by decide +kernel
theorem dX1_expect_8 : decode cX1_expect 8 = .ok (.getfield 19, 3) := by decide +kernel
theorem dX1_expect_11 : decode cX1_expect 11 = .ok (.iload_n 1, 1) := by decide +kernel
theorem dX1_expect_12 : decode cX1_expect 12 = .ok (.if_icmp .eq 10, 3) := by decide +kernel
theorem dX1_expect_15 : decode cX1_expect 15 = .ok (.aload_n 0, 1) := by decide +kernel
theorem dX1_expect_16 : decode cX1_expect 16 = .ok (.invokevirtual 70, 3) := by decide +kernel
theorem dX1_expect_19 : decode cX1_expect 19 = .ok (.goto 7, 3) := by decide +kernel
theorem dX1_expect_22 : decode cX1_expect 22 = .ok (.aload_n 0, 1) := by decide +kernel
theorem dX1_expect_23 : decode cX1_expect 23 = .ok (.invokevirtual 52, 3) := by decide +kernel
theorem dX1_expect_26 : decode cX1_expect 26 = .ok (.return_, 1) := by decide +kernel
theorem dX1_fail_0 : decode cX1_fail 0 = .ok (.aload_n 0, 1) := by decide +kernel
theorem dX1_fail_1 : decode cX1_fail 1 = .ok (.getfield 22, 3) := by decide +kernel
theorem dX1_fail_4 : decode cX1_fail 4 = .ok (.iconst (-1), 1) := by decide +kernel
theorem dX1_fail_5 : decode cX1_fail 5 = .ok (.if_icmp .ne 19, 3) := by decide +kernel
theorem dX1_fail_8 : decode cX1_fail 8 = .ok (.aload_n 0, 1) := by decide +kernel
theorem dX1_fail_9 : decode cX1_fail 9 = .ok (.aload_n 0, 1) := by decide +kernel
theorem dX1_fail_10 : decode cX1_fail 10 = .ok (.getfield 9, 3) := by decide +kernel
theorem dX1_fail_13 : decode cX1_fail 13 = .ok (.getfield 93, 3) := by decide +kernel
theorem dX1_fail_16 : decode cX1_fail 16 = .ok (.aload_n 0, 1) := by decide +kernel
theorem dX1_fail_17 : decode cX1_fail 17 = .ok (.getfield 15, 3) := by decide +kernel
theorem dX1_fail_20 : decode cX1_fail 20 = .ok (.iaload, 1) := by decide +kernel
theorem dX1_fail_21 : decode cX1_fail 21 = .ok (.putfield 22, 3) := by decide +kernel
theorem dX1_fail_24 : decode cX1_fail 24 = .ok (.return_, 1) := by decide +kernel
set_option maxRecDepth 20000 in
theorem ggX1_begin_X2_findTokens : GoodIn wsX1_begin wsX2_findTokens := goodIn_r _ [9, 10, 11, 12, 13, 14, 15, 8, 16, 17, 18, 19, 20, 21, 22, 23, 24, 25, 26, 27, 28, 29, 30, 31, 32, 33, 34, 35, 40, 41, 42, 43] (by decide +kernel) (by decide +kernel)
set_option maxRecDepth 20000 in
theorem gX1_begin_X2_findTokens : GoodIn wsX1_begin (wsV RX1 99 RX2 yX2_findTokens wsX2_findTokens) := goodIn_app (goodIn_of _ (by decide +kernel)) ggX1_begin_X2_findTokens
theorem dX1_begin_0 : decode cX1_begin 0 = .ok (.aload_n 0, 1) := by decide +kernel
theorem dX1_begin_1 : decode cX1_begin 1 = .ok (.getfield 9, 3) := by decide +kernel
theorem dX1_begin_4 : decode cX1_begin 4 = .ok (.invokevirtual 99, 3) := by decide +kernel
theorem dX1_begin_7 : decode cX1_begin 7 = .ok (.aload_n 0, 1) := by decide +kernel
theorem dX1_begin_8 : decode cX1_begin 8 = .ok (.iconst 0, 1) := by decide +kernel
theorem dX1_begin_9 : decode cX1_begin 9 = .ok (.putfield 15, 3) := by decide +kernel
theorem dX1_begin_12 : decode cX1_begin 12 = .ok (.aload_n 0, 1) := by decide +kernel
theorem dX1_begin_13 : decode cX1_begin 13 = .ok (.aload_n 0, 1) := by decide +kernel
theorem dX1_begin_14 : decode cX1_begin 14 = .ok (.getfield 9, 3) := by decide +kernel
theorem dX1_begin_17 : decode cX1_begin 17 = .ok (.getfield 102, 3) := by decide +kernel
theorem dX1_begin_20 : decode cX1_begin 20 = .ok (.iconst 0, 1) := by decide +kernel
theorem dX1_begin_21 : decode cX1_begin 21 = .ok (.iaload, 1) := by decide +kernel
theorem dX1_begin_22 : decode cX1_begin 22 = .ok (.putfield 19, 3) := by decide +kernel
theorem dX1_begin_25 : decode cX1_begin 25 = .ok (.aload_n 0, 1) := by decide +kernel
theorem dX1_begin_26 : decode cX1_begin 26 = .ok (.iconst (-1), 1) := by decide +kernel
theorem dX1_begin_27 : decode cX1_begin 27 = .ok (.putfield 22, 3) := by decide +kernel
theorem dX1_begin_30 : decode cX1_begin 30 = .ok (.return_, 1) := by decide +kernel
theorem dX1_advance_0 : decode cX1_advance 0 = .ok (.aload_n 0, 1) := by decide +kernel
theorem dX1_advance_1 : decode cX1_advance 1 = .ok (.getfield 19, 3) := by decide +kernel
theorem dX1_advance_4 : decode cX1_advance 4 = .ok (.sipush 258, 3) := by decide +kernel
theorem dX1_advance_7 : decode cX1_advance 7 = .ok (.if_icmp .eq 39, 3) := by decide +kernel
theorem dX1_advance_10 : decode cX1_advance 10 = .ok (.aload_n 0, 1) := by decide +kernel
theorem dX1_advance_11 : decode cX1_advance 11 = .ok (.getfield 15, 3) := by decide +kernel
theorem dX1_advance_14 : decode cX1_advance 14 = .ok (.sipush 300, 3) := by decide +kernel
theorem dX1_advance_17 : decode cX1_advance 17 = .ok (.if_icmp .ge 29, 3) := by decide +kernel
theorem dX1_advance_20 : decode cX1_advance 20 = .ok (.aload_n 0, 1) := by decide +kernel
theorem dX1_advance_21 : decode cX1_advance 21 = .ok (.dup, 1) := by decide +kernel
theorem dX1_advance_22 : decode cX1_advance 22 = .ok (.getfield 15, 3) := by decide +kernel
theorem dX1_advance_25 : decode cX1_advance 25 = .ok (.iconst 1, 1) := by decide +kernel
theorem dX1_advance_26 : decode cX1_advance 26 = .ok (.iadd, 1) := by decide +kernel
theorem dX1_advance_27 : decode cX1_advance 27 = .ok (.putfield 15, 3) := by decide +kernel
theorem dX1_advance_30 : decode cX1_advance 30 = .ok (.aload_n 0, 1) := by decide +kernel
theorem dX1_advance_31 : decode cX1_advance 31 = .ok (.aload_n 0, 1) := by decide +kernel
theorem dX1_advance_32 : decode cX1_advance 32 = .ok (.getfield 9, 3) := by decide +kernel
theorem dX1_advance_35 : decode cX1_advance 35 = .ok (.getfield 102, 3) := by decide +kernel
theorem dX1_advance_38 : decode cX1_advance 38 = .ok (.aload_n 0, 1) := by decide +kernel
theorem dX1_advance_39 : decode cX1_advance 39 = .ok (.getfield 15, 3) := by decide +kernel
theorem dX1_advance_42 : decode cX1_advance 42 = .ok (.iaload, 1) := by decide +kernel
theorem dX1_advance_43 : decode cX1_advance 43 = .ok (.putfield 19, 3) := by decide +kernel
theorem dX1_advance_46 : decode cX1_advance 46 = .ok (.return_, 1) := by decide +kernel
theorem dX2_init_0 : decode cX2_init 0 = .ok (.aload_n 0, 1) := by decide +kernel
theorem dX2_init_1 : decode cX2_init 1 = .ok (.invokespecial 3, 3) := by decide +kernel
theorem dX2_init_4 : decode cX2_init 4 = .ok (.aload_n 0, 1) := by decide +kernel
theorem dX2_init_5 : decode cX2_init 5 = .ok (.sipush 300, 3) := by decide +kernel
theorem dX2_init_8 : decode cX2_init 8 = .ok (.newarray .int, 2) := by decide +kernel
theorem dX2_init_10 : decode cX2_init 10 = .ok (.putfield 9, 3) := by decide +kernel
theorem dX2_init_13 : decode cX2_init 13 = .ok (.aload_n 0, 1) := by decide +kernel
theorem dX2_init_14 : decode cX2_init 14 = .ok (.iconst 0, 1) := by decide +kernel
theorem dX2_init_15 : decode cX2_init 15 = .ok (.putfield 15, 3) := by decide +kernel
theorem dX2_init_18 : decode cX2_init 18 = .ok (.aload_n 0, 1) := by decide +kernel
theorem dX2_init_19 : decode cX2_init 19 = .ok (.sipush 301, 3) := by decide +kernel
theorem dX2_init_22 : decode cX2_init 22 = .ok (.newarray .int, 2) := by decide +kernel
theorem dX2_init_24 : decode cX2_init 24 = .ok (.putfield 19, 3) := by decide +kernel
theorem dX2_init_27 : decode cX2_init 27 = .ok (.aload_n 0, 1) := by decide +kernel
theorem dX2_init_28 : decode cX2_init 28 = .ok (.sipush 301, 3) := by decide +kernel
theorem dX2_init_31 : decode cX2_init 31 = .ok (.newarray .int, 2) := by decide +kernel
theorem dX2_init_33 : decode cX2_init 33 = .ok (.putfield 22, 3) := by decide +kernel
theorem dX2_init_36 : decode cX2_init 36 = .ok (.return_, 1) := by decide +kernel
theorem dX2_append_0 : decode cX2_append 0 = .ok (.aload_n 0, 1) := by decide +kernel
theorem dX2_append_1 : decode cX2_append 1 = .ok (.getfield 15, 3) := by decide +kernel
theorem dX2_append_4 : decode cX2_append 4 = .ok (.sipush 300, 3) := by decide +kernel
theorem dX2_append_7 : decode cX2_append 7 = .ok (.if_icmp .ge 23, 3) := by decide +kernel
theorem dX2_append_10 : decode cX2_append 10 = .ok (.aload_n 0, 1) := by decide +kernel
theorem dX2_append_11 : decode cX2_append 11 = .ok (.getfield 9, 3) := by decide +kernel
theorem dX2_append_14 : decode cX2_append 14 = .ok (.aload_n 0, 1) := by decide +kernel
theorem dX2_append_15 : decode cX2_append 15 = .ok (.getfield 15, 3) := by decide +kernel
theorem dX2_append_18 : decode cX2_append 18 = .ok (.iload_n 1, 1) := by decide +kernel
theorem dX2_append_19 : decode cX2_append 19 = .ok (.iastore, 1) := by decide +kernel
theorem dX2_append_20 : decode cX2_append 20 = .ok (.aload_n 0, 1) := by decide +kernel
theorem dX2_append_21 : decode cX2_append 21 = .ok (.dup, 1) := by decide +kernel
theorem dX2_append_22 : decode cX2_append 22 = .ok (.getfield 15, 3) := by decide +kernel
theorem dX2_append_25 : decode cX2_append 25 = .ok (.iconst 1, 1) := by decide +kernel
theorem dX2_append_26 : decode cX2_append 26 = .ok (.iadd, 1) := by decide +kernel
theorem dX2_append_27 : decode cX2_append 27 = .ok (.putfield 15, 3) := by decide +kernel
theorem dX2_append_30 : decode cX2_append 30 = .ok (.return_, 1) := by decide +kernel
set_option maxRecDepth 20000 in
theorem ggX2_findTokens_X2_beginsToken : GoodIn wsX2_findTokens wsX2_beginsToken := goodIn_r _ [8, 9, 10, 11, 12, 7, 13, 1, 28, 29, 30, 31] (by decide +kernel) (by decide +kernel)
set_option maxRecDepth 20000 in
theorem gX2_findTokens_X2_beginsToken : GoodIn wsX2_findTokens (wsV RX2 25 RX2 yX2_beginsToken wsX2_beginsToken) := goodIn_app (goodIn_of _ (by decide +kernel)) ggX2_findTokens_X2_beginsToken
set_option maxRecDepth 20000 in
theorem ggX2_findTokens_X2_tokenAt : GoodIn wsX2_findTokens wsX2_tokenAt := goodIn_r _ [17, 9, 10, 11, 12, 7, 13, 1, 18, 19, 20, 21, 22, 23, 24, 25, 26, 27, 28, 29, 30, 31] (by decide +kernel) (by decide +kernel)
set_option maxRecDepth 20000 in
theorem gX2_findTokens_X2_tokenAt : GoodIn wsX2_findTokens (wsV RX2 29 RX2 yX2_tokenAt wsX2_tokenAt) := goodIn_app (goodIn_of _ (by decide +kernel)) ggX2_findTokens_X2_tokenAt
theorem dX2_findTokens_0 : decode cX2_findTokens 0 = .ok (.iconst 0, 1) := by decide +kernel
theorem dX2_findTokens_1 : decode cX2_findTokens 1 = .ok (.istore_n 1, 1) := by decide +kernel
theorem dX2_findTokens_2 : decode cX2_findTokens 2 = .ok (.iconst 0, 1) := by decide +kernel
theorem dX2_findTokens_3 : decode cX2_findTokens 3 = .ok (.istore_n 2, 1) := by decide +kernel
theorem dX2_findTokens_4 : decode cX2_findTokens 4 = .ok (.iload_n 2, 1) := by decide +kernel
theorem dX2_findTokens_5 : decode cX2_findTokens 5 = .ok (.aload_n 0, 1) := by decide +kernel
theorem dX2_findTokens_6 : decode cX2_findTokens 6 = .ok (.getfield 15, 3) := by decide +kernel
theorem dX2_findTokens_9 : decode cX2_findTokens 9 = .ok (.if_icmp .ge 38, 3) := by decide +kernel
theorem dX2_findTokens_12 : decode cX2_findTokens 12 = .ok (.aload_n 0, 1) := by decide +kernel
theorem dX2_findTokens_13 : decode cX2_findTokens 13 = .ok (.iload_n 2, 1) := by decide +kernel
theorem dX2_findTokens_14 : decode cX2_findTokens 14 = .ok (.invokevirtual 25, 3) := by decide +kernel
theorem dX2_findTokens_17 : decode cX2_findTokens 17 = .ok (.ifCond .eq 24, 3) := by decide +kernel
theorem dX2_findTokens_20 : decode cX2_findTokens 20 = .ok (.aload_n 0, 1) := by decide +kernel
theorem dX2_findTokens_21 : decode cX2_findTokens 21 = .ok (.getfield 19, 3) := by decide +kernel
theorem dX2_findTokens_24 : decode cX2_findTokens 24 = .ok (.iload_n 1, 1) := by decide +kernel
theorem dX2_findTokens_25 : decode cX2_findTokens 25 = .ok (.aload_n 0, 1) := by decide +kernel
theorem dX2_findTokens_26 : decode cX2_findTokens 26 = .ok (.iload_n 2, 1) := by decide +kernel
theorem dX2_findTokens_27 : decode cX2_findTokens 27 = .ok (.invokevirtual 29, 3) := by decide +kernel
theorem dX2_findTokens_30 : decode cX2_findTokens 30 = .ok (.iastore, 1) := by decide +kernel
theorem dX2_findTokens_31 : decode cX2_findTokens 31 = .ok (.aload_n 0, 1) := by decide +kernel
theorem dX2_findTokens_32 : decode cX2_findTokens 32 = .ok (.getfield 22, 3) := by decide +kernel
theorem dX2_findTokens_35 : decode cX2_findTokens 35 = .ok (.iload_n 1, 1) := by decide +kernel
theorem dX2_findTokens_36 : decode cX2_findTokens 36 = .ok (.iload_n 2, 1) := by decide +kernel
theorem dX2_findTokens_37 : decode cX2_findTokens 37 = .ok (.iastore, 1) := by decide +kernel
theorem dX2_findTokens_38 : decode cX2_findTokens 38 = .ok (.iinc 1 1, 3) := by decide +kernel
theorem dX2_findTokens_41 : decode cX2_findTokens 41 = .ok (.iinc 2 1, 3) := by decide +kernel
theorem dX2_findTokens_44 : decode cX2_findTokens 44 = .ok (.goto (-40), 3) := by decide +kernel
