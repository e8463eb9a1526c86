theorem dX4_burden_19 : decode cX4_burden 19 = .ok (.iload_n 2, 1) := by decide +kernel
theorem dX4_burden_20 : decode cX4_burden 20 = .ok (.invokevirtual 125, 3) := by decide +kernel
theorem dX4_burden_23 : decode cX4_burden 23 = .ok (.l2i, 1) := by decide +kernel
theorem dX4_burden_24 : decode cX4_burden 24 = .ok (.ireturn, 1) := by decide +kernel
set_option maxRecDepth 20000 in
theorem ggX4_merged_X4_isWay : GoodIn wsX4_merged wsX4_isWay := goodIn_r _ [4] (by decide +kernel) (by decide +kernel)
set_option maxRecDepth 20000 in
theorem gX4_merged_X4_isWay : GoodIn wsX4_merged (va_wsS RX4 129 yX4_isWay wsX4_isWay) := goodIn_app (goodIn_of _ (by decide +kernel)) ggX4_merged_X4_isWay
set_option maxRecDepth 20000 in
theorem ggX4_merged_X4_mergedBy : GoodIn wsX4_merged wsX4_mergedBy := goodIn_r _ [8, 9, 10, 11, 12, 13, 3, 14, 15, 16, 17, 18, 19, 20, 21, 22, 23, 24, 25, 26, 27, 28, 29, 30, 31, 32, 33, 34, 35, 36, 37, 38, 39, 40, 41, 42, 43, 44, 45, 46, 47, 48, 49, 50, 51, 52, 53] (by decide +kernel) (by decide +kernel)
set_option maxRecDepth 20000 in
theorem gX4_merged_X4_mergedBy : GoodIn wsX4_merged (wsV RX4 132 RX4 yX4_mergedBy wsX4_mergedBy) := goodIn_app (goodIn_of _ (by decide +kernel)) ggX4_merged_X4_mergedBy
theorem dX4_merged_0 : decode cX4_merged 0 = .ok (.iload_n 1, 1) := by decide +kernel
theorem dX4_merged_1 : decode cX4_merged 1 = .ok (.invokestatic 129, 3) := by decide +kernel
theorem dX4_merged_4 : decode cX4_merged 4 = .ok (.ifCond .eq 11, 3) := by decide +kernel
theorem dX4_merged_7 : decode cX4_merged 7 = .ok (.aload_n 0, 1) := by decide +kernel
theorem dX4_merged_8 : decode cX4_merged 8 = .ok (.iload_n 1, 1) := by decide +kernel
theorem dX4_merged_9 : decode cX4_merged 9 = .ok (.invokevirtual 132, 3) := by decide +kernel
theorem dX4_merged_12 : decode cX4_merged 12 = .ok (.goto 4, 3) := by decide +kernel
theorem dX4_merged_15 : decode cX4_merged 15 = .ok (.lconst 0, 1) := by decide +kernel
theorem dX4_merged_16 : decode cX4_merged 16 = .ok (.lreturn, 1) := by decide +kernel
set_option maxRecDepth 20000 in
theorem ggX4_value_X4_isWorld : GoodIn wsX4_value wsX4_isWorld := goodIn_r _ [4] (by decide +kernel) (by decide +kernel)
set_option maxRecDepth 20000 in
theorem gX4_value_X4_isWorld : GoodIn wsX4_value (va_wsS RX4 119 yX4_isWorld wsX4_isWorld) := goodIn_app (goodIn_of _ (by decide +kernel)) ggX4_value_X4_isWorld
set_option maxRecDepth 20000 in
theorem ggX4_value_X4_weighed : GoodIn wsX4_value wsX4_weighed := goodIn_r _ [8, 9, 10, 11, 12, 3, 13, 14, 15, 16, 17, 18, 19, 20, 21, 22, 23, 24, 25, 26, 27, 28, 29, 30, 31, 32, 33, 34, 35, 36, 37, 38, 39, 40, 41] (by decide +kernel) (by decide +kernel)
set_option maxRecDepth 20000 in
theorem gX4_value_X4_weighed : GoodIn wsX4_value (wsV RX4 136 RX4 yX4_weighed wsX4_weighed) := goodIn_app (goodIn_of _ (by decide +kernel)) ggX4_value_X4_weighed
theorem dX4_value_0 : decode cX4_value 0 = .ok (.iload_n 1, 1) := by decide +kernel
theorem dX4_value_1 : decode cX4_value 1 = .ok (.ifCond .eq 8, 3) := by decide +kernel
theorem dX4_value_4 : decode cX4_value 4 = .ok (.iload_n 1, 1) := by decide +kernel
theorem dX4_value_5 : decode cX4_value 5 = .ok (.iconst 1, 1) := by decide +kernel
theorem dX4_value_6 : decode cX4_value 6 = .ok (.if_icmp .ne 10, 3) := by decide +kernel
theorem dX4_value_9 : decode cX4_value 9 = .ok (.iload_n 2, 1) := by decide +kernel
theorem dX4_value_10 : decode cX4_value 10 = .ok (.invokestatic 119, 3) := by decide +kernel
theorem dX4_value_13 : decode cX4_value 13 = .ok (.ifCond .ne 5, 3) := by decide +kernel
theorem dX4_value_16 : decode cX4_value 16 = .ok (.iconst (-1), 1) := by decide +kernel
theorem dX4_value_17 : decode cX4_value 17 = .ok (.ireturn, 1) := by decide +kernel
theorem dX4_value_18 : decode cX4_value 18 = .ok (.aload_n 0, 1) := by decide +kernel
theorem dX4_value_19 : decode cX4_value 19 = .ok (.iload_n 1, 1) := by decide +kernel
theorem dX4_value_20 : decode cX4_value 20 = .ok (.iload_n 2, 1) := by decide +kernel
theorem dX4_value_21 : decode cX4_value 21 = .ok (.iconst (-1), 1) := by decide +kernel
theorem dX4_value_22 : decode cX4_value 22 = .ok (.invokevirtual 136, 3) := by decide +kernel
theorem dX4_value_25 : decode cX4_value 25 = .ok (.l2i, 1) := by decide +kernel
theorem dX4_value_26 : decode cX4_value 26 = .ok (.ireturn, 1) := by decide +kernel
set_option maxRecDepth 20000 in
theorem ggX4_held_X4_isWay : GoodIn wsX4_held wsX4_isWay := goodIn_r _ [6] (by decide +kernel) (by decide +kernel)
set_option maxRecDepth 20000 in
theorem gX4_held_X4_isWay : GoodIn wsX4_held (va_wsS RX4 129 yX4_isWay wsX4_isWay) := goodIn_app (goodIn_of _ (by decide +kernel)) ggX4_held_X4_isWay
set_option maxRecDepth 20000 in
theorem ggX4_held_X4_mergedBy : GoodIn wsX4_held wsX4_mergedBy := goodIn_r _ [10, 11, 12, 13, 14, 15, 5, 16, 17, 18, 19, 20, 21, 22, 23, 24, 25, 26, 27, 28, 29, 30, 31, 32, 33, 34, 35, 36, 37, 38, 39, 40, 41, 42, 43, 44, 45, 46, 47, 48, 49, 50, 51, 52, 53, 54, 55] (by decide +kernel) (by decide +kernel)
set_option maxRecDepth 20000 in
theorem gX4_held_X4_mergedBy : GoodIn wsX4_held (wsV RX4 132 RX4 yX4_mergedBy wsX4_mergedBy) := goodIn_app (goodIn_of _ (by decide +kernel)) ggX4_held_X4_mergedBy
theorem dX4_held_0 : decode cX4_held 0 = .ok (.iload_n 1, 1) := by decide +kernel
theorem dX4_held_1 : decode cX4_held 1 = .ok (.invokestatic 129, 3) := by decide +kernel
theorem dX4_held_4 : decode cX4_held 4 = .ok (.ifCond .ne 5, 3) := by decide +kernel
theorem dX4_held_7 : decode cX4_held 7 = .ok (.iconst (-1), 1) := by decide +kernel
theorem dX4_held_8 : decode cX4_held 8 = .ok (.ireturn, 1) := by decide +kernel
theorem dX4_held_9 : decode cX4_held 9 = .ok (.aload_n 0, 1) := by decide +kernel
theorem dX4_held_10 : decode cX4_held 10 = .ok (.iload_n 1, 1) := by decide +kernel
theorem dX4_held_11 : decode cX4_held 11 = .ok (.invokevirtual 132, 3) := by decide +kernel
theorem dX4_held_14 : decode cX4_held 14 = .ok (.aload_n 0, 1) := by decide +kernel
theorem dX4_held_15 : decode cX4_held 15 = .ok (.getfield 37, 3) := by decide +kernel
theorem dX4_held_18 : decode cX4_held 18 = .ok (.ldc2_w 35, 3) := by decide +kernel
theorem dX4_held_21 : decode cX4_held 21 = .ok (.lxor, 1) := by decide +kernel
theorem dX4_held_22 : decode cX4_held 22 = .ok (.land, 1) := by decide +kernel
theorem dX4_held_23 : decode cX4_held 23 = .ok (.lconst 0, 1) := by decide +kernel
theorem dX4_held_24 : decode cX4_held 24 = .ok (.lcmp, 1) := by decide +kernel
theorem dX4_held_25 : decode cX4_held 25 = .ok (.ifCond .ne 7, 3) := by decide +kernel
theorem dX4_held_28 : decode cX4_held 28 = .ok (.iconst 1, 1) := by decide +kernel
theorem dX4_held_29 : decode cX4_held 29 = .ok (.goto 4, 3) := by decide +kernel
theorem dX4_held_32 : decode cX4_held 32 = .ok (.iconst 0, 1) := by decide +kernel
theorem dX4_held_33 : decode cX4_held 33 = .ok (.ireturn, 1) := by decide +kernel
set_option maxRecDepth 20000 in
theorem ggX4_changed_X4_isSayer : GoodIn wsX4_changed wsX4_isSayer := goodIn_r _ [9, 1, 23, 24, 25, 26, 27, 28, 29, 30, 31, 32, 33, 34, 35, 36, 37, 38] (by decide +kernel) (by decide +kernel)
set_option maxRecDepth 20000 in
theorem gX4_changed_X4_isSayer : GoodIn wsX4_changed (wsV RX4 104 RX4 yX4_isSayer wsX4_isSayer) := goodIn_app (goodIn_of _ (by decide +kernel)) ggX4_changed_X4_isSayer
set_option maxRecDepth 20000 in
theorem ggX4_changed_X4_least : GoodIn wsX4_changed wsX4_least := goodIn_r _ [12, 13, 14, 15, 8, 16] (by decide +kernel) (by decide +kernel)
set_option maxRecDepth 20000 in
theorem gX4_changed_X4_least : GoodIn wsX4_changed (va_wsS RX4 140 yX4_least wsX4_least) := goodIn_app (goodIn_of _ (by decide +kernel)) ggX4_changed_X4_least
set_option maxRecDepth 20000 in
theorem ggX4_changed_X4_goneAlong : GoodIn wsX4_changed wsX4_goneAlong := goodIn_r _ [20, 21, 22, 14, 15, 8, 16, 10, 11, 12, 13, 23, 24, 25, 26, 27, 28, 29, 30, 31, 32, 33, 39, 40, 41] (by decide +kernel) (by decide +kernel)
set_option maxRecDepth 20000 in
theorem gX4_changed_X4_goneAlong : GoodIn wsX4_changed (wsV RX4 144 RX4 yX4_goneAlong wsX4_goneAlong) := goodIn_app (goodIn_of _ (by decide +kernel)) ggX4_changed_X4_goneAlong
theorem dX4_changed_0 : decode cX4_changed 0 = .ok (.aload_n 0, 1) := by decide +kernel
theorem dX4_changed_1 : decode cX4_changed 1 = .ok (.iload_n 1, 1) := by decide +kernel
theorem dX4_changed_2 : decode cX4_changed 2 = .ok (.invokevirtual 104, 3) := by decide +kernel
theorem dX4_changed_5 : decode cX4_changed 5 = .ok (.ifCond .ne 5, 3) := by decide +kernel
theorem dX4_changed_8 : decode cX4_changed 8 = .ok (.lconst 0, 1) := by decide +kernel
theorem dX4_changed_9 : decode cX4_changed 9 = .ok (.lreturn, 1) := by decide +kernel
theorem dX4_changed_10 : decode cX4_changed 10 = .ok (.iload_n 2, 1) := by decide +kernel
theorem dX4_changed_11 : decode cX4_changed 11 = .ok (.tableswitch 117 0 2 #[25, 47, 73], 25) := by decide +kernel
theorem dX4_changed_36 : decode cX4_changed 36 = .ok (.aload_n 0, 1) := by decide +kernel
theorem dX4_changed_37 : decode cX4_changed 37 = .ok (.getfield 28, 3) := by decide +kernel
theorem dX4_changed_40 : decode cX4_changed 40 = .ok (.getfield 101, 3) := by decide +kernel
theorem dX4_changed_43 : decode cX4_changed 43 = .ok (.aload_n 0, 1) := by decide +kernel
theorem dX4_changed_44 : decode cX4_changed 44 = .ok (.getfield 37, 3) := by decide +kernel
theorem dX4_changed_47 : decode cX4_changed 47 = .ok (.land, 1) := by decide +kernel
theorem dX4_changed_48 : decode cX4_changed 48 = .ok (.aload_n 0, 1) := by decide +kernel
theorem dX4_changed_49 : decode cX4_changed 49 = .ok (.getfield 50, 3) := by decide +kernel
theorem dX4_changed_52 : decode cX4_changed 52 = .ok (.iload_n 1, 1) := by decide +kernel
theorem dX4_changed_53 : decode cX4_changed 53 = .ok (.aaload, 1) := by decide +kernel
theorem dX4_changed_54 : decode cX4_changed 54 = .ok (.invokestatic 140, 3) := by decide +kernel
theorem dX4_changed_57 : decode cX4_changed 57 = .ok (.lreturn, 1) := by decide +kernel
theorem dX4_changed_58 : decode cX4_changed 58 = .ok (.aload_n 0, 1) := by decide +kernel
theorem dX4_changed_59 : decode cX4_changed 59 = .ok (.aload_n 0, 1) := by decide +kernel
theorem dX4_changed_60 : decode cX4_changed 60 = .ok (.getfield 28, 3) := by decide +kernel
theorem dX4_changed_63 : decode cX4_changed 63 = .ok (.getfield 108, 3) := by decide +kernel
theorem dX4_changed_66 : decode cX4_changed 66 = .ok (.iload_n 1, 1) := by decide +kernel
theorem dX4_changed_67 : decode cX4_changed 67 = .ok (.laload, 1) := by decide +kernel
theorem dX4_changed_68 : decode cX4_changed 68 = .ok (.aload_n 0, 1) := by decide +kernel
theorem dX4_changed_69 : decode cX4_changed 69 = .ok (.getfield 28, 3) := by decide +kernel
theorem dX4_changed_72 : decode cX4_changed 72 = .ok (.getfield 101, 3) := by decide +kernel
theorem dX4_changed_75 : decode cX4_changed 75 = .ok (.aload_n 0, 1) := by decide +kernel
theorem dX4_changed_76 : decode cX4_changed 76 = .ok (.getfield 37, 3) := by decide +kernel
theorem dX4_changed_79 : decode cX4_changed 79 = .ok (.land, 1) := by decide +kernel
theorem dX4_changed_80 : decode cX4_changed 80 = .ok (.invokevirtual 144, 3) := by decide +kernel
theorem dX4_changed_83 : decode cX4_changed 83 = .ok (.lreturn, 1) := by decide +kernel
theorem dX4_changed_84 : decode cX4_changed 84 = .ok (.aload_n 0, 1) := by decide +kernel
theorem dX4_changed_85 : decode cX4_changed 85 = .ok (.getfield 28, 3) := by decide +kernel
theorem dX4_changed_88 : decode cX4_changed 88 = .ok (.getfield 101, 3) := by decide +kernel
theorem dX4_changed_91 : decode cX4_changed 91 = .ok (.aload_n 0, 1) := by decide +kernel
theorem dX4_changed_92 : decode cX4_changed 92 = .ok (.getfield 28, 3) := by decide +kernel
theorem dX4_changed_95 : decode cX4_changed 95 = .ok (.getfield 108, 3) := by decide +kernel
theorem dX4_changed_98 : decode cX4_changed 98 = .ok (.iload_n 1, 1) := by decide +kernel
theorem dX4_changed_99 : decode cX4_changed 99 = .ok (.laload, 1) := by decide +kernel
theorem dX4_changed_100 : decode cX4_changed 100 = .ok (.land, 1) := by decide +kernel
theorem dX4_changed_101 : decode cX4_changed 101 = .ok (.aload_n 0, 1) := by decide +kernel
theorem dX4_changed_102 : decode cX4_changed 102 = .ok (.getfield 28, 3) := by decide +kernel
theorem dX4_changed_105 : decode cX4_changed 105 = .ok (.getfield 101, 3) := by decide +kernel
theorem dX4_changed_108 : decode cX4_changed 108 = .ok (.aload_n 0, 1) := by decide +kernel
theorem dX4_changed_109 : decode cX4_changed 109 = .ok (.getfield 37, 3) := by decide +kernel
theorem dX4_changed_112 : decode cX4_changed 112 = .ok (.ldc2_w 35, 3) := by decide +kernel
theorem dX4_changed_115 : decode cX4_changed 115 = .ok (.lxor, 1) := by decide +kernel
theorem dX4_changed_116 : decode cX4_changed 116 = .ok (.land, 1) := by decide +kernel
theorem dX4_changed_117 : decode cX4_changed 117 = .ok (.aload_n 0, 1) := by decide +kernel
theorem dX4_changed_118 : decode cX4_changed 118 = .ok (.getfield 50, 3) := by decide +kernel
theorem dX4_changed_121 : decode cX4_changed 121 = .ok (.iload_n 1, 1) := by decide +kernel
theorem dX4_changed_122 : decode cX4_changed 122 = .ok (.aaload, 1) := by decide +kernel
theorem dX4_changed_123 : decode cX4_changed 123 = .ok (.invokestatic 140, 3) := by decide +kernel
theorem dX4_changed_126 : decode cX4_changed 126 = .ok (.lor, 1) := by decide +kernel
theorem dX4_changed_127 : decode cX4_changed 127 = .ok (.lreturn, 1) := by decide +kernel
theorem dX4_changed_128 : decode cX4_changed 128 = .ok (.lconst 0, 1) := by decide +kernel
theorem dX4_changed_129 : decode cX4_changed 129 = .ok (.lreturn, 1) := by decide +kernel
set_option maxRecDepth 20000 in
theorem ggX4_quarrels_X4_setsOfSayers : GoodIn wsX4_quarrels wsX4_setsOfSayers := goodIn_r _ [5, 6, 12, 13, 14, 15, 16, 17, 18, 19, 20, 21, 22, 23, 24, 25, 26, 27] (by decide +kernel) (by decide +kernel)
set_option maxRecDepth 20000 in
theorem gX4_quarrels_X4_setsOfSayers : GoodIn wsX4_quarrels (wsV RX4 148 RX4 yX4_setsOfSayers wsX4_setsOfSayers) := goodIn_app (goodIn_of _ (by decide +kernel)) ggX4_quarrels_X4_setsOfSayers
set_option maxRecDepth 20000 in
theorem ggX4_quarrels_X4_isQuarrel : GoodIn wsX4_quarrels wsX4_isQuarrel := goodIn_r _ [10, 11, 12, 13, 14, 15, 16, 17, 18, 19, 20, 21, 22] (by decide +kernel) (by decide +kernel)
set_option maxRecDepth 20000 in
theorem gX4_quarrels_X4_isQuarrel : GoodIn wsX4_quarrels (wsV RX4 152 RX4 yX4_isQuarrel wsX4_isQuarrel) := goodIn_app (goodIn_of _ (by decide +kernel)) ggX4_quarrels_X4_isQuarrel
theorem dX4_quarrels_0 : decode cX4_quarrels 0 = .ok (.iload_n 1, 1) := by decide +kernel
theorem dX4_quarrels_1 : decode cX4_quarrels 1 = .ok (.ifCond .lt 11, 3) := by decide +kernel
theorem dX4_quarrels_4 : decode cX4_quarrels 4 = .ok (.iload_n 1, 1) := by decide +kernel
theorem dX4_quarrels_5 : decode cX4_quarrels 5 = .ok (.aload_n 0, 1) := by decide +kernel
theorem dX4_quarrels_6 : decode cX4_quarrels 6 = .ok (.invokevirtual 148, 3) := by decide +kernel
theorem dX4_quarrels_9 : decode cX4_quarrels 9 = .ok (.if_icmp .lt 5, 3) := by decide +kernel
theorem dX4_quarrels_12 : decode cX4_quarrels 12 = .ok (.iconst (-1), 1) := by decide +kernel
theorem dX4_quarrels_13 : decode cX4_quarrels 13 = .ok (.ireturn, 1) := by decide +kernel
theorem dX4_quarrels_14 : decode cX4_quarrels 14 = .ok (.aload_n 0, 1) := by decide +kernel
theorem dX4_quarrels_15 : decode cX4_quarrels 15 = .ok (.iload_n 1, 1) := by decide +kernel
theorem dX4_quarrels_16 : decode cX4_quarrels 16 = .ok (.invokevirtual 152, 3) := by decide +kernel
theorem dX4_quarrels_19 : decode cX4_quarrels 19 = .ok (.ifCond .eq 7, 3) := by decide +kernel
theorem dX4_quarrels_22 : decode cX4_quarrels 22 = .ok (.iconst 1, 1) := by decide +kernel
theorem dX4_quarrels_23 : decode cX4_quarrels 23 = .ok (.goto 4, 3) := by decide +kernel
theorem dX4_quarrels_26 : decode cX4_quarrels 26 = .ok (.iconst 0, 1) := by decide +kernel
theorem dX4_quarrels_27 : decode cX4_quarrels 27 = .ok (.ireturn, 1) := by decide +kernel
set_option maxRecDepth 20000 in
theorem ggX4_sets_X4_setsOfSayers : GoodIn wsX4_sets wsX4_setsOfSayers := goodIn_r _ [6, 1, 31, 32, 33, 34, 35, 36, 37, 38, 39, 40, 41, 42, 43, 44, 45, 46] (by decide +kernel) (by decide +kernel)
set_option maxRecDepth 20000 in
theorem gX4_sets_X4_setsOfSayers : GoodIn wsX4_sets (wsV RX4 148 RX4 yX4_setsOfSayers wsX4_setsOfSayers) := goodIn_app (goodIn_of _ (by decide +kernel)) ggX4_sets_X4_setsOfSayers
set_option maxRecDepth 20000 in
theorem ggX4_sets_J6_bitCount_0f7a4 : GoodIn wsX4_sets wsJ6_bitCount_0f7a4 := goodIn_r _ [10, 11, 12, 13] (by decide +kernel) (by decide +kernel)
set_option maxRecDepth 20000 in
theorem gX4_sets_J6_bitCount_0f7a4 : GoodIn wsX4_sets (va_wsS RX4 155 yJ6_bitCount_0f7a4 wsJ6_bitCount_0f7a4) := goodIn_app (goodIn_of _ (by decide +kernel)) ggX4_sets_J6_bitCount_0f7a4
set_option maxRecDepth 20000 in
theorem ggX4_sets_X4_isListed : GoodIn wsX4_sets wsX4_isListed := goodIn_r _ [17, 18, 19, 20, 5, 21, 1, 22, 23, 24, 25, 26, 27, 28, 29, 30, 31, 32, 33, 34, 35, 36, 37, 38, 39, 40, 41, 42, 43, 44, 45, 46] (by decide +kernel) (by decide +kernel)
set_option maxRecDepth 20000 in
theorem gX4_sets_X4_isListed : GoodIn wsX4_sets (wsV RX4 161 RX4 yX4_isListed wsX4_isListed) := goodIn_app (goodIn_of _ (by decide +kernel)) ggX4_sets_X4_isListed
theorem dX4_sets_0 : decode cX4_sets 0 = .ok (.iload_n 1, 1) := by decide +kernel
theorem dX4_sets_1 : decode cX4_sets 1 = .ok (.ifCond .eq 8, 3) := by decide +kernel
theorem dX4_sets_4 : decode cX4_sets 4 = .ok (.iload_n 1, 1) := by decide +kernel
theorem dX4_sets_5 : decode cX4_sets 5 = .ok (.iconst 1, 1) := by decide +kernel
theorem dX4_sets_6 : decode cX4_sets 6 = .ok (.if_icmp .ne 8, 3) := by decide +kernel
theorem dX4_sets_9 : decode cX4_sets 9 = .ok (.iload_n 2, 1) := by decide +kernel
theorem dX4_sets_10 : decode cX4_sets 10 = .ok (.iconst (-1), 1) := by decide +kernel
theorem dX4_sets_11 : decode cX4_sets 11 = .ok (.if_icmp .ge 5, 3) := by decide +kernel
theorem dX4_sets_14 : decode cX4_sets 14 = .ok (.iconst (-1), 1) := by decide +kernel
theorem dX4_sets_15 : decode cX4_sets 15 = .ok (.ireturn, 1) := by decide +kernel
theorem dX4_sets_16 : decode cX4_sets 16 = .ok (.iconst 0, 1) := by decide +kernel
theorem dX4_sets_17 : decode cX4_sets 17 = .ok (.istore_n 3, 1) := by decide +kernel
theorem dX4_sets_18 : decode cX4_sets 18 = .ok (.iconst 0, 1) := by decide +kernel
theorem dX4_sets_19 : decode cX4_sets 19 = .ok (.istore 4, 2) := by decide +kernel
theorem dX4_sets_21 : decode cX4_sets 21 = .ok (.iload 4, 2) := by decide +kernel
theorem dX4_sets_23 : decode cX4_sets 23 = .ok (.aload_n 0, 1) := by decide +kernel
theorem dX4_sets_24 : decode cX4_sets 24 = .ok (.getfield 28, 3) := by decide +kernel
theorem dX4_sets_27 : decode cX4_sets 27 = .ok (.getfield 94, 3) := by decide +kernel
theorem dX4_sets_30 : decode cX4_sets 30 = .ok (.if_icmp .gt 79, 3) := by decide +kernel
theorem dX4_sets_33 : decode cX4_sets 33 = .ok (.iload_n 1, 1) := by decide +kernel
theorem dX4_sets_34 : decode cX4_sets 34 = .ok (.ifCond .ne 8, 3) := by decide +kernel
theorem dX4_sets_37 : decode cX4_sets 37 = .ok (.iload 4, 2) := by decide +kernel
theorem dX4_sets_39 : decode cX4_sets 39 = .ok (.goto 13, 3) := by decide +kernel
theorem dX4_sets_42 : decode cX4_sets 42 = .ok (.aload_n 0, 1) := by decide +kernel
theorem dX4_sets_43 : decode cX4_sets 43 = .ok (.getfield 28, 3) := by decide +kernel
theorem dX4_sets_46 : decode cX4_sets 46 = .ok (.getfield 94, 3) := by decide +kernel
theorem dX4_sets_49 : decode cX4_sets 49 = .ok (.iload 4, 2) := by decide +kernel
theorem dX4_sets_51 : decode cX4_sets 51 = .ok (.isub, 1) := by decide +kernel
theorem dX4_sets_52 : decode cX4_sets 52 = .ok (.istore 5, 2) := by decide +kernel
theorem dX4_sets_54 : decode cX4_sets 54 = .ok (.iconst 0, 1) := by decide +kernel
theorem dX4_sets_55 : decode cX4_sets 55 = .ok (.istore 6, 2) := by decide +kernel
theorem dX4_sets_57 : decode cX4_sets 57 = .ok (.iload 6, 2) := by decide +kernel
theorem dX4_sets_59 : decode cX4_sets 59 = .ok (.aload_n 0, 1) := by decide +kernel
theorem dX4_sets_60 : decode cX4_sets 60 = .ok (.invokevirtual 148, 3) := by decide +kernel
theorem dX4_sets_63 : decode cX4_sets 63 = .ok (.if_icmp .ge 40, 3) := by decide +kernel
theorem dX4_sets_66 : decode cX4_sets 66 = .ok (.iload 6, 2) := by decide +kernel
theorem dX4_sets_68 : decode cX4_sets 68 = .ok (.invokestatic 155, 3) := by decide +kernel
theorem dX4_sets_71 : decode cX4_sets 71 = .ok (.iload 5, 2) := by decide +kernel
theorem dX4_sets_73 : decode cX4_sets 73 = .ok (.if_icmp .ne 24, 3) := by decide +kernel
theorem dX4_sets_76 : decode cX4_sets 76 = .ok (.aload_n 0, 1) := by decide +kernel
theorem dX4_sets_77 : decode cX4_sets 77 = .ok (.iload_n 1, 1) := by decide +kernel
theorem dX4_sets_78 : decode cX4_sets 78 = .ok (.iload 6, 2) := by decide +kernel
theorem dX4_sets_80 : decode cX4_sets 80 = .ok (.invokevirtual 161, 3) := by decide +kernel
theorem dX4_sets_83 : decode cX4_sets 83 = .ok (.ifCond .eq 14, 3) := by decide +kernel
theorem dX4_sets_86 : decode cX4_sets 86 = .ok (.iload_n 3, 1) := by decide +kernel
theorem dX4_sets_87 : decode cX4_sets 87 = .ok (.iload_n 2, 1) := by decide +kernel
theorem dX4_sets_88 : decode cX4_sets 88 = .ok (.if_icmp .ne 6, 3) := by decide +kernel
theorem dX4_sets_91 : decode cX4_sets 91 = .ok (.iload 6, 2) := by decide +kernel
theorem dX4_sets_93 : decode cX4_sets 93 = .ok (.ireturn, 1) := by decide +kernel
theorem dX4_sets_94 : decode cX4_sets 94 = .ok (.iinc 3 1, 3) := by decide +kernel
theorem dX4_sets_97 : decode cX4_sets 97 = .ok (.iinc 6 1, 3) := by decide +kernel
theorem dX4_sets_100 : decode cX4_sets 100 = .ok (.goto (-43), 3) := by decide +kernel
theorem dX4_sets_103 : decode cX4_sets 103 = .ok (.iinc 4 1, 3) := by decide +kernel
theorem dX4_sets_106 : decode cX4_sets 106 = .ok (.goto (-85), 3) := by decide +kernel
theorem dX4_sets_109 : decode cX4_sets 109 = .ok (.iload_n 2, 1) := by decide +kernel
theorem dX4_sets_110 : decode cX4_sets 110 = .ok (.iconst (-1), 1) := by decide +kernel
theorem dX4_sets_111 : decode cX4_sets 111 = .ok (.if_icmp .ne 7, 3) := by decide +kernel
theorem dX4_sets_114 : decode cX4_sets 114 = .ok (.iload_n 3, 1) := by decide +kernel
theorem dX4_sets_115 : decode cX4_sets 115 = .ok (.goto 4, 3) := by decide +kernel
theorem dX4_sets_118 : decode cX4_sets 118 = .ok (.iconst (-1), 1) := by decide +kernel
theorem dX4_sets_119 : decode cX4_sets 119 = .ok (.ireturn, 1) := by decide +kernel
set_option maxRecDepth 20000 in
theorem ggX4_free_X4_setsOfSayers : GoodIn wsX4_free wsX4_setsOfSayers := goodIn_r _ [5, 6, 16, 17, 18, 19, 20, 21, 22, 23, 24, 25, 26, 27, 28, 29, 30, 31] (by decide +kernel) (by decide +kernel)
set_option maxRecDepth 20000 in
theorem gX4_free_X4_setsOfSayers : GoodIn wsX4_free (wsV RX4 148 RX4 yX4_setsOfSayers wsX4_setsOfSayers) := goodIn_app (goodIn_of _ (by decide +kernel)) ggX4_free_X4_setsOfSayers
set_option maxRecDepth 20000 in
theorem ggX4_free_X4_isLeastQuarrel : GoodIn wsX4_free wsX4_isLeastQuarrel := goodIn_r _ [10, 6, 11, 12, 13, 4, 14, 15, 16, 17, 18, 19, 20, 21, 22, 23, 24, 25, 26, 27, 28, 29, 30, 31] (by decide +kernel) (by decide +kernel)
set_option maxRecDepth 20000 in
theorem gX4_free_X4_isLeastQuarrel : GoodIn wsX4_free (wsV RX4 165 RX4 yX4_isLeastQuarrel wsX4_isLeastQuarrel) := goodIn_app (goodIn_of _ (by decide +kernel)) ggX4_free_X4_isLeastQuarrel
theorem dX4_free_0 : decode cX4_free 0 = .ok (.iconst 0, 1) := by decide +kernel
theorem dX4_free_1 : decode cX4_free 1 = .ok (.istore_n 1, 1) := by decide +kernel
theorem dX4_free_2 : decode cX4_free 2 = .ok (.iconst 0, 1) := by decide +kernel
theorem dX4_free_3 : decode cX4_free 3 = .ok (.istore_n 2, 1) := by decide +kernel
theorem dX4_free_4 : decode cX4_free 4 = .ok (.iload_n 2, 1) := by decide +kernel
theorem dX4_free_5 : decode cX4_free 5 = .ok (.aload_n 0, 1) := by decide +kernel
theorem dX4_free_6 : decode cX4_free 6 = .ok (.invokevirtual 148, 3) := by decide +kernel
theorem dX4_free_9 : decode cX4_free 9 = .ok (.if_icmp .ge 21, 3) := by decide +kernel
theorem dX4_free_12 : decode cX4_free 12 = .ok (.aload_n 0, 1) := by decide +kernel
theorem dX4_free_13 : decode cX4_free 13 = .ok (.iload_n 2, 1) := by decide +kernel
theorem dX4_free_14 : decode cX4_free 14 = .ok (.invokevirtual 165, 3) := by decide +kernel
theorem dX4_free_17 : decode cX4_free 17 = .ok (.ifCond .eq 7, 3) := by decide +kernel
theorem dX4_free_20 : decode cX4_free 20 = .ok (.iload_n 1, 1) := by decide +kernel
theorem dX4_free_21 : decode cX4_free 21 = .ok (.iload_n 2, 1) := by decide +kernel
theorem dX4_free_22 : decode cX4_free 22 = .ok (.ior, 1) := by decide +kernel
theorem dX4_free_23 : decode cX4_free 23 = .ok (.istore_n 1, 1) := by decide +kernel
theorem dX4_free_24 : decode cX4_free 24 = .ok (.iinc 2 1, 3) := by decide +kernel
theorem dX4_free_27 : decode cX4_free 27 = .ok (.goto (-23), 3) := by decide +kernel
theorem dX4_free_30 : decode cX4_free 30 = .ok (.aload_n 0, 1) := by decide +kernel
theorem dX4_free_31 : decode cX4_free 31 = .ok (.invokevirtual 148, 3) := by decide +kernel
theorem dX4_free_34 : decode cX4_free 34 = .ok (.iconst 1, 1) := by decide +kernel
theorem dX4_free_35 : decode cX4_free 35 = .ok (.isub, 1) := by decide +kernel
theorem dX4_free_36 : decode cX4_free 36 = .ok (.iload_n 1, 1) := by decide +kernel
theorem dX4_free_37 : decode cX4_free 37 = .ok (.iconst (-1), 1) := by decide +kernel
theorem dX4_free_38 : decode cX4_free 38 = .ok (.ixor, 1) := by decide +kernel
theorem dX4_free_39 : decode cX4_free 39 = .ok (.iand, 1) := by decide +kernel
theorem dX4_free_40 : decode cX4_free 40 = .ok (.ireturn, 1) := by decide +kernel
set_option maxRecDepth 20000 in
theorem ggX4_share_X4_isSayer : GoodIn wsX4_share wsX4_isSayer := goodIn_r _ [7, 2, 31, 32, 33, 34, 35, 36, 37, 38, 39, 40, 41, 42, 43, 44, 45, 46] (by decide +kernel) (by decide +kernel)
set_option maxRecDepth 20000 in
theorem gX4_share_X4_isSayer : GoodIn wsX4_share (wsV RX4 104 RX4 yX4_isSayer wsX4_isSayer) := goodIn_app (goodIn_of _ (by decide +kernel)) ggX4_share_X4_isSayer
set_option maxRecDepth 20000 in
theorem ggX4_share_X4_ordersTurnedBy : GoodIn wsX4_share wsX4_ordersTurnedBy := goodIn_r _ [11, 1, 2, 12, 13, 14, 6, 15, 16, 17, 18, 19, 20, 21, 22, 23, 24, 25, 26, 27, 31, 32, 33, 34, 35, 36, 37, 38, 39, 40, 41, 42, 43, 44, 45, 46] (by decide +kernel) (by decide +kernel)
set_option maxRecDepth 20000 in
theorem gX4_share_X4_ordersTurnedBy : GoodIn wsX4_share (wsV RX4 168 RX4 yX4_ordersTurnedBy wsX4_ordersTurnedBy) := goodIn_app (goodIn_of _ (by decide +kernel)) ggX4_share_X4_ordersTurnedBy
set_option maxRecDepth 20000 in
theorem ggX4_share_X4_commonDivisor : GoodIn wsX4_share wsX4_commonDivisor := goodIn_r _ [30] (by decide +kernel) (by decide +kernel)
set_option maxRecDepth 20000 in
theorem gX4_share_X4_commonDivisor : GoodIn wsX4_share (va_wsS RX4 174 yX4_commonDivisor wsX4_commonDivisor) := goodIn_app (goodIn_of _ (by decide +kernel)) ggX4_share_X4_commonDivisor
theorem dX4_share_0 : decode cX4_share 0 = .ok (.aload_n 0, 1) := by decide +kernel
theorem dX4_share_1 : decode cX4_share 1 = .ok (.iload_n 1, 1) := by decide +kernel
theorem dX4_share_2 : decode cX4_share 2 = .ok (.invokevirtual 104, 3) := by decide +kernel
theorem dX4_share_5 : decode cX4_share 5 = .ok (.ifCond .eq 12, 3) := by decide +kernel
theorem dX4_share_8 : decode cX4_share 8 = .ok (.iload_n 2, 1) := by decide +kernel
theorem dX4_share_9 : decode cX4_share 9 = .ok (.ifCond .eq 10, 3) := by decide +kernel
theorem dX4_share_12 : decode cX4_share 12 = .ok (.iload_n 2, 1) := by decide +kernel
theorem dX4_share_13 : decode cX4_share 13 = .ok (.iconst 1, 1) := by decide +kernel
theorem dX4_share_14 : decode cX4_share 14 = .ok (.if_icmp .eq 5, 3) := by decide +kernel
theorem dX4_share_17 : decode cX4_share 17 = .ok (.iconst (-1), 1) := by decide +kernel
theorem dX4_share_18 : decode cX4_share 18 = .ok (.ireturn, 1) := by decide +kernel
theorem dX4_share_19 : decode cX4_share 19 = .ok (.aload_n 0, 1) := by decide +kernel
theorem dX4_share_20 : decode cX4_share 20 = .ok (.iload_n 1, 1) := by decide +kernel
theorem dX4_share_21 : decode cX4_share 21 = .ok (.invokevirtual 168, 3) := by decide +kernel
theorem dX4_share_24 : decode cX4_share 24 = .ok (.istore_n 3, 1) := by decide +kernel
theorem dX4_share_25 : decode cX4_share 25 = .ok (.getstatic 171, 3) := by decide +kernel
theorem dX4_share_28 : decode cX4_share 28 = .ok (.aload_n 0, 1) := by decide +kernel
theorem dX4_share_29 : decode cX4_share 29 = .ok (.getfield 28, 3) := by decide +kernel
theorem dX4_share_32 : decode cX4_share 32 = .ok (.getfield 94, 3) := by decide +kernel
theorem dX4_share_35 : decode cX4_share 35 = .ok (.iaload, 1) := by decide +kernel
theorem dX4_share_36 : decode cX4_share 36 = .ok (.istore 4, 2) := by decide +kernel
theorem dX4_share_38 : decode cX4_share 38 = .ok (.iload_n 3, 1) := by decide +kernel
theorem dX4_share_39 : decode cX4_share 39 = .ok (.iload 4, 2) := by decide +kernel
theorem dX4_share_41 : decode cX4_share 41 = .ok (.invokestatic 174, 3) := by decide +kernel
theorem dX4_share_44 : decode cX4_share 44 = .ok (.istore 5, 2) := by decide +kernel
theorem dX4_share_46 : decode cX4_share 46 = .ok (.iload 5, 2) := by decide +kernel
theorem dX4_share_48 : decode cX4_share 48 = .ok (.iconst 1, 1) := by decide +kernel
theorem dX4_share_49 : decode cX4_share 49 = .ok (.if_icmp .ge 5, 3) := by decide +kernel
theorem dX4_share_52 : decode cX4_share 52 = .ok (.iconst (-1), 1) := by decide +kernel
theorem dX4_share_53 : decode cX4_share 53 = .ok (.ireturn, 1) := by decide +kernel
theorem dX4_share_54 : decode cX4_share 54 = .ok (.iload_n 2, 1) := by decide +kernel
theorem dX4_share_55 : decode cX4_share 55 = .ok (.ifCond .ne 7, 3) := by decide +kernel
theorem dX4_share_58 : decode cX4_share 58 = .ok (.iload_n 3, 1) := by decide +kernel
theorem dX4_share_59 : decode cX4_share 59 = .ok (.goto 5, 3) := by decide +kernel
theorem dX4_share_62 : decode cX4_share 62 = .ok (.iload 4, 2) := by decide +kernel
theorem dX4_share_64 : decode cX4_share 64 = .ok (.iload 5, 2) := by decide +kernel
theorem dX4_share_66 : decode cX4_share 66 = .ok (.idiv, 1) := by decide +kernel
theorem dX4_share_67 : decode cX4_share 67 = .ok (.ireturn, 1) := by decide +kernel
set_option maxRecDepth 20000 in
theorem ggX4_lie_X4_isSayer : GoodIn wsX4_lie wsX4_isSayer := goodIn_r _ [5, 6, 56, 57, 58, 59, 60, 61, 62, 63, 64, 65, 66, 67, 68, 69, 70, 71] (by decide +kernel) (by decide +kernel)
set_option maxRecDepth 20000 in
theorem gX4_lie_X4_isSayer : GoodIn wsX4_lie (wsV RX4 104 RX4 yX4_isSayer wsX4_isSayer) := goodIn_app (goodIn_of _ (by decide +kernel)) ggX4_lie_X4_isSayer
set_option maxRecDepth 20000 in
theorem ggX4_lie_X4_isWay : GoodIn wsX4_lie wsX4_isWay := goodIn_r _ [9] (by decide +kernel) (by decide +kernel)
set_option maxRecDepth 20000 in
theorem gX4_lie_X4_isWay : GoodIn wsX4_lie (va_wsS RX4 129 yX4_isWay wsX4_isWay) := goodIn_app (goodIn_of _ (by decide +kernel)) ggX4_lie_X4_isWay
set_option maxRecDepth 20000 in
theorem ggX4_lie_X4_mergedBy : GoodIn wsX4_lie wsX4_mergedBy := goodIn_r _ [13, 14, 6, 15, 16, 17, 4, 18, 19, 20, 21, 22, 23, 24, 25, 26, 27, 28, 29, 30, 31, 32, 33, 34, 35, 36, 37, 38, 39, 40, 41, 56, 57, 58, 59, 60, 61, 62, 63, 64, 65, 66, 67, 68, 69, 70, 71] (by decide +kernel) (by decide +kernel)
set_option maxRecDepth 20000 in
theorem gX4_lie_X4_mergedBy : GoodIn wsX4_lie (wsV RX4 132 RX4 yX4_mergedBy wsX4_mergedBy) := goodIn_app (goodIn_of _ (by decide +kernel)) ggX4_lie_X4_mergedBy
set_option maxRecDepth 20000 in
theorem ggX4_lie_X4_lossOf : GoodIn wsX4_lie wsX4_lossOf := goodIn_r _ [45, 23, 27, 28, 29, 30, 39, 40, 4, 41, 56, 57, 58, 59, 60, 61, 62, 63, 64, 65, 66] (by decide +kernel) (by decide +kernel)
set_option maxRecDepth 20000 in
theorem gX4_lie_X4_lossOf : GoodIn wsX4_lie (wsV RX4 178 RX4 yX4_lossOf wsX4_lossOf) := goodIn_app (goodIn_of _ (by decide +kernel)) ggX4_lie_X4_lossOf
set_option maxRecDepth 20000 in
theorem ggX4_lie_X4_bestLie : GoodIn wsX4_lie wsX4_bestLie := goodIn_r _ [49, 50, 6, 15, 16, 17, 4, 18, 19, 20, 21, 22, 23, 24, 25, 26, 27, 28, 29, 30, 31, 32, 33, 34, 51, 52, 53, 54, 14, 55, 35, 36, 37, 38, 39, 40, 41, 42, 43, 44, 45, 56, 57, 58, 59, 60, 61, 62, 63, 64, 65, 66, 67, 68, 69, 70, 71, 72, 73, 74] (by decide +kernel) (by decide +kernel)
set_option maxRecDepth 20000 in
theorem gX4_lie_X4_bestLie : GoodIn wsX4_lie (wsV RX4 182 RX4 yX4_bestLie wsX4_bestLie) := goodIn_app (goodIn_of _ (by decide +kernel)) ggX4_lie_X4_bestLie
theorem dX4_lie_0 : decode cX4_lie 0 = .ok (.aload_n 0, 1) := by decide +kernel
theorem dX4_lie_1 : decode cX4_lie 1 = .ok (.iload_n 1, 1) := by decide +kernel
theorem dX4_lie_2 : decode cX4_lie 2 = .ok (.invokevirtual 104, 3) := by decide +kernel
theorem dX4_lie_5 : decode cX4_lie 5 = .ok (.ifCond .eq 19, 3) := by decide +kernel
theorem dX4_lie_8 : decode cX4_lie 8 = .ok (.iload_n 2, 1) := by decide +kernel
theorem dX4_lie_9 : decode cX4_lie 9 = .ok (.invokestatic 129, 3) := by decide +kernel
theorem dX4_lie_12 : decode cX4_lie 12 = .ok (.ifCond .eq 12, 3) := by decide +kernel
theorem dX4_lie_15 : decode cX4_lie 15 = .ok (.iload_n 3, 1) := by decide +kernel
theorem dX4_lie_16 : decode cX4_lie 16 = .ok (.ifCond .lt 8, 3) := by decide +kernel
theorem dX4_lie_19 : decode cX4_lie 19 = .ok (.iload_n 3, 1) := by decide +kernel
theorem dX4_lie_20 : decode cX4_lie 20 = .ok (.iconst 2, 1) := by decide +kernel
theorem dX4_lie_21 : decode cX4_lie 21 = .ok (.if_icmp .le 5, 3) := by decide +kernel
theorem dX4_lie_24 : decode cX4_lie 24 = .ok (.iconst (-1), 1) := by decide +kernel
theorem dX4_lie_25 : decode cX4_lie 25 = .ok (.ireturn, 1) := by decide +kernel
theorem dX4_lie_26 : decode cX4_lie 26 = .ok (.aload_n 0, 1) := by decide +kernel
theorem dX4_lie_27 : decode cX4_lie 27 = .ok (.iload_n 1, 1) := by decide +kernel
theorem dX4_lie_28 : decode cX4_lie 28 = .ok (.aload_n 0, 1) := by decide +kernel
theorem dX4_lie_29 : decode cX4_lie 29 = .ok (.iload_n 2, 1) := by decide +kernel
theorem dX4_lie_30 : decode cX4_lie 30 = .ok (.invokevirtual 132, 3) := by decide +kernel
theorem dX4_lie_33 : decode cX4_lie 33 = .ok (.invokevirtual 178, 3) := by decide +kernel
theorem dX4_lie_36 : decode cX4_lie 36 = .ok (.lstore 4, 2) := by decide +kernel
theorem dX4_lie_38 : decode cX4_lie 38 = .ok (.iload_n 3, 1) := by decide +kernel
theorem dX4_lie_39 : decode cX4_lie 39 = .ok (.iconst 2, 1) := by decide +kernel
theorem dX4_lie_40 : decode cX4_lie 40 = .ok (.if_icmp .ne 7, 3) := by decide +kernel
theorem dX4_lie_43 : decode cX4_lie 43 = .ok (.lload 4, 2) := by decide +kernel
theorem dX4_lie_45 : decode cX4_lie 45 = .ok (.l2i, 1) := by decide +kernel
theorem dX4_lie_46 : decode cX4_lie 46 = .ok (.ireturn, 1) := by decide +kernel
theorem dX4_lie_47 : decode cX4_lie 47 = .ok (.aload_n 0, 1) := by decide +kernel
theorem dX4_lie_48 : decode cX4_lie 48 = .ok (.iload_n 1, 1) := by decide +kernel
theorem dX4_lie_49 : decode cX4_lie 49 = .ok (.iload_n 2, 1) := by decide +kernel
theorem dX4_lie_50 : decode cX4_lie 50 = .ok (.lload 4, 2) := by decide +kernel
theorem dX4_lie_52 : decode cX4_lie 52 = .ok (.iload_n 3, 1) := by decide +kernel
theorem dX4_lie_53 : decode cX4_lie 53 = .ok (.iconst 1, 1) := by decide +kernel
theorem dX4_lie_54 : decode cX4_lie 54 = .ok (.if_icmp .ne 7, 3) := by decide +kernel
theorem dX4_lie_57 : decode cX4_lie 57 = .ok (.iconst 1, 1) := by decide +kernel
theorem dX4_lie_58 : decode cX4_lie 58 = .ok (.goto 4, 3) := by decide +kernel
theorem dX4_lie_61 : decode cX4_lie 61 = .ok (.iconst 0, 1) := by decide +kernel
theorem dX4_lie_62 : decode cX4_lie 62 = .ok (.invokevirtual 182, 3) := by decide +kernel
theorem dX4_lie_65 : decode cX4_lie 65 = .ok (.ireturn, 1) := by decide +kernel
set_option maxRecDepth 20000 in
theorem ggX4_worth_X4_isSayer : GoodIn wsX4_worth wsX4_isSayer := goodIn_r _ [5, 6, 73, 74, 75, 76, 77, 78, 79, 80, 81, 82, 83, 84, 85, 86, 87, 88] (by decide +kernel) (by decide +kernel)
set_option maxRecDepth 20000 in
theorem gX4_worth_X4_isSayer : GoodIn wsX4_worth (wsV RX4 104 RX4 yX4_isSayer wsX4_isSayer) := goodIn_app (goodIn_of _ (by decide +kernel)) ggX4_worth_X4_isSayer
set_option maxRecDepth 20000 in
theorem ggX4_worth_X4_sayerWorth : GoodIn wsX4_worth wsX4_sayerWorth := goodIn_r _ [10, 11, 6, 12, 13, 14, 15, 16, 17, 18, 73, 74, 75, 76, 77, 78, 79, 80, 81, 82, 83, 84, 85, 86, 87, 88] (by decide +kernel) (by decide +kernel)
set_option maxRecDepth 20000 in
theorem gX4_worth_X4_sayerWorth : GoodIn wsX4_worth (wsV RX4 186 RX4 yX4_sayerWorth wsX4_sayerWorth) := goodIn_app (goodIn_of _ (by decide +kernel)) ggX4_worth_X4_sayerWorth
set_option maxRecDepth 20000 in
theorem ggX4_worth_X4_weightyWorth : GoodIn wsX4_worth wsX4_weightyWorth := goodIn_r _ [22, 11, 23, 6, 7, 8, 9, 4, 10, 12, 13, 14, 15, 16, 17, 18, 73, 74, 75, 76, 77, 78, 79, 80, 81, 82, 83, 84, 85, 86, 87, 88] (by decide +kernel) (by decide +kernel)
set_option maxRecDepth 20000 in
theorem gX4_worth_X4_weightyWorth : GoodIn wsX4_worth (wsV RX4 189 RX4 yX4_weightyWorth wsX4_weightyWorth) := goodIn_app (goodIn_of _ (by decide +kernel)) ggX4_worth_X4_weightyWorth
set_option maxRecDepth 20000 in
theorem ggX4_worth_X4_loneWorth : GoodIn wsX4_worth wsX4_loneWorth := goodIn_r _ [27, 11, 28, 6, 7, 8, 9, 4, 10, 12, 13, 14, 15, 16, 17, 18, 29, 30, 31, 32, 33, 34, 35, 73, 74, 75, 76, 77, 78, 79, 80, 81, 82, 83, 84, 85, 86, 87, 88] (by decide +kernel) (by decide +kernel)
set_option maxRecDepth 20000 in
theorem gX4_worth_X4_loneWorth : GoodIn wsX4_worth (wsV RX4 192 RX4 yX4_loneWorth wsX4_loneWorth) := goodIn_app (goodIn_of _ (by decide +kernel)) ggX4_worth_X4_loneWorth
set_option maxRecDepth 20000 in
theorem ggX4_worth_X4_firmWorth : GoodIn wsX4_worth wsX4_firmWorth := goodIn_r _ [39, 11, 40, 19, 20, 21, 4, 22, 23, 6, 7, 8, 9, 10, 12, 13, 14, 15, 16, 17, 18, 41, 42, 43, 44, 45, 46, 47, 48, 49, 50, 51, 52, 53, 54, 55, 56, 57, 58, 59, 60, 61, 62, 63, 64, 65, 66, 67, 68, 69, 70, 71, 72, 73, 74, 75, 76, 77, 78, 79, 80, 81, 82, 83, 84, 85, 86, 87, 88] (by decide +kernel) (by decide +kernel)
set_option maxRecDepth 20000 in
theorem gX4_worth_X4_firmWorth : GoodIn wsX4_worth (wsV RX4 195 RX4 yX4_firmWorth wsX4_firmWorth) := goodIn_app (goodIn_of _ (by decide +kernel)) ggX4_worth_X4_firmWorth
theorem dX4_worth_0 : decode cX4_worth 0 = .ok (.aload_n 0, 1) := by decide +kernel
theorem dX4_worth_1 : decode cX4_worth 1 = .ok (.iload_n 2, 1) := by decide +kernel
theorem dX4_worth_2 : decode cX4_worth 2 = .ok (.invokevirtual 104, 3) := by decide +kernel
theorem dX4_worth_5 : decode cX4_worth 5 = .ok (.ifCond .ne 5, 3) := by decide +kernel
theorem dX4_worth_8 : decode cX4_worth 8 = .ok (.iconst (-1), 1) := by decide +kernel
theorem dX4_worth_9 : decode cX4_worth 9 = .ok (.ireturn, 1) := by decide +kernel
theorem dX4_worth_10 : decode cX4_worth 10 = .ok (.iload_n 1, 1) := by decide +kernel
theorem dX4_worth_11 : decode cX4_worth 11 = .ok (.tableswitch 53 0 3 #[29, 35, 41, 47], 29) := by decide +kernel
theorem dX4_worth_40 : decode cX4_worth 40 = .ok (.aload_n 0, 1) := by decide +kernel
theorem dX4_worth_41 : decode cX4_worth 41 = .ok (.iload_n 2, 1) := by decide +kernel
theorem dX4_worth_42 : decode cX4_worth 42 = .ok (.invokevirtual 186, 3) := by decide +kernel
theorem dX4_worth_45 : decode cX4_worth 45 = .ok (.ireturn, 1) := by decide +kernel
theorem dX4_worth_46 : decode cX4_worth 46 = .ok (.aload_n 0, 1) := by decide +kernel
theorem dX4_worth_47 : decode cX4_worth 47 = .ok (.iload_n 2, 1) := by decide +kernel
theorem dX4_worth_48 : decode cX4_worth 48 = .ok (.invokevirtual 189, 3) := by decide +kernel
theorem dX4_worth_51 : decode cX4_worth 51 = .ok (.ireturn, 1) := by decide +kernel
theorem dX4_worth_52 : decode cX4_worth 52 = .ok (.aload_n 0, 1) := by decide +kernel
theorem dX4_worth_53 : decode cX4_worth 53 = .ok (.iload_n 2, 1) := by decide +kernel
theorem dX4_worth_54 : decode cX4_worth 54 = .ok (.invokevirtual 192, 3) := by decide +kernel
theorem dX4_worth_57 : decode cX4_worth 57 = .ok (.ireturn, 1) := by decide +kernel
theorem dX4_worth_58 : decode cX4_worth 58 = .ok (.aload_n 0, 1) := by decide +kernel
theorem dX4_worth_59 : decode cX4_worth 59 = .ok (.iload_n 2, 1) := by decide +kernel
theorem dX4_worth_60 : decode cX4_worth 60 = .ok (.invokevirtual 195, 3) := by decide +kernel
theorem dX4_worth_63 : decode cX4_worth 63 = .ok (.ireturn, 1) := by decide +kernel
theorem dX4_worth_64 : decode cX4_worth 64 = .ok (.iconst (-1), 1) := by decide +kernel
theorem dX4_worth_65 : decode cX4_worth 65 = .ok (.ireturn, 1) := by decide +kernel
set_option maxRecDepth 20000 in
theorem ggX4_count_X3_allWeights : GoodIn wsX4_count wsX3_allWeights := goodIn_r _ [7, 8, 9, 28, 29, 30, 31, 32] (by decide +kernel) (by decide +kernel)
set_option maxRecDepth 20000 in
theorem gX4_count_X3_allWeights : GoodIn wsX4_count (wsV RX4 198 RX3 yX3_allWeights wsX3_allWeights) := goodIn_app (goodIn_of _ (by decide +kernel)) ggX4_count_X3_allWeights
set_option maxRecDepth 20000 in
theorem ggX4_count_J13_bitCount_95d88 : GoodIn wsX4_count wsJ13_bitCount_95d88 := goodIn_r _ [13, 14, 15, 16] (by decide +kernel) (by decide +kernel)
set_option maxRecDepth 20000 in
theorem gX4_count_J13_bitCount_95d88 : GoodIn wsX4_count (va_wsS RX4 201 yJ13_bitCount_95d88 wsJ13_bitCount_95d88) := goodIn_app (goodIn_of _ (by decide +kernel)) ggX4_count_J13_bitCount_95d88
theorem dX4_count_0 : decode cX4_count 0 = .ok (.iload_n 1, 1) := by decide +kernel
theorem dX4_count_1 : decode cX4_count 1 = .ok (.tableswitch 78 0 4 #[35, 43, 51, 59, 67], 35) := by decide +kernel
theorem dX4_count_36 : decode cX4_count 36 = .ok (.aload_n 0, 1) := by decide +kernel
theorem dX4_count_37 : decode cX4_count 37 = .ok (.getfield 28, 3) := by decide +kernel
theorem dX4_count_40 : decode cX4_count 40 = .ok (.getfield 91, 3) := by decide +kernel
theorem dX4_count_43 : decode cX4_count 43 = .ok (.ireturn, 1) := by decide +kernel
theorem dX4_count_44 : decode cX4_count 44 = .ok (.aload_n 0, 1) := by decide +kernel
theorem dX4_count_45 : decode cX4_count 45 = .ok (.getfield 28, 3) := by decide +kernel
theorem dX4_count_48 : decode cX4_count 48 = .ok (.getfield 94, 3) := by decide +kernel
theorem dX4_count_51 : decode cX4_count 51 = .ok (.ireturn, 1) := by decide +kernel
theorem dX4_count_52 : decode cX4_count 52 = .ok (.aload_n 0, 1) := by decide +kernel
theorem dX4_count_53 : decode cX4_count 53 = .ok (.getfield 12, 3) := by decide +kernel
theorem dX4_count_56 : decode cX4_count 56 = .ok (.getfield 66, 3) := by decide +kernel
theorem dX4_count_59 : decode cX4_count 59 = .ok (.ireturn, 1) := by decide +kernel
theorem dX4_count_60 : decode cX4_count 60 = .ok (.aload_n 0, 1) := by decide +kernel
theorem dX4_count_61 : decode cX4_count 61 = .ok (.getfield 28, 3) := by decide +kernel
theorem dX4_count_64 : decode cX4_count 64 = .ok (.invokevirtual 198, 3) := by decide +kernel
theorem dX4_count_67 : decode cX4_count 67 = .ok (.ireturn, 1) := by decide +kernel
theorem dX4_count_68 : decode cX4_count 68 = .ok (.aload_n 0, 1) := by decide +kernel
theorem dX4_count_69 : decode cX4_count 69 = .ok (.getfield 28, 3) := by decide +kernel
theorem dX4_count_72 : decode cX4_count 72 = .ok (.getfield 101, 3) := by decide +kernel
theorem dX4_count_75 : decode cX4_count 75 = .ok (.invokestatic 201, 3) := by decide +kernel
theorem dX4_count_78 : decode cX4_count 78 = .ok (.ireturn, 1) := by decide +kernel
theorem dX4_count_79 : decode cX4_count 79 = .ok (.iconst (-1), 1) := by decide +kernel
theorem dX4_count_80 : decode cX4_count 80 = .ok (.ireturn, 1) := by decide +kernel
theorem dX4_trace_0 : decode cX4_trace 0 = .ok (.aload_n 0, 1) := by decide +kernel
theorem dX4_trace_1 : decode cX4_trace 1 = .ok (.getfield 63, 3) := by decide +kernel
theorem dX4_trace_4 : decode cX4_trace 4 = .ok (.lreturn, 1) := by decide +kernel
theorem dX4_isSayer_0 : decode cX4_isSayer 0 = .ok (.iload_n 1, 1) := by decide +kernel
theorem dX4_isSayer_1 : decode cX4_isSayer 1 = .ok (.ifCond .lt 18, 3) := by decide +kernel
theorem dX4_isSayer_4 : decode cX4_isSayer 4 = .ok (.iload_n 1, 1) := by decide +kernel
theorem dX4_isSayer_5 : decode cX4_isSayer 5 = .ok (.aload_n 0, 1) := by decide +kernel
theorem dX4_isSayer_6 : decode cX4_isSayer 6 = .ok (.getfield 28, 3) := by decide +kernel
theorem dX4_isSayer_9 : decode cX4_isSayer 9 = .ok (.getfield 94, 3) := by decide +kernel
theorem dX4_isSayer_12 : decode cX4_isSayer 12 = .ok (.if_icmp .ge 7, 3) := by decide +kernel
theorem dX4_isSayer_15 : decode cX4_isSayer 15 = .ok (.iconst 1, 1) := by decide +kernel
theorem dX4_isSayer_16 : decode cX4_isSayer 16 = .ok (.goto 4, 3) := by decide +kernel
theorem dX4_isSayer_19 : decode cX4_isSayer 19 = .ok (.iconst 0, 1) := by decide +kernel
theorem dX4_isSayer_20 : decode cX4_isSayer 20 = .ok (.ireturn, 1) := by decide +kernel
theorem dX4_isWorld_0 : decode cX4_isWorld 0 = .ok (.iload_n 0, 1) := by decide +kernel
theorem dX4_isWorld_1 : decode cX4_isWorld 1 = .ok (.ifCond .lt 13, 3) := by decide +kernel
theorem dX4_isWorld_4 : decode cX4_isWorld 4 = .ok (.iload_n 0, 1) := by decide +kernel
theorem dX4_isWorld_5 : decode cX4_isWorld 5 = .ok (.bipush 64, 2) := by decide +kernel
theorem dX4_isWorld_7 : decode cX4_isWorld 7 = .ok (.if_icmp .ge 7, 3) := by decide +kernel
theorem dX4_isWorld_10 : decode cX4_isWorld 10 = .ok (.iconst 1, 1) := by decide +kernel
theorem dX4_isWorld_11 : decode cX4_isWorld 11 = .ok (.goto 4, 3) := by decide +kernel
theorem dX4_isWorld_14 : decode cX4_isWorld 14 = .ok (.iconst 0, 1) := by decide +kernel
theorem dX4_isWorld_15 : decode cX4_isWorld 15 = .ok (.ireturn, 1) := by decide +kernel
theorem dX4_isWay_0 : decode cX4_isWay 0 = .ok (.iload_n 0, 1) := by decide +kernel
theorem dX4_isWay_1 : decode cX4_isWay 1 = .ok (.ifCond .lt 12, 3) := by decide +kernel
theorem dX4_isWay_4 : decode cX4_isWay 4 = .ok (.iload_n 0, 1) := by decide +kernel
theorem dX4_isWay_5 : decode cX4_isWay 5 = .ok (.iconst 2, 1) := by decide +kernel
theorem dX4_isWay_6 : decode cX4_isWay 6 = .ok (.if_icmp .gt 7, 3) := by decide +kernel
theorem dX4_isWay_9 : decode cX4_isWay 9 = .ok (.iconst 1, 1) := by decide +kernel
theorem dX4_isWay_10 : decode cX4_isWay 10 = .ok (.goto 4, 3) := by decide +kernel
theorem dX4_isWay_13 : decode cX4_isWay 13 = .ok (.iconst 0, 1) := by decide +kernel
theorem dX4_isWay_14 : decode cX4_isWay 14 = .ok (.ireturn, 1) := by decide +kernel
theorem dX4_isLetter_0 : decode cX4_isLetter 0 = .ok (.iload_n 0, 1) := by decide +kernel
theorem dX4_isLetter_1 : decode cX4_isLetter 1 = .ok (.bipush 97, 2) := by decide +kernel
theorem dX4_isLetter_3 : decode cX4_isLetter 3 = .ok (.if_icmp .lt 13, 3) := by decide +kernel
theorem dX4_isLetter_6 : decode cX4_isLetter 6 = .ok (.iload_n 0, 1) := by decide +kernel
theorem dX4_isLetter_7 : decode cX4_isLetter 7 = .ok (.bipush 103, 2) := by decide +kernel
theorem dX4_isLetter_9 : decode cX4_isLetter 9 = .ok (.if_icmp .ge 7, 3) := by decide +kernel
theorem dX4_isLetter_12 : decode cX4_isLetter 12 = .ok (.iconst 1, 1) := by decide +kernel
theorem dX4_isLetter_13 : decode cX4_isLetter 13 = .ok (.goto 4, 3) := by decide +kernel
theorem dX4_isLetter_16 : decode cX4_isLetter 16 = .ok (.iconst 0, 1) := by decide +kernel
theorem dX4_isLetter_17 : decode cX4_isLetter 17 = .ok (.ireturn, 1) := by decide +kernel
set_option maxRecDepth 20000 in
theorem ggX4_findFars_X0_findLengths : GoodIn wsX4_findFars wsX0_findLengths := goodIn_r _ [8, 9, 10, 11, 12, 13, 14, 15, 16, 52, 53, 54] (by decide +kernel) (by decide +kernel)
set_option maxRecDepth 20000 in
theorem gX4_findFars_X0_findLengths : GoodIn wsX4_findFars (wsV RX4 206 RX0 yX0_findLengths wsX0_findLengths) := goodIn_app (goodIn_of _ (by decide +kernel)) ggX4_findFars_X0_findLengths
set_option maxRecDepth 20000 in
theorem ggX4_findFars_X0_findFars : GoodIn wsX4_findFars wsX0_findFars := goodIn_r _ [20, 10, 21, 11, 22, 23, 24, 25, 26, 27, 28, 29, 30, 7, 31, 32, 33, 34, 35, 52, 53, 54] (by decide +kernel) (by decide +kernel)
set_option maxRecDepth 20000 in
theorem gX4_findFars_X0_findFars : GoodIn wsX4_findFars (wsV RX4 209 RX0 yX0_findFars wsX0_findFars) := goodIn_app (goodIn_of _ (by decide +kernel)) ggX4_findFars_X0_findFars
theorem dX4_findFars_0 : decode cX4_findFars 0 = .ok (.aload_n 0, 1) := by decide +kernel
theorem dX4_findFars_1 : decode cX4_findFars 1 = .ok (.getfield 44, 3) := by decide +kernel
theorem dX4_findFars_4 : decode cX4_findFars 4 = .ok (.invokevirtual 206, 3) := by decide +kernel
theorem dX4_findFars_7 : decode cX4_findFars 7 = .ok (.iconst 0, 1) := by decide +kernel
theorem dX4_findFars_8 : decode cX4_findFars 8 = .ok (.istore_n 1, 1) := by decide +kernel
theorem dX4_findFars_9 : decode cX4_findFars 9 = .ok (.iload_n 1, 1) := by decide +kernel
theorem dX4_findFars_10 : decode cX4_findFars 10 = .ok (.aload_n 0, 1) := by decide +kernel
theorem dX4_findFars_11 : decode cX4_findFars 11 = .ok (.getfield 28, 3) := by decide +kernel
theorem dX4_findFars_14 : decode cX4_findFars 14 = .ok (.getfield 94, 3) := by decide +kernel
theorem dX4_findFars_17 : decode cX4_findFars 17 = .ok (.if_icmp .ge 31, 3) := by decide +kernel
theorem dX4_findFars_20 : decode cX4_findFars 20 = .ok (.aload_n 0, 1) := by decide +kernel
theorem dX4_findFars_21 : decode cX4_findFars 21 = .ok (.getfield 44, 3) := by decide +kernel
theorem dX4_findFars_24 : decode cX4_findFars 24 = .ok (.aload_n 0, 1) := by decide +kernel
theorem dX4_findFars_25 : decode cX4_findFars 25 = .ok (.getfield 28, 3) := by decide +kernel
theorem dX4_findFars_28 : decode cX4_findFars 28 = .ok (.getfield 108, 3) := by decide +kernel
theorem dX4_findFars_31 : decode cX4_findFars 31 = .ok (.iload_n 1, 1) := by decide +kernel
theorem dX4_findFars_32 : decode cX4_findFars 32 = .ok (.laload, 1) := by decide +kernel
theorem dX4_findFars_33 : decode cX4_findFars 33 = .ok (.aload_n 0, 1) := by decide +kernel
theorem dX4_findFars_34 : decode cX4_findFars 34 = .ok (.getfield 50, 3) := by decide +kernel
theorem dX4_findFars_37 : decode cX4_findFars 37 = .ok (.iload_n 1, 1) := by decide +kernel
theorem dX4_findFars_38 : decode cX4_findFars 38 = .ok (.aaload, 1) := by decide +kernel
theorem dX4_findFars_39 : decode cX4_findFars 39 = .ok (.invokevirtual 209, 3) := by decide +kernel
theorem dX4_findFars_42 : decode cX4_findFars 42 = .ok (.iinc 1 1, 3) := by decide +kernel
theorem dX4_findFars_45 : decode cX4_findFars 45 = .ok (.goto (-36), 3) := by decide +kernel
theorem dX4_findFars_48 : decode cX4_findFars 48 = .ok (.return_, 1) := by decide +kernel
theorem dX4_burdenOf_0 : decode cX4_burdenOf 0 = .ok (.aload_n 0, 1) := by decide +kernel
theorem dX4_burdenOf_1 : decode cX4_burdenOf 1 = .ok (.getfield 28, 3) := by decide +kernel
theorem dX4_burdenOf_4 : decode cX4_burdenOf 4 = .ok (.getfield 212, 3) := by decide +kernel
theorem dX4_burdenOf_7 : decode cX4_burdenOf 7 = .ok (.iload_n 1, 1) := by decide +kernel
theorem dX4_burdenOf_8 : decode cX4_burdenOf 8 = .ok (.iaload, 1) := by decide +kernel
theorem dX4_burdenOf_9 : decode cX4_burdenOf 9 = .ok (.i2l, 1) := by decide +kernel
theorem dX4_burdenOf_10 : decode cX4_burdenOf 10 = .ok (.aload_n 0, 1) := by decide +kernel
theorem dX4_burdenOf_11 : decode cX4_burdenOf 11 = .ok (.getfield 50, 3) := by decide +kernel
theorem dX4_burdenOf_14 : decode cX4_burdenOf 14 = .ok (.iload_n 1, 1) := by decide +kernel
theorem dX4_burdenOf_15 : decode cX4_burdenOf 15 = .ok (.aaload, 1) := by decide +kernel
theorem dX4_burdenOf_16 : decode cX4_burdenOf 16 = .ok (.iload_n 2, 1) := by decide +kernel
theorem dX4_burdenOf_17 : decode cX4_burdenOf 17 = .ok (.laload, 1) := by decide +kernel
theorem dX4_burdenOf_18 : decode cX4_burdenOf 18 = .ok (.lmul, 1) := by decide +kernel
theorem dX4_burdenOf_19 : decode cX4_burdenOf 19 = .ok (.lreturn, 1) := by decide +kernel
set_option maxRecDepth 20000 in
theorem ggX4_least_X4_isIn : GoodIn wsX4_least wsX4_isIn := goodIn_r _ [5] (by decide +kernel) (by decide +kernel)
set_option maxRecDepth 20000 in
theorem gX4_least_X4_isIn : GoodIn wsX4_least (va_wsS RX4 217 yX4_isIn wsX4_isIn) := goodIn_app (goodIn_of _ (by decide +kernel)) ggX4_least_X4_isIn
theorem dX4_least_0 : decode cX4_least 0 = .ok (.ldc2_w 215, 3) := by decide +kernel
theorem dX4_least_3 : decode cX4_least 3 = .ok (.lstore_n 3, 1) := by decide +kernel
theorem dX4_least_4 : decode cX4_least 4 = .ok (.lconst 0, 1) := by decide +kernel
theorem dX4_least_5 : decode cX4_least 5 = .ok (.lstore 5, 2) := by decide +kernel
theorem dX4_least_7 : decode cX4_least 7 = .ok (.iconst 0, 1) := by decide +kernel
theorem dX4_least_8 : decode cX4_least 8 = .ok (.istore 7, 2) := by decide +kernel
theorem dX4_least_10 : decode cX4_least 10 = .ok (.iload 7, 2) := by decide +kernel
theorem dX4_least_12 : decode cX4_least 12 = .ok (.bipush 64, 2) := by decide +kernel
theorem dX4_least_14 : decode cX4_least 14 = .ok (.if_icmp .ge 53, 3) := by decide +kernel
theorem dX4_least_17 : decode cX4_least 17 = .ok (.lload_n 0, 1) := by decide +kernel
theorem dX4_least_18 : decode cX4_least 18 = .ok (.iload 7, 2) := by decide +kernel
theorem dX4_least_20 : decode cX4_least 20 = .ok (.invokestatic 217, 3) := by decide +kernel
theorem dX4_least_23 : decode cX4_least 23 = .ok (.ifCond .eq 38, 3) := by decide +kernel
theorem dX4_least_26 : decode cX4_least 26 = .ok (.aload_n 2, 1) := by decide +kernel
theorem dX4_least_27 : decode cX4_least 27 = .ok (.iload 7, 2) := by decide +kernel
theorem dX4_least_29 : decode cX4_least 29 = .ok (.laload, 1) := by decide +kernel
theorem dX4_least_30 : decode cX4_least 30 = .ok (.lload_n 3, 1) := by decide +kernel
theorem dX4_least_31 : decode cX4_least 31 = .ok (.lcmp, 1) := by decide +kernel
theorem dX4_least_32 : decode cX4_least 32 = .ok (.ifCond .gt 29, 3) := by decide +kernel
theorem dX4_least_35 : decode cX4_least 35 = .ok (.aload_n 2, 1) := by decide +kernel
theorem dX4_least_36 : decode cX4_least 36 = .ok (.iload 7, 2) := by decide +kernel
theorem dX4_least_38 : decode cX4_least 38 = .ok (.laload, 1) := by decide +kernel
theorem dX4_least_39 : decode cX4_least 39 = .ok (.lload_n 3, 1) := by decide +kernel
theorem dX4_least_40 : decode cX4_least 40 = .ok (.lcmp, 1) := by decide +kernel
theorem dX4_least_41 : decode cX4_least 41 = .ok (.ifCond .ge 11, 3) := by decide +kernel
theorem dX4_least_44 : decode cX4_least 44 = .ok (.aload_n 2, 1) := by decide +kernel
theorem dX4_least_45 : decode cX4_least 45 = .ok (.iload 7, 2) := by decide +kernel
theorem dX4_least_47 : decode cX4_least 47 = .ok (.laload, 1) := by decide +kernel
theorem dX4_least_48 : decode cX4_least 48 = .ok (.lstore_n 3, 1) := by decide +kernel
theorem dX4_least_49 : decode cX4_least 49 = .ok (.lconst 0, 1) := by decide +kernel
theorem dX4_least_50 : decode cX4_least 50 = .ok (.lstore 5, 2) := by decide +kernel
theorem dX4_least_52 : decode cX4_least 52 = .ok (.lload 5, 2) := by decide +kernel
theorem dX4_least_54 : decode cX4_least 54 = .ok (.lconst 1, 1) := by decide +kernel
theorem dX4_least_55 : decode cX4_least 55 = .ok (.iload 7, 2) := by decide +kernel
theorem dX4_least_57 : decode cX4_least 57 = .ok (.lshl, 1) := by decide +kernel
theorem dX4_least_58 : decode cX4_least 58 = .ok (.lor, 1) := by decide +kernel
theorem dX4_least_59 : decode cX4_least 59 = .ok (.lstore 5, 2) := by decide +kernel
theorem dX4_least_61 : decode cX4_least 61 = .ok (.iinc 7 1, 3) := by decide +kernel
theorem dX4_least_64 : decode cX4_least 64 = .ok (.goto (-54), 3) := by decide +kernel
theorem dX4_least_67 : decode cX4_least 67 = .ok (.lload 5, 2) := by decide +kernel
theorem dX4_least_69 : decode cX4_least 69 = .ok (.lreturn, 1) := by decide +kernel
theorem dX4_isIn_0 : decode cX4_isIn 0 = .ok (.lload_n 0, 1) := by decide +kernel
theorem dX4_isIn_1 : decode cX4_isIn 1 = .ok (.iload_n 2, 1) := by decide +kernel
theorem dX4_isIn_2 : decode cX4_isIn 2 = .ok (.lushr, 1) := by decide +kernel
theorem dX4_isIn_3 : decode cX4_isIn 3 = .ok (.lconst 1, 1) := by decide +kernel
theorem dX4_isIn_4 : decode cX4_isIn 4 = .ok (.land, 1) := by decide +kernel
theorem dX4_isIn_5 : decode cX4_isIn 5 = .ok (.lconst 0, 1) := by decide +kernel
theorem dX4_isIn_6 : decode cX4_isIn 6 = .ok (.lcmp, 1) := by decide +kernel
theorem dX4_isIn_7 : decode cX4_isIn 7 = .ok (.ifCond .eq 7, 3) := by decide +kernel
theorem dX4_isIn_10 : decode cX4_isIn 10 = .ok (.iconst 1, 1) := by decide +kernel
theorem dX4_isIn_11 : decode cX4_isIn 11 = .ok (.goto 4, 3) := by decide +kernel
theorem dX4_isIn_14 : decode cX4_isIn 14 = .ok (.iconst 0, 1) := by decide +kernel
theorem dX4_isIn_15 : decode cX4_isIn 15 = .ok (.ireturn, 1) := by decide +kernel
set_option maxRecDepth 20000 in
theorem ggX4_goneAlong_X4_isIn : GoodIn wsX4_goneAlong wsX4_isIn := goodIn_r _ [6] (by decide +kernel) (by decide +kernel)
set_option maxRecDepth 20000 in
theorem gX4_goneAlong_X4_isIn : GoodIn wsX4_goneAlong (va_wsS RX4 217 yX4_isIn wsX4_isIn) := goodIn_app (goodIn_of _ (by decide +kernel)) ggX4_goneAlong_X4_isIn
set_option maxRecDepth 20000 in
theorem ggX4_goneAlong_X4_least : GoodIn wsX4_goneAlong wsX4_least := goodIn_r _ [9, 10, 3, 4, 5, 6] (by decide +kernel) (by decide +kernel)
set_option maxRecDepth 20000 in
theorem gX4_goneAlong_X4_least : GoodIn wsX4_goneAlong (va_wsS RX4 140 yX4_least wsX4_least) := goodIn_app (goodIn_of _ (by decide +kernel)) ggX4_goneAlong_X4_least
theorem dX4_goneAlong_0 : decode cX4_goneAlong 0 = .ok (.lconst 0, 1) := by decide +kernel
theorem dX4_goneAlong_1 : decode cX4_goneAlong 1 = .ok (.lstore 5, 2) := by decide +kernel
theorem dX4_goneAlong_3 : decode cX4_goneAlong 3 = .ok (.iconst 0, 1) := by decide +kernel
theorem dX4_goneAlong_4 : decode cX4_goneAlong 4 = .ok (.istore 7, 2) := by decide +kernel
theorem dX4_goneAlong_6 : decode cX4_goneAlong 6 = .ok (.iload 7, 2) := by decide +kernel
theorem dX4_goneAlong_8 : decode cX4_goneAlong 8 = .ok (.bipush 64, 2) := by decide +kernel
theorem dX4_goneAlong_10 : decode cX4_goneAlong 10 = .ok (.if_icmp .ge 68, 3) := by decide +kernel
theorem dX4_goneAlong_13 : decode cX4_goneAlong 13 = .ok (.lload_n 1, 1) := by decide +kernel
theorem dX4_goneAlong_14 : decode cX4_goneAlong 14 = .ok (.iload 7, 2) := by decide +kernel
theorem dX4_goneAlong_16 : decode cX4_goneAlong 16 = .ok (.invokestatic 217, 3) := by decide +kernel
theorem dX4_goneAlong_19 : decode cX4_goneAlong 19 = .ok (.ifCond .eq 53, 3) := by decide +kernel
theorem dX4_goneAlong_22 : decode cX4_goneAlong 22 = .ok (.iconst 0, 1) := by decide +kernel
theorem dX4_goneAlong_23 : decode cX4_goneAlong 23 = .ok (.istore 8, 2) := by decide +kernel
theorem dX4_goneAlong_25 : decode cX4_goneAlong 25 = .ok (.iload 8, 2) := by decide +kernel
theorem dX4_goneAlong_27 : decode cX4_goneAlong 27 = .ok (.bipush 64, 2) := by decide +kernel
theorem dX4_goneAlong_29 : decode cX4_goneAlong 29 = .ok (.if_icmp .ge 30, 3) := by decide +kernel
theorem dX4_goneAlong_32 : decode cX4_goneAlong 32 = .ok (.aload_n 0, 1) := by decide +kernel
theorem dX4_goneAlong_33 : decode cX4_goneAlong 33 = .ok (.getfield 60, 3) := by decide +kernel
theorem dX4_goneAlong_36 : decode cX4_goneAlong 36 = .ok (.iload 8, 2) := by decide +kernel
theorem dX4_goneAlong_38 : decode cX4_goneAlong 38 = .ok (.aload_n 0, 1) := by decide +kernel
theorem dX4_goneAlong_39 : decode cX4_goneAlong 39 = .ok (.getfield 44, 3) := by decide +kernel
theorem dX4_goneAlong_42 : decode cX4_goneAlong 42 = .ok (.getfield 122, 3) := by decide +kernel
theorem dX4_goneAlong_45 : decode cX4_goneAlong 45 = .ok (.iload 7, 2) := by decide +kernel
theorem dX4_goneAlong_47 : decode cX4_goneAlong 47 = .ok (.iload 8, 2) := by decide +kernel
theorem dX4_goneAlong_49 : decode cX4_goneAlong 49 = .ok (.ixor, 1) := by decide +kernel
theorem dX4_goneAlong_50 : decode cX4_goneAlong 50 = .ok (.iaload, 1) := by decide +kernel
theorem dX4_goneAlong_51 : decode cX4_goneAlong 51 = .ok (.i2l, 1) := by decide +kernel
theorem dX4_goneAlong_52 : decode cX4_goneAlong 52 = .ok (.lastore, 1) := by decide +kernel
theorem dX4_goneAlong_53 : decode cX4_goneAlong 53 = .ok (.iinc 8 1, 3) := by decide +kernel
theorem dX4_goneAlong_56 : decode cX4_goneAlong 56 = .ok (.goto (-31), 3) := by decide +kernel
theorem dX4_goneAlong_59 : decode cX4_goneAlong 59 = .ok (.lload 5, 2) := by decide +kernel
theorem dX4_goneAlong_61 : decode cX4_goneAlong 61 = .ok (.lload_n 3, 1) := by decide +kernel
theorem dX4_goneAlong_62 : decode cX4_goneAlong 62 = .ok (.aload_n 0, 1) := by decide +kernel
theorem dX4_goneAlong_63 : decode cX4_goneAlong 63 = .ok (.getfield 60, 3) := by decide +kernel
theorem dX4_goneAlong_66 : decode cX4_goneAlong 66 = .ok (.invokestatic 140, 3) := by decide +kernel
theorem dX4_goneAlong_69 : decode cX4_goneAlong 69 = .ok (.lor, 1) := by decide +kernel
theorem dX4_goneAlong_70 : decode cX4_goneAlong 70 = .ok (.lstore 5, 2) := by decide +kernel
theorem dX4_goneAlong_72 : decode cX4_goneAlong 72 = .ok (.iinc 7 1, 3) := by decide +kernel
theorem dX4_goneAlong_75 : decode cX4_goneAlong 75 = .ok (.goto (-69), 3) := by decide +kernel
theorem dX4_goneAlong_78 : decode cX4_goneAlong 78 = .ok (.lload 5, 2) := by decide +kernel
theorem dX4_goneAlong_80 : decode cX4_goneAlong 80 = .ok (.lreturn, 1) := by decide +kernel
set_option maxRecDepth 20000 in
theorem ggX4_mergedBy_X4_weighed : GoodIn wsX4_mergedBy wsX4_weighed := goodIn_r _ [7, 2, 8, 9, 10, 6, 11, 12, 13, 14, 15, 16, 17, 18, 19, 20, 21, 22, 23, 31, 32, 33, 34, 35, 36, 37, 38, 39, 40, 41, 42, 43, 44, 45, 46] (by decide +kernel) (by decide +kernel)
set_option maxRecDepth 20000 in
theorem gX4_mergedBy_X4_weighed : GoodIn wsX4_mergedBy (wsV RX4 136 RX4 yX4_weighed wsX4_weighed) := goodIn_app (goodIn_of _ (by decide +kernel)) ggX4_mergedBy_X4_weighed
set_option maxRecDepth 20000 in
theorem ggX4_mergedBy_X4_least : GoodIn wsX4_mergedBy wsX4_least := goodIn_r _ [26, 27, 28, 29, 6, 30] (by decide +kernel) (by decide +kernel)
set_option maxRecDepth 20000 in
theorem gX4_mergedBy_X4_least : GoodIn wsX4_mergedBy (va_wsS RX4 140 yX4_least wsX4_least) := goodIn_app (goodIn_of _ (by decide +kernel)) ggX4_mergedBy_X4_least
theorem dX4_mergedBy_0 : decode cX4_mergedBy 0 = .ok (.iconst 0, 1) := by decide +kernel
theorem dX4_mergedBy_1 : decode cX4_mergedBy 1 = .ok (.istore_n 2, 1) := by decide +kernel
theorem dX4_mergedBy_2 : decode cX4_mergedBy 2 = .ok (.iload_n 2, 1) := by decide +kernel
theorem dX4_mergedBy_3 : decode cX4_mergedBy 3 = .ok (.bipush 64, 2) := by decide +kernel
theorem dX4_mergedBy_5 : decode cX4_mergedBy 5 = .ok (.if_icmp .ge 22, 3) := by decide +kernel
theorem dX4_mergedBy_8 : decode cX4_mergedBy 8 = .ok (.aload_n 0, 1) := by decide +kernel
theorem dX4_mergedBy_9 : decode cX4_mergedBy 9 = .ok (.getfield 60, 3) := by decide +kernel
theorem dX4_mergedBy_12 : decode cX4_mergedBy 12 = .ok (.iload_n 2, 1) := by decide +kernel
theorem dX4_mergedBy_13 : decode cX4_mergedBy 13 = .ok (.aload_n 0, 1) := by decide +kernel
theorem dX4_mergedBy_14 : decode cX4_mergedBy 14 = .ok (.iload_n 1, 1) := by decide +kernel
theorem dX4_mergedBy_15 : decode cX4_mergedBy 15 = .ok (.iload_n 2, 1) := by decide +kernel
theorem dX4_mergedBy_16 : decode cX4_mergedBy 16 = .ok (.iconst (-1), 1) := by decide +kernel
theorem dX4_mergedBy_17 : decode cX4_mergedBy 17 = .ok (.invokevirtual 136, 3) := by decide +kernel
theorem dX4_mergedBy_20 : decode cX4_mergedBy 20 = .ok (.lastore, 1) := by decide +kernel
theorem dX4_mergedBy_21 : decode cX4_mergedBy 21 = .ok (.iinc 2 1, 3) := by decide +kernel
theorem dX4_mergedBy_24 : decode cX4_mergedBy 24 = .ok (.goto (-22), 3) := by decide +kernel
theorem dX4_mergedBy_27 : decode cX4_mergedBy 27 = .ok (.aload_n 0, 1) := by decide +kernel
theorem dX4_mergedBy_28 : decode cX4_mergedBy 28 = .ok (.getfield 28, 3) := by decide +kernel
theorem dX4_mergedBy_31 : decode cX4_mergedBy 31 = .ok (.getfield 101, 3) := by decide +kernel
theorem dX4_mergedBy_34 : decode cX4_mergedBy 34 = .ok (.aload_n 0, 1) := by decide +kernel
theorem dX4_mergedBy_35 : decode cX4_mergedBy 35 = .ok (.getfield 60, 3) := by decide +kernel
theorem dX4_mergedBy_38 : decode cX4_mergedBy 38 = .ok (.invokestatic 140, 3) := by decide +kernel
theorem dX4_mergedBy_41 : decode cX4_mergedBy 41 = .ok (.lreturn, 1) := by decide +kernel
set_option maxRecDepth 20000 in
theorem ggX4_weighed_X4_burdenOf : GoodIn wsX4_weighed wsX4_burdenOf := goodIn_r _ [6, 1, 7, 19, 20, 21, 22, 23, 24, 25, 26, 27, 28, 29, 30, 31, 32, 33, 34] (by decide +kernel) (by decide +kernel)
set_option maxRecDepth 20000 in
theorem gX4_weighed_X4_burdenOf : GoodIn wsX4_weighed (wsV RX4 125 RX4 yX4_burdenOf wsX4_burdenOf) := goodIn_app (goodIn_of _ (by decide +kernel)) ggX4_weighed_X4_burdenOf
set_option maxRecDepth 20000 in
theorem ggX4_weighed_X4_joined : GoodIn wsX4_weighed wsX4_joined := goodIn_r _ [10, 11, 12, 13, 14, 15, 16, 5, 17, 18] (by decide +kernel) (by decide +kernel)
