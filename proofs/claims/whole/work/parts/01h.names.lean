set_option maxRecDepth 20000 in
theorem gX5_mergedBy_X5_has : GoodIn wsX5_mergedBy (va_wsS RX5 60 yX5_has wsX5_has) := goodIn_app (goodIn_of _ (by decide +kernel)) ggX5_mergedBy_X5_has
set_option maxRecDepth 20000 in
theorem ggX5_mergedBy_X5_rows : GoodIn wsX5_mergedBy wsX5_rows := goodIn_r _ [11, 3, 12, 13, 14, 15, 16, 6, 17, 18, 19, 20, 21, 26, 27, 28, 29, 30, 31, 32, 33, 34, 35, 36, 37, 38, 39, 40, 41, 42, 43, 44, 45, 46, 47, 48, 49, 50, 51, 52, 53, 54] (by decide +kernel) (by decide +kernel)
set_option maxRecDepth 20000 in
theorem gX5_mergedBy_X5_rows : GoodIn wsX5_mergedBy (wsV RX5 179 RX5 yX5_rows wsX5_rows) := goodIn_app (goodIn_of _ (by decide +kernel)) ggX5_mergedBy_X5_rows
set_option maxRecDepth 20000 in
theorem ggX5_mergedBy_X5_against : GoodIn wsX5_mergedBy wsX5_against := goodIn_r _ [25, 3, 2, 26, 27, 28, 29, 30, 31, 32, 33, 34, 35, 36, 37, 38, 39, 40, 41, 42, 43, 44, 45, 46, 47, 48, 49, 50, 51, 52, 53, 54] (by decide +kernel) (by decide +kernel)
set_option maxRecDepth 20000 in
theorem gX5_mergedBy_X5_against : GoodIn wsX5_mergedBy (wsV RX5 183 RX5 yX5_against wsX5_against) := goodIn_app (goodIn_of _ (by decide +kernel)) ggX5_mergedBy_X5_against
theorem dX5_mergedBy_0 : decode cX5_mergedBy 0 = .ok (.lconst 0, 1) := by decide +kernel
theorem dX5_mergedBy_1 : decode cX5_mergedBy 1 = .ok (.lstore_n 2, 1) := by decide +kernel
theorem dX5_mergedBy_2 : decode cX5_mergedBy 2 = .ok (.iconst 0, 1) := by decide +kernel
theorem dX5_mergedBy_3 : decode cX5_mergedBy 3 = .ok (.istore 4, 2) := by decide +kernel
theorem dX5_mergedBy_5 : decode cX5_mergedBy 5 = .ok (.iload 4, 2) := by decide +kernel
theorem dX5_mergedBy_7 : decode cX5_mergedBy 7 = .ok (.bipush 64, 2) := by decide +kernel
theorem dX5_mergedBy_9 : decode cX5_mergedBy 9 = .ok (.if_icmp .ge 100, 3) := by decide +kernel
theorem dX5_mergedBy_12 : decode cX5_mergedBy 12 = .ok (.aload_n 0, 1) := by decide +kernel
theorem dX5_mergedBy_13 : decode cX5_mergedBy 13 = .ok (.getfield 15, 3) := by decide +kernel
theorem dX5_mergedBy_16 : decode cX5_mergedBy 16 = .ok (.iload 4, 2) := by decide +kernel
theorem dX5_mergedBy_18 : decode cX5_mergedBy 18 = .ok (.invokestatic 60, 3) := by decide +kernel
theorem dX5_mergedBy_21 : decode cX5_mergedBy 21 = .ok (.ifCond .ne 6, 3) := by decide +kernel
theorem dX5_mergedBy_24 : decode cX5_mergedBy 24 = .ok (.goto 79, 3) := by decide +kernel
theorem dX5_mergedBy_27 : decode cX5_mergedBy 27 = .ok (.aload_n 0, 1) := by decide +kernel
theorem dX5_mergedBy_28 : decode cX5_mergedBy 28 = .ok (.iload_n 1, 1) := by decide +kernel
theorem dX5_mergedBy_29 : decode cX5_mergedBy 29 = .ok (.iload 4, 2) := by decide +kernel
theorem dX5_mergedBy_31 : decode cX5_mergedBy 31 = .ok (.invokevirtual 179, 3) := by decide +kernel
theorem dX5_mergedBy_34 : decode cX5_mergedBy 34 = .ok (.lload_n 2, 1) := by decide +kernel
theorem dX5_mergedBy_35 : decode cX5_mergedBy 35 = .ok (.lconst 0, 1) := by decide +kernel
theorem dX5_mergedBy_36 : decode cX5_mergedBy 36 = .ok (.lcmp, 1) := by decide +kernel
theorem dX5_mergedBy_37 : decode cX5_mergedBy 37 = .ok (.ifCond .ne 7, 3) := by decide +kernel
theorem dX5_mergedBy_40 : decode cX5_mergedBy 40 = .ok (.iconst (-1), 1) := by decide +kernel
theorem dX5_mergedBy_41 : decode cX5_mergedBy 41 = .ok (.goto 7, 3) := by decide +kernel
theorem dX5_mergedBy_44 : decode cX5_mergedBy 44 = .ok (.aload_n 0, 1) := by decide +kernel
theorem dX5_mergedBy_45 : decode cX5_mergedBy 45 = .ok (.invokevirtual 183, 3) := by decide +kernel
theorem dX5_mergedBy_48 : decode cX5_mergedBy 48 = .ok (.istore 5, 2) := by decide +kernel
theorem dX5_mergedBy_50 : decode cX5_mergedBy 50 = .ok (.iload 5, 2) := by decide +kernel
theorem dX5_mergedBy_52 : decode cX5_mergedBy 52 = .ok (.ifCond .ge 35, 3) := by decide +kernel
theorem dX5_mergedBy_55 : decode cX5_mergedBy 55 = .ok (.lconst 0, 1) := by decide +kernel
theorem dX5_mergedBy_56 : decode cX5_mergedBy 56 = .ok (.lstore_n 2, 1) := by decide +kernel
theorem dX5_mergedBy_57 : decode cX5_mergedBy 57 = .ok (.iconst 0, 1) := by decide +kernel
theorem dX5_mergedBy_58 : decode cX5_mergedBy 58 = .ok (.istore 6, 2) := by decide +kernel
theorem dX5_mergedBy_60 : decode cX5_mergedBy 60 = .ok (.iload 6, 2) := by decide +kernel
theorem dX5_mergedBy_62 : decode cX5_mergedBy 62 = .ok (.bipush 7, 2) := by decide +kernel
theorem dX5_mergedBy_64 : decode cX5_mergedBy 64 = .ok (.if_icmp .ge 23, 3) := by decide +kernel
theorem dX5_mergedBy_67 : decode cX5_mergedBy 67 = .ok (.aload_n 0, 1) := by decide +kernel
theorem dX5_mergedBy_68 : decode cX5_mergedBy 68 = .ok (.getfield 51, 3) := by decide +kernel
theorem dX5_mergedBy_71 : decode cX5_mergedBy 71 = .ok (.iload 6, 2) := by decide +kernel
theorem dX5_mergedBy_73 : decode cX5_mergedBy 73 = .ok (.aload_n 0, 1) := by decide +kernel
theorem dX5_mergedBy_74 : decode cX5_mergedBy 74 = .ok (.getfield 54, 3) := by decide +kernel
theorem dX5_mergedBy_77 : decode cX5_mergedBy 77 = .ok (.iload 6, 2) := by decide +kernel
theorem dX5_mergedBy_79 : decode cX5_mergedBy 79 = .ok (.iaload, 1) := by decide +kernel
theorem dX5_mergedBy_80 : decode cX5_mergedBy 80 = .ok (.iastore, 1) := by decide +kernel
theorem dX5_mergedBy_81 : decode cX5_mergedBy 81 = .ok (.iinc 6 1, 3) := by decide +kernel
theorem dX5_mergedBy_84 : decode cX5_mergedBy 84 = .ok (.goto (-24), 3) := by decide +kernel
theorem dX5_mergedBy_87 : decode cX5_mergedBy 87 = .ok (.lload_n 2, 1) := by decide +kernel
theorem dX5_mergedBy_88 : decode cX5_mergedBy 88 = .ok (.iload 5, 2) := by decide +kernel
theorem dX5_mergedBy_90 : decode cX5_mergedBy 90 = .ok (.ifCond .gt 10, 3) := by decide +kernel
theorem dX5_mergedBy_93 : decode cX5_mergedBy 93 = .ok (.lconst 1, 1) := by decide +kernel
theorem dX5_mergedBy_94 : decode cX5_mergedBy 94 = .ok (.iload 4, 2) := by decide +kernel
theorem dX5_mergedBy_96 : decode cX5_mergedBy 96 = .ok (.lshl, 1) := by decide +kernel
theorem dX5_mergedBy_97 : decode cX5_mergedBy 97 = .ok (.goto 4, 3) := by decide +kernel
theorem dX5_mergedBy_100 : decode cX5_mergedBy 100 = .ok (.lconst 0, 1) := by decide +kernel
theorem dX5_mergedBy_101 : decode cX5_mergedBy 101 = .ok (.lor, 1) := by decide +kernel
theorem dX5_mergedBy_102 : decode cX5_mergedBy 102 = .ok (.lstore_n 2, 1) := by decide +kernel
theorem dX5_mergedBy_103 : decode cX5_mergedBy 103 = .ok (.iinc 4 1, 3) := by decide +kernel
theorem dX5_mergedBy_106 : decode cX5_mergedBy 106 = .ok (.goto (-101), 3) := by decide +kernel
theorem dX5_mergedBy_109 : decode cX5_mergedBy 109 = .ok (.lload_n 2, 1) := by decide +kernel
theorem dX5_mergedBy_110 : decode cX5_mergedBy 110 = .ok (.lreturn, 1) := by decide +kernel
set_option maxRecDepth 20000 in
theorem ggX5_merged_X5_in : GoodIn wsX5_merged wsX5_in := goodIn_r _ [5] (by decide +kernel) (by decide +kernel)
set_option maxRecDepth 20000 in
theorem gX5_merged_X5_in : GoodIn wsX5_merged (va_wsS RX5 66 yX5_in wsX5_in) := goodIn_app (goodIn_of _ (by decide +kernel)) ggX5_merged_X5_in
set_option maxRecDepth 20000 in
theorem ggX5_merged_X5_laysAll : GoodIn wsX5_merged wsX5_laysAll := goodIn_r _ [9, 10, 11, 12, 13, 14, 4, 15, 16, 17, 18, 19, 20, 21, 22, 23, 24, 25, 26, 27, 28, 29, 30, 54, 55, 56, 57, 58, 59, 60, 61, 62, 63, 64, 65, 66, 67, 68, 69, 70, 71, 72, 73, 74, 75, 76, 77, 78, 79, 80, 81, 82] (by decide +kernel) (by decide +kernel)
set_option maxRecDepth 20000 in
theorem gX5_merged_X5_laysAll : GoodIn wsX5_merged (wsV RX5 188 RX5 yX5_laysAll wsX5_laysAll) := goodIn_app (goodIn_of _ (by decide +kernel)) ggX5_merged_X5_laysAll
set_option maxRecDepth 20000 in
theorem ggX5_merged_X5_mergedBy : GoodIn wsX5_merged wsX5_mergedBy := goodIn_r _ [34, 35, 36, 37, 22, 23, 4, 24, 38, 39, 40, 41, 10, 16, 42, 43, 44, 45, 46, 47, 48, 49, 50, 51, 52, 53, 54, 55, 56, 57, 58, 59, 60, 61, 62, 63, 64, 65, 66, 67, 68, 69, 70, 71, 72, 73, 74, 75, 76, 77, 78, 79, 80, 81, 82] (by decide +kernel) (by decide +kernel)
set_option maxRecDepth 20000 in
theorem gX5_merged_X5_mergedBy : GoodIn wsX5_merged (wsV RX5 191 RX5 yX5_mergedBy wsX5_mergedBy) := goodIn_app (goodIn_of _ (by decide +kernel)) ggX5_merged_X5_mergedBy
theorem dX5_merged_0 : decode cX5_merged 0 = .ok (.iload_n 1, 1) := by decide +kernel
theorem dX5_merged_1 : decode cX5_merged 1 = .ok (.i2l, 1) := by decide +kernel
theorem dX5_merged_2 : decode cX5_merged 2 = .ok (.lconst 0, 1) := by decide +kernel
theorem dX5_merged_3 : decode cX5_merged 3 = .ok (.ldc2_w 186, 3) := by decide +kernel
theorem dX5_merged_6 : decode cX5_merged 6 = .ok (.invokestatic 66, 3) := by decide +kernel
theorem dX5_merged_9 : decode cX5_merged 9 = .ok (.ifCond .ne 5, 3) := by decide +kernel
theorem dX5_merged_12 : decode cX5_merged 12 = .ok (.lconst 0, 1) := by decide +kernel
theorem dX5_merged_13 : decode cX5_merged 13 = .ok (.lreturn, 1) := by decide +kernel
theorem dX5_merged_14 : decode cX5_merged 14 = .ok (.aload_n 0, 1) := by decide +kernel
theorem dX5_merged_15 : decode cX5_merged 15 = .ok (.invokevirtual 188, 3) := by decide +kernel
theorem dX5_merged_18 : decode cX5_merged 18 = .ok (.aload_n 0, 1) := by decide +kernel
theorem dX5_merged_19 : decode cX5_merged 19 = .ok (.iload_n 1, 1) := by decide +kernel
theorem dX5_merged_20 : decode cX5_merged 20 = .ok (.invokevirtual 191, 3) := by decide +kernel
theorem dX5_merged_23 : decode cX5_merged 23 = .ok (.lreturn, 1) := by decide +kernel
set_option maxRecDepth 20000 in
theorem ggX5_value_X5_in : GoodIn wsX5_value wsX5_in := goodIn_r _ [4] (by decide +kernel) (by decide +kernel)
set_option maxRecDepth 20000 in
theorem gX5_value_X5_in : GoodIn wsX5_value (va_wsS RX5 66 yX5_in wsX5_in) := goodIn_app (goodIn_of _ (by decide +kernel)) ggX5_value_X5_in
set_option maxRecDepth 20000 in
theorem ggX5_value_X5_isWorld : GoodIn wsX5_value wsX5_isWorld := goodIn_r _ [7, 8, 1, 2, 3, 4] (by decide +kernel) (by decide +kernel)
set_option maxRecDepth 20000 in
theorem gX5_value_X5_isWorld : GoodIn wsX5_value (va_wsS RX5 157 yX5_isWorld wsX5_isWorld) := goodIn_app (goodIn_of _ (by decide +kernel)) ggX5_value_X5_isWorld
set_option maxRecDepth 20000 in
theorem ggX5_value_X5_laysAll : GoodIn wsX5_value wsX5_laysAll := goodIn_r _ [12, 13, 14, 15, 16, 17, 3, 18, 19, 20, 21, 22, 23, 24, 25, 26, 27, 28, 29, 30, 31, 32, 33, 42, 43, 44, 45, 46, 47, 48, 49, 50, 51, 52, 53, 54, 55, 56, 57, 58, 59, 60, 61, 62, 63, 64, 65, 66, 67, 68, 69, 70] (by decide +kernel) (by decide +kernel)
set_option maxRecDepth 20000 in
theorem gX5_value_X5_laysAll : GoodIn wsX5_value (wsV RX5 188 RX5 yX5_laysAll wsX5_laysAll) := goodIn_app (goodIn_of _ (by decide +kernel)) ggX5_value_X5_laysAll
set_option maxRecDepth 20000 in
theorem ggX5_value_X5_sumOf : GoodIn wsX5_value wsX5_sumOf := goodIn_r _ [37, 13, 19, 42, 43, 44, 45, 46, 47, 48, 49, 50, 51, 52, 53, 54, 55, 56, 57, 58, 59, 60, 61, 62, 63, 64, 65, 66, 67, 68, 69, 70] (by decide +kernel) (by decide +kernel)
set_option maxRecDepth 20000 in
theorem gX5_value_X5_sumOf : GoodIn wsX5_value (wsV RX5 172 RX5 yX5_sumOf wsX5_sumOf) := goodIn_app (goodIn_of _ (by decide +kernel)) ggX5_value_X5_sumOf
set_option maxRecDepth 20000 in
theorem ggX5_value_X5_worstOf : GoodIn wsX5_value wsX5_worstOf := goodIn_r _ [41, 13, 19, 42, 43, 44, 45, 46, 47, 48, 49, 50, 51, 52, 53, 54, 55, 56, 57, 58, 59, 60, 61, 62, 63, 64, 65, 66, 67, 68, 69, 70] (by decide +kernel) (by decide +kernel)
set_option maxRecDepth 20000 in
theorem gX5_value_X5_worstOf : GoodIn wsX5_value (wsV RX5 176 RX5 yX5_worstOf wsX5_worstOf) := goodIn_app (goodIn_of _ (by decide +kernel)) ggX5_value_X5_worstOf
theorem dX5_value_0 : decode cX5_value 0 = .ok (.iload_n 1, 1) := by decide +kernel
theorem dX5_value_1 : decode cX5_value 1 = .ok (.i2l, 1) := by decide +kernel
theorem dX5_value_2 : decode cX5_value 2 = .ok (.lconst 0, 1) := by decide +kernel
theorem dX5_value_3 : decode cX5_value 3 = .ok (.lconst 1, 1) := by decide +kernel
theorem dX5_value_4 : decode cX5_value 4 = .ok (.invokestatic 66, 3) := by decide +kernel
theorem dX5_value_7 : decode cX5_value 7 = .ok (.ifCond .eq 10, 3) := by decide +kernel
theorem dX5_value_10 : decode cX5_value 10 = .ok (.iload_n 2, 1) := by decide +kernel
theorem dX5_value_11 : decode cX5_value 11 = .ok (.invokestatic 157, 3) := by decide +kernel
theorem dX5_value_14 : decode cX5_value 14 = .ok (.ifCond .ne 5, 3) := by decide +kernel
theorem dX5_value_17 : decode cX5_value 17 = .ok (.iconst (-1), 1) := by decide +kernel
theorem dX5_value_18 : decode cX5_value 18 = .ok (.ireturn, 1) := by decide +kernel
theorem dX5_value_19 : decode cX5_value 19 = .ok (.aload_n 0, 1) := by decide +kernel
theorem dX5_value_20 : decode cX5_value 20 = .ok (.invokevirtual 188, 3) := by decide +kernel
theorem dX5_value_23 : decode cX5_value 23 = .ok (.iload_n 1, 1) := by decide +kernel
theorem dX5_value_24 : decode cX5_value 24 = .ok (.ifCond .ne 11, 3) := by decide +kernel
theorem dX5_value_27 : decode cX5_value 27 = .ok (.aload_n 0, 1) := by decide +kernel
theorem dX5_value_28 : decode cX5_value 28 = .ok (.iload_n 2, 1) := by decide +kernel
theorem dX5_value_29 : decode cX5_value 29 = .ok (.invokevirtual 172, 3) := by decide +kernel
theorem dX5_value_32 : decode cX5_value 32 = .ok (.goto 8, 3) := by decide +kernel
theorem dX5_value_35 : decode cX5_value 35 = .ok (.aload_n 0, 1) := by decide +kernel
theorem dX5_value_36 : decode cX5_value 36 = .ok (.iload_n 2, 1) := by decide +kernel
theorem dX5_value_37 : decode cX5_value 37 = .ok (.invokevirtual 176, 3) := by decide +kernel
theorem dX5_value_40 : decode cX5_value 40 = .ok (.ireturn, 1) := by decide +kernel
set_option maxRecDepth 20000 in
theorem ggX5_held_X5_in : GoodIn wsX5_held wsX5_in := goodIn_r _ [7] (by decide +kernel) (by decide +kernel)
set_option maxRecDepth 20000 in
theorem gX5_held_X5_in : GoodIn wsX5_held (va_wsS RX5 66 yX5_in wsX5_in) := goodIn_app (goodIn_of _ (by decide +kernel)) ggX5_held_X5_in
set_option maxRecDepth 20000 in
theorem ggX5_held_X5_laysAll : GoodIn wsX5_held wsX5_laysAll := goodIn_r _ [11, 12, 13, 14, 15, 16, 6, 17, 18, 19, 20, 21, 22, 23, 24, 25, 26, 27, 28, 29, 30, 31, 32, 56, 57, 58, 59, 60, 61, 62, 63, 64, 65, 66, 67, 68, 69, 70, 71, 72, 73, 74, 75, 76, 77, 78, 79, 80, 81, 82, 83, 84] (by decide +kernel) (by decide +kernel)
set_option maxRecDepth 20000 in
theorem gX5_held_X5_laysAll : GoodIn wsX5_held (wsV RX5 188 RX5 yX5_laysAll wsX5_laysAll) := goodIn_app (goodIn_of _ (by decide +kernel)) ggX5_held_X5_laysAll
set_option maxRecDepth 20000 in
theorem ggX5_held_X5_mergedBy : GoodIn wsX5_held wsX5_mergedBy := goodIn_r _ [36, 37, 38, 39, 24, 25, 6, 26, 40, 41, 42, 43, 12, 18, 44, 45, 46, 47, 48, 49, 50, 51, 52, 53, 54, 55, 56, 57, 58, 59, 60, 61, 62, 63, 64, 65, 66, 67, 68, 69, 70, 71, 72, 73, 74, 75, 76, 77, 78, 79, 80, 81, 82, 83, 84] (by decide +kernel) (by decide +kernel)
set_option maxRecDepth 20000 in
theorem gX5_held_X5_mergedBy : GoodIn wsX5_held (wsV RX5 191 RX5 yX5_mergedBy wsX5_mergedBy) := goodIn_app (goodIn_of _ (by decide +kernel)) ggX5_held_X5_mergedBy
theorem dX5_held_0 : decode cX5_held 0 = .ok (.iload_n 1, 1) := by decide +kernel
theorem dX5_held_1 : decode cX5_held 1 = .ok (.i2l, 1) := by decide +kernel
theorem dX5_held_2 : decode cX5_held 2 = .ok (.lconst 0, 1) := by decide +kernel
theorem dX5_held_3 : decode cX5_held 3 = .ok (.ldc2_w 186, 3) := by decide +kernel
theorem dX5_held_6 : decode cX5_held 6 = .ok (.invokestatic 66, 3) := by decide +kernel
theorem dX5_held_9 : decode cX5_held 9 = .ok (.ifCond .ne 5, 3) := by decide +kernel
theorem dX5_held_12 : decode cX5_held 12 = .ok (.iconst (-1), 1) := by decide +kernel
theorem dX5_held_13 : decode cX5_held 13 = .ok (.ireturn, 1) := by decide +kernel
theorem dX5_held_14 : decode cX5_held 14 = .ok (.aload_n 0, 1) := by decide +kernel
theorem dX5_held_15 : decode cX5_held 15 = .ok (.invokevirtual 188, 3) := by decide +kernel
theorem dX5_held_18 : decode cX5_held 18 = .ok (.aload_n 0, 1) := by decide +kernel
theorem dX5_held_19 : decode cX5_held 19 = .ok (.iload_n 1, 1) := by decide +kernel
theorem dX5_held_20 : decode cX5_held 20 = .ok (.invokevirtual 191, 3) := by decide +kernel
theorem dX5_held_23 : decode cX5_held 23 = .ok (.aload_n 0, 1) := by decide +kernel
theorem dX5_held_24 : decode cX5_held 24 = .ok (.getfield 19, 3) := by decide +kernel
theorem dX5_held_27 : decode cX5_held 27 = .ok (.ldc2_w 13, 3) := by decide +kernel
theorem dX5_held_30 : decode cX5_held 30 = .ok (.lxor, 1) := by decide +kernel
theorem dX5_held_31 : decode cX5_held 31 = .ok (.land, 1) := by decide +kernel
theorem dX5_held_32 : decode cX5_held 32 = .ok (.lconst 0, 1) := by decide +kernel
theorem dX5_held_33 : decode cX5_held 33 = .ok (.lcmp, 1) := by decide +kernel
theorem dX5_held_34 : decode cX5_held 34 = .ok (.ifCond .ne 7, 3) := by decide +kernel
theorem dX5_held_37 : decode cX5_held 37 = .ok (.iconst 1, 1) := by decide +kernel
theorem dX5_held_38 : decode cX5_held 38 = .ok (.goto 4, 3) := by decide +kernel
theorem dX5_held_41 : decode cX5_held 41 = .ok (.iconst 0, 1) := by decide +kernel
theorem dX5_held_42 : decode cX5_held 42 = .ok (.ireturn, 1) := by decide +kernel
set_option maxRecDepth 20000 in
theorem ggX5_nearest_X5_has : GoodIn wsX5_nearest wsX5_has := goodIn_r _ [4] (by decide +kernel) (by decide +kernel)
set_option maxRecDepth 20000 in
theorem gX5_nearest_X5_has : GoodIn wsX5_nearest (va_wsS RX5 60 yX5_has wsX5_has) := goodIn_app (goodIn_of _ (by decide +kernel)) ggX5_nearest_X5_has
set_option maxRecDepth 20000 in
theorem ggX5_nearest_X5_farOf : GoodIn wsX5_nearest wsX5_farOf := goodIn_r _ [8, 1, 2, 3, 4, 9, 10, 11, 12, 13, 14, 15, 16, 17, 18, 19, 20, 21, 22, 23, 24, 25, 26, 27, 28, 29, 30, 31, 32, 33, 34, 35, 36, 37, 38, 39, 40, 41, 42, 43] (by decide +kernel) (by decide +kernel)
set_option maxRecDepth 20000 in
theorem gX5_nearest_X5_farOf : GoodIn wsX5_nearest (wsV RX5 164 RX5 yX5_farOf wsX5_farOf) := goodIn_app (goodIn_of _ (by decide +kernel)) ggX5_nearest_X5_farOf
theorem dX5_nearest_0 : decode cX5_nearest 0 = .ok (.lconst 0, 1) := by decide +kernel
theorem dX5_nearest_1 : decode cX5_nearest 1 = .ok (.lstore 5, 2) := by decide +kernel
theorem dX5_nearest_3 : decode cX5_nearest 3 = .ok (.iconst 0, 1) := by decide +kernel
theorem dX5_nearest_4 : decode cX5_nearest 4 = .ok (.istore 7, 2) := by decide +kernel
theorem dX5_nearest_6 : decode cX5_nearest 6 = .ok (.iconst 0, 1) := by decide +kernel
theorem dX5_nearest_7 : decode cX5_nearest 7 = .ok (.istore 8, 2) := by decide +kernel
theorem dX5_nearest_9 : decode cX5_nearest 9 = .ok (.iload 8, 2) := by decide +kernel
theorem dX5_nearest_11 : decode cX5_nearest 11 = .ok (.bipush 64, 2) := by decide +kernel
theorem dX5_nearest_13 : decode cX5_nearest 13 = .ok (.if_icmp .ge 71, 3) := by decide +kernel
theorem dX5_nearest_16 : decode cX5_nearest 16 = .ok (.lload_n 1, 1) := by decide +kernel
theorem dX5_nearest_17 : decode cX5_nearest 17 = .ok (.iload 8, 2) := by decide +kernel
theorem dX5_nearest_19 : decode cX5_nearest 19 = .ok (.invokestatic 60, 3) := by decide +kernel
theorem dX5_nearest_22 : decode cX5_nearest 22 = .ok (.ifCond .ne 6, 3) := by decide +kernel
theorem dX5_nearest_25 : decode cX5_nearest 25 = .ok (.goto 53, 3) := by decide +kernel
theorem dX5_nearest_28 : decode cX5_nearest 28 = .ok (.aload_n 0, 1) := by decide +kernel
theorem dX5_nearest_29 : decode cX5_nearest 29 = .ok (.iload 8, 2) := by decide +kernel
theorem dX5_nearest_31 : decode cX5_nearest 31 = .ok (.lload_n 3, 1) := by decide +kernel
theorem dX5_nearest_32 : decode cX5_nearest 32 = .ok (.invokevirtual 164, 3) := by decide +kernel
theorem dX5_nearest_35 : decode cX5_nearest 35 = .ok (.istore 9, 2) := by decide +kernel
theorem dX5_nearest_37 : decode cX5_nearest 37 = .ok (.lload 5, 2) := by decide +kernel
theorem dX5_nearest_39 : decode cX5_nearest 39 = .ok (.lconst 0, 1) := by decide +kernel
theorem dX5_nearest_40 : decode cX5_nearest 40 = .ok (.lcmp, 1) := by decide +kernel
theorem dX5_nearest_41 : decode cX5_nearest 41 = .ok (.ifCond .eq 10, 3) := by decide +kernel
theorem dX5_nearest_44 : decode cX5_nearest 44 = .ok (.iload 9, 2) := by decide +kernel
theorem dX5_nearest_46 : decode cX5_nearest 46 = .ok (.iload 7, 2) := by decide +kernel
theorem dX5_nearest_48 : decode cX5_nearest 48 = .ok (.if_icmp .ge 10, 3) := by decide +kernel
theorem dX5_nearest_51 : decode cX5_nearest 51 = .ok (.lconst 0, 1) := by decide +kernel
theorem dX5_nearest_52 : decode cX5_nearest 52 = .ok (.lstore 5, 2) := by decide +kernel
theorem dX5_nearest_54 : decode cX5_nearest 54 = .ok (.iload 9, 2) := by decide +kernel
theorem dX5_nearest_56 : decode cX5_nearest 56 = .ok (.istore 7, 2) := by decide +kernel
theorem dX5_nearest_58 : decode cX5_nearest 58 = .ok (.lload 5, 2) := by decide +kernel
theorem dX5_nearest_60 : decode cX5_nearest 60 = .ok (.iload 9, 2) := by decide +kernel
theorem dX5_nearest_62 : decode cX5_nearest 62 = .ok (.iload 7, 2) := by decide +kernel
theorem dX5_nearest_64 : decode cX5_nearest 64 = .ok (.if_icmp .ne 10, 3) := by decide +kernel
theorem dX5_nearest_67 : decode cX5_nearest 67 = .ok (.lconst 1, 1) := by decide +kernel
theorem dX5_nearest_68 : decode cX5_nearest 68 = .ok (.iload 8, 2) := by decide +kernel
theorem dX5_nearest_70 : decode cX5_nearest 70 = .ok (.lshl, 1) := by decide +kernel
theorem dX5_nearest_71 : decode cX5_nearest 71 = .ok (.goto 4, 3) := by decide +kernel
theorem dX5_nearest_74 : decode cX5_nearest 74 = .ok (.lconst 0, 1) := by decide +kernel
theorem dX5_nearest_75 : decode cX5_nearest 75 = .ok (.lor, 1) := by decide +kernel
theorem dX5_nearest_76 : decode cX5_nearest 76 = .ok (.lstore 5, 2) := by decide +kernel
theorem dX5_nearest_78 : decode cX5_nearest 78 = .ok (.iinc 8 1, 3) := by decide +kernel
theorem dX5_nearest_81 : decode cX5_nearest 81 = .ok (.goto (-72), 3) := by decide +kernel
theorem dX5_nearest_84 : decode cX5_nearest 84 = .ok (.lload 5, 2) := by decide +kernel
theorem dX5_nearest_86 : decode cX5_nearest 86 = .ok (.lreturn, 1) := by decide +kernel
set_option maxRecDepth 20000 in
theorem ggX5_changed_X5_isSayer : GoodIn wsX5_changed wsX5_isSayer := goodIn_r _ [10, 11, 12, 13, 9, 14, 32, 33, 34, 35, 36, 37, 38, 39, 40, 41, 42, 43, 44, 45, 46, 47, 48, 49, 50, 51, 52, 53, 54, 55, 56, 57, 58, 59, 60] (by decide +kernel) (by decide +kernel)
set_option maxRecDepth 20000 in
theorem gX5_changed_X5_isSayer : GoodIn wsX5_changed (wsV RX5 147 RX5 yX5_isSayer wsX5_isSayer) := goodIn_app (goodIn_of _ (by decide +kernel)) ggX5_changed_X5_isSayer
set_option maxRecDepth 20000 in
theorem ggX5_changed_X5_in : GoodIn wsX5_changed wsX5_in := goodIn_r _ [14] (by decide +kernel) (by decide +kernel)
set_option maxRecDepth 20000 in
theorem gX5_changed_X5_in : GoodIn wsX5_changed (va_wsS RX5 66 yX5_in wsX5_in) := goodIn_app (goodIn_of _ (by decide +kernel)) ggX5_changed_X5_in
set_option maxRecDepth 20000 in
theorem ggX5_changed_X5_nearest : GoodIn wsX5_changed wsX5_nearest := goodIn_r _ [18, 19, 20, 9, 21, 22, 23, 24, 25, 26, 27, 28, 29, 30, 31, 32, 33, 34, 35, 36, 37, 38, 39, 40, 41, 42, 43, 44, 45, 46, 47, 48, 49, 50, 51, 52, 53, 54, 55, 56, 57, 58, 59, 60] (by decide +kernel) (by decide +kernel)
set_option maxRecDepth 20000 in
theorem gX5_changed_X5_nearest : GoodIn wsX5_changed (wsV RX5 194 RX5 yX5_nearest wsX5_nearest) := goodIn_app (goodIn_of _ (by decide +kernel)) ggX5_changed_X5_nearest
set_option maxRecDepth 20000 in
theorem ggX5_changed_X5_has : GoodIn wsX5_changed wsX5_has := goodIn_r _ [21] (by decide +kernel) (by decide +kernel)
set_option maxRecDepth 20000 in
theorem gX5_changed_X5_has : GoodIn wsX5_changed (va_wsS RX5 60 yX5_has wsX5_has) := goodIn_app (goodIn_of _ (by decide +kernel)) ggX5_changed_X5_has
theorem dX5_changed_0 : decode cX5_changed 0 = .ok (.aload_n 0, 1) := by decide +kernel
theorem dX5_changed_1 : decode cX5_changed 1 = .ok (.iload_n 1, 1) := by decide +kernel
theorem dX5_changed_2 : decode cX5_changed 2 = .ok (.invokevirtual 147, 3) := by decide +kernel
theorem dX5_changed_5 : decode cX5_changed 5 = .ok (.ifCond .eq 15, 3) := by decide +kernel
theorem dX5_changed_8 : decode cX5_changed 8 = .ok (.iload_n 2, 1) := by decide +kernel
theorem dX5_changed_9 : decode cX5_changed 9 = .ok (.i2l, 1) := by decide +kernel
theorem dX5_changed_10 : decode cX5_changed 10 = .ok (.lconst 0, 1) := by decide +kernel
theorem dX5_changed_11 : decode cX5_changed 11 = .ok (.ldc2_w 186, 3) := by decide +kernel
theorem dX5_changed_14 : decode cX5_changed 14 = .ok (.invokestatic 66, 3) := by decide +kernel
theorem dX5_changed_17 : decode cX5_changed 17 = .ok (.ifCond .ne 5, 3) := by decide +kernel
theorem dX5_changed_20 : decode cX5_changed 20 = .ok (.lconst 0, 1) := by decide +kernel
theorem dX5_changed_21 : decode cX5_changed 21 = .ok (.lreturn, 1) := by decide +kernel
theorem dX5_changed_22 : decode cX5_changed 22 = .ok (.iload_n 2, 1) := by decide +kernel
theorem dX5_changed_23 : decode cX5_changed 23 = .ok (.ifCond .ne 23, 3) := by decide +kernel
theorem dX5_changed_26 : decode cX5_changed 26 = .ok (.aload_n 0, 1) := by decide +kernel
theorem dX5_changed_27 : decode cX5_changed 27 = .ok (.aload_n 0, 1) := by decide +kernel
theorem dX5_changed_28 : decode cX5_changed 28 = .ok (.getfield 15, 3) := by decide +kernel
theorem dX5_changed_31 : decode cX5_changed 31 = .ok (.aload_n 0, 1) := by decide +kernel
theorem dX5_changed_32 : decode cX5_changed 32 = .ok (.getfield 19, 3) := by decide +kernel
theorem dX5_changed_35 : decode cX5_changed 35 = .ok (.land, 1) := by decide +kernel
theorem dX5_changed_36 : decode cX5_changed 36 = .ok (.aload_n 0, 1) := by decide +kernel
theorem dX5_changed_37 : decode cX5_changed 37 = .ok (.getfield 26, 3) := by decide +kernel
theorem dX5_changed_40 : decode cX5_changed 40 = .ok (.iload_n 1, 1) := by decide +kernel
theorem dX5_changed_41 : decode cX5_changed 41 = .ok (.laload, 1) := by decide +kernel
theorem dX5_changed_42 : decode cX5_changed 42 = .ok (.invokevirtual 194, 3) := by decide +kernel
theorem dX5_changed_45 : decode cX5_changed 45 = .ok (.lreturn, 1) := by decide +kernel
theorem dX5_changed_46 : decode cX5_changed 46 = .ok (.iload_n 2, 1) := by decide +kernel
theorem dX5_changed_47 : decode cX5_changed 47 = .ok (.iconst 2, 1) := by decide +kernel
theorem dX5_changed_48 : decode cX5_changed 48 = .ok (.if_icmp .ne 39, 3) := by decide +kernel
theorem dX5_changed_51 : decode cX5_changed 51 = .ok (.aload_n 0, 1) := by decide +kernel
theorem dX5_changed_52 : decode cX5_changed 52 = .ok (.getfield 15, 3) := by decide +kernel
theorem dX5_changed_55 : decode cX5_changed 55 = .ok (.aload_n 0, 1) := by decide +kernel
theorem dX5_changed_56 : decode cX5_changed 56 = .ok (.getfield 26, 3) := by decide +kernel
theorem dX5_changed_59 : decode cX5_changed 59 = .ok (.iload_n 1, 1) := by decide +kernel
theorem dX5_changed_60 : decode cX5_changed 60 = .ok (.laload, 1) := by decide +kernel
theorem dX5_changed_61 : decode cX5_changed 61 = .ok (.land, 1) := by decide +kernel
theorem dX5_changed_62 : decode cX5_changed 62 = .ok (.aload_n 0, 1) := by decide +kernel
theorem dX5_changed_63 : decode cX5_changed 63 = .ok (.aload_n 0, 1) := by decide +kernel
theorem dX5_changed_64 : decode cX5_changed 64 = .ok (.getfield 15, 3) := by decide +kernel
theorem dX5_changed_67 : decode cX5_changed 67 = .ok (.aload_n 0, 1) := by decide +kernel
theorem dX5_changed_68 : decode cX5_changed 68 = .ok (.getfield 19, 3) := by decide +kernel
theorem dX5_changed_71 : decode cX5_changed 71 = .ok (.ldc2_w 13, 3) := by decide +kernel
theorem dX5_changed_74 : decode cX5_changed 74 = .ok (.lxor, 1) := by decide +kernel
theorem dX5_changed_75 : decode cX5_changed 75 = .ok (.land, 1) := by decide +kernel
theorem dX5_changed_76 : decode cX5_changed 76 = .ok (.aload_n 0, 1) := by decide +kernel
theorem dX5_changed_77 : decode cX5_changed 77 = .ok (.getfield 26, 3) := by decide +kernel
theorem dX5_changed_80 : decode cX5_changed 80 = .ok (.iload_n 1, 1) := by decide +kernel
theorem dX5_changed_81 : decode cX5_changed 81 = .ok (.laload, 1) := by decide +kernel
theorem dX5_changed_82 : decode cX5_changed 82 = .ok (.invokevirtual 194, 3) := by decide +kernel
theorem dX5_changed_85 : decode cX5_changed 85 = .ok (.lor, 1) := by decide +kernel
theorem dX5_changed_86 : decode cX5_changed 86 = .ok (.lreturn, 1) := by decide +kernel
theorem dX5_changed_87 : decode cX5_changed 87 = .ok (.lconst 0, 1) := by decide +kernel
theorem dX5_changed_88 : decode cX5_changed 88 = .ok (.lstore_n 3, 1) := by decide +kernel
theorem dX5_changed_89 : decode cX5_changed 89 = .ok (.iconst 0, 1) := by decide +kernel
theorem dX5_changed_90 : decode cX5_changed 90 = .ok (.istore 5, 2) := by decide +kernel
theorem dX5_changed_92 : decode cX5_changed 92 = .ok (.iload 5, 2) := by decide +kernel
theorem dX5_changed_94 : decode cX5_changed 94 = .ok (.bipush 64, 2) := by decide +kernel
theorem dX5_changed_96 : decode cX5_changed 96 = .ok (.if_icmp .ge 47, 3) := by decide +kernel
theorem dX5_changed_99 : decode cX5_changed 99 = .ok (.lload_n 3, 1) := by decide +kernel
theorem dX5_changed_100 : decode cX5_changed 100 = .ok (.aload_n 0, 1) := by decide +kernel
theorem dX5_changed_101 : decode cX5_changed 101 = .ok (.getfield 26, 3) := by decide +kernel
theorem dX5_changed_104 : decode cX5_changed 104 = .ok (.iload_n 1, 1) := by decide +kernel
theorem dX5_changed_105 : decode cX5_changed 105 = .ok (.laload, 1) := by decide +kernel
theorem dX5_changed_106 : decode cX5_changed 106 = .ok (.iload 5, 2) := by decide +kernel
theorem dX5_changed_108 : decode cX5_changed 108 = .ok (.invokestatic 60, 3) := by decide +kernel
theorem dX5_changed_111 : decode cX5_changed 111 = .ok (.ifCond .eq 23, 3) := by decide +kernel
theorem dX5_changed_114 : decode cX5_changed 114 = .ok (.aload_n 0, 1) := by decide +kernel
theorem dX5_changed_115 : decode cX5_changed 115 = .ok (.aload_n 0, 1) := by decide +kernel
theorem dX5_changed_116 : decode cX5_changed 116 = .ok (.getfield 15, 3) := by decide +kernel
theorem dX5_changed_119 : decode cX5_changed 119 = .ok (.aload_n 0, 1) := by decide +kernel
theorem dX5_changed_120 : decode cX5_changed 120 = .ok (.getfield 19, 3) := by decide +kernel
theorem dX5_changed_123 : decode cX5_changed 123 = .ok (.land, 1) := by decide +kernel
theorem dX5_changed_124 : decode cX5_changed 124 = .ok (.lconst 1, 1) := by decide +kernel
theorem dX5_changed_125 : decode cX5_changed 125 = .ok (.iload 5, 2) := by decide +kernel
theorem dX5_changed_127 : decode cX5_changed 127 = .ok (.lshl, 1) := by decide +kernel
theorem dX5_changed_128 : decode cX5_changed 128 = .ok (.invokevirtual 194, 3) := by decide +kernel
theorem dX5_changed_131 : decode cX5_changed 131 = .ok (.goto 4, 3) := by decide +kernel
theorem dX5_changed_134 : decode cX5_changed 134 = .ok (.lconst 0, 1) := by decide +kernel
theorem dX5_changed_135 : decode cX5_changed 135 = .ok (.lor, 1) := by decide +kernel
theorem dX5_changed_136 : decode cX5_changed 136 = .ok (.lstore_n 3, 1) := by decide +kernel
theorem dX5_changed_137 : decode cX5_changed 137 = .ok (.iinc 5 1, 3) := by decide +kernel
theorem dX5_changed_140 : decode cX5_changed 140 = .ok (.goto (-48), 3) := by decide +kernel
theorem dX5_changed_143 : decode cX5_changed 143 = .ok (.lload_n 3, 1) := by decide +kernel
theorem dX5_changed_144 : decode cX5_changed 144 = .ok (.lreturn, 1) := by decide +kernel
set_option maxRecDepth 20000 in
theorem ggX5_isQuarrel_X5_has : GoodIn wsX5_isQuarrel wsX5_has := goodIn_r _ [8] (by decide +kernel) (by decide +kernel)
set_option maxRecDepth 20000 in
theorem gX5_isQuarrel_X5_has : GoodIn wsX5_isQuarrel (va_wsS RX5 60 yX5_has wsX5_has) := goodIn_app (goodIn_of _ (by decide +kernel)) ggX5_isQuarrel_X5_has
theorem dX5_isQuarrel_0 : decode cX5_isQuarrel 0 = .ok (.aload_n 0, 1) := by decide +kernel
theorem dX5_isQuarrel_1 : decode cX5_isQuarrel 1 = .ok (.getfield 15, 3) := by decide +kernel
theorem dX5_isQuarrel_4 : decode cX5_isQuarrel 4 = .ok (.lstore_n 2, 1) := by decide +kernel
theorem dX5_isQuarrel_5 : decode cX5_isQuarrel 5 = .ok (.iconst 0, 1) := by decide +kernel
theorem dX5_isQuarrel_6 : decode cX5_isQuarrel 6 = .ok (.istore 4, 2) := by decide +kernel
theorem dX5_isQuarrel_8 : decode cX5_isQuarrel 8 = .ok (.iload 4, 2) := by decide +kernel
theorem dX5_isQuarrel_10 : decode cX5_isQuarrel 10 = .ok (.aload_n 0, 1) := by decide +kernel
theorem dX5_isQuarrel_11 : decode cX5_isQuarrel 11 = .ok (.getfield 142, 3) := by decide +kernel
theorem dX5_isQuarrel_14 : decode cX5_isQuarrel 14 = .ok (.if_icmp .ge 35, 3) := by decide +kernel
theorem dX5_isQuarrel_17 : decode cX5_isQuarrel 17 = .ok (.lload_n 2, 1) := by decide +kernel
theorem dX5_isQuarrel_18 : decode cX5_isQuarrel 18 = .ok (.iload_n 1, 1) := by decide +kernel
theorem dX5_isQuarrel_19 : decode cX5_isQuarrel 19 = .ok (.i2l, 1) := by decide +kernel
theorem dX5_isQuarrel_20 : decode cX5_isQuarrel 20 = .ok (.iload 4, 2) := by decide +kernel
theorem dX5_isQuarrel_22 : decode cX5_isQuarrel 22 = .ok (.invokestatic 60, 3) := by decide +kernel
theorem dX5_isQuarrel_25 : decode cX5_isQuarrel 25 = .ok (.ifCond .eq 13, 3) := by decide +kernel
theorem dX5_isQuarrel_28 : decode cX5_isQuarrel 28 = .ok (.aload_n 0, 1) := by decide +kernel
theorem dX5_isQuarrel_29 : decode cX5_isQuarrel 29 = .ok (.getfield 26, 3) := by decide +kernel
theorem dX5_isQuarrel_32 : decode cX5_isQuarrel 32 = .ok (.iload 4, 2) := by decide +kernel
theorem dX5_isQuarrel_34 : decode cX5_isQuarrel 34 = .ok (.laload, 1) := by decide +kernel
theorem dX5_isQuarrel_35 : decode cX5_isQuarrel 35 = .ok (.goto 6, 3) := by decide +kernel
theorem dX5_isQuarrel_38 : decode cX5_isQuarrel 38 = .ok (.ldc2_w 13, 3) := by decide +kernel
theorem dX5_isQuarrel_41 : decode cX5_isQuarrel 41 = .ok (.land, 1) := by decide +kernel
theorem dX5_isQuarrel_42 : decode cX5_isQuarrel 42 = .ok (.lstore_n 2, 1) := by decide +kernel
theorem dX5_isQuarrel_43 : decode cX5_isQuarrel 43 = .ok (.iinc 4 1, 3) := by decide +kernel
theorem dX5_isQuarrel_46 : decode cX5_isQuarrel 46 = .ok (.goto (-38), 3) := by decide +kernel
theorem dX5_isQuarrel_49 : decode cX5_isQuarrel 49 = .ok (.lload_n 2, 1) := by decide +kernel
theorem dX5_isQuarrel_50 : decode cX5_isQuarrel 50 = .ok (.lconst 0, 1) := by decide +kernel
theorem dX5_isQuarrel_51 : decode cX5_isQuarrel 51 = .ok (.lcmp, 1) := by decide +kernel
theorem dX5_isQuarrel_52 : decode cX5_isQuarrel 52 = .ok (.ifCond .ne 7, 3) := by decide +kernel
theorem dX5_isQuarrel_55 : decode cX5_isQuarrel 55 = .ok (.iconst 1, 1) := by decide +kernel
theorem dX5_isQuarrel_56 : decode cX5_isQuarrel 56 = .ok (.goto 4, 3) := by decide +kernel
theorem dX5_isQuarrel_59 : decode cX5_isQuarrel 59 = .ok (.iconst 0, 1) := by decide +kernel
theorem dX5_isQuarrel_60 : decode cX5_isQuarrel 60 = .ok (.ireturn, 1) := by decide +kernel
set_option maxRecDepth 20000 in
theorem ggX5_isSet_X5_in : GoodIn wsX5_isSet wsX5_in := goodIn_r _ [5] (by decide +kernel) (by decide +kernel)
set_option maxRecDepth 20000 in
theorem gX5_isSet_X5_in : GoodIn wsX5_isSet (va_wsS RX5 66 yX5_in wsX5_in) := goodIn_app (goodIn_of _ (by decide +kernel)) ggX5_isSet_X5_in
theorem dX5_isSet_0 : decode cX5_isSet 0 = .ok (.iload_n 1, 1) := by decide +kernel
theorem dX5_isSet_1 : decode cX5_isSet 1 = .ok (.i2l, 1) := by decide +kernel
theorem dX5_isSet_2 : decode cX5_isSet 2 = .ok (.lconst 0, 1) := by decide +kernel
theorem dX5_isSet_3 : decode cX5_isSet 3 = .ok (.iconst 1, 1) := by decide +kernel
theorem dX5_isSet_4 : decode cX5_isSet 4 = .ok (.aload_n 0, 1) := by decide +kernel
theorem dX5_isSet_5 : decode cX5_isSet 5 = .ok (.getfield 142, 3) := by decide +kernel
theorem dX5_isSet_8 : decode cX5_isSet 8 = .ok (.ishl, 1) := by decide +kernel
theorem dX5_isSet_9 : decode cX5_isSet 9 = .ok (.iconst 1, 1) := by decide +kernel
theorem dX5_isSet_10 : decode cX5_isSet 10 = .ok (.isub, 1) := by decide +kernel
theorem dX5_isSet_11 : decode cX5_isSet 11 = .ok (.i2l, 1) := by decide +kernel
theorem dX5_isSet_12 : decode cX5_isSet 12 = .ok (.invokestatic 66, 3) := by decide +kernel
theorem dX5_isSet_15 : decode cX5_isSet 15 = .ok (.ireturn, 1) := by decide +kernel
set_option maxRecDepth 20000 in
theorem ggX5_quarrels_X5_isSet : GoodIn wsX5_quarrels wsX5_isSet := goodIn_r _ [5, 6, 7, 8, 4, 9, 20, 21, 22, 23, 24, 25, 26, 27, 28, 29, 30, 31, 32, 33, 34, 35, 36, 37, 38, 39, 40, 41, 42, 43, 44, 45, 46, 47, 48] (by decide +kernel) (by decide +kernel)
set_option maxRecDepth 20000 in
theorem gX5_quarrels_X5_isSet : GoodIn wsX5_quarrels (wsV RX5 198 RX5 yX5_isSet wsX5_isSet) := goodIn_app (goodIn_of _ (by decide +kernel)) ggX5_quarrels_X5_isSet
set_option maxRecDepth 20000 in
theorem ggX5_quarrels_X5_isQuarrel : GoodIn wsX5_quarrels wsX5_isQuarrel := goodIn_r _ [13, 14, 6, 15, 16, 17, 18, 4, 19, 20, 21, 22, 23, 24, 25, 26, 27, 28, 29, 30, 31, 32, 33, 34, 35, 36, 37, 38, 39, 40, 41, 42, 43, 44, 45, 46, 47, 48] (by decide +kernel) (by decide +kernel)
set_option maxRecDepth 20000 in
theorem gX5_quarrels_X5_isQuarrel : GoodIn wsX5_quarrels (wsV RX5 201 RX5 yX5_isQuarrel wsX5_isQuarrel) := goodIn_app (goodIn_of _ (by decide +kernel)) ggX5_quarrels_X5_isQuarrel
theorem dX5_quarrels_0 : decode cX5_quarrels 0 = .ok (.aload_n 0, 1) := by decide +kernel
theorem dX5_quarrels_1 : decode cX5_quarrels 1 = .ok (.iload_n 1, 1) := by decide +kernel
theorem dX5_quarrels_2 : decode cX5_quarrels 2 = .ok (.invokevirtual 198, 3) := by decide +kernel
theorem dX5_quarrels_5 : decode cX5_quarrels 5 = .ok (.ifCond .ne 7, 3) := by decide +kernel
theorem dX5_quarrels_8 : decode cX5_quarrels 8 = .ok (.iconst (-1), 1) := by decide +kernel
theorem dX5_quarrels_9 : decode cX5_quarrels 9 = .ok (.goto 16, 3) := by decide +kernel
theorem dX5_quarrels_12 : decode cX5_quarrels 12 = .ok (.aload_n 0, 1) := by decide +kernel
theorem dX5_quarrels_13 : decode cX5_quarrels 13 = .ok (.iload_n 1, 1) := by decide +kernel
theorem dX5_quarrels_14 : decode cX5_quarrels 14 = .ok (.invokevirtual 201, 3) := by decide +kernel
theorem dX5_quarrels_17 : decode cX5_quarrels 17 = .ok (.ifCond .eq 7, 3) := by decide +kernel
theorem dX5_quarrels_20 : decode cX5_quarrels 20 = .ok (.iconst 1, 1) := by decide +kernel
theorem dX5_quarrels_21 : decode cX5_quarrels 21 = .ok (.goto 4, 3) := by decide +kernel
theorem dX5_quarrels_24 : decode cX5_quarrels 24 = .ok (.iconst 0, 1) := by decide +kernel
theorem dX5_quarrels_25 : decode cX5_quarrels 25 = .ok (.ireturn, 1) := by decide +kernel
set_option maxRecDepth 20000 in
theorem ggX5_isTold_X5_isQuarrel : GoodIn wsX5_isTold wsX5_isQuarrel := goodIn_r _ [6, 7, 1, 8, 9, 10, 11, 5, 12, 13, 14, 15, 16, 17, 18, 19, 20, 21, 22, 23, 24, 25, 26, 27, 28, 29, 30, 31, 32, 33, 34, 35, 36, 37, 38, 39, 40, 41] (by decide +kernel) (by decide +kernel)
set_option maxRecDepth 20000 in
theorem gX5_isTold_X5_isQuarrel : GoodIn wsX5_isTold (wsV RX5 201 RX5 yX5_isQuarrel wsX5_isQuarrel) := goodIn_app (goodIn_of _ (by decide +kernel)) ggX5_isTold_X5_isQuarrel
set_option maxRecDepth 20000 in
theorem ggX5_isTold_X5_has : GoodIn wsX5_isTold wsX5_has := goodIn_r _ [12] (by decide +kernel) (by decide +kernel)
set_option maxRecDepth 20000 in
theorem gX5_isTold_X5_has : GoodIn wsX5_isTold (va_wsS RX5 60 yX5_has wsX5_has) := goodIn_app (goodIn_of _ (by decide +kernel)) ggX5_isTold_X5_has
theorem dX5_isTold_0 : decode cX5_isTold 0 = .ok (.aload_n 0, 1) := by decide +kernel
theorem dX5_isTold_1 : decode cX5_isTold 1 = .ok (.iload_n 2, 1) := by decide +kernel
theorem dX5_isTold_2 : decode cX5_isTold 2 = .ok (.invokevirtual 201, 3) := by decide +kernel
theorem dX5_isTold_5 : decode cX5_isTold 5 = .ok (.iload_n 1, 1) := by decide +kernel
theorem dX5_isTold_6 : decode cX5_isTold 6 = .ok (.ifCond .ne 7, 3) := by decide +kernel
theorem dX5_isTold_9 : decode cX5_isTold 9 = .ok (.iconst 1, 1) := by decide +kernel
theorem dX5_isTold_10 : decode cX5_isTold 10 = .ok (.goto 4, 3) := by decide +kernel
theorem dX5_isTold_13 : decode cX5_isTold 13 = .ok (.iconst 0, 1) := by decide +kernel
theorem dX5_isTold_14 : decode cX5_isTold 14 = .ok (.if_icmp .ne 7, 3) := by decide +kernel
theorem dX5_isTold_17 : decode cX5_isTold 17 = .ok (.iconst 1, 1) := by decide +kernel
theorem dX5_isTold_18 : decode cX5_isTold 18 = .ok (.goto 4, 3) := by decide +kernel
theorem dX5_isTold_21 : decode cX5_isTold 21 = .ok (.iconst 0, 1) := by decide +kernel
theorem dX5_isTold_22 : decode cX5_isTold 22 = .ok (.istore_n 3, 1) := by decide +kernel
theorem dX5_isTold_23 : decode cX5_isTold 23 = .ok (.iconst 0, 1) := by decide +kernel
theorem dX5_isTold_24 : decode cX5_isTold 24 = .ok (.istore 4, 2) := by decide +kernel
theorem dX5_isTold_26 : decode cX5_isTold 26 = .ok (.iload 4, 2) := by decide +kernel
theorem dX5_isTold_28 : decode cX5_isTold 28 = .ok (.aload_n 0, 1) := by decide +kernel
theorem dX5_isTold_29 : decode cX5_isTold 29 = .ok (.getfield 142, 3) := by decide +kernel
theorem dX5_isTold_32 : decode cX5_isTold 32 = .ok (.if_icmp .ge 72, 3) := by decide +kernel
theorem dX5_isTold_35 : decode cX5_isTold 35 = .ok (.iload_n 2, 1) := by decide +kernel
theorem dX5_isTold_36 : decode cX5_isTold 36 = .ok (.i2l, 1) := by decide +kernel
theorem dX5_isTold_37 : decode cX5_isTold 37 = .ok (.iload 4, 2) := by decide +kernel
theorem dX5_isTold_39 : decode cX5_isTold 39 = .ok (.invokestatic 60, 3) := by decide +kernel
theorem dX5_isTold_42 : decode cX5_isTold 42 = .ok (.iload_n 1, 1) := by decide +kernel
theorem dX5_isTold_43 : decode cX5_isTold 43 = .ok (.ifCond .ne 7, 3) := by decide +kernel
theorem dX5_isTold_46 : decode cX5_isTold 46 = .ok (.iconst 1, 1) := by decide +kernel
theorem dX5_isTold_47 : decode cX5_isTold 47 = .ok (.goto 4, 3) := by decide +kernel
theorem dX5_isTold_50 : decode cX5_isTold 50 = .ok (.iconst 0, 1) := by decide +kernel
theorem dX5_isTold_51 : decode cX5_isTold 51 = .ok (.if_icmp .ne 7, 3) := by decide +kernel
theorem dX5_isTold_54 : decode cX5_isTold 54 = .ok (.iconst 1, 1) := by decide +kernel
theorem dX5_isTold_55 : decode cX5_isTold 55 = .ok (.goto 4, 3) := by decide +kernel
theorem dX5_isTold_58 : decode cX5_isTold 58 = .ok (.iconst 0, 1) := by decide +kernel
theorem dX5_isTold_59 : decode cX5_isTold 59 = .ok (.istore 5, 2) := by decide +kernel
theorem dX5_isTold_61 : decode cX5_isTold 61 = .ok (.iload_n 3, 1) := by decide +kernel
theorem dX5_isTold_62 : decode cX5_isTold 62 = .ok (.ifCond .eq 34, 3) := by decide +kernel
theorem dX5_isTold_65 : decode cX5_isTold 65 = .ok (.iload 5, 2) := by decide +kernel
theorem dX5_isTold_67 : decode cX5_isTold 67 = .ok (.ifCond .eq 25, 3) := by decide +kernel
theorem dX5_isTold_70 : decode cX5_isTold 70 = .ok (.aload_n 0, 1) := by decide +kernel
theorem dX5_isTold_71 : decode cX5_isTold 71 = .ok (.iload_n 2, 1) := by decide +kernel
theorem dX5_isTold_72 : decode cX5_isTold 72 = .ok (.iconst 1, 1) := by decide +kernel
theorem dX5_isTold_73 : decode cX5_isTold 73 = .ok (.iload 4, 2) := by decide +kernel
theorem dX5_isTold_75 : decode cX5_isTold 75 = .ok (.ishl, 1) := by decide +kernel
theorem dX5_isTold_76 : decode cX5_isTold 76 = .ok (.ixor, 1) := by decide +kernel
theorem dX5_isTold_77 : decode cX5_isTold 77 = .ok (.invokevirtual 201, 3) := by decide +kernel
theorem dX5_isTold_80 : decode cX5_isTold 80 = .ok (.iload_n 1, 1) := by decide +kernel
theorem dX5_isTold_81 : decode cX5_isTold 81 = .ok (.ifCond .ne 7, 3) := by decide +kernel
theorem dX5_isTold_84 : decode cX5_isTold 84 = .ok (.iconst 1, 1) := by decide +kernel
theorem dX5_isTold_85 : decode cX5_isTold 85 = .ok (.goto 4, 3) := by decide +kernel
theorem dX5_isTold_88 : decode cX5_isTold 88 = .ok (.iconst 0, 1) := by decide +kernel
theorem dX5_isTold_89 : decode cX5_isTold 89 = .ok (.if_icmp .eq 7, 3) := by decide +kernel
theorem dX5_isTold_92 : decode cX5_isTold 92 = .ok (.iconst 1, 1) := by decide +kernel
theorem dX5_isTold_93 : decode cX5_isTold 93 = .ok (.goto 4, 3) := by decide +kernel
theorem dX5_isTold_96 : decode cX5_isTold 96 = .ok (.iconst 0, 1) := by decide +kernel
theorem dX5_isTold_97 : decode cX5_isTold 97 = .ok (.istore_n 3, 1) := by decide +kernel
theorem dX5_isTold_98 : decode cX5_isTold 98 = .ok (.iinc 4 1, 3) := by decide +kernel
theorem dX5_isTold_101 : decode cX5_isTold 101 = .ok (.goto (-75), 3) := by decide +kernel
theorem dX5_isTold_104 : decode cX5_isTold 104 = .ok (.iload_n 3, 1) := by decide +kernel
theorem dX5_isTold_105 : decode cX5_isTold 105 = .ok (.ireturn, 1) := by decide +kernel
set_option maxRecDepth 20000 in
theorem ggX5_sets_X5_in : GoodIn wsX5_sets wsX5_in := goodIn_r _ [5] (by decide +kernel) (by decide +kernel)
set_option maxRecDepth 20000 in
theorem gX5_sets_X5_in : GoodIn wsX5_sets (va_wsS RX5 66 yX5_in wsX5_in) := goodIn_app (goodIn_of _ (by decide +kernel)) ggX5_sets_X5_in
set_option maxRecDepth 20000 in
theorem ggX5_sets_X5_many : GoodIn wsX5_sets wsX5_many := goodIn_r _ [8, 9, 10, 4, 11] (by decide +kernel) (by decide +kernel)
set_option maxRecDepth 20000 in
theorem gX5_sets_X5_many : GoodIn wsX5_sets (va_wsS RX5 204 yX5_many wsX5_many) := goodIn_app (goodIn_of _ (by decide +kernel)) ggX5_sets_X5_many
set_option maxRecDepth 20000 in
theorem ggX5_sets_X5_isTold : GoodIn wsX5_sets wsX5_isTold := goodIn_r _ [15, 1, 16, 17, 18, 4, 19, 20, 21, 22, 9, 10, 11, 23, 24, 25, 26, 27, 28, 29, 30, 31, 32, 33, 34, 35, 36, 37, 38, 39, 40, 41, 42, 43, 44, 45, 46, 47, 48, 49, 50, 51] (by decide +kernel) (by decide +kernel)
set_option maxRecDepth 20000 in
theorem gX5_sets_X5_isTold : GoodIn wsX5_sets (wsV RX5 208 RX5 yX5_isTold wsX5_isTold) := goodIn_app (goodIn_of _ (by decide +kernel)) ggX5_sets_X5_isTold
theorem dX5_sets_0 : decode cX5_sets 0 = .ok (.iload_n 1, 1) := by decide +kernel
theorem dX5_sets_1 : decode cX5_sets 1 = .ok (.i2l, 1) := by decide +kernel
theorem dX5_sets_2 : decode cX5_sets 2 = .ok (.lconst 0, 1) := by decide +kernel
theorem dX5_sets_3 : decode cX5_sets 3 = .ok (.lconst 1, 1) := by decide +kernel
theorem dX5_sets_4 : decode cX5_sets 4 = .ok (.invokestatic 66, 3) := by decide +kernel
theorem dX5_sets_7 : decode cX5_sets 7 = .ok (.ifCond .eq 8, 3) := by decide +kernel
theorem dX5_sets_10 : decode cX5_sets 10 = .ok (.iload_n 2, 1) := by decide +kernel
theorem dX5_sets_11 : decode cX5_sets 11 = .ok (.iconst (-1), 1) := by decide +kernel
theorem dX5_sets_12 : decode cX5_sets 12 = .ok (.if_icmp .ge 5, 3) := by decide +kernel
theorem dX5_sets_15 : decode cX5_sets 15 = .ok (.iconst (-1), 1) := by decide +kernel
theorem dX5_sets_16 : decode cX5_sets 16 = .ok (.ireturn, 1) := by decide +kernel
theorem dX5_sets_17 : decode cX5_sets 17 = .ok (.iconst 0, 1) := by decide +kernel
theorem dX5_sets_18 : decode cX5_sets 18 = .ok (.istore_n 3, 1) := by decide +kernel
theorem dX5_sets_19 : decode cX5_sets 19 = .ok (.iconst 0, 1) := by decide +kernel
theorem dX5_sets_20 : decode cX5_sets 20 = .ok (.istore 4, 2) := by decide +kernel
theorem dX5_sets_22 : decode cX5_sets 22 = .ok (.iload 4, 2) := by decide +kernel
theorem dX5_sets_24 : decode cX5_sets 24 = .ok (.aload_n 0, 1) := by decide +kernel
theorem dX5_sets_25 : decode cX5_sets 25 = .ok (.getfield 142, 3) := by decide +kernel
theorem dX5_sets_28 : decode cX5_sets 28 = .ok (.if_icmp .gt 79, 3) := by decide +kernel
theorem dX5_sets_31 : decode cX5_sets 31 = .ok (.iload_n 1, 1) := by decide +kernel
theorem dX5_sets_32 : decode cX5_sets 32 = .ok (.ifCond .ne 8, 3) := by decide +kernel
theorem dX5_sets_35 : decode cX5_sets 35 = .ok (.iload 4, 2) := by decide +kernel
theorem dX5_sets_37 : decode cX5_sets 37 = .ok (.goto 10, 3) := by decide +kernel
theorem dX5_sets_40 : decode cX5_sets 40 = .ok (.aload_n 0, 1) := by decide +kernel
theorem dX5_sets_41 : decode cX5_sets 41 = .ok (.getfield 142, 3) := by decide +kernel
theorem dX5_sets_44 : decode cX5_sets 44 = .ok (.iload 4, 2) := by decide +kernel
theorem dX5_sets_46 : decode cX5_sets 46 = .ok (.isub, 1) := by decide +kernel
theorem dX5_sets_47 : decode cX5_sets 47 = .ok (.istore 5, 2) := by decide +kernel
theorem dX5_sets_49 : decode cX5_sets 49 = .ok (.iconst 0, 1) := by decide +kernel
theorem dX5_sets_50 : decode cX5_sets 50 = .ok (.istore 6, 2) := by decide +kernel
theorem dX5_sets_52 : decode cX5_sets 52 = .ok (.iload 6, 2) := by decide +kernel
theorem dX5_sets_54 : decode cX5_sets 54 = .ok (.iconst 1, 1) := by decide +kernel
theorem dX5_sets_55 : decode cX5_sets 55 = .ok (.aload_n 0, 1) := by decide +kernel
theorem dX5_sets_56 : decode cX5_sets 56 = .ok (.getfield 142, 3) := by decide +kernel
theorem dX5_sets_59 : decode cX5_sets 59 = .ok (.ishl, 1) := by decide +kernel
theorem dX5_sets_60 : decode cX5_sets 60 = .ok (.if_icmp .ge 41, 3) := by decide +kernel
theorem dX5_sets_63 : decode cX5_sets 63 = .ok (.iload 6, 2) := by decide +kernel
theorem dX5_sets_65 : decode cX5_sets 65 = .ok (.i2l, 1) := by decide +kernel
theorem dX5_sets_66 : decode cX5_sets 66 = .ok (.invokestatic 204, 3) := by decide +kernel
theorem dX5_sets_69 : decode cX5_sets 69 = .ok (.iload 5, 2) := by decide +kernel
theorem dX5_sets_71 : decode cX5_sets 71 = .ok (.if_icmp .ne 24, 3) := by decide +kernel
theorem dX5_sets_74 : decode cX5_sets 74 = .ok (.aload_n 0, 1) := by decide +kernel
theorem dX5_sets_75 : decode cX5_sets 75 = .ok (.iload_n 1, 1) := by decide +kernel
theorem dX5_sets_76 : decode cX5_sets 76 = .ok (.iload 6, 2) := by decide +kernel
theorem dX5_sets_78 : decode cX5_sets 78 = .ok (.invokevirtual 208, 3) := by decide +kernel
theorem dX5_sets_81 : decode cX5_sets 81 = .ok (.ifCond .eq 14, 3) := by decide +kernel
theorem dX5_sets_84 : decode cX5_sets 84 = .ok (.iload_n 3, 1) := by decide +kernel
theorem dX5_sets_85 : decode cX5_sets 85 = .ok (.iload_n 2, 1) := by decide +kernel
theorem dX5_sets_86 : decode cX5_sets 86 = .ok (.if_icmp .ne 6, 3) := by decide +kernel
theorem dX5_sets_89 : decode cX5_sets 89 = .ok (.iload 6, 2) := by decide +kernel
theorem dX5_sets_91 : decode cX5_sets 91 = .ok (.ireturn, 1) := by decide +kernel
theorem dX5_sets_92 : decode cX5_sets 92 = .ok (.iinc 3 1, 3) := by decide +kernel
theorem dX5_sets_95 : decode cX5_sets 95 = .ok (.iinc 6 1, 3) := by decide +kernel
theorem dX5_sets_98 : decode cX5_sets 98 = .ok (.goto (-46), 3) := by decide +kernel
theorem dX5_sets_101 : decode cX5_sets 101 = .ok (.iinc 4 1, 3) := by decide +kernel
theorem dX5_sets_104 : decode cX5_sets 104 = .ok (.goto (-82), 3) := by decide +kernel
theorem dX5_sets_107 : decode cX5_sets 107 = .ok (.iload_n 2, 1) := by decide +kernel
theorem dX5_sets_108 : decode cX5_sets 108 = .ok (.ifCond .ge 7, 3) := by decide +kernel
theorem dX5_sets_111 : decode cX5_sets 111 = .ok (.iload_n 3, 1) := by decide +kernel
theorem dX5_sets_112 : decode cX5_sets 112 = .ok (.goto 4, 3) := by decide +kernel
theorem dX5_sets_115 : decode cX5_sets 115 = .ok (.iconst (-1), 1) := by decide +kernel
theorem dX5_sets_116 : decode cX5_sets 116 = .ok (.ireturn, 1) := by decide +kernel
set_option maxRecDepth 20000 in
theorem ggX5_free_X5_isTold : GoodIn wsX5_free wsX5_isTold := goodIn_r _ [6, 1, 7, 8, 9, 5, 10, 11, 12, 13, 14, 15, 16, 17, 18, 19, 20, 21, 22, 23, 24, 25, 26, 27, 28, 29, 30, 31, 32, 33, 34, 35, 36, 37, 38, 39, 40, 41, 42, 43, 44, 45] (by decide +kernel) (by decide +kernel)
set_option maxRecDepth 20000 in
theorem gX5_free_X5_isTold : GoodIn wsX5_free (wsV RX5 208 RX5 yX5_isTold wsX5_isTold) := goodIn_app (goodIn_of _ (by decide +kernel)) ggX5_free_X5_isTold
theorem dX5_free_0 : decode cX5_free 0 = .ok (.iconst 0, 1) := by decide +kernel
theorem dX5_free_1 : decode cX5_free 1 = .ok (.istore_n 1, 1) := by decide +kernel
theorem dX5_free_2 : decode cX5_free 2 = .ok (.iconst 0, 1) := by decide +kernel
theorem dX5_free_3 : decode cX5_free 3 = .ok (.istore_n 2, 1) := by decide +kernel
theorem dX5_free_4 : decode cX5_free 4 = .ok (.iload_n 2, 1) := by decide +kernel
theorem dX5_free_5 : decode cX5_free 5 = .ok (.iconst 1, 1) := by decide +kernel
theorem dX5_free_6 : decode cX5_free 6 = .ok (.aload_n 0, 1) := by decide +kernel
theorem dX5_free_7 : decode cX5_free 7 = .ok (.getfield 142, 3) := by decide +kernel
theorem dX5_free_10 : decode cX5_free 10 = .ok (.ishl, 1) := by decide +kernel
theorem dX5_free_11 : decode cX5_free 11 = .ok (.if_icmp .ge 26, 3) := by decide +kernel
theorem dX5_free_14 : decode cX5_free 14 = .ok (.iload_n 1, 1) := by decide +kernel
theorem dX5_free_15 : decode cX5_free 15 = .ok (.aload_n 0, 1) := by decide +kernel
theorem dX5_free_16 : decode cX5_free 16 = .ok (.iconst 0, 1) := by decide +kernel
theorem dX5_free_17 : decode cX5_free 17 = .ok (.iload_n 2, 1) := by decide +kernel
theorem dX5_free_18 : decode cX5_free 18 = .ok (.invokevirtual 208, 3) := by decide +kernel
theorem dX5_free_21 : decode cX5_free 21 = .ok (.ifCond .eq 7, 3) := by decide +kernel
theorem dX5_free_24 : decode cX5_free 24 = .ok (.iload_n 2, 1) := by decide +kernel
theorem dX5_free_25 : decode cX5_free 25 = .ok (.goto 4, 3) := by decide +kernel
theorem dX5_free_28 : decode cX5_free 28 = .ok (.iconst 0, 1) := by decide +kernel
theorem dX5_free_29 : decode cX5_free 29 = .ok (.ior, 1) := by decide +kernel
theorem dX5_free_30 : decode cX5_free 30 = .ok (.istore_n 1, 1) := by decide +kernel
theorem dX5_free_31 : decode cX5_free 31 = .ok (.iinc 2 1, 3) := by decide +kernel
theorem dX5_free_34 : decode cX5_free 34 = .ok (.goto (-30), 3) := by decide +kernel
theorem dX5_free_37 : decode cX5_free 37 = .ok (.iconst 1, 1) := by decide +kernel
theorem dX5_free_38 : decode cX5_free 38 = .ok (.aload_n 0, 1) := by decide +kernel
theorem dX5_free_39 : decode cX5_free 39 = .ok (.getfield 142, 3) := by decide +kernel
theorem dX5_free_42 : decode cX5_free 42 = .ok (.ishl, 1) := by decide +kernel
theorem dX5_free_43 : decode cX5_free 43 = .ok (.iconst 1, 1) := by decide +kernel
theorem dX5_free_44 : decode cX5_free 44 = .ok (.isub, 1) := by decide +kernel
theorem dX5_free_45 : decode cX5_free 45 = .ok (.iload_n 1, 1) := by decide +kernel
theorem dX5_free_46 : decode cX5_free 46 = .ok (.iconst (-1), 1) := by decide +kernel
theorem dX5_free_47 : decode cX5_free 47 = .ok (.ixor, 1) := by decide +kernel
theorem dX5_free_48 : decode cX5_free 48 = .ok (.iand, 1) := by decide +kernel
theorem dX5_free_49 : decode cX5_free 49 = .ok (.ireturn, 1) := by decide +kernel
theorem dX5_orders_0 : decode cX5_orders 0 = .ok (.iconst 1, 1) := by decide +kernel
theorem dX5_orders_1 : decode cX5_orders 1 = .ok (.istore_n 1, 1) := by decide +kernel
theorem dX5_orders_2 : decode cX5_orders 2 = .ok (.iconst 2, 1) := by decide +kernel
theorem dX5_orders_3 : decode cX5_orders 3 = .ok (.istore_n 2, 1) := by decide +kernel
theorem dX5_orders_4 : decode cX5_orders 4 = .ok (.iload_n 2, 1) := by decide +kernel
theorem dX5_orders_5 : decode cX5_orders 5 = .ok (.iload_n 0, 1) := by decide +kernel
theorem dX5_orders_6 : decode cX5_orders 6 = .ok (.if_icmp .gt 13, 3) := by decide +kernel
theorem dX5_orders_9 : decode cX5_orders 9 = .ok (.iload_n 1, 1) := by decide +kernel
theorem dX5_orders_10 : decode cX5_orders 10 = .ok (.iload_n 2, 1) := by decide +kernel
theorem dX5_orders_11 : decode cX5_orders 11 = .ok (.imul, 1) := by decide +kernel
theorem dX5_orders_12 : decode cX5_orders 12 = .ok (.istore_n 1, 1) := by decide +kernel
theorem dX5_orders_13 : decode cX5_orders 13 = .ok (.iinc 2 1, 3) := by decide +kernel
theorem dX5_orders_16 : decode cX5_orders 16 = .ok (.goto (-12), 3) := by decide +kernel
theorem dX5_orders_19 : decode cX5_orders 19 = .ok (.iload_n 1, 1) := by decide +kernel
theorem dX5_orders_20 : decode cX5_orders 20 = .ok (.ireturn, 1) := by decide +kernel
set_option maxRecDepth 20000 in
theorem ggX5_share_X5_isSayer : GoodIn wsX5_share wsX5_isSayer := goodIn_r _ [6, 1, 7, 8, 5, 9, 26, 27, 28, 29, 30, 31, 32, 33, 34, 35, 36, 37, 38, 39, 40, 41, 42, 43, 44, 45, 46, 47, 48, 49, 50, 51, 52, 53, 54] (by decide +kernel) (by decide +kernel)
set_option maxRecDepth 20000 in
theorem gX5_share_X5_isSayer : GoodIn wsX5_share (wsV RX5 147 RX5 yX5_isSayer wsX5_isSayer) := goodIn_app (goodIn_of _ (by decide +kernel)) ggX5_share_X5_isSayer
set_option maxRecDepth 20000 in
theorem ggX5_share_X5_in : GoodIn wsX5_share wsX5_in := goodIn_r _ [9] (by decide +kernel) (by decide +kernel)
set_option maxRecDepth 20000 in
theorem gX5_share_X5_in : GoodIn wsX5_share (va_wsS RX5 66 yX5_in wsX5_in) := goodIn_app (goodIn_of _ (by decide +kernel)) ggX5_share_X5_in
set_option maxRecDepth 20000 in
theorem ggX5_share_X5_has : GoodIn wsX5_share wsX5_has := goodIn_r _ [12] (by decide +kernel) (by decide +kernel)
set_option maxRecDepth 20000 in
theorem gX5_share_X5_has : GoodIn wsX5_share (va_wsS RX5 60 yX5_has wsX5_has) := goodIn_app (goodIn_of _ (by decide +kernel)) ggX5_share_X5_has
set_option maxRecDepth 20000 in
theorem ggX5_share_X5_isQuarrel : GoodIn wsX5_share wsX5_isQuarrel := goodIn_r _ [16, 17, 1, 18, 19, 10, 11, 5, 12, 26, 27, 28, 29, 30, 31, 32, 33, 34, 35, 36, 37, 38, 39, 40, 41, 42, 43, 44, 45, 46, 47, 48, 49, 50, 51, 52, 53, 54] (by decide +kernel) (by decide +kernel)
set_option maxRecDepth 20000 in
theorem gX5_share_X5_isQuarrel : GoodIn wsX5_share (wsV RX5 201 RX5 yX5_isQuarrel wsX5_isQuarrel) := goodIn_app (goodIn_of _ (by decide +kernel)) ggX5_share_X5_isQuarrel
set_option maxRecDepth 20000 in
theorem ggX5_share_X5_many : GoodIn wsX5_share wsX5_many := goodIn_r _ [22, 10, 11, 5, 12] (by decide +kernel) (by decide +kernel)
set_option maxRecDepth 20000 in
theorem gX5_share_X5_many : GoodIn wsX5_share (va_wsS RX5 204 yX5_many wsX5_many) := goodIn_app (goodIn_of _ (by decide +kernel)) ggX5_share_X5_many
set_option maxRecDepth 20000 in
theorem ggX5_share_X5_orders : GoodIn wsX5_share wsX5_orders := goodIn_r _ [25] (by decide +kernel) (by decide +kernel)
set_option maxRecDepth 20000 in
theorem gX5_share_X5_orders : GoodIn wsX5_share (va_wsS RX5 212 yX5_orders wsX5_orders) := goodIn_app (goodIn_of _ (by decide +kernel)) ggX5_share_X5_orders
theorem dX5_share_0 : decode cX5_share 0 = .ok (.aload_n 0, 1) := by decide +kernel
theorem dX5_share_1 : decode cX5_share 1 = .ok (.iload_n 1, 1) := by decide +kernel
theorem dX5_share_2 : decode cX5_share 2 = .ok (.invokevirtual 147, 3) := by decide +kernel
theorem dX5_share_5 : decode cX5_share 5 = .ok (.ifCond .eq 13, 3) := by decide +kernel
theorem dX5_share_8 : decode cX5_share 8 = .ok (.iload_n 2, 1) := by decide +kernel
theorem dX5_share_9 : decode cX5_share 9 = .ok (.i2l, 1) := by decide +kernel
theorem dX5_share_10 : decode cX5_share 10 = .ok (.lconst 0, 1) := by decide +kernel
theorem dX5_share_11 : decode cX5_share 11 = .ok (.lconst 1, 1) := by decide +kernel
theorem dX5_share_12 : decode cX5_share 12 = .ok (.invokestatic 66, 3) := by decide +kernel
theorem dX5_share_15 : decode cX5_share 15 = .ok (.ifCond .ne 5, 3) := by decide +kernel
theorem dX5_share_18 : decode cX5_share 18 = .ok (.iconst (-1), 1) := by decide +kernel
theorem dX5_share_19 : decode cX5_share 19 = .ok (.ireturn, 1) := by decide +kernel
theorem dX5_share_20 : decode cX5_share 20 = .ok (.iconst 0, 1) := by decide +kernel
theorem dX5_share_21 : decode cX5_share 21 = .ok (.istore_n 3, 1) := by decide +kernel
theorem dX5_share_22 : decode cX5_share 22 = .ok (.iconst 0, 1) := by decide +kernel
theorem dX5_share_23 : decode cX5_share 23 = .ok (.istore 4, 2) := by decide +kernel
theorem dX5_share_25 : decode cX5_share 25 = .ok (.iload 4, 2) := by decide +kernel
theorem dX5_share_27 : decode cX5_share 27 = .ok (.iconst 1, 1) := by decide +kernel
theorem dX5_share_28 : decode cX5_share 28 = .ok (.aload_n 0, 1) := by decide +kernel
theorem dX5_share_29 : decode cX5_share 29 = .ok (.getfield 142, 3) := by decide +kernel
theorem dX5_share_32 : decode cX5_share 32 = .ok (.ishl, 1) := by decide +kernel
theorem dX5_share_33 : decode cX5_share 33 = .ok (.if_icmp .ge 70, 3) := by decide +kernel
theorem dX5_share_36 : decode cX5_share 36 = .ok (.iload 4, 2) := by decide +kernel
theorem dX5_share_38 : decode cX5_share 38 = .ok (.i2l, 1) := by decide +kernel
theorem dX5_share_39 : decode cX5_share 39 = .ok (.iload_n 1, 1) := by decide +kernel
theorem dX5_share_40 : decode cX5_share 40 = .ok (.invokestatic 60, 3) := by decide +kernel
theorem dX5_share_43 : decode cX5_share 43 = .ok (.ifCond .ne 54, 3) := by decide +kernel
theorem dX5_share_46 : decode cX5_share 46 = .ok (.aload_n 0, 1) := by decide +kernel
theorem dX5_share_47 : decode cX5_share 47 = .ok (.iload 4, 2) := by decide +kernel
theorem dX5_share_49 : decode cX5_share 49 = .ok (.invokevirtual 201, 3) := by decide +kernel
theorem dX5_share_52 : decode cX5_share 52 = .ok (.ifCond .ne 45, 3) := by decide +kernel
theorem dX5_share_55 : decode cX5_share 55 = .ok (.aload_n 0, 1) := by decide +kernel
theorem dX5_share_56 : decode cX5_share 56 = .ok (.iload 4, 2) := by decide +kernel
theorem dX5_share_58 : decode cX5_share 58 = .ok (.iconst 1, 1) := by decide +kernel
theorem dX5_share_59 : decode cX5_share 59 = .ok (.iload_n 1, 1) := by decide +kernel
theorem dX5_share_60 : decode cX5_share 60 = .ok (.ishl, 1) := by decide +kernel
theorem dX5_share_61 : decode cX5_share 61 = .ok (.ior, 1) := by decide +kernel
theorem dX5_share_62 : decode cX5_share 62 = .ok (.invokevirtual 201, 3) := by decide +kernel
theorem dX5_share_65 : decode cX5_share 65 = .ok (.ifCond .eq 32, 3) := by decide +kernel
theorem dX5_share_68 : decode cX5_share 68 = .ok (.iload_n 3, 1) := by decide +kernel
theorem dX5_share_69 : decode cX5_share 69 = .ok (.iload 4, 2) := by decide +kernel
theorem dX5_share_71 : decode cX5_share 71 = .ok (.i2l, 1) := by decide +kernel
theorem dX5_share_72 : decode cX5_share 72 = .ok (.invokestatic 204, 3) := by decide +kernel
theorem dX5_share_75 : decode cX5_share 75 = .ok (.invokestatic 212, 3) := by decide +kernel
theorem dX5_share_78 : decode cX5_share 78 = .ok (.aload_n 0, 1) := by decide +kernel
theorem dX5_share_79 : decode cX5_share 79 = .ok (.getfield 142, 3) := by decide +kernel
theorem dX5_share_82 : decode cX5_share 82 = .ok (.iconst 1, 1) := by decide +kernel
theorem dX5_share_83 : decode cX5_share 83 = .ok (.isub, 1) := by decide +kernel
theorem dX5_share_84 : decode cX5_share 84 = .ok (.iload 4, 2) := by decide +kernel
theorem dX5_share_86 : decode cX5_share 86 = .ok (.i2l, 1) := by decide +kernel
theorem dX5_share_87 : decode cX5_share 87 = .ok (.invokestatic 204, 3) := by decide +kernel
theorem dX5_share_90 : decode cX5_share 90 = .ok (.isub, 1) := by decide +kernel
theorem dX5_share_91 : decode cX5_share 91 = .ok (.invokestatic 212, 3) := by decide +kernel
theorem dX5_share_94 : decode cX5_share 94 = .ok (.imul, 1) := by decide +kernel
theorem dX5_share_95 : decode cX5_share 95 = .ok (.iadd, 1) := by decide +kernel
theorem dX5_share_96 : decode cX5_share 96 = .ok (.istore_n 3, 1) := by decide +kernel
theorem dX5_share_97 : decode cX5_share 97 = .ok (.iinc 4 1, 3) := by decide +kernel
theorem dX5_share_100 : decode cX5_share 100 = .ok (.goto (-75), 3) := by decide +kernel
theorem dX5_share_103 : decode cX5_share 103 = .ok (.aload_n 0, 1) := by decide +kernel
theorem dX5_share_104 : decode cX5_share 104 = .ok (.getfield 142, 3) := by decide +kernel
theorem dX5_share_107 : decode cX5_share 107 = .ok (.invokestatic 212, 3) := by decide +kernel
theorem dX5_share_110 : decode cX5_share 110 = .ok (.istore 4, 2) := by decide +kernel
theorem dX5_share_112 : decode cX5_share 112 = .ok (.iload_n 3, 1) := by decide +kernel
theorem dX5_share_113 : decode cX5_share 113 = .ok (.istore 5, 2) := by decide +kernel
theorem dX5_share_115 : decode cX5_share 115 = .ok (.iload 4, 2) := by decide +kernel
theorem dX5_share_117 : decode cX5_share 117 = .ok (.istore 6, 2) := by decide +kernel
theorem dX5_share_119 : decode cX5_share 119 = .ok (.iload 6, 2) := by decide +kernel
theorem dX5_share_121 : decode cX5_share 121 = .ok (.ifCond .eq 21, 3) := by decide +kernel
theorem dX5_share_124 : decode cX5_share 124 = .ok (.iload 5, 2) := by decide +kernel
theorem dX5_share_126 : decode cX5_share 126 = .ok (.iload 6, 2) := by decide +kernel
