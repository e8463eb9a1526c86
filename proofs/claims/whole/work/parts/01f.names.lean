theorem dX5_init_124 : decode cX5_init 124 = .ok (.aload_n 0, 1) := by decide +kernel
theorem dX5_init_125 : decode cX5_init 125 = .ok (.bipush 7, 2) := by decide +kernel
theorem dX5_init_127 : decode cX5_init 127 = .ok (.newarray .int, 2) := by decide +kernel
theorem dX5_init_129 : decode cX5_init 129 = .ok (.putfield 51, 3) := by decide +kernel
theorem dX5_init_132 : decode cX5_init 132 = .ok (.aload_n 0, 1) := by decide +kernel
theorem dX5_init_133 : decode cX5_init 133 = .ok (.bipush 7, 2) := by decide +kernel
theorem dX5_init_135 : decode cX5_init 135 = .ok (.newarray .int, 2) := by decide +kernel
theorem dX5_init_137 : decode cX5_init 137 = .ok (.putfield 54, 3) := by decide +kernel
theorem dX5_init_140 : decode cX5_init 140 = .ok (.aload_n 0, 1) := by decide +kernel
theorem dX5_init_141 : decode cX5_init 141 = .ok (.bipush 64, 2) := by decide +kernel
theorem dX5_init_143 : decode cX5_init 143 = .ok (.newarray .int, 2) := by decide +kernel
theorem dX5_init_145 : decode cX5_init 145 = .ok (.putfield 57, 3) := by decide +kernel
theorem dX5_init_148 : decode cX5_init 148 = .ok (.return_, 1) := by decide +kernel
theorem dX5_in_0 : decode cX5_in 0 = .ok (.lload_n 0, 1) := by decide +kernel
theorem dX5_in_1 : decode cX5_in 1 = .ok (.lload_n 2, 1) := by decide +kernel
theorem dX5_in_2 : decode cX5_in 2 = .ok (.lcmp, 1) := by decide +kernel
theorem dX5_in_3 : decode cX5_in 3 = .ok (.ifCond .lt 14, 3) := by decide +kernel
theorem dX5_in_6 : decode cX5_in 6 = .ok (.lload_n 0, 1) := by decide +kernel
theorem dX5_in_7 : decode cX5_in 7 = .ok (.lload 4, 2) := by decide +kernel
theorem dX5_in_9 : decode cX5_in 9 = .ok (.lcmp, 1) := by decide +kernel
theorem dX5_in_10 : decode cX5_in 10 = .ok (.ifCond .gt 7, 3) := by decide +kernel
theorem dX5_in_13 : decode cX5_in 13 = .ok (.iconst 1, 1) := by decide +kernel
theorem dX5_in_14 : decode cX5_in 14 = .ok (.goto 4, 3) := by decide +kernel
theorem dX5_in_17 : decode cX5_in 17 = .ok (.iconst 0, 1) := by decide +kernel
theorem dX5_in_18 : decode cX5_in 18 = .ok (.ireturn, 1) := by decide +kernel
theorem dX5_has_0 : decode cX5_has 0 = .ok (.lload_n 0, 1) := by decide +kernel
theorem dX5_has_1 : decode cX5_has 1 = .ok (.iload_n 2, 1) := by decide +kernel
theorem dX5_has_2 : decode cX5_has 2 = .ok (.lshr, 1) := by decide +kernel
theorem dX5_has_3 : decode cX5_has 3 = .ok (.lconst 1, 1) := by decide +kernel
theorem dX5_has_4 : decode cX5_has 4 = .ok (.land, 1) := by decide +kernel
theorem dX5_has_5 : decode cX5_has 5 = .ok (.lconst 1, 1) := by decide +kernel
theorem dX5_has_6 : decode cX5_has 6 = .ok (.lcmp, 1) := by decide +kernel
theorem dX5_has_7 : decode cX5_has 7 = .ok (.ifCond .ne 7, 3) := by decide +kernel
theorem dX5_has_10 : decode cX5_has 10 = .ok (.iconst 1, 1) := by decide +kernel
theorem dX5_has_11 : decode cX5_has 11 = .ok (.goto 4, 3) := by decide +kernel
theorem dX5_has_14 : decode cX5_has 14 = .ok (.iconst 0, 1) := by decide +kernel
theorem dX5_has_15 : decode cX5_has 15 = .ok (.ireturn, 1) := by decide +kernel
set_option maxRecDepth 20000 in
theorem ggX5_many_X5_has : GoodIn wsX5_many wsX5_has := goodIn_r _ [4] (by decide +kernel) (by decide +kernel)
set_option maxRecDepth 20000 in
theorem gX5_many_X5_has : GoodIn wsX5_many (va_wsS RX5 60 yX5_has wsX5_has) := goodIn_app (goodIn_of _ (by decide +kernel)) ggX5_many_X5_has
theorem dX5_many_0 : decode cX5_many 0 = .ok (.iconst 0, 1) := by decide +kernel
theorem dX5_many_1 : decode cX5_many 1 = .ok (.istore_n 2, 1) := by decide +kernel
theorem dX5_many_2 : decode cX5_many 2 = .ok (.iconst 0, 1) := by decide +kernel
theorem dX5_many_3 : decode cX5_many 3 = .ok (.istore_n 3, 1) := by decide +kernel
theorem dX5_many_4 : decode cX5_many 4 = .ok (.iload_n 3, 1) := by decide +kernel
theorem dX5_many_5 : decode cX5_many 5 = .ok (.bipush 64, 2) := by decide +kernel
theorem dX5_many_7 : decode cX5_many 7 = .ok (.if_icmp .ge 25, 3) := by decide +kernel
theorem dX5_many_10 : decode cX5_many 10 = .ok (.iload_n 2, 1) := by decide +kernel
theorem dX5_many_11 : decode cX5_many 11 = .ok (.lload_n 0, 1) := by decide +kernel
theorem dX5_many_12 : decode cX5_many 12 = .ok (.iload_n 3, 1) := by decide +kernel
theorem dX5_many_13 : decode cX5_many 13 = .ok (.invokestatic 60, 3) := by decide +kernel
theorem dX5_many_16 : decode cX5_many 16 = .ok (.ifCond .eq 7, 3) := by decide +kernel
theorem dX5_many_19 : decode cX5_many 19 = .ok (.iconst 1, 1) := by decide +kernel
theorem dX5_many_20 : decode cX5_many 20 = .ok (.goto 4, 3) := by decide +kernel
theorem dX5_many_23 : decode cX5_many 23 = .ok (.iconst 0, 1) := by decide +kernel
theorem dX5_many_24 : decode cX5_many 24 = .ok (.iadd, 1) := by decide +kernel
theorem dX5_many_25 : decode cX5_many 25 = .ok (.istore_n 2, 1) := by decide +kernel
theorem dX5_many_26 : decode cX5_many 26 = .ok (.iinc 3 1, 3) := by decide +kernel
theorem dX5_many_29 : decode cX5_many 29 = .ok (.goto (-25), 3) := by decide +kernel
theorem dX5_many_32 : decode cX5_many 32 = .ok (.iload_n 2, 1) := by decide +kernel
theorem dX5_many_33 : decode cX5_many 33 = .ok (.ireturn, 1) := by decide +kernel
set_option maxRecDepth 20000 in
theorem ggX5_type_X5_in : GoodIn wsX5_type wsX5_in := goodIn_r _ [7] (by decide +kernel) (by decide +kernel)
set_option maxRecDepth 20000 in
theorem gX5_type_X5_in : GoodIn wsX5_type (va_wsS RX5 66 yX5_in wsX5_in) := goodIn_app (goodIn_of _ (by decide +kernel)) ggX5_type_X5_in
theorem dX5_type_0 : decode cX5_type 0 = .ok (.iload_n 3, 1) := by decide +kernel
theorem dX5_type_1 : decode cX5_type 1 = .ok (.i2l, 1) := by decide +kernel
theorem dX5_type_2 : decode cX5_type 2 = .ok (.lconst 1, 1) := by decide +kernel
theorem dX5_type_3 : decode cX5_type 3 = .ok (.ldc2_w 64, 3) := by decide +kernel
theorem dX5_type_6 : decode cX5_type 6 = .ok (.invokestatic 66, 3) := by decide +kernel
theorem dX5_type_9 : decode cX5_type 9 = .ok (.ifCond .ne 5, 3) := by decide +kernel
theorem dX5_type_12 : decode cX5_type 12 = .ok (.iconst (-1), 1) := by decide +kernel
theorem dX5_type_13 : decode cX5_type 13 = .ok (.ireturn, 1) := by decide +kernel
theorem dX5_type_14 : decode cX5_type 14 = .ok (.aload_n 0, 1) := by decide +kernel
theorem dX5_type_15 : decode cX5_type 15 = .ok (.getfield 70, 3) := by decide +kernel
theorem dX5_type_18 : decode cX5_type 18 = .ok (.iload_n 3, 1) := by decide +kernel
theorem dX5_type_19 : decode cX5_type 19 = .ok (.iadd, 1) := by decide +kernel
theorem dX5_type_20 : decode cX5_type 20 = .ok (.sipush 300, 3) := by decide +kernel
theorem dX5_type_23 : decode cX5_type 23 = .ok (.if_icmp .le 6, 3) := by decide +kernel
theorem dX5_type_26 : decode cX5_type 26 = .ok (.bipush (-3), 2) := by decide +kernel
theorem dX5_type_28 : decode cX5_type 28 = .ok (.ireturn, 1) := by decide +kernel
theorem dX5_type_29 : decode cX5_type 29 = .ok (.iload_n 3, 1) := by decide +kernel
theorem dX5_type_30 : decode cX5_type 30 = .ok (.iconst 1, 1) := by decide +kernel
theorem dX5_type_31 : decode cX5_type 31 = .ok (.isub, 1) := by decide +kernel
theorem dX5_type_32 : decode cX5_type 32 = .ok (.istore 4, 2) := by decide +kernel
theorem dX5_type_34 : decode cX5_type 34 = .ok (.iload 4, 2) := by decide +kernel
theorem dX5_type_36 : decode cX5_type 36 = .ok (.ifCond .lt 37, 3) := by decide +kernel
theorem dX5_type_39 : decode cX5_type 39 = .ok (.aload_n 0, 1) := by decide +kernel
theorem dX5_type_40 : decode cX5_type 40 = .ok (.getfield 7, 3) := by decide +kernel
theorem dX5_type_43 : decode cX5_type 43 = .ok (.aload_n 0, 1) := by decide +kernel
theorem dX5_type_44 : decode cX5_type 44 = .ok (.getfield 70, 3) := by decide +kernel
theorem dX5_type_47 : decode cX5_type 47 = .ok (.lload_n 1, 1) := by decide +kernel
theorem dX5_type_48 : decode cX5_type 48 = .ok (.bipush 8, 2) := by decide +kernel
theorem dX5_type_50 : decode cX5_type 50 = .ok (.iload 4, 2) := by decide +kernel
theorem dX5_type_52 : decode cX5_type 52 = .ok (.imul, 1) := by decide +kernel
theorem dX5_type_53 : decode cX5_type 53 = .ok (.lshr, 1) := by decide +kernel
theorem dX5_type_54 : decode cX5_type 54 = .ok (.l2i, 1) := by decide +kernel
theorem dX5_type_55 : decode cX5_type 55 = .ok (.i2b, 1) := by decide +kernel
theorem dX5_type_56 : decode cX5_type 56 = .ok (.bastore, 1) := by decide +kernel
theorem dX5_type_57 : decode cX5_type 57 = .ok (.aload_n 0, 1) := by decide +kernel
theorem dX5_type_58 : decode cX5_type 58 = .ok (.dup, 1) := by decide +kernel
theorem dX5_type_59 : decode cX5_type 59 = .ok (.getfield 70, 3) := by decide +kernel
theorem dX5_type_62 : decode cX5_type 62 = .ok (.iconst 1, 1) := by decide +kernel
theorem dX5_type_63 : decode cX5_type 63 = .ok (.iadd, 1) := by decide +kernel
theorem dX5_type_64 : decode cX5_type 64 = .ok (.putfield 70, 3) := by decide +kernel
theorem dX5_type_67 : decode cX5_type 67 = .ok (.iinc 4 (-1), 3) := by decide +kernel
theorem dX5_type_70 : decode cX5_type 70 = .ok (.goto (-36), 3) := by decide +kernel
theorem dX5_type_73 : decode cX5_type 73 = .ok (.aload_n 0, 1) := by decide +kernel
theorem dX5_type_74 : decode cX5_type 74 = .ok (.getfield 70, 3) := by decide +kernel
theorem dX5_type_77 : decode cX5_type 77 = .ok (.ireturn, 1) := by decide +kernel
theorem dX5_clear_0 : decode cX5_clear 0 = .ok (.aload_n 0, 1) := by decide +kernel
theorem dX5_clear_1 : decode cX5_clear 1 = .ok (.getfield 70, 3) := by decide +kernel
theorem dX5_clear_4 : decode cX5_clear 4 = .ok (.istore_n 1, 1) := by decide +kernel
theorem dX5_clear_5 : decode cX5_clear 5 = .ok (.aload_n 0, 1) := by decide +kernel
theorem dX5_clear_6 : decode cX5_clear 6 = .ok (.iconst 0, 1) := by decide +kernel
theorem dX5_clear_7 : decode cX5_clear 7 = .ok (.putfield 70, 3) := by decide +kernel
theorem dX5_clear_10 : decode cX5_clear 10 = .ok (.iload_n 1, 1) := by decide +kernel
theorem dX5_clear_11 : decode cX5_clear 11 = .ok (.ireturn, 1) := by decide +kernel
set_option maxRecDepth 20000 in
theorem ggX5_isLow_X5_in : GoodIn wsX5_isLow wsX5_in := goodIn_r _ [8] (by decide +kernel) (by decide +kernel)
set_option maxRecDepth 20000 in
theorem gX5_isLow_X5_in : GoodIn wsX5_isLow (va_wsS RX5 66 yX5_in wsX5_in) := goodIn_app (goodIn_of _ (by decide +kernel)) ggX5_isLow_X5_in
theorem dX5_isLow_0 : decode cX5_isLow 0 = .ok (.iload_n 1, 1) := by decide +kernel
theorem dX5_isLow_1 : decode cX5_isLow 1 = .ok (.aload_n 0, 1) := by decide +kernel
theorem dX5_isLow_2 : decode cX5_isLow 2 = .ok (.getfield 70, 3) := by decide +kernel
theorem dX5_isLow_5 : decode cX5_isLow 5 = .ok (.if_icmp .ge 26, 3) := by decide +kernel
theorem dX5_isLow_8 : decode cX5_isLow 8 = .ok (.aload_n 0, 1) := by decide +kernel
theorem dX5_isLow_9 : decode cX5_isLow 9 = .ok (.getfield 7, 3) := by decide +kernel
theorem dX5_isLow_12 : decode cX5_isLow 12 = .ok (.iload_n 1, 1) := by decide +kernel
theorem dX5_isLow_13 : decode cX5_isLow 13 = .ok (.baload, 1) := by decide +kernel
theorem dX5_isLow_14 : decode cX5_isLow 14 = .ok (.i2l, 1) := by decide +kernel
theorem dX5_isLow_15 : decode cX5_isLow 15 = .ok (.ldc2_w 74, 3) := by decide +kernel
theorem dX5_isLow_18 : decode cX5_isLow 18 = .ok (.ldc2_w 76, 3) := by decide +kernel
theorem dX5_isLow_21 : decode cX5_isLow 21 = .ok (.invokestatic 66, 3) := by decide +kernel
theorem dX5_isLow_24 : decode cX5_isLow 24 = .ok (.ifCond .eq 7, 3) := by decide +kernel
theorem dX5_isLow_27 : decode cX5_isLow 27 = .ok (.iconst 1, 1) := by decide +kernel
theorem dX5_isLow_28 : decode cX5_isLow 28 = .ok (.goto 4, 3) := by decide +kernel
theorem dX5_isLow_31 : decode cX5_isLow 31 = .ok (.iconst 0, 1) := by decide +kernel
theorem dX5_isLow_32 : decode cX5_isLow 32 = .ok (.ireturn, 1) := by decide +kernel
theorem dX5_isWord_0 : decode cX5_isWord 0 = .ok (.aload_n 0, 1) := by decide +kernel
theorem dX5_isWord_1 : decode cX5_isWord 1 = .ok (.getfield 78, 3) := by decide +kernel
theorem dX5_isWord_4 : decode cX5_isWord 4 = .ok (.aload_n 0, 1) := by decide +kernel
theorem dX5_isWord_5 : decode cX5_isWord 5 = .ok (.getfield 81, 3) := by decide +kernel
theorem dX5_isWord_8 : decode cX5_isWord 8 = .ok (.isub, 1) := by decide +kernel
theorem dX5_isWord_9 : decode cX5_isWord 9 = .ok (.iconst 3, 1) := by decide +kernel
theorem dX5_isWord_10 : decode cX5_isWord 10 = .ok (.if_icmp .ne 50, 3) := by decide +kernel
theorem dX5_isWord_13 : decode cX5_isWord 13 = .ok (.aload_n 0, 1) := by decide +kernel
theorem dX5_isWord_14 : decode cX5_isWord 14 = .ok (.getfield 7, 3) := by decide +kernel
theorem dX5_isWord_17 : decode cX5_isWord 17 = .ok (.aload_n 0, 1) := by decide +kernel
theorem dX5_isWord_18 : decode cX5_isWord 18 = .ok (.getfield 81, 3) := by decide +kernel
theorem dX5_isWord_21 : decode cX5_isWord 21 = .ok (.baload, 1) := by decide +kernel
theorem dX5_isWord_22 : decode cX5_isWord 22 = .ok (.iload_n 1, 1) := by decide +kernel
theorem dX5_isWord_23 : decode cX5_isWord 23 = .ok (.if_icmp .ne 37, 3) := by decide +kernel
theorem dX5_isWord_26 : decode cX5_isWord 26 = .ok (.aload_n 0, 1) := by decide +kernel
theorem dX5_isWord_27 : decode cX5_isWord 27 = .ok (.getfield 7, 3) := by decide +kernel
theorem dX5_isWord_30 : decode cX5_isWord 30 = .ok (.aload_n 0, 1) := by decide +kernel
theorem dX5_isWord_31 : decode cX5_isWord 31 = .ok (.getfield 81, 3) := by decide +kernel
theorem dX5_isWord_34 : decode cX5_isWord 34 = .ok (.iconst 1, 1) := by decide +kernel
theorem dX5_isWord_35 : decode cX5_isWord 35 = .ok (.iadd, 1) := by decide +kernel
theorem dX5_isWord_36 : decode cX5_isWord 36 = .ok (.baload, 1) := by decide +kernel
theorem dX5_isWord_37 : decode cX5_isWord 37 = .ok (.iload_n 2, 1) := by decide +kernel
theorem dX5_isWord_38 : decode cX5_isWord 38 = .ok (.if_icmp .ne 22, 3) := by decide +kernel
theorem dX5_isWord_41 : decode cX5_isWord 41 = .ok (.aload_n 0, 1) := by decide +kernel
theorem dX5_isWord_42 : decode cX5_isWord 42 = .ok (.getfield 7, 3) := by decide +kernel
theorem dX5_isWord_45 : decode cX5_isWord 45 = .ok (.aload_n 0, 1) := by decide +kernel
theorem dX5_isWord_46 : decode cX5_isWord 46 = .ok (.getfield 81, 3) := by decide +kernel
theorem dX5_isWord_49 : decode cX5_isWord 49 = .ok (.iconst 2, 1) := by decide +kernel
theorem dX5_isWord_50 : decode cX5_isWord 50 = .ok (.iadd, 1) := by decide +kernel
theorem dX5_isWord_51 : decode cX5_isWord 51 = .ok (.baload, 1) := by decide +kernel
theorem dX5_isWord_52 : decode cX5_isWord 52 = .ok (.iload_n 3, 1) := by decide +kernel
theorem dX5_isWord_53 : decode cX5_isWord 53 = .ok (.if_icmp .ne 7, 3) := by decide +kernel
theorem dX5_isWord_56 : decode cX5_isWord 56 = .ok (.iconst 1, 1) := by decide +kernel
theorem dX5_isWord_57 : decode cX5_isWord 57 = .ok (.goto 4, 3) := by decide +kernel
theorem dX5_isWord_60 : decode cX5_isWord 60 = .ok (.iconst 0, 1) := by decide +kernel
theorem dX5_isWord_61 : decode cX5_isWord 61 = .ok (.ireturn, 1) := by decide +kernel
set_option maxRecDepth 20000 in
theorem ggX5_token_X5_isLow : GoodIn wsX5_token wsX5_isLow := goodIn_r _ [12, 3, 4, 13, 14, 15, 16, 11, 17, 22, 23, 24, 25, 26, 27, 28, 29, 30, 31, 32, 33, 34, 35, 36, 37, 38, 39, 40, 41, 42, 43, 44, 45, 46, 47, 48, 49, 50] (by decide +kernel) (by decide +kernel)
set_option maxRecDepth 20000 in
theorem gX5_token_X5_isLow : GoodIn wsX5_token (wsV RX5 87 RX5 yX5_isLow wsX5_isLow) := goodIn_app (goodIn_of _ (by decide +kernel)) ggX5_token_X5_isLow
set_option maxRecDepth 20000 in
theorem ggX5_token_X5_isWord : GoodIn wsX5_token wsX5_isWord := goodIn_r _ [21, 1, 2, 4, 22, 23, 24, 25, 26, 27, 28, 29, 30, 31, 32, 33, 34, 35, 36, 37, 38, 39, 40, 41, 42, 43, 44, 45, 46, 47, 48, 49, 50] (by decide +kernel) (by decide +kernel)
set_option maxRecDepth 20000 in
theorem gX5_token_X5_isWord : GoodIn wsX5_token (wsV RX5 91 RX5 yX5_isWord wsX5_isWord) := goodIn_app (goodIn_of _ (by decide +kernel)) ggX5_token_X5_isWord
set_option maxRecDepth 20000 in
theorem ggX5_token_X5_in : GoodIn wsX5_token wsX5_in := goodIn_r _ [17] (by decide +kernel) (by decide +kernel)
set_option maxRecDepth 20000 in
theorem gX5_token_X5_in : GoodIn wsX5_token (va_wsS RX5 66 yX5_in wsX5_in) := goodIn_app (goodIn_of _ (by decide +kernel)) ggX5_token_X5_in
theorem dX5_token_0 : decode cX5_token 0 = .ok (.aload_n 0, 1) := by decide +kernel
theorem dX5_token_1 : decode cX5_token 1 = .ok (.aload_n 0, 1) := by decide +kernel
theorem dX5_token_2 : decode cX5_token 2 = .ok (.getfield 78, 3) := by decide +kernel
theorem dX5_token_5 : decode cX5_token 5 = .ok (.putfield 81, 3) := by decide +kernel
theorem dX5_token_8 : decode cX5_token 8 = .ok (.aload_n 0, 1) := by decide +kernel
theorem dX5_token_9 : decode cX5_token 9 = .ok (.getfield 81, 3) := by decide +kernel
theorem dX5_token_12 : decode cX5_token 12 = .ok (.aload_n 0, 1) := by decide +kernel
theorem dX5_token_13 : decode cX5_token 13 = .ok (.getfield 70, 3) := by decide +kernel
theorem dX5_token_16 : decode cX5_token 16 = .ok (.if_icmp .ge 30, 3) := by decide +kernel
theorem dX5_token_19 : decode cX5_token 19 = .ok (.aload_n 0, 1) := by decide +kernel
theorem dX5_token_20 : decode cX5_token 20 = .ok (.getfield 7, 3) := by decide +kernel
theorem dX5_token_23 : decode cX5_token 23 = .ok (.aload_n 0, 1) := by decide +kernel
theorem dX5_token_24 : decode cX5_token 24 = .ok (.getfield 81, 3) := by decide +kernel
theorem dX5_token_27 : decode cX5_token 27 = .ok (.baload, 1) := by decide +kernel
theorem dX5_token_28 : decode cX5_token 28 = .ok (.bipush 32, 2) := by decide +kernel
theorem dX5_token_30 : decode cX5_token 30 = .ok (.if_icmp .ne 16, 3) := by decide +kernel
theorem dX5_token_33 : decode cX5_token 33 = .ok (.aload_n 0, 1) := by decide +kernel
theorem dX5_token_34 : decode cX5_token 34 = .ok (.dup, 1) := by decide +kernel
theorem dX5_token_35 : decode cX5_token 35 = .ok (.getfield 81, 3) := by decide +kernel
theorem dX5_token_38 : decode cX5_token 38 = .ok (.iconst 1, 1) := by decide +kernel
theorem dX5_token_39 : decode cX5_token 39 = .ok (.iadd, 1) := by decide +kernel
theorem dX5_token_40 : decode cX5_token 40 = .ok (.putfield 81, 3) := by decide +kernel
theorem dX5_token_43 : decode cX5_token 43 = .ok (.goto (-35), 3) := by decide +kernel
theorem dX5_token_46 : decode cX5_token 46 = .ok (.aload_n 0, 1) := by decide +kernel
theorem dX5_token_47 : decode cX5_token 47 = .ok (.aload_n 0, 1) := by decide +kernel
theorem dX5_token_48 : decode cX5_token 48 = .ok (.getfield 81, 3) := by decide +kernel
theorem dX5_token_51 : decode cX5_token 51 = .ok (.putfield 78, 3) := by decide +kernel
theorem dX5_token_54 : decode cX5_token 54 = .ok (.aload_n 0, 1) := by decide +kernel
theorem dX5_token_55 : decode cX5_token 55 = .ok (.getfield 81, 3) := by decide +kernel
theorem dX5_token_58 : decode cX5_token 58 = .ok (.aload_n 0, 1) := by decide +kernel
theorem dX5_token_59 : decode cX5_token 59 = .ok (.getfield 70, 3) := by decide +kernel
theorem dX5_token_62 : decode cX5_token 62 = .ok (.if_icmp .ne 9, 3) := by decide +kernel
theorem dX5_token_65 : decode cX5_token 65 = .ok (.aload_n 0, 1) := by decide +kernel
theorem dX5_token_66 : decode cX5_token 66 = .ok (.iconst 0, 1) := by decide +kernel
theorem dX5_token_67 : decode cX5_token 67 = .ok (.putfield 84, 3) := by decide +kernel
theorem dX5_token_70 : decode cX5_token 70 = .ok (.return_, 1) := by decide +kernel
theorem dX5_token_71 : decode cX5_token 71 = .ok (.aload_n 0, 1) := by decide +kernel
theorem dX5_token_72 : decode cX5_token 72 = .ok (.getfield 7, 3) := by decide +kernel
theorem dX5_token_75 : decode cX5_token 75 = .ok (.aload_n 0, 1) := by decide +kernel
theorem dX5_token_76 : decode cX5_token 76 = .ok (.getfield 81, 3) := by decide +kernel
theorem dX5_token_79 : decode cX5_token 79 = .ok (.baload, 1) := by decide +kernel
theorem dX5_token_80 : decode cX5_token 80 = .ok (.istore_n 1, 1) := by decide +kernel
theorem dX5_token_81 : decode cX5_token 81 = .ok (.aload_n 0, 1) := by decide +kernel
theorem dX5_token_82 : decode cX5_token 82 = .ok (.aload_n 0, 1) := by decide +kernel
theorem dX5_token_83 : decode cX5_token 83 = .ok (.getfield 81, 3) := by decide +kernel
theorem dX5_token_86 : decode cX5_token 86 = .ok (.invokevirtual 87, 3) := by decide +kernel
theorem dX5_token_89 : decode cX5_token 89 = .ok (.ifCond .eq 94, 3) := by decide +kernel
theorem dX5_token_92 : decode cX5_token 92 = .ok (.aload_n 0, 1) := by decide +kernel
theorem dX5_token_93 : decode cX5_token 93 = .ok (.aload_n 0, 1) := by decide +kernel
theorem dX5_token_94 : decode cX5_token 94 = .ok (.getfield 78, 3) := by decide +kernel
theorem dX5_token_97 : decode cX5_token 97 = .ok (.invokevirtual 87, 3) := by decide +kernel
theorem dX5_token_100 : decode cX5_token 100 = .ok (.ifCond .eq 16, 3) := by decide +kernel
theorem dX5_token_103 : decode cX5_token 103 = .ok (.aload_n 0, 1) := by decide +kernel
theorem dX5_token_104 : decode cX5_token 104 = .ok (.dup, 1) := by decide +kernel
theorem dX5_token_105 : decode cX5_token 105 = .ok (.getfield 78, 3) := by decide +kernel
theorem dX5_token_108 : decode cX5_token 108 = .ok (.iconst 1, 1) := by decide +kernel
theorem dX5_token_109 : decode cX5_token 109 = .ok (.iadd, 1) := by decide +kernel
theorem dX5_token_110 : decode cX5_token 110 = .ok (.putfield 78, 3) := by decide +kernel
theorem dX5_token_113 : decode cX5_token 113 = .ok (.goto (-21), 3) := by decide +kernel
theorem dX5_token_116 : decode cX5_token 116 = .ok (.aload_n 0, 1) := by decide +kernel
theorem dX5_token_117 : decode cX5_token 117 = .ok (.aload_n 0, 1) := by decide +kernel
theorem dX5_token_118 : decode cX5_token 118 = .ok (.bipush 108, 2) := by decide +kernel
theorem dX5_token_120 : decode cX5_token 120 = .ok (.bipush 97, 2) := by decide +kernel
theorem dX5_token_122 : decode cX5_token 122 = .ok (.bipush 119, 2) := by decide +kernel
theorem dX5_token_124 : decode cX5_token 124 = .ok (.invokevirtual 91, 3) := by decide +kernel
theorem dX5_token_127 : decode cX5_token 127 = .ok (.ifCond .eq 8, 3) := by decide +kernel
theorem dX5_token_130 : decode cX5_token 130 = .ok (.bipush 76, 2) := by decide +kernel
theorem dX5_token_132 : decode cX5_token 132 = .ok (.goto 45, 3) := by decide +kernel
theorem dX5_token_135 : decode cX5_token 135 = .ok (.aload_n 0, 1) := by decide +kernel
theorem dX5_token_136 : decode cX5_token 136 = .ok (.bipush 115, 2) := by decide +kernel
theorem dX5_token_138 : decode cX5_token 138 = .ok (.bipush 97, 2) := by decide +kernel
theorem dX5_token_140 : decode cX5_token 140 = .ok (.bipush 121, 2) := by decide +kernel
theorem dX5_token_142 : decode cX5_token 142 = .ok (.invokevirtual 91, 3) := by decide +kernel
theorem dX5_token_145 : decode cX5_token 145 = .ok (.ifCond .eq 8, 3) := by decide +kernel
theorem dX5_token_148 : decode cX5_token 148 = .ok (.bipush 83, 2) := by decide +kernel
theorem dX5_token_150 : decode cX5_token 150 = .ok (.goto 27, 3) := by decide +kernel
theorem dX5_token_153 : decode cX5_token 153 = .ok (.aload_n 0, 1) := by decide +kernel
theorem dX5_token_154 : decode cX5_token 154 = .ok (.getfield 78, 3) := by decide +kernel
theorem dX5_token_157 : decode cX5_token 157 = .ok (.aload_n 0, 1) := by decide +kernel
theorem dX5_token_158 : decode cX5_token 158 = .ok (.getfield 81, 3) := by decide +kernel
theorem dX5_token_161 : decode cX5_token 161 = .ok (.isub, 1) := by decide +kernel
theorem dX5_token_162 : decode cX5_token 162 = .ok (.iconst 1, 1) := by decide +kernel
theorem dX5_token_163 : decode cX5_token 163 = .ok (.if_icmp .ne 13, 3) := by decide +kernel
theorem dX5_token_166 : decode cX5_token 166 = .ok (.iload_n 1, 1) := by decide +kernel
theorem dX5_token_167 : decode cX5_token 167 = .ok (.bipush 102, 2) := by decide +kernel
theorem dX5_token_169 : decode cX5_token 169 = .ok (.if_icmp .gt 7, 3) := by decide +kernel
theorem dX5_token_172 : decode cX5_token 172 = .ok (.iload_n 1, 1) := by decide +kernel
theorem dX5_token_173 : decode cX5_token 173 = .ok (.goto 4, 3) := by decide +kernel
theorem dX5_token_176 : decode cX5_token 176 = .ok (.iconst 1, 1) := by decide +kernel
theorem dX5_token_177 : decode cX5_token 177 = .ok (.putfield 84, 3) := by decide +kernel
theorem dX5_token_180 : decode cX5_token 180 = .ok (.goto 82, 3) := by decide +kernel
theorem dX5_token_183 : decode cX5_token 183 = .ok (.iload_n 1, 1) := by decide +kernel
theorem dX5_token_184 : decode cX5_token 184 = .ok (.i2l, 1) := by decide +kernel
theorem dX5_token_185 : decode cX5_token 185 = .ok (.ldc2_w 95, 3) := by decide +kernel
theorem dX5_token_188 : decode cX5_token 188 = .ok (.ldc2_w 97, 3) := by decide +kernel
theorem dX5_token_191 : decode cX5_token 191 = .ok (.invokestatic 66, 3) := by decide +kernel
theorem dX5_token_194 : decode cX5_token 194 = .ok (.ifCond .ne 39, 3) := by decide +kernel
theorem dX5_token_197 : decode cX5_token 197 = .ok (.iload_n 1, 1) := by decide +kernel
theorem dX5_token_198 : decode cX5_token 198 = .ok (.bipush 59, 2) := by decide +kernel
theorem dX5_token_200 : decode cX5_token 200 = .ok (.if_icmp .eq 33, 3) := by decide +kernel
theorem dX5_token_203 : decode cX5_token 203 = .ok (.iload_n 1, 1) := by decide +kernel
theorem dX5_token_204 : decode cX5_token 204 = .ok (.bipush 124, 2) := by decide +kernel
theorem dX5_token_206 : decode cX5_token 206 = .ok (.if_icmp .eq 27, 3) := by decide +kernel
theorem dX5_token_209 : decode cX5_token 209 = .ok (.iload_n 1, 1) := by decide +kernel
theorem dX5_token_210 : decode cX5_token 210 = .ok (.bipush 38, 2) := by decide +kernel
theorem dX5_token_212 : decode cX5_token 212 = .ok (.if_icmp .eq 21, 3) := by decide +kernel
theorem dX5_token_215 : decode cX5_token 215 = .ok (.iload_n 1, 1) := by decide +kernel
theorem dX5_token_216 : decode cX5_token 216 = .ok (.bipush 33, 2) := by decide +kernel
theorem dX5_token_218 : decode cX5_token 218 = .ok (.if_icmp .eq 15, 3) := by decide +kernel
theorem dX5_token_221 : decode cX5_token 221 = .ok (.iload_n 1, 1) := by decide +kernel
theorem dX5_token_222 : decode cX5_token 222 = .ok (.bipush 40, 2) := by decide +kernel
theorem dX5_token_224 : decode cX5_token 224 = .ok (.if_icmp .eq 9, 3) := by decide +kernel
theorem dX5_token_227 : decode cX5_token 227 = .ok (.iload_n 1, 1) := by decide +kernel
theorem dX5_token_228 : decode cX5_token 228 = .ok (.bipush 41, 2) := by decide +kernel
theorem dX5_token_230 : decode cX5_token 230 = .ok (.if_icmp .ne 7, 3) := by decide +kernel
theorem dX5_token_233 : decode cX5_token 233 = .ok (.iconst 1, 1) := by decide +kernel
theorem dX5_token_234 : decode cX5_token 234 = .ok (.goto 4, 3) := by decide +kernel
theorem dX5_token_237 : decode cX5_token 237 = .ok (.iconst 0, 1) := by decide +kernel
theorem dX5_token_238 : decode cX5_token 238 = .ok (.istore_n 2, 1) := by decide +kernel
theorem dX5_token_239 : decode cX5_token 239 = .ok (.aload_n 0, 1) := by decide +kernel
theorem dX5_token_240 : decode cX5_token 240 = .ok (.iload_n 2, 1) := by decide +kernel
theorem dX5_token_241 : decode cX5_token 241 = .ok (.ifCond .eq 7, 3) := by decide +kernel
theorem dX5_token_244 : decode cX5_token 244 = .ok (.iload_n 1, 1) := by decide +kernel
theorem dX5_token_245 : decode cX5_token 245 = .ok (.goto 4, 3) := by decide +kernel
theorem dX5_token_248 : decode cX5_token 248 = .ok (.iconst 1, 1) := by decide +kernel
theorem dX5_token_249 : decode cX5_token 249 = .ok (.putfield 84, 3) := by decide +kernel
theorem dX5_token_252 : decode cX5_token 252 = .ok (.aload_n 0, 1) := by decide +kernel
theorem dX5_token_253 : decode cX5_token 253 = .ok (.dup, 1) := by decide +kernel
theorem dX5_token_254 : decode cX5_token 254 = .ok (.getfield 78, 3) := by decide +kernel
theorem dX5_token_257 : decode cX5_token 257 = .ok (.iconst 1, 1) := by decide +kernel
theorem dX5_token_258 : decode cX5_token 258 = .ok (.iadd, 1) := by decide +kernel
theorem dX5_token_259 : decode cX5_token 259 = .ok (.putfield 78, 3) := by decide +kernel
theorem dX5_token_262 : decode cX5_token 262 = .ok (.return_, 1) := by decide +kernel
set_option maxRecDepth 20000 in
theorem ggX5_lettered_X5_has : GoodIn wsX5_lettered wsX5_has := goodIn_r _ [4] (by decide +kernel) (by decide +kernel)
set_option maxRecDepth 20000 in
theorem gX5_lettered_X5_has : GoodIn wsX5_lettered (va_wsS RX5 60 yX5_has wsX5_has) := goodIn_app (goodIn_of _ (by decide +kernel)) ggX5_lettered_X5_has
theorem dX5_lettered_0 : decode cX5_lettered 0 = .ok (.lconst 0, 1) := by decide +kernel
theorem dX5_lettered_1 : decode cX5_lettered 1 = .ok (.lstore_n 1, 1) := by decide +kernel
theorem dX5_lettered_2 : decode cX5_lettered 2 = .ok (.iconst 0, 1) := by decide +kernel
theorem dX5_lettered_3 : decode cX5_lettered 3 = .ok (.istore_n 3, 1) := by decide +kernel
theorem dX5_lettered_4 : decode cX5_lettered 4 = .ok (.iload_n 3, 1) := by decide +kernel
theorem dX5_lettered_5 : decode cX5_lettered 5 = .ok (.bipush 64, 2) := by decide +kernel
theorem dX5_lettered_7 : decode cX5_lettered 7 = .ok (.if_icmp .ge 28, 3) := by decide +kernel
theorem dX5_lettered_10 : decode cX5_lettered 10 = .ok (.lload_n 1, 1) := by decide +kernel
theorem dX5_lettered_11 : decode cX5_lettered 11 = .ok (.iload_n 3, 1) := by decide +kernel
theorem dX5_lettered_12 : decode cX5_lettered 12 = .ok (.i2l, 1) := by decide +kernel
theorem dX5_lettered_13 : decode cX5_lettered 13 = .ok (.iload_n 0, 1) := by decide +kernel
theorem dX5_lettered_14 : decode cX5_lettered 14 = .ok (.invokestatic 60, 3) := by decide +kernel
theorem dX5_lettered_17 : decode cX5_lettered 17 = .ok (.ifCond .eq 9, 3) := by decide +kernel
theorem dX5_lettered_20 : decode cX5_lettered 20 = .ok (.lconst 1, 1) := by decide +kernel
theorem dX5_lettered_21 : decode cX5_lettered 21 = .ok (.iload_n 3, 1) := by decide +kernel
theorem dX5_lettered_22 : decode cX5_lettered 22 = .ok (.lshl, 1) := by decide +kernel
theorem dX5_lettered_23 : decode cX5_lettered 23 = .ok (.goto 4, 3) := by decide +kernel
theorem dX5_lettered_26 : decode cX5_lettered 26 = .ok (.lconst 0, 1) := by decide +kernel
theorem dX5_lettered_27 : decode cX5_lettered 27 = .ok (.lor, 1) := by decide +kernel
theorem dX5_lettered_28 : decode cX5_lettered 28 = .ok (.lstore_n 1, 1) := by decide +kernel
theorem dX5_lettered_29 : decode cX5_lettered 29 = .ok (.iinc 3 1, 3) := by decide +kernel
theorem dX5_lettered_32 : decode cX5_lettered 32 = .ok (.goto (-28), 3) := by decide +kernel
theorem dX5_lettered_35 : decode cX5_lettered 35 = .ok (.lload_n 1, 1) := by decide +kernel
theorem dX5_lettered_36 : decode cX5_lettered 36 = .ok (.lreturn, 1) := by decide +kernel
set_option maxRecDepth 20000 in
theorem ggX5_saying_X5_in : GoodIn wsX5_saying wsX5_in := goodIn_r _ [15] (by decide +kernel) (by decide +kernel)
set_option maxRecDepth 20000 in
theorem gX5_saying_X5_in : GoodIn wsX5_saying (va_wsS RX5 66 yX5_in wsX5_in) := goodIn_app (goodIn_of _ (by decide +kernel)) ggX5_saying_X5_in
set_option maxRecDepth 20000 in
theorem ggX5_saying_X5_lettered : GoodIn wsX5_saying wsX5_lettered := goodIn_r _ [18, 19, 20, 14, 21] (by decide +kernel) (by decide +kernel)
set_option maxRecDepth 20000 in
theorem gX5_saying_X5_lettered : GoodIn wsX5_saying (va_wsS RX5 107 yX5_lettered wsX5_lettered) := goodIn_app (goodIn_of _ (by decide +kernel)) ggX5_saying_X5_lettered
set_option maxRecDepth 20000 in
theorem ggX5_saying_X5_ends : GoodIn wsX5_saying wsX5_ends := goodIn_r _ [25, 1, 10, 5, 4, 2, 44, 45, 46, 47, 48, 49, 50, 51, 52, 53, 54, 55, 56, 57, 58, 59, 60, 61, 62, 63, 64, 65, 66, 67, 68, 69, 70, 71, 72] (by decide +kernel) (by decide +kernel)
set_option maxRecDepth 20000 in
theorem gX5_saying_X5_ends : GoodIn wsX5_saying (wsV RX5 111 RX5 yX5_ends wsX5_ends) := goodIn_app (goodIn_of _ (by decide +kernel)) ggX5_saying_X5_ends
set_option maxRecDepth 20000 in
theorem ggX5_saying_X5_token : GoodIn wsX5_saying wsX5_token := goodIn_r _ [29, 30, 9, 31, 32, 6, 33, 34, 35, 36, 37, 14, 38, 7, 39, 12, 13, 15, 40, 41, 42, 43, 44, 45, 46, 47, 48, 49, 50, 51, 52, 53, 54, 55, 56, 57, 58, 59, 60, 61, 62, 63, 64, 65, 66, 67, 68, 69, 70, 71, 72] (by decide +kernel) (by decide +kernel)
set_option maxRecDepth 20000 in
theorem gX5_saying_X5_token : GoodIn wsX5_saying (wsV RX5 118 RX5 yX5_token wsX5_token) := goodIn_app (goodIn_of _ (by decide +kernel)) ggX5_saying_X5_token
theorem dX5_saying_0 : decode cX5_saying 0 = .ok (.aload_n 0, 1) := by decide +kernel
theorem dX5_saying_1 : decode cX5_saying 1 = .ok (.iconst 0, 1) := by decide +kernel
theorem dX5_saying_2 : decode cX5_saying 2 = .ok (.putfield 99, 3) := by decide +kernel
theorem dX5_saying_5 : decode cX5_saying 5 = .ok (.aload_n 0, 1) := by decide +kernel
theorem dX5_saying_6 : decode cX5_saying 6 = .ok (.iconst 0, 1) := by decide +kernel
theorem dX5_saying_7 : decode cX5_saying 7 = .ok (.putfield 102, 3) := by decide +kernel
theorem dX5_saying_10 : decode cX5_saying 10 = .ok (.aload_n 0, 1) := by decide +kernel
theorem dX5_saying_11 : decode cX5_saying 11 = .ok (.getfield 42, 3) := by decide +kernel
theorem dX5_saying_14 : decode cX5_saying 14 = .ok (.iconst 0, 1) := by decide +kernel
theorem dX5_saying_15 : decode cX5_saying 15 = .ok (.lconst 0, 1) := by decide +kernel
theorem dX5_saying_16 : decode cX5_saying 16 = .ok (.lastore, 1) := by decide +kernel
theorem dX5_saying_17 : decode cX5_saying 17 = .ok (.aload_n 0, 1) := by decide +kernel
theorem dX5_saying_18 : decode cX5_saying 18 = .ok (.getfield 45, 3) := by decide +kernel
theorem dX5_saying_21 : decode cX5_saying 21 = .ok (.iconst 0, 1) := by decide +kernel
theorem dX5_saying_22 : decode cX5_saying 22 = .ok (.ldc2_w 13, 3) := by decide +kernel
theorem dX5_saying_25 : decode cX5_saying 25 = .ok (.lastore, 1) := by decide +kernel
theorem dX5_saying_26 : decode cX5_saying 26 = .ok (.iconst 1, 1) := by decide +kernel
theorem dX5_saying_27 : decode cX5_saying 27 = .ok (.istore_n 1, 1) := by decide +kernel
theorem dX5_saying_28 : decode cX5_saying 28 = .ok (.iload_n 1, 1) := by decide +kernel
theorem dX5_saying_29 : decode cX5_saying 29 = .ok (.ifCond .eq 208, 3) := by decide +kernel
theorem dX5_saying_32 : decode cX5_saying 32 = .ok (.aload_n 0, 1) := by decide +kernel
theorem dX5_saying_33 : decode cX5_saying 33 = .ok (.getfield 84, 3) := by decide +kernel
theorem dX5_saying_36 : decode cX5_saying 36 = .ok (.bipush 33, 2) := by decide +kernel
theorem dX5_saying_38 : decode cX5_saying 38 = .ok (.if_icmp .eq 12, 3) := by decide +kernel
theorem dX5_saying_41 : decode cX5_saying 41 = .ok (.aload_n 0, 1) := by decide +kernel
theorem dX5_saying_42 : decode cX5_saying 42 = .ok (.getfield 84, 3) := by decide +kernel
theorem dX5_saying_45 : decode cX5_saying 45 = .ok (.bipush 40, 2) := by decide +kernel
theorem dX5_saying_47 : decode cX5_saying 47 = .ok (.if_icmp .ne 7, 3) := by decide +kernel
theorem dX5_saying_50 : decode cX5_saying 50 = .ok (.iconst 1, 1) := by decide +kernel
theorem dX5_saying_51 : decode cX5_saying 51 = .ok (.goto 4, 3) := by decide +kernel
theorem dX5_saying_54 : decode cX5_saying 54 = .ok (.iconst 0, 1) := by decide +kernel
theorem dX5_saying_55 : decode cX5_saying 55 = .ok (.istore_n 2, 1) := by decide +kernel
theorem dX5_saying_56 : decode cX5_saying 56 = .ok (.aload_n 0, 1) := by decide +kernel
theorem dX5_saying_57 : decode cX5_saying 57 = .ok (.getfield 84, 3) := by decide +kernel
theorem dX5_saying_60 : decode cX5_saying 60 = .ok (.i2l, 1) := by decide +kernel
theorem dX5_saying_61 : decode cX5_saying 61 = .ok (.ldc2_w 74, 3) := by decide +kernel
theorem dX5_saying_64 : decode cX5_saying 64 = .ok (.ldc2_w 105, 3) := by decide +kernel
theorem dX5_saying_67 : decode cX5_saying 67 = .ok (.invokestatic 66, 3) := by decide +kernel
theorem dX5_saying_70 : decode cX5_saying 70 = .ok (.ifCond .ne 34, 3) := by decide +kernel
theorem dX5_saying_73 : decode cX5_saying 73 = .ok (.aload_n 0, 1) := by decide +kernel
theorem dX5_saying_74 : decode cX5_saying 74 = .ok (.getfield 84, 3) := by decide +kernel
theorem dX5_saying_77 : decode cX5_saying 77 = .ok (.bipush 48, 2) := by decide +kernel
theorem dX5_saying_79 : decode cX5_saying 79 = .ok (.if_icmp .eq 25, 3) := by decide +kernel
theorem dX5_saying_82 : decode cX5_saying 82 = .ok (.aload_n 0, 1) := by decide +kernel
theorem dX5_saying_83 : decode cX5_saying 83 = .ok (.getfield 84, 3) := by decide +kernel
theorem dX5_saying_86 : decode cX5_saying 86 = .ok (.bipush 49, 2) := by decide +kernel
theorem dX5_saying_88 : decode cX5_saying 88 = .ok (.if_icmp .eq 16, 3) := by decide +kernel
theorem dX5_saying_91 : decode cX5_saying 91 = .ok (.iload_n 2, 1) := by decide +kernel
theorem dX5_saying_92 : decode cX5_saying 92 = .ok (.ifCond .eq 16, 3) := by decide +kernel
theorem dX5_saying_95 : decode cX5_saying 95 = .ok (.aload_n 0, 1) := by decide +kernel
theorem dX5_saying_96 : decode cX5_saying 96 = .ok (.getfield 99, 3) := by decide +kernel
theorem dX5_saying_99 : decode cX5_saying 99 = .ok (.bipush 8, 2) := by decide +kernel
theorem dX5_saying_101 : decode cX5_saying 101 = .ok (.if_icmp .ge 7, 3) := by decide +kernel
theorem dX5_saying_104 : decode cX5_saying 104 = .ok (.iconst 1, 1) := by decide +kernel
theorem dX5_saying_105 : decode cX5_saying 105 = .ok (.goto 4, 3) := by decide +kernel
theorem dX5_saying_108 : decode cX5_saying 108 = .ok (.iconst 0, 1) := by decide +kernel
theorem dX5_saying_109 : decode cX5_saying 109 = .ok (.istore_n 3, 1) := by decide +kernel
theorem dX5_saying_110 : decode cX5_saying 110 = .ok (.iload_n 3, 1) := by decide +kernel
theorem dX5_saying_111 : decode cX5_saying 111 = .ok (.ifCond .ne 8, 3) := by decide +kernel
theorem dX5_saying_114 : decode cX5_saying 114 = .ok (.aload_n 0, 1) := by decide +kernel
theorem dX5_saying_115 : decode cX5_saying 115 = .ok (.getfield 81, 3) := by decide +kernel
theorem dX5_saying_118 : decode cX5_saying 118 = .ok (.ireturn, 1) := by decide +kernel
theorem dX5_saying_119 : decode cX5_saying 119 = .ok (.iload_n 2, 1) := by decide +kernel
theorem dX5_saying_120 : decode cX5_saying 120 = .ok (.ifCond .eq 70, 3) := by decide +kernel
theorem dX5_saying_123 : decode cX5_saying 123 = .ok (.aload_n 0, 1) := by decide +kernel
theorem dX5_saying_124 : decode cX5_saying 124 = .ok (.getfield 39, 3) := by decide +kernel
theorem dX5_saying_127 : decode cX5_saying 127 = .ok (.aload_n 0, 1) := by decide +kernel
theorem dX5_saying_128 : decode cX5_saying 128 = .ok (.getfield 99, 3) := by decide +kernel
theorem dX5_saying_131 : decode cX5_saying 131 = .ok (.aload_n 0, 1) := by decide +kernel
theorem dX5_saying_132 : decode cX5_saying 132 = .ok (.getfield 84, 3) := by decide +kernel
theorem dX5_saying_135 : decode cX5_saying 135 = .ok (.iastore, 1) := by decide +kernel
theorem dX5_saying_136 : decode cX5_saying 136 = .ok (.aload_n 0, 1) := by decide +kernel
theorem dX5_saying_137 : decode cX5_saying 137 = .ok (.dup, 1) := by decide +kernel
theorem dX5_saying_138 : decode cX5_saying 138 = .ok (.getfield 99, 3) := by decide +kernel
theorem dX5_saying_141 : decode cX5_saying 141 = .ok (.iconst 1, 1) := by decide +kernel
theorem dX5_saying_142 : decode cX5_saying 142 = .ok (.iadd, 1) := by decide +kernel
theorem dX5_saying_143 : decode cX5_saying 143 = .ok (.putfield 99, 3) := by decide +kernel
theorem dX5_saying_146 : decode cX5_saying 146 = .ok (.aload_n 0, 1) := by decide +kernel
theorem dX5_saying_147 : decode cX5_saying 147 = .ok (.getfield 84, 3) := by decide +kernel
theorem dX5_saying_150 : decode cX5_saying 150 = .ok (.bipush 40, 2) := by decide +kernel
theorem dX5_saying_152 : decode cX5_saying 152 = .ok (.if_icmp .ne 82, 3) := by decide +kernel
theorem dX5_saying_155 : decode cX5_saying 155 = .ok (.aload_n 0, 1) := by decide +kernel
theorem dX5_saying_156 : decode cX5_saying 156 = .ok (.dup, 1) := by decide +kernel
theorem dX5_saying_157 : decode cX5_saying 157 = .ok (.getfield 102, 3) := by decide +kernel
theorem dX5_saying_160 : decode cX5_saying 160 = .ok (.iconst 1, 1) := by decide +kernel
theorem dX5_saying_161 : decode cX5_saying 161 = .ok (.iadd, 1) := by decide +kernel
theorem dX5_saying_162 : decode cX5_saying 162 = .ok (.putfield 102, 3) := by decide +kernel
theorem dX5_saying_165 : decode cX5_saying 165 = .ok (.aload_n 0, 1) := by decide +kernel
theorem dX5_saying_166 : decode cX5_saying 166 = .ok (.getfield 42, 3) := by decide +kernel
theorem dX5_saying_169 : decode cX5_saying 169 = .ok (.aload_n 0, 1) := by decide +kernel
theorem dX5_saying_170 : decode cX5_saying 170 = .ok (.getfield 102, 3) := by decide +kernel
theorem dX5_saying_173 : decode cX5_saying 173 = .ok (.lconst 0, 1) := by decide +kernel
theorem dX5_saying_174 : decode cX5_saying 174 = .ok (.lastore, 1) := by decide +kernel
theorem dX5_saying_175 : decode cX5_saying 175 = .ok (.aload_n 0, 1) := by decide +kernel
theorem dX5_saying_176 : decode cX5_saying 176 = .ok (.getfield 45, 3) := by decide +kernel
theorem dX5_saying_179 : decode cX5_saying 179 = .ok (.aload_n 0, 1) := by decide +kernel
theorem dX5_saying_180 : decode cX5_saying 180 = .ok (.getfield 102, 3) := by decide +kernel
theorem dX5_saying_183 : decode cX5_saying 183 = .ok (.ldc2_w 13, 3) := by decide +kernel
theorem dX5_saying_186 : decode cX5_saying 186 = .ok (.lastore, 1) := by decide +kernel
theorem dX5_saying_187 : decode cX5_saying 187 = .ok (.goto 47, 3) := by decide +kernel
theorem dX5_saying_190 : decode cX5_saying 190 = .ok (.aload_n 0, 1) := by decide +kernel
theorem dX5_saying_191 : decode cX5_saying 191 = .ok (.aload_n 0, 1) := by decide +kernel
theorem dX5_saying_192 : decode cX5_saying 192 = .ok (.getfield 84, 3) := by decide +kernel
theorem dX5_saying_195 : decode cX5_saying 195 = .ok (.bipush 48, 2) := by decide +kernel
theorem dX5_saying_197 : decode cX5_saying 197 = .ok (.if_icmp .ne 7, 3) := by decide +kernel
theorem dX5_saying_200 : decode cX5_saying 200 = .ok (.lconst 0, 1) := by decide +kernel
theorem dX5_saying_201 : decode cX5_saying 201 = .ok (.goto 28, 3) := by decide +kernel
theorem dX5_saying_204 : decode cX5_saying 204 = .ok (.aload_n 0, 1) := by decide +kernel
theorem dX5_saying_205 : decode cX5_saying 205 = .ok (.getfield 84, 3) := by decide +kernel
theorem dX5_saying_208 : decode cX5_saying 208 = .ok (.bipush 49, 2) := by decide +kernel
theorem dX5_saying_210 : decode cX5_saying 210 = .ok (.if_icmp .ne 9, 3) := by decide +kernel
theorem dX5_saying_213 : decode cX5_saying 213 = .ok (.ldc2_w 13, 3) := by decide +kernel
theorem dX5_saying_216 : decode cX5_saying 216 = .ok (.goto 13, 3) := by decide +kernel
theorem dX5_saying_219 : decode cX5_saying 219 = .ok (.aload_n 0, 1) := by decide +kernel
theorem dX5_saying_220 : decode cX5_saying 220 = .ok (.getfield 84, 3) := by decide +kernel
theorem dX5_saying_223 : decode cX5_saying 223 = .ok (.bipush 97, 2) := by decide +kernel
theorem dX5_saying_225 : decode cX5_saying 225 = .ok (.isub, 1) := by decide +kernel
theorem dX5_saying_226 : decode cX5_saying 226 = .ok (.invokestatic 107, 3) := by decide +kernel
theorem dX5_saying_229 : decode cX5_saying 229 = .ok (.invokevirtual 111, 3) := by decide +kernel
theorem dX5_saying_232 : decode cX5_saying 232 = .ok (.iconst 0, 1) := by decide +kernel
theorem dX5_saying_233 : decode cX5_saying 233 = .ok (.istore_n 1, 1) := by decide +kernel
theorem dX5_saying_234 : decode cX5_saying 234 = .ok (.goto 161, 3) := by decide +kernel
theorem dX5_saying_237 : decode cX5_saying 237 = .ok (.aload_n 0, 1) := by decide +kernel
theorem dX5_saying_238 : decode cX5_saying 238 = .ok (.getfield 84, 3) := by decide +kernel
theorem dX5_saying_241 : decode cX5_saying 241 = .ok (.bipush 38, 2) := by decide +kernel
theorem dX5_saying_243 : decode cX5_saying 243 = .ok (.if_icmp .ne 8, 3) := by decide +kernel
theorem dX5_saying_246 : decode cX5_saying 246 = .ok (.iconst 1, 1) := by decide +kernel
theorem dX5_saying_247 : decode cX5_saying 247 = .ok (.istore_n 1, 1) := by decide +kernel
theorem dX5_saying_248 : decode cX5_saying 248 = .ok (.goto 147, 3) := by decide +kernel
theorem dX5_saying_251 : decode cX5_saying 251 = .ok (.aload_n 0, 1) := by decide +kernel
theorem dX5_saying_252 : decode cX5_saying 252 = .ok (.getfield 84, 3) := by decide +kernel
theorem dX5_saying_255 : decode cX5_saying 255 = .ok (.bipush 124, 2) := by decide +kernel
theorem dX5_saying_257 : decode cX5_saying 257 = .ok (.if_icmp .ne 41, 3) := by decide +kernel
theorem dX5_saying_260 : decode cX5_saying 260 = .ok (.aload_n 0, 1) := by decide +kernel
theorem dX5_saying_261 : decode cX5_saying 261 = .ok (.getfield 42, 3) := by decide +kernel
theorem dX5_saying_264 : decode cX5_saying 264 = .ok (.aload_n 0, 1) := by decide +kernel
theorem dX5_saying_265 : decode cX5_saying 265 = .ok (.getfield 102, 3) := by decide +kernel
theorem dX5_saying_268 : decode cX5_saying 268 = .ok (.dup2, 1) := by decide +kernel
theorem dX5_saying_269 : decode cX5_saying 269 = .ok (.laload, 1) := by decide +kernel
theorem dX5_saying_270 : decode cX5_saying 270 = .ok (.aload_n 0, 1) := by decide +kernel
theorem dX5_saying_271 : decode cX5_saying 271 = .ok (.getfield 45, 3) := by decide +kernel
theorem dX5_saying_274 : decode cX5_saying 274 = .ok (.aload_n 0, 1) := by decide +kernel
theorem dX5_saying_275 : decode cX5_saying 275 = .ok (.getfield 102, 3) := by decide +kernel
theorem dX5_saying_278 : decode cX5_saying 278 = .ok (.laload, 1) := by decide +kernel
theorem dX5_saying_279 : decode cX5_saying 279 = .ok (.lor, 1) := by decide +kernel
theorem dX5_saying_280 : decode cX5_saying 280 = .ok (.lastore, 1) := by decide +kernel
theorem dX5_saying_281 : decode cX5_saying 281 = .ok (.aload_n 0, 1) := by decide +kernel
theorem dX5_saying_282 : decode cX5_saying 282 = .ok (.getfield 45, 3) := by decide +kernel
theorem dX5_saying_285 : decode cX5_saying 285 = .ok (.aload_n 0, 1) := by decide +kernel
theorem dX5_saying_286 : decode cX5_saying 286 = .ok (.getfield 102, 3) := by decide +kernel
theorem dX5_saying_289 : decode cX5_saying 289 = .ok (.ldc2_w 13, 3) := by decide +kernel
theorem dX5_saying_292 : decode cX5_saying 292 = .ok (.lastore, 1) := by decide +kernel
theorem dX5_saying_293 : decode cX5_saying 293 = .ok (.iconst 1, 1) := by decide +kernel
theorem dX5_saying_294 : decode cX5_saying 294 = .ok (.istore_n 1, 1) := by decide +kernel
theorem dX5_saying_295 : decode cX5_saying 295 = .ok (.goto 100, 3) := by decide +kernel
theorem dX5_saying_298 : decode cX5_saying 298 = .ok (.aload_n 0, 1) := by decide +kernel
theorem dX5_saying_299 : decode cX5_saying 299 = .ok (.getfield 84, 3) := by decide +kernel
theorem dX5_saying_302 : decode cX5_saying 302 = .ok (.bipush 41, 2) := by decide +kernel
theorem dX5_saying_304 : decode cX5_saying 304 = .ok (.if_icmp .ne 58, 3) := by decide +kernel
theorem dX5_saying_307 : decode cX5_saying 307 = .ok (.aload_n 0, 1) := by decide +kernel
theorem dX5_saying_308 : decode cX5_saying 308 = .ok (.getfield 102, 3) := by decide +kernel
theorem dX5_saying_311 : decode cX5_saying 311 = .ok (.ifCond .le 51, 3) := by decide +kernel
theorem dX5_saying_314 : decode cX5_saying 314 = .ok (.aload_n 0, 1) := by decide +kernel
theorem dX5_saying_315 : decode cX5_saying 315 = .ok (.getfield 42, 3) := by decide +kernel
theorem dX5_saying_318 : decode cX5_saying 318 = .ok (.aload_n 0, 1) := by decide +kernel
theorem dX5_saying_319 : decode cX5_saying 319 = .ok (.getfield 102, 3) := by decide +kernel
theorem dX5_saying_322 : decode cX5_saying 322 = .ok (.laload, 1) := by decide +kernel
theorem dX5_saying_323 : decode cX5_saying 323 = .ok (.aload_n 0, 1) := by decide +kernel
theorem dX5_saying_324 : decode cX5_saying 324 = .ok (.getfield 45, 3) := by decide +kernel
theorem dX5_saying_327 : decode cX5_saying 327 = .ok (.aload_n 0, 1) := by decide +kernel
theorem dX5_saying_328 : decode cX5_saying 328 = .ok (.getfield 102, 3) := by decide +kernel
theorem dX5_saying_331 : decode cX5_saying 331 = .ok (.laload, 1) := by decide +kernel
theorem dX5_saying_332 : decode cX5_saying 332 = .ok (.lor, 1) := by decide +kernel
theorem dX5_saying_333 : decode cX5_saying 333 = .ok (.lstore_n 2, 1) := by decide +kernel
theorem dX5_saying_334 : decode cX5_saying 334 = .ok (.aload_n 0, 1) := by decide +kernel
theorem dX5_saying_335 : decode cX5_saying 335 = .ok (.dup, 1) := by decide +kernel
theorem dX5_saying_336 : decode cX5_saying 336 = .ok (.getfield 102, 3) := by decide +kernel
theorem dX5_saying_339 : decode cX5_saying 339 = .ok (.iconst 1, 1) := by decide +kernel
theorem dX5_saying_340 : decode cX5_saying 340 = .ok (.isub, 1) := by decide +kernel
theorem dX5_saying_341 : decode cX5_saying 341 = .ok (.putfield 102, 3) := by decide +kernel
theorem dX5_saying_344 : decode cX5_saying 344 = .ok (.aload_n 0, 1) := by decide +kernel
theorem dX5_saying_345 : decode cX5_saying 345 = .ok (.dup, 1) := by decide +kernel
theorem dX5_saying_346 : decode cX5_saying 346 = .ok (.getfield 99, 3) := by decide +kernel
theorem dX5_saying_349 : decode cX5_saying 349 = .ok (.iconst 1, 1) := by decide +kernel
theorem dX5_saying_350 : decode cX5_saying 350 = .ok (.isub, 1) := by decide +kernel
theorem dX5_saying_351 : decode cX5_saying 351 = .ok (.putfield 99, 3) := by decide +kernel
theorem dX5_saying_354 : decode cX5_saying 354 = .ok (.aload_n 0, 1) := by decide +kernel
theorem dX5_saying_355 : decode cX5_saying 355 = .ok (.lload_n 2, 1) := by decide +kernel
theorem dX5_saying_356 : decode cX5_saying 356 = .ok (.invokevirtual 111, 3) := by decide +kernel
theorem dX5_saying_359 : decode cX5_saying 359 = .ok (.goto 36, 3) := by decide +kernel
theorem dX5_saying_362 : decode cX5_saying 362 = .ok (.aload_n 0, 1) := by decide +kernel
theorem dX5_saying_363 : decode cX5_saying 363 = .ok (.aload_n 0, 1) := by decide +kernel
theorem dX5_saying_364 : decode cX5_saying 364 = .ok (.getfield 42, 3) := by decide +kernel
theorem dX5_saying_367 : decode cX5_saying 367 = .ok (.iconst 0, 1) := by decide +kernel
theorem dX5_saying_368 : decode cX5_saying 368 = .ok (.laload, 1) := by decide +kernel
theorem dX5_saying_369 : decode cX5_saying 369 = .ok (.aload_n 0, 1) := by decide +kernel
theorem dX5_saying_370 : decode cX5_saying 370 = .ok (.getfield 45, 3) := by decide +kernel
theorem dX5_saying_373 : decode cX5_saying 373 = .ok (.iconst 0, 1) := by decide +kernel
theorem dX5_saying_374 : decode cX5_saying 374 = .ok (.laload, 1) := by decide +kernel
theorem dX5_saying_375 : decode cX5_saying 375 = .ok (.lor, 1) := by decide +kernel
theorem dX5_saying_376 : decode cX5_saying 376 = .ok (.putfield 115, 3) := by decide +kernel
theorem dX5_saying_379 : decode cX5_saying 379 = .ok (.aload_n 0, 1) := by decide +kernel
theorem dX5_saying_380 : decode cX5_saying 380 = .ok (.getfield 102, 3) := by decide +kernel
theorem dX5_saying_383 : decode cX5_saying 383 = .ok (.ifCond .le 10, 3) := by decide +kernel
theorem dX5_saying_386 : decode cX5_saying 386 = .ok (.aload_n 0, 1) := by decide +kernel
theorem dX5_saying_387 : decode cX5_saying 387 = .ok (.getfield 81, 3) := by decide +kernel
theorem dX5_saying_390 : decode cX5_saying 390 = .ok (.goto 4, 3) := by decide +kernel
theorem dX5_saying_393 : decode cX5_saying 393 = .ok (.iconst (-1), 1) := by decide +kernel
theorem dX5_saying_394 : decode cX5_saying 394 = .ok (.ireturn, 1) := by decide +kernel
theorem dX5_saying_395 : decode cX5_saying 395 = .ok (.aload_n 0, 1) := by decide +kernel
theorem dX5_saying_396 : decode cX5_saying 396 = .ok (.invokevirtual 118, 3) := by decide +kernel
theorem dX5_saying_399 : decode cX5_saying 399 = .ok (.goto (-371), 3) := by decide +kernel
theorem dX5_ends_0 : decode cX5_ends 0 = .ok (.lload_n 1, 1) := by decide +kernel
theorem dX5_ends_1 : decode cX5_ends 1 = .ok (.lstore_n 3, 1) := by decide +kernel
theorem dX5_ends_2 : decode cX5_ends 2 = .ok (.aload_n 0, 1) := by decide +kernel
theorem dX5_ends_3 : decode cX5_ends 3 = .ok (.getfield 99, 3) := by decide +kernel
theorem dX5_ends_6 : decode cX5_ends 6 = .ok (.ifCond .le 38, 3) := by decide +kernel
theorem dX5_ends_9 : decode cX5_ends 9 = .ok (.aload_n 0, 1) := by decide +kernel
theorem dX5_ends_10 : decode cX5_ends 10 = .ok (.getfield 39, 3) := by decide +kernel
theorem dX5_ends_13 : decode cX5_ends 13 = .ok (.aload_n 0, 1) := by decide +kernel
theorem dX5_ends_14 : decode cX5_ends 14 = .ok (.getfield 99, 3) := by decide +kernel
theorem dX5_ends_17 : decode cX5_ends 17 = .ok (.iconst 1, 1) := by decide +kernel
theorem dX5_ends_18 : decode cX5_ends 18 = .ok (.isub, 1) := by decide +kernel
theorem dX5_ends_19 : decode cX5_ends 19 = .ok (.iaload, 1) := by decide +kernel
theorem dX5_ends_20 : decode cX5_ends 20 = .ok (.bipush 33, 2) := by decide +kernel
theorem dX5_ends_22 : decode cX5_ends 22 = .ok (.if_icmp .ne 22, 3) := by decide +kernel
theorem dX5_ends_25 : decode cX5_ends 25 = .ok (.lload_n 3, 1) := by decide +kernel
theorem dX5_ends_26 : decode cX5_ends 26 = .ok (.ldc2_w 13, 3) := by decide +kernel
theorem dX5_ends_29 : decode cX5_ends 29 = .ok (.lxor, 1) := by decide +kernel
theorem dX5_ends_30 : decode cX5_ends 30 = .ok (.lstore_n 3, 1) := by decide +kernel
theorem dX5_ends_31 : decode cX5_ends 31 = .ok (.aload_n 0, 1) := by decide +kernel
theorem dX5_ends_32 : decode cX5_ends 32 = .ok (.dup, 1) := by decide +kernel
theorem dX5_ends_33 : decode cX5_ends 33 = .ok (.getfield 99, 3) := by decide +kernel
theorem dX5_ends_36 : decode cX5_ends 36 = .ok (.iconst 1, 1) := by decide +kernel
theorem dX5_ends_37 : decode cX5_ends 37 = .ok (.isub, 1) := by decide +kernel
theorem dX5_ends_38 : decode cX5_ends 38 = .ok (.putfield 99, 3) := by decide +kernel
theorem dX5_ends_41 : decode cX5_ends 41 = .ok (.goto (-39), 3) := by decide +kernel
theorem dX5_ends_44 : decode cX5_ends 44 = .ok (.aload_n 0, 1) := by decide +kernel
theorem dX5_ends_45 : decode cX5_ends 45 = .ok (.getfield 45, 3) := by decide +kernel
theorem dX5_ends_48 : decode cX5_ends 48 = .ok (.aload_n 0, 1) := by decide +kernel
theorem dX5_ends_49 : decode cX5_ends 49 = .ok (.getfield 102, 3) := by decide +kernel
theorem dX5_ends_52 : decode cX5_ends 52 = .ok (.dup2, 1) := by decide +kernel
theorem dX5_ends_53 : decode cX5_ends 53 = .ok (.laload, 1) := by decide +kernel
theorem dX5_ends_54 : decode cX5_ends 54 = .ok (.lload_n 3, 1) := by decide +kernel
theorem dX5_ends_55 : decode cX5_ends 55 = .ok (.land, 1) := by decide +kernel
theorem dX5_ends_56 : decode cX5_ends 56 = .ok (.lastore, 1) := by decide +kernel
theorem dX5_ends_57 : decode cX5_ends 57 = .ok (.return_, 1) := by decide +kernel
set_option maxRecDepth 20000 in
theorem ggX5_fault_X5_token : GoodIn wsX5_fault wsX5_token := goodIn_r _ [17, 5, 7, 18, 19, 6, 20, 9, 21, 22, 23, 16, 24, 25, 26, 27, 28, 29, 30, 31, 32, 33, 54, 55, 56, 57, 58, 59, 60, 61, 62, 63, 64, 65, 66, 67, 68, 69, 70, 71, 72, 73, 74, 75, 76, 77, 78, 79, 80, 81, 82] (by decide +kernel) (by decide +kernel)
set_option maxRecDepth 20000 in
theorem gX5_fault_X5_token : GoodIn wsX5_fault (wsV RX5 118 RX5 yX5_token wsX5_token) := goodIn_app (goodIn_of _ (by decide +kernel)) ggX5_fault_X5_token
set_option maxRecDepth 20000 in
theorem ggX5_fault_X5_in : GoodIn wsX5_fault wsX5_in := goodIn_r _ [29] (by decide +kernel) (by decide +kernel)
set_option maxRecDepth 20000 in
theorem gX5_fault_X5_in : GoodIn wsX5_fault (va_wsS RX5 66 yX5_in wsX5_in) := goodIn_app (goodIn_of _ (by decide +kernel)) ggX5_fault_X5_in
set_option maxRecDepth 20000 in
theorem ggX5_fault_X5_saying : GoodIn wsX5_fault wsX5_saying := goodIn_r _ [37, 38, 39, 40, 41, 3, 6, 25, 42, 7, 43, 11, 27, 28, 16, 29, 44, 45, 46, 47, 48, 49, 50, 51, 52, 53, 13, 14, 15, 17, 5, 18, 19, 20, 9, 21, 22, 23, 24, 26, 30, 31, 32, 33, 54, 55, 56, 57, 58, 59, 60, 61, 62, 63, 64, 65, 66, 67, 68, 69, 70, 71, 72, 73, 74, 75, 76, 77, 78, 79, 80, 81, 82] (by decide +kernel) (by decide +kernel)
set_option maxRecDepth 20000 in
theorem gX5_fault_X5_saying : GoodIn wsX5_fault (wsV RX5 132 RX5 yX5_saying wsX5_saying) := goodIn_app (goodIn_of _ (by decide +kernel)) ggX5_fault_X5_saying
theorem dX5_fault_0 : decode cX5_fault 0 = .ok (.aload_n 0, 1) := by decide +kernel
theorem dX5_fault_1 : decode cX5_fault 1 = .ok (.iconst 0, 1) := by decide +kernel
theorem dX5_fault_2 : decode cX5_fault 2 = .ok (.putfield 121, 3) := by decide +kernel
theorem dX5_fault_5 : decode cX5_fault 5 = .ok (.aload_n 0, 1) := by decide +kernel
theorem dX5_fault_6 : decode cX5_fault 6 = .ok (.iconst 0, 1) := by decide +kernel
theorem dX5_fault_7 : decode cX5_fault 7 = .ok (.putfield 124, 3) := by decide +kernel
theorem dX5_fault_10 : decode cX5_fault 10 = .ok (.aload_n 0, 1) := by decide +kernel
theorem dX5_fault_11 : decode cX5_fault 11 = .ok (.ldc2_w 13, 3) := by decide +kernel
theorem dX5_fault_14 : decode cX5_fault 14 = .ok (.putfield 127, 3) := by decide +kernel
theorem dX5_fault_17 : decode cX5_fault 17 = .ok (.aload_n 0, 1) := by decide +kernel
theorem dX5_fault_18 : decode cX5_fault 18 = .ok (.iconst 0, 1) := by decide +kernel
theorem dX5_fault_19 : decode cX5_fault 19 = .ok (.putfield 78, 3) := by decide +kernel
theorem dX5_fault_22 : decode cX5_fault 22 = .ok (.aload_n 0, 1) := by decide +kernel
theorem dX5_fault_23 : decode cX5_fault 23 = .ok (.invokevirtual 118, 3) := by decide +kernel
theorem dX5_fault_26 : decode cX5_fault 26 = .ok (.aload_n 0, 1) := by decide +kernel
theorem dX5_fault_27 : decode cX5_fault 27 = .ok (.getfield 84, 3) := by decide +kernel
theorem dX5_fault_30 : decode cX5_fault 30 = .ok (.ifCond .eq 189, 3) := by decide +kernel
theorem dX5_fault_33 : decode cX5_fault 33 = .ok (.aload_n 0, 1) := by decide +kernel
theorem dX5_fault_34 : decode cX5_fault 34 = .ok (.getfield 84, 3) := by decide +kernel
theorem dX5_fault_37 : decode cX5_fault 37 = .ok (.bipush 76, 2) := by decide +kernel
theorem dX5_fault_39 : decode cX5_fault 39 = .ok (.if_icmp .ne 7, 3) := by decide +kernel
theorem dX5_fault_42 : decode cX5_fault 42 = .ok (.iconst 1, 1) := by decide +kernel
theorem dX5_fault_43 : decode cX5_fault 43 = .ok (.goto 4, 3) := by decide +kernel
