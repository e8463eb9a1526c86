theorem dX2_findTokens_47 : decode cX2_findTokens 47 = .ok (.aload_n 0, 1) := by decide +kernel
theorem dX2_findTokens_48 : decode cX2_findTokens 48 = .ok (.getfield 19, 3) := by decide +kernel
theorem dX2_findTokens_51 : decode cX2_findTokens 51 = .ok (.iload_n 1, 1) := by decide +kernel
theorem dX2_findTokens_52 : decode cX2_findTokens 52 = .ok (.sipush 258, 3) := by decide +kernel
theorem dX2_findTokens_55 : decode cX2_findTokens 55 = .ok (.iastore, 1) := by decide +kernel
theorem dX2_findTokens_56 : decode cX2_findTokens 56 = .ok (.aload_n 0, 1) := by decide +kernel
theorem dX2_findTokens_57 : decode cX2_findTokens 57 = .ok (.getfield 22, 3) := by decide +kernel
theorem dX2_findTokens_60 : decode cX2_findTokens 60 = .ok (.iload_n 1, 1) := by decide +kernel
theorem dX2_findTokens_61 : decode cX2_findTokens 61 = .ok (.aload_n 0, 1) := by decide +kernel
theorem dX2_findTokens_62 : decode cX2_findTokens 62 = .ok (.getfield 15, 3) := by decide +kernel
theorem dX2_findTokens_65 : decode cX2_findTokens 65 = .ok (.iastore, 1) := by decide +kernel
theorem dX2_findTokens_66 : decode cX2_findTokens 66 = .ok (.return_, 1) := by decide +kernel
set_option maxRecDepth 20000 in
theorem ggX2_beginsToken_X2_isSmall : GoodIn wsX2_beginsToken wsX2_isSmall := goodIn_r _ [6, 7, 1, 8, 9, 10, 11] (by decide +kernel) (by decide +kernel)
set_option maxRecDepth 20000 in
theorem gX2_beginsToken_X2_isSmall : GoodIn wsX2_beginsToken (wsV RX2 33 RX2 yX2_isSmall wsX2_isSmall) := goodIn_app (goodIn_of _ (by decide +kernel)) ggX2_beginsToken_X2_isSmall
theorem dX2_beginsToken_0 : decode cX2_beginsToken 0 = .ok (.aload_n 0, 1) := by decide +kernel
theorem dX2_beginsToken_1 : decode cX2_beginsToken 1 = .ok (.iload_n 1, 1) := by decide +kernel
theorem dX2_beginsToken_2 : decode cX2_beginsToken 2 = .ok (.invokevirtual 33, 3) := by decide +kernel
theorem dX2_beginsToken_5 : decode cX2_beginsToken 5 = .ok (.ifCond .ne 20, 3) := by decide +kernel
theorem dX2_beginsToken_8 : decode cX2_beginsToken 8 = .ok (.aload_n 0, 1) := by decide +kernel
theorem dX2_beginsToken_9 : decode cX2_beginsToken 9 = .ok (.getfield 9, 3) := by decide +kernel
theorem dX2_beginsToken_12 : decode cX2_beginsToken 12 = .ok (.iload_n 1, 1) := by decide +kernel
theorem dX2_beginsToken_13 : decode cX2_beginsToken 13 = .ok (.iaload, 1) := by decide +kernel
theorem dX2_beginsToken_14 : decode cX2_beginsToken 14 = .ok (.bipush 32, 2) := by decide +kernel
theorem dX2_beginsToken_16 : decode cX2_beginsToken 16 = .ok (.if_icmp .eq 7, 3) := by decide +kernel
theorem dX2_beginsToken_19 : decode cX2_beginsToken 19 = .ok (.iconst 1, 1) := by decide +kernel
theorem dX2_beginsToken_20 : decode cX2_beginsToken 20 = .ok (.goto 4, 3) := by decide +kernel
theorem dX2_beginsToken_23 : decode cX2_beginsToken 23 = .ok (.iconst 0, 1) := by decide +kernel
theorem dX2_beginsToken_24 : decode cX2_beginsToken 24 = .ok (.ireturn, 1) := by decide +kernel
theorem dX2_beginsToken_25 : decode cX2_beginsToken 25 = .ok (.aload_n 0, 1) := by decide +kernel
theorem dX2_beginsToken_26 : decode cX2_beginsToken 26 = .ok (.iload_n 1, 1) := by decide +kernel
theorem dX2_beginsToken_27 : decode cX2_beginsToken 27 = .ok (.iconst 1, 1) := by decide +kernel
theorem dX2_beginsToken_28 : decode cX2_beginsToken 28 = .ok (.isub, 1) := by decide +kernel
theorem dX2_beginsToken_29 : decode cX2_beginsToken 29 = .ok (.invokevirtual 33, 3) := by decide +kernel
theorem dX2_beginsToken_32 : decode cX2_beginsToken 32 = .ok (.ifCond .ne 7, 3) := by decide +kernel
theorem dX2_beginsToken_35 : decode cX2_beginsToken 35 = .ok (.iconst 1, 1) := by decide +kernel
theorem dX2_beginsToken_36 : decode cX2_beginsToken 36 = .ok (.goto 4, 3) := by decide +kernel
theorem dX2_beginsToken_39 : decode cX2_beginsToken 39 = .ok (.iconst 0, 1) := by decide +kernel
theorem dX2_beginsToken_40 : decode cX2_beginsToken 40 = .ok (.ireturn, 1) := by decide +kernel
set_option maxRecDepth 20000 in
theorem ggX2_tokenAt_X2_isSmall : GoodIn wsX2_tokenAt wsX2_isSmall := goodIn_r _ [6, 7, 1, 18, 19, 20, 21] (by decide +kernel) (by decide +kernel)
set_option maxRecDepth 20000 in
theorem gX2_tokenAt_X2_isSmall : GoodIn wsX2_tokenAt (wsV RX2 33 RX2 yX2_isSmall wsX2_isSmall) := goodIn_app (goodIn_of _ (by decide +kernel)) ggX2_tokenAt_X2_isSmall
set_option maxRecDepth 20000 in
theorem ggX2_tokenAt_X2_wordAt : GoodIn wsX2_tokenAt wsX2_wordAt := goodIn_r _ [11, 7, 1, 2, 3, 4, 5, 6, 12, 13, 14, 18, 19, 20, 21] (by decide +kernel) (by decide +kernel)
set_option maxRecDepth 20000 in
theorem gX2_tokenAt_X2_wordAt : GoodIn wsX2_tokenAt (wsV RX2 36 RX2 yX2_wordAt wsX2_wordAt) := goodIn_app (goodIn_of _ (by decide +kernel)) ggX2_tokenAt_X2_wordAt
set_option maxRecDepth 20000 in
theorem ggX2_tokenAt_X2_isSign : GoodIn wsX2_tokenAt wsX2_isSign := goodIn_r _ [17] (by decide +kernel) (by decide +kernel)
set_option maxRecDepth 20000 in
theorem gX2_tokenAt_X2_isSign : GoodIn wsX2_tokenAt (va_wsS RX2 39 yX2_isSign wsX2_isSign) := goodIn_app (goodIn_of _ (by decide +kernel)) ggX2_tokenAt_X2_isSign
theorem dX2_tokenAt_0 : decode cX2_tokenAt 0 = .ok (.aload_n 0, 1) := by decide +kernel
theorem dX2_tokenAt_1 : decode cX2_tokenAt 1 = .ok (.iload_n 1, 1) := by decide +kernel
theorem dX2_tokenAt_2 : decode cX2_tokenAt 2 = .ok (.invokevirtual 33, 3) := by decide +kernel
theorem dX2_tokenAt_5 : decode cX2_tokenAt 5 = .ok (.ifCond .eq 9, 3) := by decide +kernel
theorem dX2_tokenAt_8 : decode cX2_tokenAt 8 = .ok (.aload_n 0, 1) := by decide +kernel
theorem dX2_tokenAt_9 : decode cX2_tokenAt 9 = .ok (.iload_n 1, 1) := by decide +kernel
theorem dX2_tokenAt_10 : decode cX2_tokenAt 10 = .ok (.invokevirtual 36, 3) := by decide +kernel
theorem dX2_tokenAt_13 : decode cX2_tokenAt 13 = .ok (.ireturn, 1) := by decide +kernel
theorem dX2_tokenAt_14 : decode cX2_tokenAt 14 = .ok (.aload_n 0, 1) := by decide +kernel
theorem dX2_tokenAt_15 : decode cX2_tokenAt 15 = .ok (.getfield 9, 3) := by decide +kernel
theorem dX2_tokenAt_18 : decode cX2_tokenAt 18 = .ok (.iload_n 1, 1) := by decide +kernel
theorem dX2_tokenAt_19 : decode cX2_tokenAt 19 = .ok (.iaload, 1) := by decide +kernel
theorem dX2_tokenAt_20 : decode cX2_tokenAt 20 = .ok (.invokestatic 39, 3) := by decide +kernel
theorem dX2_tokenAt_23 : decode cX2_tokenAt 23 = .ok (.ifCond .eq 12, 3) := by decide +kernel
theorem dX2_tokenAt_26 : decode cX2_tokenAt 26 = .ok (.aload_n 0, 1) := by decide +kernel
theorem dX2_tokenAt_27 : decode cX2_tokenAt 27 = .ok (.getfield 9, 3) := by decide +kernel
theorem dX2_tokenAt_30 : decode cX2_tokenAt 30 = .ok (.iload_n 1, 1) := by decide +kernel
theorem dX2_tokenAt_31 : decode cX2_tokenAt 31 = .ok (.iaload, 1) := by decide +kernel
theorem dX2_tokenAt_32 : decode cX2_tokenAt 32 = .ok (.goto 6, 3) := by decide +kernel
theorem dX2_tokenAt_35 : decode cX2_tokenAt 35 = .ok (.sipush 259, 3) := by decide +kernel
theorem dX2_tokenAt_38 : decode cX2_tokenAt 38 = .ok (.ireturn, 1) := by decide +kernel
set_option maxRecDepth 20000 in
theorem ggX2_wordAt_X2_isSmall : GoodIn wsX2_wordAt wsX2_isSmall := goodIn_r _ [7, 1, 2, 11, 12, 13, 14] (by decide +kernel) (by decide +kernel)
set_option maxRecDepth 20000 in
theorem gX2_wordAt_X2_isSmall : GoodIn wsX2_wordAt (wsV RX2 33 RX2 yX2_isSmall wsX2_isSmall) := goodIn_app (goodIn_of _ (by decide +kernel)) ggX2_wordAt_X2_isSmall
set_option maxRecDepth 20000 in
theorem ggX2_wordAt_X4_isLetter : GoodIn wsX2_wordAt wsX4_isLetter := goodIn_r _ [10] (by decide +kernel) (by decide +kernel)
set_option maxRecDepth 20000 in
theorem gX2_wordAt_X4_isLetter_n42 : GoodIn wsX2_wordAt (wsX4_isLetter) := ggX2_wordAt_X4_isLetter
theorem dX2_wordAt_0 : decode cX2_wordAt 0 = .ok (.iconst 1, 1) := by decide +kernel
theorem dX2_wordAt_1 : decode cX2_wordAt 1 = .ok (.istore_n 2, 1) := by decide +kernel
theorem dX2_wordAt_2 : decode cX2_wordAt 2 = .ok (.iload_n 1, 1) := by decide +kernel
theorem dX2_wordAt_3 : decode cX2_wordAt 3 = .ok (.iload_n 2, 1) := by decide +kernel
theorem dX2_wordAt_4 : decode cX2_wordAt 4 = .ok (.iadd, 1) := by decide +kernel
theorem dX2_wordAt_5 : decode cX2_wordAt 5 = .ok (.aload_n 0, 1) := by decide +kernel
theorem dX2_wordAt_6 : decode cX2_wordAt 6 = .ok (.getfield 15, 3) := by decide +kernel
theorem dX2_wordAt_9 : decode cX2_wordAt 9 = .ok (.if_icmp .ge 19, 3) := by decide +kernel
theorem dX2_wordAt_12 : decode cX2_wordAt 12 = .ok (.aload_n 0, 1) := by decide +kernel
theorem dX2_wordAt_13 : decode cX2_wordAt 13 = .ok (.iload_n 1, 1) := by decide +kernel
theorem dX2_wordAt_14 : decode cX2_wordAt 14 = .ok (.iload_n 2, 1) := by decide +kernel
theorem dX2_wordAt_15 : decode cX2_wordAt 15 = .ok (.iadd, 1) := by decide +kernel
theorem dX2_wordAt_16 : decode cX2_wordAt 16 = .ok (.invokevirtual 33, 3) := by decide +kernel
theorem dX2_wordAt_19 : decode cX2_wordAt 19 = .ok (.ifCond .eq 9, 3) := by decide +kernel
theorem dX2_wordAt_22 : decode cX2_wordAt 22 = .ok (.iinc 2 1, 3) := by decide +kernel
theorem dX2_wordAt_25 : decode cX2_wordAt 25 = .ok (.goto (-23), 3) := by decide +kernel
theorem dX2_wordAt_28 : decode cX2_wordAt 28 = .ok (.iload_n 2, 1) := by decide +kernel
theorem dX2_wordAt_29 : decode cX2_wordAt 29 = .ok (.iconst 1, 1) := by decide +kernel
theorem dX2_wordAt_30 : decode cX2_wordAt 30 = .ok (.if_icmp .ne 28, 3) := by decide +kernel
theorem dX2_wordAt_33 : decode cX2_wordAt 33 = .ok (.aload_n 0, 1) := by decide +kernel
theorem dX2_wordAt_34 : decode cX2_wordAt 34 = .ok (.getfield 9, 3) := by decide +kernel
theorem dX2_wordAt_37 : decode cX2_wordAt 37 = .ok (.iload_n 1, 1) := by decide +kernel
theorem dX2_wordAt_38 : decode cX2_wordAt 38 = .ok (.iaload, 1) := by decide +kernel
theorem dX2_wordAt_39 : decode cX2_wordAt 39 = .ok (.invokestatic 42, 3) := by decide +kernel
theorem dX2_wordAt_42 : decode cX2_wordAt 42 = .ok (.ifCond .eq 12, 3) := by decide +kernel
theorem dX2_wordAt_45 : decode cX2_wordAt 45 = .ok (.aload_n 0, 1) := by decide +kernel
theorem dX2_wordAt_46 : decode cX2_wordAt 46 = .ok (.getfield 9, 3) := by decide +kernel
theorem dX2_wordAt_49 : decode cX2_wordAt 49 = .ok (.iload_n 1, 1) := by decide +kernel
theorem dX2_wordAt_50 : decode cX2_wordAt 50 = .ok (.iaload, 1) := by decide +kernel
theorem dX2_wordAt_51 : decode cX2_wordAt 51 = .ok (.goto 6, 3) := by decide +kernel
theorem dX2_wordAt_54 : decode cX2_wordAt 54 = .ok (.sipush 259, 3) := by decide +kernel
theorem dX2_wordAt_57 : decode cX2_wordAt 57 = .ok (.ireturn, 1) := by decide +kernel
theorem dX2_wordAt_58 : decode cX2_wordAt 58 = .ok (.iload_n 2, 1) := by decide +kernel
theorem dX2_wordAt_59 : decode cX2_wordAt 59 = .ok (.iconst 3, 1) := by decide +kernel
theorem dX2_wordAt_60 : decode cX2_wordAt 60 = .ok (.if_icmp .ne 16, 3) := by decide +kernel
theorem dX2_wordAt_63 : decode cX2_wordAt 63 = .ok (.aload_n 0, 1) := by decide +kernel
theorem dX2_wordAt_64 : decode cX2_wordAt 64 = .ok (.getfield 9, 3) := by decide +kernel
theorem dX2_wordAt_67 : decode cX2_wordAt 67 = .ok (.iload_n 1, 1) := by decide +kernel
theorem dX2_wordAt_68 : decode cX2_wordAt 68 = .ok (.iconst 1, 1) := by decide +kernel
theorem dX2_wordAt_69 : decode cX2_wordAt 69 = .ok (.iadd, 1) := by decide +kernel
theorem dX2_wordAt_70 : decode cX2_wordAt 70 = .ok (.iaload, 1) := by decide +kernel
theorem dX2_wordAt_71 : decode cX2_wordAt 71 = .ok (.bipush 97, 2) := by decide +kernel
theorem dX2_wordAt_73 : decode cX2_wordAt 73 = .ok (.if_icmp .eq 7, 3) := by decide +kernel
theorem dX2_wordAt_76 : decode cX2_wordAt 76 = .ok (.sipush 259, 3) := by decide +kernel
theorem dX2_wordAt_79 : decode cX2_wordAt 79 = .ok (.ireturn, 1) := by decide +kernel
theorem dX2_wordAt_80 : decode cX2_wordAt 80 = .ok (.aload_n 0, 1) := by decide +kernel
theorem dX2_wordAt_81 : decode cX2_wordAt 81 = .ok (.getfield 9, 3) := by decide +kernel
theorem dX2_wordAt_84 : decode cX2_wordAt 84 = .ok (.iload_n 1, 1) := by decide +kernel
theorem dX2_wordAt_85 : decode cX2_wordAt 85 = .ok (.iaload, 1) := by decide +kernel
theorem dX2_wordAt_86 : decode cX2_wordAt 86 = .ok (.bipush 108, 2) := by decide +kernel
theorem dX2_wordAt_88 : decode cX2_wordAt 88 = .ok (.if_icmp .ne 20, 3) := by decide +kernel
theorem dX2_wordAt_91 : decode cX2_wordAt 91 = .ok (.aload_n 0, 1) := by decide +kernel
theorem dX2_wordAt_92 : decode cX2_wordAt 92 = .ok (.getfield 9, 3) := by decide +kernel
theorem dX2_wordAt_95 : decode cX2_wordAt 95 = .ok (.iload_n 1, 1) := by decide +kernel
theorem dX2_wordAt_96 : decode cX2_wordAt 96 = .ok (.iconst 2, 1) := by decide +kernel
theorem dX2_wordAt_97 : decode cX2_wordAt 97 = .ok (.iadd, 1) := by decide +kernel
theorem dX2_wordAt_98 : decode cX2_wordAt 98 = .ok (.iaload, 1) := by decide +kernel
theorem dX2_wordAt_99 : decode cX2_wordAt 99 = .ok (.bipush 119, 2) := by decide +kernel
theorem dX2_wordAt_101 : decode cX2_wordAt 101 = .ok (.if_icmp .ne 7, 3) := by decide +kernel
theorem dX2_wordAt_104 : decode cX2_wordAt 104 = .ok (.sipush 256, 3) := by decide +kernel
theorem dX2_wordAt_107 : decode cX2_wordAt 107 = .ok (.ireturn, 1) := by decide +kernel
theorem dX2_wordAt_108 : decode cX2_wordAt 108 = .ok (.aload_n 0, 1) := by decide +kernel
theorem dX2_wordAt_109 : decode cX2_wordAt 109 = .ok (.getfield 9, 3) := by decide +kernel
theorem dX2_wordAt_112 : decode cX2_wordAt 112 = .ok (.iload_n 1, 1) := by decide +kernel
theorem dX2_wordAt_113 : decode cX2_wordAt 113 = .ok (.iaload, 1) := by decide +kernel
theorem dX2_wordAt_114 : decode cX2_wordAt 114 = .ok (.bipush 115, 2) := by decide +kernel
theorem dX2_wordAt_116 : decode cX2_wordAt 116 = .ok (.if_icmp .ne 22, 3) := by decide +kernel
theorem dX2_wordAt_119 : decode cX2_wordAt 119 = .ok (.aload_n 0, 1) := by decide +kernel
theorem dX2_wordAt_120 : decode cX2_wordAt 120 = .ok (.getfield 9, 3) := by decide +kernel
theorem dX2_wordAt_123 : decode cX2_wordAt 123 = .ok (.iload_n 1, 1) := by decide +kernel
theorem dX2_wordAt_124 : decode cX2_wordAt 124 = .ok (.iconst 2, 1) := by decide +kernel
theorem dX2_wordAt_125 : decode cX2_wordAt 125 = .ok (.iadd, 1) := by decide +kernel
theorem dX2_wordAt_126 : decode cX2_wordAt 126 = .ok (.iaload, 1) := by decide +kernel
theorem dX2_wordAt_127 : decode cX2_wordAt 127 = .ok (.bipush 121, 2) := by decide +kernel
theorem dX2_wordAt_129 : decode cX2_wordAt 129 = .ok (.if_icmp .ne 9, 3) := by decide +kernel
theorem dX2_wordAt_132 : decode cX2_wordAt 132 = .ok (.sipush 257, 3) := by decide +kernel
theorem dX2_wordAt_135 : decode cX2_wordAt 135 = .ok (.goto 6, 3) := by decide +kernel
theorem dX2_wordAt_138 : decode cX2_wordAt 138 = .ok (.sipush 259, 3) := by decide +kernel
theorem dX2_wordAt_141 : decode cX2_wordAt 141 = .ok (.ireturn, 1) := by decide +kernel
theorem dX2_isSmall_0 : decode cX2_isSmall 0 = .ok (.iload_n 1, 1) := by decide +kernel
theorem dX2_isSmall_1 : decode cX2_isSmall 1 = .ok (.ifCond .lt 37, 3) := by decide +kernel
theorem dX2_isSmall_4 : decode cX2_isSmall 4 = .ok (.iload_n 1, 1) := by decide +kernel
theorem dX2_isSmall_5 : decode cX2_isSmall 5 = .ok (.aload_n 0, 1) := by decide +kernel
theorem dX2_isSmall_6 : decode cX2_isSmall 6 = .ok (.getfield 15, 3) := by decide +kernel
theorem dX2_isSmall_9 : decode cX2_isSmall 9 = .ok (.if_icmp .ge 29, 3) := by decide +kernel
theorem dX2_isSmall_12 : decode cX2_isSmall 12 = .ok (.aload_n 0, 1) := by decide +kernel
theorem dX2_isSmall_13 : decode cX2_isSmall 13 = .ok (.getfield 9, 3) := by decide +kernel
theorem dX2_isSmall_16 : decode cX2_isSmall 16 = .ok (.iload_n 1, 1) := by decide +kernel
theorem dX2_isSmall_17 : decode cX2_isSmall 17 = .ok (.iaload, 1) := by decide +kernel
theorem dX2_isSmall_18 : decode cX2_isSmall 18 = .ok (.bipush 97, 2) := by decide +kernel
theorem dX2_isSmall_20 : decode cX2_isSmall 20 = .ok (.if_icmp .lt 18, 3) := by decide +kernel
theorem dX2_isSmall_23 : decode cX2_isSmall 23 = .ok (.aload_n 0, 1) := by decide +kernel
theorem dX2_isSmall_24 : decode cX2_isSmall 24 = .ok (.getfield 9, 3) := by decide +kernel
theorem dX2_isSmall_27 : decode cX2_isSmall 27 = .ok (.iload_n 1, 1) := by decide +kernel
theorem dX2_isSmall_28 : decode cX2_isSmall 28 = .ok (.iaload, 1) := by decide +kernel
theorem dX2_isSmall_29 : decode cX2_isSmall 29 = .ok (.bipush 122, 2) := by decide +kernel
theorem dX2_isSmall_31 : decode cX2_isSmall 31 = .ok (.if_icmp .gt 7, 3) := by decide +kernel
theorem dX2_isSmall_34 : decode cX2_isSmall 34 = .ok (.iconst 1, 1) := by decide +kernel
theorem dX2_isSmall_35 : decode cX2_isSmall 35 = .ok (.goto 4, 3) := by decide +kernel
theorem dX2_isSmall_38 : decode cX2_isSmall 38 = .ok (.iconst 0, 1) := by decide +kernel
theorem dX2_isSmall_39 : decode cX2_isSmall 39 = .ok (.ireturn, 1) := by decide +kernel
theorem dX2_isSign_0 : decode cX2_isSign 0 = .ok (.iload_n 0, 1) := by decide +kernel
theorem dX2_isSign_1 : decode cX2_isSign 1 = .ok (.bipush 48, 2) := by decide +kernel
theorem dX2_isSign_3 : decode cX2_isSign 3 = .ok (.if_icmp .lt 9, 3) := by decide +kernel
theorem dX2_isSign_6 : decode cX2_isSign 6 = .ok (.iload_n 0, 1) := by decide +kernel
theorem dX2_isSign_7 : decode cX2_isSign 7 = .ok (.bipush 57, 2) := by decide +kernel
theorem dX2_isSign_9 : decode cX2_isSign 9 = .ok (.if_icmp .le 39, 3) := by decide +kernel
theorem dX2_isSign_12 : decode cX2_isSign 12 = .ok (.iload_n 0, 1) := by decide +kernel
theorem dX2_isSign_13 : decode cX2_isSign 13 = .ok (.bipush 59, 2) := by decide +kernel
theorem dX2_isSign_15 : decode cX2_isSign 15 = .ok (.if_icmp .eq 33, 3) := by decide +kernel
theorem dX2_isSign_18 : decode cX2_isSign 18 = .ok (.iload_n 0, 1) := by decide +kernel
theorem dX2_isSign_19 : decode cX2_isSign 19 = .ok (.bipush 124, 2) := by decide +kernel
theorem dX2_isSign_21 : decode cX2_isSign 21 = .ok (.if_icmp .eq 27, 3) := by decide +kernel
theorem dX2_isSign_24 : decode cX2_isSign 24 = .ok (.iload_n 0, 1) := by decide +kernel
theorem dX2_isSign_25 : decode cX2_isSign 25 = .ok (.bipush 38, 2) := by decide +kernel
theorem dX2_isSign_27 : decode cX2_isSign 27 = .ok (.if_icmp .eq 21, 3) := by decide +kernel
theorem dX2_isSign_30 : decode cX2_isSign 30 = .ok (.iload_n 0, 1) := by decide +kernel
theorem dX2_isSign_31 : decode cX2_isSign 31 = .ok (.bipush 33, 2) := by decide +kernel
theorem dX2_isSign_33 : decode cX2_isSign 33 = .ok (.if_icmp .eq 15, 3) := by decide +kernel
theorem dX2_isSign_36 : decode cX2_isSign 36 = .ok (.iload_n 0, 1) := by decide +kernel
theorem dX2_isSign_37 : decode cX2_isSign 37 = .ok (.bipush 40, 2) := by decide +kernel
theorem dX2_isSign_39 : decode cX2_isSign 39 = .ok (.if_icmp .eq 9, 3) := by decide +kernel
theorem dX2_isSign_42 : decode cX2_isSign 42 = .ok (.iload_n 0, 1) := by decide +kernel
theorem dX2_isSign_43 : decode cX2_isSign 43 = .ok (.bipush 41, 2) := by decide +kernel
theorem dX2_isSign_45 : decode cX2_isSign 45 = .ok (.if_icmp .ne 7, 3) := by decide +kernel
theorem dX2_isSign_48 : decode cX2_isSign 48 = .ok (.iconst 1, 1) := by decide +kernel
theorem dX2_isSign_49 : decode cX2_isSign 49 = .ok (.goto 4, 3) := by decide +kernel
theorem dX2_isSign_52 : decode cX2_isSign 52 = .ok (.iconst 0, 1) := by decide +kernel
theorem dX2_isSign_53 : decode cX2_isSign 53 = .ok (.ireturn, 1) := by decide +kernel
theorem dX3_init_0 : decode cX3_init 0 = .ok (.aload_n 0, 1) := by decide +kernel
theorem dX3_init_1 : decode cX3_init 1 = .ok (.invokespecial 3, 3) := by decide +kernel
theorem dX3_init_4 : decode cX3_init 4 = .ok (.aload_n 0, 1) := by decide +kernel
theorem dX3_init_5 : decode cX3_init 5 = .ok (.iconst 0, 1) := by decide +kernel
theorem dX3_init_6 : decode cX3_init 6 = .ok (.putfield 9, 3) := by decide +kernel
theorem dX3_init_9 : decode cX3_init 9 = .ok (.aload_n 0, 1) := by decide +kernel
theorem dX3_init_10 : decode cX3_init 10 = .ok (.ldc2_w 15, 3) := by decide +kernel
theorem dX3_init_13 : decode cX3_init 13 = .ok (.putfield 17, 3) := by decide +kernel
theorem dX3_init_16 : decode cX3_init 16 = .ok (.aload_n 0, 1) := by decide +kernel
theorem dX3_init_17 : decode cX3_init 17 = .ok (.iconst 0, 1) := by decide +kernel
theorem dX3_init_18 : decode cX3_init 18 = .ok (.putfield 21, 3) := by decide +kernel
theorem dX3_init_21 : decode cX3_init 21 = .ok (.aload_n 0, 1) := by decide +kernel
theorem dX3_init_22 : decode cX3_init 22 = .ok (.bipush 7, 2) := by decide +kernel
theorem dX3_init_24 : decode cX3_init 24 = .ok (.newarray .long, 2) := by decide +kernel
theorem dX3_init_26 : decode cX3_init 26 = .ok (.putfield 24, 3) := by decide +kernel
theorem dX3_init_29 : decode cX3_init 29 = .ok (.aload_n 0, 1) := by decide +kernel
theorem dX3_init_30 : decode cX3_init 30 = .ok (.bipush 7, 2) := by decide +kernel
theorem dX3_init_32 : decode cX3_init 32 = .ok (.newarray .int, 2) := by decide +kernel
theorem dX3_init_34 : decode cX3_init 34 = .ok (.putfield 28, 3) := by decide +kernel
theorem dX3_init_37 : decode cX3_init 37 = .ok (.return_, 1) := by decide +kernel
theorem dX3_empty_0 : decode cX3_empty 0 = .ok (.aload_n 0, 1) := by decide +kernel
theorem dX3_empty_1 : decode cX3_empty 1 = .ok (.iconst 0, 1) := by decide +kernel
theorem dX3_empty_2 : decode cX3_empty 2 = .ok (.putfield 9, 3) := by decide +kernel
theorem dX3_empty_5 : decode cX3_empty 5 = .ok (.aload_n 0, 1) := by decide +kernel
theorem dX3_empty_6 : decode cX3_empty 6 = .ok (.ldc2_w 15, 3) := by decide +kernel
theorem dX3_empty_9 : decode cX3_empty 9 = .ok (.putfield 17, 3) := by decide +kernel
theorem dX3_empty_12 : decode cX3_empty 12 = .ok (.aload_n 0, 1) := by decide +kernel
theorem dX3_empty_13 : decode cX3_empty 13 = .ok (.iconst 0, 1) := by decide +kernel
theorem dX3_empty_14 : decode cX3_empty 14 = .ok (.putfield 21, 3) := by decide +kernel
theorem dX3_empty_17 : decode cX3_empty 17 = .ok (.return_, 1) := by decide +kernel
theorem dX3_addLaw_0 : decode cX3_addLaw 0 = .ok (.aload_n 0, 1) := by decide +kernel
theorem dX3_addLaw_1 : decode cX3_addLaw 1 = .ok (.dup, 1) := by decide +kernel
theorem dX3_addLaw_2 : decode cX3_addLaw 2 = .ok (.getfield 9, 3) := by decide +kernel
theorem dX3_addLaw_5 : decode cX3_addLaw 5 = .ok (.iconst 1, 1) := by decide +kernel
theorem dX3_addLaw_6 : decode cX3_addLaw 6 = .ok (.iadd, 1) := by decide +kernel
theorem dX3_addLaw_7 : decode cX3_addLaw 7 = .ok (.putfield 9, 3) := by decide +kernel
theorem dX3_addLaw_10 : decode cX3_addLaw 10 = .ok (.aload_n 0, 1) := by decide +kernel
theorem dX3_addLaw_11 : decode cX3_addLaw 11 = .ok (.dup, 1) := by decide +kernel
theorem dX3_addLaw_12 : decode cX3_addLaw 12 = .ok (.getfield 17, 3) := by decide +kernel
theorem dX3_addLaw_15 : decode cX3_addLaw 15 = .ok (.lload_n 1, 1) := by decide +kernel
theorem dX3_addLaw_16 : decode cX3_addLaw 16 = .ok (.land, 1) := by decide +kernel
theorem dX3_addLaw_17 : decode cX3_addLaw 17 = .ok (.putfield 17, 3) := by decide +kernel
theorem dX3_addLaw_20 : decode cX3_addLaw 20 = .ok (.return_, 1) := by decide +kernel
theorem dX3_addSayer_0 : decode cX3_addSayer 0 = .ok (.aload_n 0, 1) := by decide +kernel
theorem dX3_addSayer_1 : decode cX3_addSayer 1 = .ok (.getfield 21, 3) := by decide +kernel
theorem dX3_addSayer_4 : decode cX3_addSayer 4 = .ok (.bipush 7, 2) := by decide +kernel
theorem dX3_addSayer_6 : decode cX3_addSayer 6 = .ok (.if_icmp .ge 33, 3) := by decide +kernel
theorem dX3_addSayer_9 : decode cX3_addSayer 9 = .ok (.aload_n 0, 1) := by decide +kernel
theorem dX3_addSayer_10 : decode cX3_addSayer 10 = .ok (.getfield 28, 3) := by decide +kernel
theorem dX3_addSayer_13 : decode cX3_addSayer 13 = .ok (.aload_n 0, 1) := by decide +kernel
theorem dX3_addSayer_14 : decode cX3_addSayer 14 = .ok (.getfield 21, 3) := by decide +kernel
theorem dX3_addSayer_17 : decode cX3_addSayer 17 = .ok (.iload_n 1, 1) := by decide +kernel
theorem dX3_addSayer_18 : decode cX3_addSayer 18 = .ok (.iastore, 1) := by decide +kernel
theorem dX3_addSayer_19 : decode cX3_addSayer 19 = .ok (.aload_n 0, 1) := by decide +kernel
theorem dX3_addSayer_20 : decode cX3_addSayer 20 = .ok (.getfield 24, 3) := by decide +kernel
theorem dX3_addSayer_23 : decode cX3_addSayer 23 = .ok (.aload_n 0, 1) := by decide +kernel
theorem dX3_addSayer_24 : decode cX3_addSayer 24 = .ok (.getfield 21, 3) := by decide +kernel
theorem dX3_addSayer_27 : decode cX3_addSayer 27 = .ok (.lload_n 2, 1) := by decide +kernel
theorem dX3_addSayer_28 : decode cX3_addSayer 28 = .ok (.lastore, 1) := by decide +kernel
theorem dX3_addSayer_29 : decode cX3_addSayer 29 = .ok (.aload_n 0, 1) := by decide +kernel
theorem dX3_addSayer_30 : decode cX3_addSayer 30 = .ok (.dup, 1) := by decide +kernel
theorem dX3_addSayer_31 : decode cX3_addSayer 31 = .ok (.getfield 21, 3) := by decide +kernel
theorem dX3_addSayer_34 : decode cX3_addSayer 34 = .ok (.iconst 1, 1) := by decide +kernel
theorem dX3_addSayer_35 : decode cX3_addSayer 35 = .ok (.iadd, 1) := by decide +kernel
theorem dX3_addSayer_36 : decode cX3_addSayer 36 = .ok (.putfield 21, 3) := by decide +kernel
theorem dX3_addSayer_39 : decode cX3_addSayer 39 = .ok (.return_, 1) := by decide +kernel
theorem dX3_allWeights_0 : decode cX3_allWeights 0 = .ok (.iconst 0, 1) := by decide +kernel
theorem dX3_allWeights_1 : decode cX3_allWeights 1 = .ok (.istore_n 1, 1) := by decide +kernel
theorem dX3_allWeights_2 : decode cX3_allWeights 2 = .ok (.iconst 0, 1) := by decide +kernel
theorem dX3_allWeights_3 : decode cX3_allWeights 3 = .ok (.istore_n 2, 1) := by decide +kernel
theorem dX3_allWeights_4 : decode cX3_allWeights 4 = .ok (.iload_n 2, 1) := by decide +kernel
theorem dX3_allWeights_5 : decode cX3_allWeights 5 = .ok (.aload_n 0, 1) := by decide +kernel
theorem dX3_allWeights_6 : decode cX3_allWeights 6 = .ok (.getfield 21, 3) := by decide +kernel
theorem dX3_allWeights_9 : decode cX3_allWeights 9 = .ok (.if_icmp .ge 18, 3) := by decide +kernel
theorem dX3_allWeights_12 : decode cX3_allWeights 12 = .ok (.iload_n 1, 1) := by decide +kernel
theorem dX3_allWeights_13 : decode cX3_allWeights 13 = .ok (.aload_n 0, 1) := by decide +kernel
theorem dX3_allWeights_14 : decode cX3_allWeights 14 = .ok (.getfield 28, 3) := by decide +kernel
theorem dX3_allWeights_17 : decode cX3_allWeights 17 = .ok (.iload_n 2, 1) := by decide +kernel
theorem dX3_allWeights_18 : decode cX3_allWeights 18 = .ok (.iaload, 1) := by decide +kernel
theorem dX3_allWeights_19 : decode cX3_allWeights 19 = .ok (.iadd, 1) := by decide +kernel
theorem dX3_allWeights_20 : decode cX3_allWeights 20 = .ok (.istore_n 1, 1) := by decide +kernel
theorem dX3_allWeights_21 : decode cX3_allWeights 21 = .ok (.iinc 2 1, 3) := by decide +kernel
theorem dX3_allWeights_24 : decode cX3_allWeights 24 = .ok (.goto (-20), 3) := by decide +kernel
theorem dX3_allWeights_27 : decode cX3_allWeights 27 = .ok (.iload_n 1, 1) := by decide +kernel
theorem dX3_allWeights_28 : decode cX3_allWeights 28 = .ok (.ireturn, 1) := by decide +kernel
theorem dX3_saidByOthers_0 : decode cX3_saidByOthers 0 = .ok (.lconst 0, 1) := by decide +kernel
theorem dX3_saidByOthers_1 : decode cX3_saidByOthers 1 = .ok (.lstore_n 2, 1) := by decide +kernel
theorem dX3_saidByOthers_2 : decode cX3_saidByOthers 2 = .ok (.iconst 0, 1) := by decide +kernel
theorem dX3_saidByOthers_3 : decode cX3_saidByOthers 3 = .ok (.istore 4, 2) := by decide +kernel
theorem dX3_saidByOthers_5 : decode cX3_saidByOthers 5 = .ok (.iload 4, 2) := by decide +kernel
theorem dX3_saidByOthers_7 : decode cX3_saidByOthers 7 = .ok (.aload_n 0, 1) := by decide +kernel
theorem dX3_saidByOthers_8 : decode cX3_saidByOthers 8 = .ok (.getfield 21, 3) := by decide +kernel
theorem dX3_saidByOthers_11 : decode cX3_saidByOthers 11 = .ok (.if_icmp .ge 25, 3) := by decide +kernel
theorem dX3_saidByOthers_14 : decode cX3_saidByOthers 14 = .ok (.iload 4, 2) := by decide +kernel
theorem dX3_saidByOthers_16 : decode cX3_saidByOthers 16 = .ok (.iload_n 1, 1) := by decide +kernel
theorem dX3_saidByOthers_17 : decode cX3_saidByOthers 17 = .ok (.if_icmp .eq 13, 3) := by decide +kernel
theorem dX3_saidByOthers_20 : decode cX3_saidByOthers 20 = .ok (.lload_n 2, 1) := by decide +kernel
theorem dX3_saidByOthers_21 : decode cX3_saidByOthers 21 = .ok (.aload_n 0, 1) := by decide +kernel
theorem dX3_saidByOthers_22 : decode cX3_saidByOthers 22 = .ok (.getfield 24, 3) := by decide +kernel
theorem dX3_saidByOthers_25 : decode cX3_saidByOthers 25 = .ok (.iload 4, 2) := by decide +kernel
theorem dX3_saidByOthers_27 : decode cX3_saidByOthers 27 = .ok (.laload, 1) := by decide +kernel
theorem dX3_saidByOthers_28 : decode cX3_saidByOthers 28 = .ok (.lor, 1) := by decide +kernel
theorem dX3_saidByOthers_29 : decode cX3_saidByOthers 29 = .ok (.lstore_n 2, 1) := by decide +kernel
theorem dX3_saidByOthers_30 : decode cX3_saidByOthers 30 = .ok (.iinc 4 1, 3) := by decide +kernel
theorem dX3_saidByOthers_33 : decode cX3_saidByOthers 33 = .ok (.goto (-28), 3) := by decide +kernel
theorem dX3_saidByOthers_36 : decode cX3_saidByOthers 36 = .ok (.lload_n 2, 1) := by decide +kernel
theorem dX3_saidByOthers_37 : decode cX3_saidByOthers 37 = .ok (.lreturn, 1) := by decide +kernel
set_option maxRecDepth 20000 in
theorem ggX4_init_X2_init : GoodIn wsX4_init wsX2_init := goodIn_r _ [32, 33, 2, 3, 34, 35, 36, 37, 38, 75, 76, 77, 78] (by decide +kernel) (by decide +kernel)
set_option maxRecDepth 20000 in
theorem gX4_init_X2_init : GoodIn wsX4_init (wsX2_init) := ggX4_init_X2_init
set_option maxRecDepth 20000 in
theorem ggX4_init_X1_init : GoodIn wsX4_init wsX1_init := goodIn_r _ [41, 42, 2, 3, 43, 44, 45, 46, 90, 91, 92, 93] (by decide +kernel) (by decide +kernel)
set_option maxRecDepth 20000 in
theorem gX4_init_X1_init : GoodIn wsX4_init (wsX1_init) := ggX4_init_X1_init
set_option maxRecDepth 20000 in
theorem ggX4_init_X3_init : GoodIn wsX4_init wsX3_init := goodIn_r _ [49, 50, 2, 3, 51, 52, 53, 54, 24, 55, 34, 56, 94, 95, 96, 97, 98] (by decide +kernel) (by decide +kernel)
set_option maxRecDepth 20000 in
theorem gX4_init_X3_init : GoodIn wsX4_init (wsX3_init) := ggX4_init_X3_init
set_option maxRecDepth 20000 in
theorem ggX4_init_X0_init : GoodIn wsX4_init wsX0_init := goodIn_r _ [59, 60, 2, 3, 34, 61, 62, 63, 64, 65, 66, 67, 68, 69, 70, 71, 72, 73, 74, 99, 100, 101] (by decide +kernel) (by decide +kernel)
set_option maxRecDepth 20000 in
theorem gX4_init_X0_init : GoodIn wsX4_init (wsX0_init) := ggX4_init_X0_init
theorem dX4_init_0 : decode cX4_init 0 = .ok (.aload_n 0, 1) := by decide +kernel
theorem dX4_init_1 : decode cX4_init 1 = .ok (.invokespecial 3, 3) := by decide +kernel
theorem dX4_init_4 : decode cX4_init 4 = .ok (.aload_n 0, 1) := by decide +kernel
theorem dX4_init_5 : decode cX4_init 5 = .ok (.new 9, 3) := by decide +kernel
theorem dX4_init_8 : decode cX4_init 8 = .ok (.dup, 1) := by decide +kernel
theorem dX4_init_9 : decode cX4_init 9 = .ok (.invokespecial 11, 3) := by decide +kernel
theorem dX4_init_12 : decode cX4_init 12 = .ok (.putfield 12, 3) := by decide +kernel
theorem dX4_init_15 : decode cX4_init 15 = .ok (.aload_n 0, 1) := by decide +kernel
theorem dX4_init_16 : decode cX4_init 16 = .ok (.new 16, 3) := by decide +kernel
theorem dX4_init_19 : decode cX4_init 19 = .ok (.dup, 1) := by decide +kernel
theorem dX4_init_20 : decode cX4_init 20 = .ok (.aload_n 0, 1) := by decide +kernel
theorem dX4_init_21 : decode cX4_init 21 = .ok (.getfield 12, 3) := by decide +kernel
theorem dX4_init_24 : decode cX4_init 24 = .ok (.invokespecial 18, 3) := by decide +kernel
theorem dX4_init_27 : decode cX4_init 27 = .ok (.putfield 21, 3) := by decide +kernel
theorem dX4_init_30 : decode cX4_init 30 = .ok (.aload_n 0, 1) := by decide +kernel
theorem dX4_init_31 : decode cX4_init 31 = .ok (.new 25, 3) := by decide +kernel
theorem dX4_init_34 : decode cX4_init 34 = .ok (.dup, 1) := by decide +kernel
theorem dX4_init_35 : decode cX4_init 35 = .ok (.invokespecial 27, 3) := by decide +kernel
theorem dX4_init_38 : decode cX4_init 38 = .ok (.putfield 28, 3) := by decide +kernel
theorem dX4_init_41 : decode cX4_init 41 = .ok (.aload_n 0, 1) := by decide +kernel
theorem dX4_init_42 : decode cX4_init 42 = .ok (.new 25, 3) := by decide +kernel
theorem dX4_init_45 : decode cX4_init 45 = .ok (.dup, 1) := by decide +kernel
theorem dX4_init_46 : decode cX4_init 46 = .ok (.invokespecial 27, 3) := by decide +kernel
theorem dX4_init_49 : decode cX4_init 49 = .ok (.putfield 32, 3) := by decide +kernel
theorem dX4_init_52 : decode cX4_init 52 = .ok (.aload_n 0, 1) := by decide +kernel
theorem dX4_init_53 : decode cX4_init 53 = .ok (.ldc2_w 35, 3) := by decide +kernel
theorem dX4_init_56 : decode cX4_init 56 = .ok (.putfield 37, 3) := by decide +kernel
theorem dX4_init_59 : decode cX4_init 59 = .ok (.aload_n 0, 1) := by decide +kernel
theorem dX4_init_60 : decode cX4_init 60 = .ok (.new 41, 3) := by decide +kernel
theorem dX4_init_63 : decode cX4_init 63 = .ok (.dup, 1) := by decide +kernel
theorem dX4_init_64 : decode cX4_init 64 = .ok (.invokespecial 43, 3) := by decide +kernel
theorem dX4_init_67 : decode cX4_init 67 = .ok (.putfield 44, 3) := by decide +kernel
theorem dX4_init_70 : decode cX4_init 70 = .ok (.aload_n 0, 1) := by decide +kernel
theorem dX4_init_71 : decode cX4_init 71 = .ok (.bipush 7, 2) := by decide +kernel
theorem dX4_init_73 : decode cX4_init 73 = .ok (.bipush 64, 2) := by decide +kernel
theorem dX4_init_75 : decode cX4_init 75 = .ok (.multianewarray 48 2, 4) := by decide +kernel
theorem dX4_init_79 : decode cX4_init 79 = .ok (.putfield 50, 3) := by decide +kernel
theorem dX4_init_82 : decode cX4_init 82 = .ok (.aload_n 0, 1) := by decide +kernel
theorem dX4_init_83 : decode cX4_init 83 = .ok (.sipush 128, 3) := by decide +kernel
theorem dX4_init_86 : decode cX4_init 86 = .ok (.newarray .long, 2) := by decide +kernel
theorem dX4_init_88 : decode cX4_init 88 = .ok (.putfield 53, 3) := by decide +kernel
theorem dX4_init_91 : decode cX4_init 91 = .ok (.aload_n 0, 1) := by decide +kernel
theorem dX4_init_92 : decode cX4_init 92 = .ok (.getfield 53, 3) := by decide +kernel
theorem dX4_init_95 : decode cX4_init 95 = .ok (.iconst 0, 1) := by decide +kernel
theorem dX4_init_96 : decode cX4_init 96 = .ok (.ldc2_w 35, 3) := by decide +kernel
theorem dX4_init_99 : decode cX4_init 99 = .ok (.lastore, 1) := by decide +kernel
theorem dX4_init_100 : decode cX4_init 100 = .ok (.aload_n 0, 1) := by decide +kernel
theorem dX4_init_101 : decode cX4_init 101 = .ok (.bipush 64, 2) := by decide +kernel
theorem dX4_init_103 : decode cX4_init 103 = .ok (.newarray .long, 2) := by decide +kernel
theorem dX4_init_105 : decode cX4_init 105 = .ok (.putfield 57, 3) := by decide +kernel
theorem dX4_init_108 : decode cX4_init 108 = .ok (.aload_n 0, 1) := by decide +kernel
theorem dX4_init_109 : decode cX4_init 109 = .ok (.bipush 64, 2) := by decide +kernel
theorem dX4_init_111 : decode cX4_init 111 = .ok (.newarray .long, 2) := by decide +kernel
theorem dX4_init_113 : decode cX4_init 113 = .ok (.putfield 60, 3) := by decide +kernel
theorem dX4_init_116 : decode cX4_init 116 = .ok (.aload_n 0, 1) := by decide +kernel
theorem dX4_init_117 : decode cX4_init 117 = .ok (.lconst 0, 1) := by decide +kernel
theorem dX4_init_118 : decode cX4_init 118 = .ok (.putfield 63, 3) := by decide +kernel
theorem dX4_init_121 : decode cX4_init 121 = .ok (.return_, 1) := by decide +kernel
set_option maxRecDepth 20000 in
theorem ggX4_type_X2_append : GoodIn wsX4_type wsX2_append := goodIn_r _ [6, 7, 8, 20, 21, 22, 23] (by decide +kernel) (by decide +kernel)
set_option maxRecDepth 20000 in
theorem gX4_type_X2_append : GoodIn wsX4_type (wsV RX4 70 RX2 yX2_append wsX2_append) := goodIn_app (goodIn_of _ (by decide +kernel)) ggX4_type_X2_append
theorem dX4_type_0 : decode cX4_type 0 = .ok (.iload_n 3, 1) := by decide +kernel
theorem dX4_type_1 : decode cX4_type 1 = .ok (.iconst 1, 1) := by decide +kernel
theorem dX4_type_2 : decode cX4_type 2 = .ok (.if_icmp .lt 9, 3) := by decide +kernel
theorem dX4_type_5 : decode cX4_type 5 = .ok (.iload_n 3, 1) := by decide +kernel
theorem dX4_type_6 : decode cX4_type 6 = .ok (.bipush 8, 2) := by decide +kernel
theorem dX4_type_8 : decode cX4_type 8 = .ok (.if_icmp .le 5, 3) := by decide +kernel
theorem dX4_type_11 : decode cX4_type 11 = .ok (.iconst (-1), 1) := by decide +kernel
theorem dX4_type_12 : decode cX4_type 12 = .ok (.ireturn, 1) := by decide +kernel
theorem dX4_type_13 : decode cX4_type 13 = .ok (.aload_n 0, 1) := by decide +kernel
theorem dX4_type_14 : decode cX4_type 14 = .ok (.getfield 12, 3) := by decide +kernel
theorem dX4_type_17 : decode cX4_type 17 = .ok (.getfield 66, 3) := by decide +kernel
theorem dX4_type_20 : decode cX4_type 20 = .ok (.iload_n 3, 1) := by decide +kernel
theorem dX4_type_21 : decode cX4_type 21 = .ok (.iadd, 1) := by decide +kernel
theorem dX4_type_22 : decode cX4_type 22 = .ok (.sipush 300, 3) := by decide +kernel
theorem dX4_type_25 : decode cX4_type 25 = .ok (.if_icmp .le 6, 3) := by decide +kernel
theorem dX4_type_28 : decode cX4_type 28 = .ok (.bipush (-3), 2) := by decide +kernel
theorem dX4_type_30 : decode cX4_type 30 = .ok (.ireturn, 1) := by decide +kernel
theorem dX4_type_31 : decode cX4_type 31 = .ok (.iload_n 3, 1) := by decide +kernel
theorem dX4_type_32 : decode cX4_type 32 = .ok (.iconst 1, 1) := by decide +kernel
theorem dX4_type_33 : decode cX4_type 33 = .ok (.isub, 1) := by decide +kernel
theorem dX4_type_34 : decode cX4_type 34 = .ok (.istore 4, 2) := by decide +kernel
theorem dX4_type_36 : decode cX4_type 36 = .ok (.iload 4, 2) := by decide +kernel
theorem dX4_type_38 : decode cX4_type 38 = .ok (.ifCond .lt 28, 3) := by decide +kernel
theorem dX4_type_41 : decode cX4_type 41 = .ok (.aload_n 0, 1) := by decide +kernel
theorem dX4_type_42 : decode cX4_type 42 = .ok (.getfield 12, 3) := by decide +kernel
theorem dX4_type_45 : decode cX4_type 45 = .ok (.lload_n 1, 1) := by decide +kernel
theorem dX4_type_46 : decode cX4_type 46 = .ok (.bipush 8, 2) := by decide +kernel
theorem dX4_type_48 : decode cX4_type 48 = .ok (.iload 4, 2) := by decide +kernel
theorem dX4_type_50 : decode cX4_type 50 = .ok (.imul, 1) := by decide +kernel
theorem dX4_type_51 : decode cX4_type 51 = .ok (.lushr, 1) := by decide +kernel
theorem dX4_type_52 : decode cX4_type 52 = .ok (.l2i, 1) := by decide +kernel
theorem dX4_type_53 : decode cX4_type 53 = .ok (.sipush 255, 3) := by decide +kernel
theorem dX4_type_56 : decode cX4_type 56 = .ok (.iand, 1) := by decide +kernel
theorem dX4_type_57 : decode cX4_type 57 = .ok (.invokevirtual 70, 3) := by decide +kernel
theorem dX4_type_60 : decode cX4_type 60 = .ok (.iinc 4 (-1), 3) := by decide +kernel
theorem dX4_type_63 : decode cX4_type 63 = .ok (.goto (-27), 3) := by decide +kernel
theorem dX4_type_66 : decode cX4_type 66 = .ok (.aload_n 0, 1) := by decide +kernel
theorem dX4_type_67 : decode cX4_type 67 = .ok (.getfield 12, 3) := by decide +kernel
theorem dX4_type_70 : decode cX4_type 70 = .ok (.getfield 66, 3) := by decide +kernel
theorem dX4_type_73 : decode cX4_type 73 = .ok (.ireturn, 1) := by decide +kernel
theorem dX4_clear_0 : decode cX4_clear 0 = .ok (.aload_n 0, 1) := by decide +kernel
theorem dX4_clear_1 : decode cX4_clear 1 = .ok (.getfield 12, 3) := by decide +kernel
theorem dX4_clear_4 : decode cX4_clear 4 = .ok (.getfield 66, 3) := by decide +kernel
theorem dX4_clear_7 : decode cX4_clear 7 = .ok (.istore_n 1, 1) := by decide +kernel
theorem dX4_clear_8 : decode cX4_clear 8 = .ok (.aload_n 0, 1) := by decide +kernel
theorem dX4_clear_9 : decode cX4_clear 9 = .ok (.getfield 12, 3) := by decide +kernel
theorem dX4_clear_12 : decode cX4_clear 12 = .ok (.iconst 0, 1) := by decide +kernel
theorem dX4_clear_13 : decode cX4_clear 13 = .ok (.putfield 66, 3) := by decide +kernel
theorem dX4_clear_16 : decode cX4_clear 16 = .ok (.iload_n 1, 1) := by decide +kernel
theorem dX4_clear_17 : decode cX4_clear 17 = .ok (.ireturn, 1) := by decide +kernel
set_option maxRecDepth 20000 in
theorem ggX4_tell_X1_readItems : GoodIn wsX4_tell wsX1_readItems := goodIn_r _ [9, 10, 11, 12, 13, 14, 15, 16, 17, 18, 19, 20, 21, 22, 8, 23, 24, 25, 26, 27, 28, 29, 30, 31, 32, 33, 34, 35, 36, 37, 38, 39, 40, 41, 42, 43, 44, 45, 46, 47, 48, 49, 50, 51, 52, 53, 54, 55, 56, 57, 58, 59, 60, 61, 62, 63, 64, 65, 66, 67, 68, 69, 70, 71, 72, 73, 74, 75, 76, 77, 78, 79, 80, 81, 82, 83, 84, 85, 86, 87, 88, 89, 90, 91, 92, 93, 94, 95, 96, 97, 98, 99, 100, 101, 102, 103, 104, 105, 106, 107, 167, 168, 169, 170, 175, 176, 177, 178, 179, 171, 172, 173, 174] (by decide +kernel) (by decide +kernel)
set_option maxRecDepth 20000 in
theorem gX4_tell_X1_readItems : GoodIn wsX4_tell (wsV RX4 74 RX1 yX1_readItems wsX1_readItems) := goodIn_app (goodIn_of _ (by decide +kernel)) ggX4_tell_X1_readItems
set_option maxRecDepth 20000 in
theorem ggX4_tell_X1_isFaulty : GoodIn wsX4_tell wsX1_isFaulty := goodIn_r _ [61, 26, 167, 168, 169, 170] (by decide +kernel) (by decide +kernel)
set_option maxRecDepth 20000 in
theorem gX4_tell_X1_isFaulty : GoodIn wsX4_tell (wsV RX4 78 RX1 yX1_isFaulty wsX1_isFaulty) := goodIn_app (goodIn_of _ (by decide +kernel)) ggX4_tell_X1_isFaulty
set_option maxRecDepth 20000 in
theorem ggX4_tell_X4_findCommon : GoodIn wsX4_tell wsX4_findCommon := goodIn_r _ [112, 113, 3, 114, 115, 116, 53, 117, 118, 119, 120, 121, 122, 156, 157, 158, 159, 160, 161, 162, 163, 164, 165, 166, 175, 176, 177, 178, 179] (by decide +kernel) (by decide +kernel)
set_option maxRecDepth 20000 in
theorem gX4_tell_X4_findCommon : GoodIn wsX4_tell (wsV RX4 85 RX4 yX4_findCommon wsX4_findCommon) := goodIn_app (goodIn_of _ (by decide +kernel)) ggX4_tell_X4_findCommon
set_option maxRecDepth 20000 in
theorem ggX4_tell_X4_findFars : GoodIn wsX4_tell wsX4_findFars := goodIn_r _ [126, 127, 3, 128, 129, 130, 131, 132, 133, 134, 135, 136, 137, 119, 120, 121, 122, 138, 139, 140, 141, 142, 143, 144, 145, 146, 147, 53, 148, 149, 150, 151, 152, 153, 154, 155, 156, 157, 158, 159, 160, 161, 162, 163, 164, 165, 166, 175, 176, 177, 178, 179, 180, 181, 182] (by decide +kernel) (by decide +kernel)
set_option maxRecDepth 20000 in
theorem gX4_tell_X4_findFars : GoodIn wsX4_tell (wsV RX4 88 RX4 yX4_findFars wsX4_findFars) := goodIn_app (goodIn_of _ (by decide +kernel)) ggX4_tell_X4_findFars
theorem dX4_tell_0 : decode cX4_tell 0 = .ok (.aload_n 0, 1) := by decide +kernel
theorem dX4_tell_1 : decode cX4_tell 1 = .ok (.getfield 21, 3) := by decide +kernel
theorem dX4_tell_4 : decode cX4_tell 4 = .ok (.aload_n 0, 1) := by decide +kernel
theorem dX4_tell_5 : decode cX4_tell 5 = .ok (.getfield 32, 3) := by decide +kernel
theorem dX4_tell_8 : decode cX4_tell 8 = .ok (.invokevirtual 74, 3) := by decide +kernel
theorem dX4_tell_11 : decode cX4_tell 11 = .ok (.aload_n 0, 1) := by decide +kernel
theorem dX4_tell_12 : decode cX4_tell 12 = .ok (.getfield 21, 3) := by decide +kernel
theorem dX4_tell_15 : decode cX4_tell 15 = .ok (.invokevirtual 78, 3) := by decide +kernel
theorem dX4_tell_18 : decode cX4_tell 18 = .ok (.ifCond .eq 14, 3) := by decide +kernel
theorem dX4_tell_21 : decode cX4_tell 21 = .ok (.bipush (-10), 2) := by decide +kernel
theorem dX4_tell_23 : decode cX4_tell 23 = .ok (.aload_n 0, 1) := by decide +kernel
theorem dX4_tell_24 : decode cX4_tell 24 = .ok (.getfield 21, 3) := by decide +kernel
theorem dX4_tell_27 : decode cX4_tell 27 = .ok (.getfield 82, 3) := by decide +kernel
theorem dX4_tell_30 : decode cX4_tell 30 = .ok (.isub, 1) := by decide +kernel
theorem dX4_tell_31 : decode cX4_tell 31 = .ok (.ireturn, 1) := by decide +kernel
theorem dX4_tell_32 : decode cX4_tell 32 = .ok (.aload_n 0, 1) := by decide +kernel
theorem dX4_tell_33 : decode cX4_tell 33 = .ok (.getfield 28, 3) := by decide +kernel
theorem dX4_tell_36 : decode cX4_tell 36 = .ok (.astore_n 1, 1) := by decide +kernel
theorem dX4_tell_37 : decode cX4_tell 37 = .ok (.aload_n 0, 1) := by decide +kernel
theorem dX4_tell_38 : decode cX4_tell 38 = .ok (.aload_n 0, 1) := by decide +kernel
theorem dX4_tell_39 : decode cX4_tell 39 = .ok (.getfield 32, 3) := by decide +kernel
theorem dX4_tell_42 : decode cX4_tell 42 = .ok (.putfield 28, 3) := by decide +kernel
theorem dX4_tell_45 : decode cX4_tell 45 = .ok (.aload_n 0, 1) := by decide +kernel
theorem dX4_tell_46 : decode cX4_tell 46 = .ok (.aload_n 1, 1) := by decide +kernel
theorem dX4_tell_47 : decode cX4_tell 47 = .ok (.putfield 32, 3) := by decide +kernel
theorem dX4_tell_50 : decode cX4_tell 50 = .ok (.aload_n 0, 1) := by decide +kernel
theorem dX4_tell_51 : decode cX4_tell 51 = .ok (.getfield 12, 3) := by decide +kernel
theorem dX4_tell_54 : decode cX4_tell 54 = .ok (.iconst 0, 1) := by decide +kernel
theorem dX4_tell_55 : decode cX4_tell 55 = .ok (.putfield 66, 3) := by decide +kernel
theorem dX4_tell_58 : decode cX4_tell 58 = .ok (.aload_n 0, 1) := by decide +kernel
theorem dX4_tell_59 : decode cX4_tell 59 = .ok (.invokevirtual 85, 3) := by decide +kernel
theorem dX4_tell_62 : decode cX4_tell 62 = .ok (.aload_n 0, 1) := by decide +kernel
theorem dX4_tell_63 : decode cX4_tell 63 = .ok (.invokevirtual 88, 3) := by decide +kernel
theorem dX4_tell_66 : decode cX4_tell 66 = .ok (.aload_n 0, 1) := by decide +kernel
theorem dX4_tell_67 : decode cX4_tell 67 = .ok (.getfield 28, 3) := by decide +kernel
theorem dX4_tell_70 : decode cX4_tell 70 = .ok (.getfield 91, 3) := by decide +kernel
theorem dX4_tell_73 : decode cX4_tell 73 = .ok (.aload_n 0, 1) := by decide +kernel
theorem dX4_tell_74 : decode cX4_tell 74 = .ok (.getfield 28, 3) := by decide +kernel
theorem dX4_tell_77 : decode cX4_tell 77 = .ok (.getfield 94, 3) := by decide +kernel
theorem dX4_tell_80 : decode cX4_tell 80 = .ok (.iadd, 1) := by decide +kernel
theorem dX4_tell_81 : decode cX4_tell 81 = .ok (.ireturn, 1) := by decide +kernel
set_option maxRecDepth 20000 in
theorem ggX4_question_X1_readQuestion : GoodIn wsX4_question wsX1_readQuestion := goodIn_r _ [8, 9, 10, 11, 7, 12, 13, 14, 15, 16, 17, 18, 19, 20, 21, 22, 23, 24, 25, 26, 27, 28, 29, 30, 31, 32, 33, 34, 35, 36, 37, 38, 39, 40, 41, 42, 43, 44, 45, 46, 47, 48, 49, 50, 51, 52, 53, 54, 55, 56, 57, 58, 59, 60, 61, 62, 63, 64, 65, 66, 67, 68, 69, 70, 71, 72, 73, 74, 75, 76, 77, 78, 79, 92, 93, 94, 95, 96, 97, 98, 99] (by decide +kernel) (by decide +kernel)
set_option maxRecDepth 20000 in
theorem gX4_question_X1_readQuestion : GoodIn wsX4_question (wsV RX4 97 RX1 yX1_readQuestion wsX1_readQuestion) := goodIn_app (goodIn_of _ (by decide +kernel)) ggX4_question_X1_readQuestion
set_option maxRecDepth 20000 in
theorem ggX4_question_X1_isFaulty : GoodIn wsX4_question wsX1_isFaulty := goodIn_r _ [58, 16, 92, 93, 94, 95] (by decide +kernel) (by decide +kernel)
set_option maxRecDepth 20000 in
theorem gX4_question_X1_isFaulty : GoodIn wsX4_question (wsV RX4 78 RX1 yX1_isFaulty wsX1_isFaulty) := goodIn_app (goodIn_of _ (by decide +kernel)) ggX4_question_X1_isFaulty
theorem dX4_question_0 : decode cX4_question 0 = .ok (.aload_n 0, 1) := by decide +kernel
theorem dX4_question_1 : decode cX4_question 1 = .ok (.getfield 21, 3) := by decide +kernel
theorem dX4_question_4 : decode cX4_question 4 = .ok (.invokevirtual 97, 3) := by decide +kernel
theorem dX4_question_7 : decode cX4_question 7 = .ok (.lstore_n 1, 1) := by decide +kernel
theorem dX4_question_8 : decode cX4_question 8 = .ok (.aload_n 0, 1) := by decide +kernel
theorem dX4_question_9 : decode cX4_question 9 = .ok (.getfield 21, 3) := by decide +kernel
theorem dX4_question_12 : decode cX4_question 12 = .ok (.invokevirtual 78, 3) := by decide +kernel
theorem dX4_question_15 : decode cX4_question 15 = .ok (.ifCond .eq 14, 3) := by decide +kernel
theorem dX4_question_18 : decode cX4_question 18 = .ok (.bipush (-10), 2) := by decide +kernel
theorem dX4_question_20 : decode cX4_question 20 = .ok (.aload_n 0, 1) := by decide +kernel
theorem dX4_question_21 : decode cX4_question 21 = .ok (.getfield 21, 3) := by decide +kernel
theorem dX4_question_24 : decode cX4_question 24 = .ok (.getfield 82, 3) := by decide +kernel
theorem dX4_question_27 : decode cX4_question 27 = .ok (.isub, 1) := by decide +kernel
theorem dX4_question_28 : decode cX4_question 28 = .ok (.ireturn, 1) := by decide +kernel
theorem dX4_question_29 : decode cX4_question 29 = .ok (.aload_n 0, 1) := by decide +kernel
theorem dX4_question_30 : decode cX4_question 30 = .ok (.lload_n 1, 1) := by decide +kernel
theorem dX4_question_31 : decode cX4_question 31 = .ok (.putfield 37, 3) := by decide +kernel
theorem dX4_question_34 : decode cX4_question 34 = .ok (.aload_n 0, 1) := by decide +kernel
theorem dX4_question_35 : decode cX4_question 35 = .ok (.getfield 12, 3) := by decide +kernel
theorem dX4_question_38 : decode cX4_question 38 = .ok (.iconst 0, 1) := by decide +kernel
theorem dX4_question_39 : decode cX4_question 39 = .ok (.putfield 66, 3) := by decide +kernel
theorem dX4_question_42 : decode cX4_question 42 = .ok (.iconst 1, 1) := by decide +kernel
theorem dX4_question_43 : decode cX4_question 43 = .ok (.ireturn, 1) := by decide +kernel
set_option maxRecDepth 20000 in
theorem ggX4_worlds_X4_isSayer : GoodIn wsX4_worlds wsX4_isSayer := goodIn_r _ [7, 1, 8, 9, 10, 11, 12, 13, 14, 15, 16, 17, 18, 19, 20, 21, 22, 23] (by decide +kernel) (by decide +kernel)
set_option maxRecDepth 20000 in
theorem gX4_worlds_X4_isSayer : GoodIn wsX4_worlds (wsV RX4 104 RX4 yX4_isSayer wsX4_isSayer) := goodIn_app (goodIn_of _ (by decide +kernel)) ggX4_worlds_X4_isSayer
theorem dX4_worlds_0 : decode cX4_worlds 0 = .ok (.iload_n 1, 1) := by decide +kernel
theorem dX4_worlds_1 : decode cX4_worlds 1 = .ok (.tableswitch 62 0 2 #[27, 35, 57], 27) := by decide +kernel
theorem dX4_worlds_28 : decode cX4_worlds 28 = .ok (.aload_n 0, 1) := by decide +kernel
theorem dX4_worlds_29 : decode cX4_worlds 29 = .ok (.getfield 28, 3) := by decide +kernel
theorem dX4_worlds_32 : decode cX4_worlds 32 = .ok (.getfield 101, 3) := by decide +kernel
theorem dX4_worlds_35 : decode cX4_worlds 35 = .ok (.lreturn, 1) := by decide +kernel
theorem dX4_worlds_36 : decode cX4_worlds 36 = .ok (.aload_n 0, 1) := by decide +kernel
theorem dX4_worlds_37 : decode cX4_worlds 37 = .ok (.iload_n 2, 1) := by decide +kernel
theorem dX4_worlds_38 : decode cX4_worlds 38 = .ok (.invokevirtual 104, 3) := by decide +kernel
theorem dX4_worlds_41 : decode cX4_worlds 41 = .ok (.ifCond .eq 15, 3) := by decide +kernel
theorem dX4_worlds_44 : decode cX4_worlds 44 = .ok (.aload_n 0, 1) := by decide +kernel
theorem dX4_worlds_45 : decode cX4_worlds 45 = .ok (.getfield 28, 3) := by decide +kernel
theorem dX4_worlds_48 : decode cX4_worlds 48 = .ok (.getfield 108, 3) := by decide +kernel
theorem dX4_worlds_51 : decode cX4_worlds 51 = .ok (.iload_n 2, 1) := by decide +kernel
theorem dX4_worlds_52 : decode cX4_worlds 52 = .ok (.laload, 1) := by decide +kernel
theorem dX4_worlds_53 : decode cX4_worlds 53 = .ok (.goto 4, 3) := by decide +kernel
theorem dX4_worlds_56 : decode cX4_worlds 56 = .ok (.lconst 0, 1) := by decide +kernel
theorem dX4_worlds_57 : decode cX4_worlds 57 = .ok (.lreturn, 1) := by decide +kernel
theorem dX4_worlds_58 : decode cX4_worlds 58 = .ok (.aload_n 0, 1) := by decide +kernel
theorem dX4_worlds_59 : decode cX4_worlds 59 = .ok (.getfield 37, 3) := by decide +kernel
theorem dX4_worlds_62 : decode cX4_worlds 62 = .ok (.lreturn, 1) := by decide +kernel
theorem dX4_worlds_63 : decode cX4_worlds 63 = .ok (.lconst 0, 1) := by decide +kernel
theorem dX4_worlds_64 : decode cX4_worlds 64 = .ok (.lreturn, 1) := by decide +kernel
set_option maxRecDepth 20000 in
theorem ggX4_cost_X4_findFars : GoodIn wsX4_cost wsX4_findFars := goodIn_r _ [6, 1, 7, 8, 9, 10, 11, 12, 13, 14, 15, 16, 17, 18, 19, 20, 21, 22, 23, 24, 25, 26, 27, 28, 29, 30, 31, 5, 32, 33, 34, 35, 36, 37, 38, 39, 40, 41, 42, 43, 44, 45, 46, 47, 48, 49, 50, 54, 55, 56, 57, 58, 51, 52, 53] (by decide +kernel) (by decide +kernel)
set_option maxRecDepth 20000 in
theorem gX4_cost_X4_findFars : GoodIn wsX4_cost (wsV RX4 88 RX4 yX4_findFars wsX4_findFars) := goodIn_app (goodIn_of _ (by decide +kernel)) ggX4_cost_X4_findFars
theorem dX4_cost_0 : decode cX4_cost 0 = .ok (.iload_n 1, 1) := by decide +kernel
theorem dX4_cost_1 : decode cX4_cost 1 = .ok (.ifCond .lt 19, 3) := by decide +kernel
theorem dX4_cost_4 : decode cX4_cost 4 = .ok (.iload_n 1, 1) := by decide +kernel
theorem dX4_cost_5 : decode cX4_cost 5 = .ok (.bipush 6, 2) := by decide +kernel
theorem dX4_cost_7 : decode cX4_cost 7 = .ok (.if_icmp .ge 13, 3) := by decide +kernel
theorem dX4_cost_10 : decode cX4_cost 10 = .ok (.iload_n 2, 1) := by decide +kernel
theorem dX4_cost_11 : decode cX4_cost 11 = .ok (.ifCond .lt 9, 3) := by decide +kernel
theorem dX4_cost_14 : decode cX4_cost 14 = .ok (.iload_n 2, 1) := by decide +kernel
theorem dX4_cost_15 : decode cX4_cost 15 = .ok (.bipush 9, 2) := by decide +kernel
theorem dX4_cost_17 : decode cX4_cost 17 = .ok (.if_icmp .le 5, 3) := by decide +kernel
theorem dX4_cost_20 : decode cX4_cost 20 = .ok (.iconst (-1), 1) := by decide +kernel
theorem dX4_cost_21 : decode cX4_cost 21 = .ok (.ireturn, 1) := by decide +kernel
theorem dX4_cost_22 : decode cX4_cost 22 = .ok (.aload_n 0, 1) := by decide +kernel
theorem dX4_cost_23 : decode cX4_cost 23 = .ok (.getfield 44, 3) := by decide +kernel
theorem dX4_cost_26 : decode cX4_cost 26 = .ok (.getfield 111, 3) := by decide +kernel
theorem dX4_cost_29 : decode cX4_cost 29 = .ok (.iload_n 1, 1) := by decide +kernel
theorem dX4_cost_30 : decode cX4_cost 30 = .ok (.iaload, 1) := by decide +kernel
theorem dX4_cost_31 : decode cX4_cost 31 = .ok (.istore_n 3, 1) := by decide +kernel
theorem dX4_cost_32 : decode cX4_cost 32 = .ok (.aload_n 0, 1) := by decide +kernel
theorem dX4_cost_33 : decode cX4_cost 33 = .ok (.getfield 44, 3) := by decide +kernel
theorem dX4_cost_36 : decode cX4_cost 36 = .ok (.getfield 111, 3) := by decide +kernel
theorem dX4_cost_39 : decode cX4_cost 39 = .ok (.iload_n 1, 1) := by decide +kernel
theorem dX4_cost_40 : decode cX4_cost 40 = .ok (.iload_n 2, 1) := by decide +kernel
theorem dX4_cost_41 : decode cX4_cost 41 = .ok (.iastore, 1) := by decide +kernel
theorem dX4_cost_42 : decode cX4_cost 42 = .ok (.aload_n 0, 1) := by decide +kernel
theorem dX4_cost_43 : decode cX4_cost 43 = .ok (.invokevirtual 88, 3) := by decide +kernel
theorem dX4_cost_46 : decode cX4_cost 46 = .ok (.iload_n 3, 1) := by decide +kernel
theorem dX4_cost_47 : decode cX4_cost 47 = .ok (.ireturn, 1) := by decide +kernel
set_option maxRecDepth 20000 in
theorem ggX4_measure_X4_findFars : GoodIn wsX4_measure wsX4_findFars := goodIn_r _ [6, 1, 7, 8, 9, 10, 11, 12, 13, 14, 15, 16, 17, 18, 19, 20, 21, 22, 23, 24, 25, 26, 27, 28, 29, 30, 31, 5, 32, 33, 34, 35, 36, 37, 38, 39, 40, 41, 42, 43, 44, 45, 46, 47, 48, 49, 50, 54, 55, 56, 57, 58, 51, 52, 53] (by decide +kernel) (by decide +kernel)
set_option maxRecDepth 20000 in
theorem gX4_measure_X4_findFars : GoodIn wsX4_measure (wsV RX4 88 RX4 yX4_findFars wsX4_findFars) := goodIn_app (goodIn_of _ (by decide +kernel)) ggX4_measure_X4_findFars
theorem dX4_measure_0 : decode cX4_measure 0 = .ok (.iload_n 1, 1) := by decide +kernel
theorem dX4_measure_1 : decode cX4_measure 1 = .ok (.ifCond .eq 10, 3) := by decide +kernel
theorem dX4_measure_4 : decode cX4_measure 4 = .ok (.iload_n 1, 1) := by decide +kernel
theorem dX4_measure_5 : decode cX4_measure 5 = .ok (.iconst 1, 1) := by decide +kernel
theorem dX4_measure_6 : decode cX4_measure 6 = .ok (.if_icmp .eq 5, 3) := by decide +kernel
theorem dX4_measure_9 : decode cX4_measure 9 = .ok (.iconst (-1), 1) := by decide +kernel
theorem dX4_measure_10 : decode cX4_measure 10 = .ok (.ireturn, 1) := by decide +kernel
theorem dX4_measure_11 : decode cX4_measure 11 = .ok (.aload_n 0, 1) := by decide +kernel
theorem dX4_measure_12 : decode cX4_measure 12 = .ok (.getfield 44, 3) := by decide +kernel
theorem dX4_measure_15 : decode cX4_measure 15 = .ok (.getfield 115, 3) := by decide +kernel
theorem dX4_measure_18 : decode cX4_measure 18 = .ok (.ifCond .eq 7, 3) := by decide +kernel
theorem dX4_measure_21 : decode cX4_measure 21 = .ok (.iconst 1, 1) := by decide +kernel
theorem dX4_measure_22 : decode cX4_measure 22 = .ok (.goto 4, 3) := by decide +kernel
theorem dX4_measure_25 : decode cX4_measure 25 = .ok (.iconst 0, 1) := by decide +kernel
theorem dX4_measure_26 : decode cX4_measure 26 = .ok (.istore_n 2, 1) := by decide +kernel
theorem dX4_measure_27 : decode cX4_measure 27 = .ok (.aload_n 0, 1) := by decide +kernel
theorem dX4_measure_28 : decode cX4_measure 28 = .ok (.getfield 44, 3) := by decide +kernel
theorem dX4_measure_31 : decode cX4_measure 31 = .ok (.iload_n 1, 1) := by decide +kernel
theorem dX4_measure_32 : decode cX4_measure 32 = .ok (.iconst 1, 1) := by decide +kernel
theorem dX4_measure_33 : decode cX4_measure 33 = .ok (.if_icmp .ne 7, 3) := by decide +kernel
theorem dX4_measure_36 : decode cX4_measure 36 = .ok (.iconst 1, 1) := by decide +kernel
theorem dX4_measure_37 : decode cX4_measure 37 = .ok (.goto 4, 3) := by decide +kernel
theorem dX4_measure_40 : decode cX4_measure 40 = .ok (.iconst 0, 1) := by decide +kernel
theorem dX4_measure_41 : decode cX4_measure 41 = .ok (.putfield 115, 3) := by decide +kernel
theorem dX4_measure_44 : decode cX4_measure 44 = .ok (.aload_n 0, 1) := by decide +kernel
theorem dX4_measure_45 : decode cX4_measure 45 = .ok (.invokevirtual 88, 3) := by decide +kernel
theorem dX4_measure_48 : decode cX4_measure 48 = .ok (.iload_n 2, 1) := by decide +kernel
theorem dX4_measure_49 : decode cX4_measure 49 = .ok (.ireturn, 1) := by decide +kernel
set_option maxRecDepth 20000 in
theorem ggX4_apart_X4_isWorld : GoodIn wsX4_apart wsX4_isWorld := goodIn_r _ [5] (by decide +kernel) (by decide +kernel)
set_option maxRecDepth 20000 in
theorem gX4_apart_X4_isWorld : GoodIn wsX4_apart (va_wsS RX4 119 yX4_isWorld wsX4_isWorld) := goodIn_app (goodIn_of _ (by decide +kernel)) ggX4_apart_X4_isWorld
theorem dX4_apart_0 : decode cX4_apart 0 = .ok (.iload_n 1, 1) := by decide +kernel
theorem dX4_apart_1 : decode cX4_apart 1 = .ok (.invokestatic 119, 3) := by decide +kernel
theorem dX4_apart_4 : decode cX4_apart 4 = .ok (.ifCond .eq 10, 3) := by decide +kernel
theorem dX4_apart_7 : decode cX4_apart 7 = .ok (.iload_n 2, 1) := by decide +kernel
theorem dX4_apart_8 : decode cX4_apart 8 = .ok (.invokestatic 119, 3) := by decide +kernel
theorem dX4_apart_11 : decode cX4_apart 11 = .ok (.ifCond .ne 5, 3) := by decide +kernel
theorem dX4_apart_14 : decode cX4_apart 14 = .ok (.iconst (-1), 1) := by decide +kernel
theorem dX4_apart_15 : decode cX4_apart 15 = .ok (.ireturn, 1) := by decide +kernel
theorem dX4_apart_16 : decode cX4_apart 16 = .ok (.aload_n 0, 1) := by decide +kernel
theorem dX4_apart_17 : decode cX4_apart 17 = .ok (.getfield 44, 3) := by decide +kernel
theorem dX4_apart_20 : decode cX4_apart 20 = .ok (.getfield 122, 3) := by decide +kernel
theorem dX4_apart_23 : decode cX4_apart 23 = .ok (.iload_n 1, 1) := by decide +kernel
theorem dX4_apart_24 : decode cX4_apart 24 = .ok (.iload_n 2, 1) := by decide +kernel
theorem dX4_apart_25 : decode cX4_apart 25 = .ok (.ixor, 1) := by decide +kernel
theorem dX4_apart_26 : decode cX4_apart 26 = .ok (.iaload, 1) := by decide +kernel
theorem dX4_apart_27 : decode cX4_apart 27 = .ok (.ireturn, 1) := by decide +kernel
set_option maxRecDepth 20000 in
theorem ggX4_burden_X4_isSayer : GoodIn wsX4_burden wsX4_isSayer := goodIn_r _ [5, 6, 15, 16, 17, 18, 19, 20, 21, 22, 23, 24, 25, 26, 27, 28, 29, 30] (by decide +kernel) (by decide +kernel)
set_option maxRecDepth 20000 in
theorem gX4_burden_X4_isSayer : GoodIn wsX4_burden (wsV RX4 104 RX4 yX4_isSayer wsX4_isSayer) := goodIn_app (goodIn_of _ (by decide +kernel)) ggX4_burden_X4_isSayer
set_option maxRecDepth 20000 in
theorem ggX4_burden_X4_isWorld : GoodIn wsX4_burden wsX4_isWorld := goodIn_r _ [9] (by decide +kernel) (by decide +kernel)
set_option maxRecDepth 20000 in
theorem gX4_burden_X4_isWorld : GoodIn wsX4_burden (va_wsS RX4 119 yX4_isWorld wsX4_isWorld) := goodIn_app (goodIn_of _ (by decide +kernel)) ggX4_burden_X4_isWorld
set_option maxRecDepth 20000 in
theorem ggX4_burden_X4_burdenOf : GoodIn wsX4_burden wsX4_burdenOf := goodIn_r _ [13, 6, 14, 15, 16, 17, 18, 19, 20, 21, 22, 23, 24, 25, 26, 27, 28, 29, 30] (by decide +kernel) (by decide +kernel)
set_option maxRecDepth 20000 in
theorem gX4_burden_X4_burdenOf : GoodIn wsX4_burden (wsV RX4 125 RX4 yX4_burdenOf wsX4_burdenOf) := goodIn_app (goodIn_of _ (by decide +kernel)) ggX4_burden_X4_burdenOf
theorem dX4_burden_0 : decode cX4_burden 0 = .ok (.aload_n 0, 1) := by decide +kernel
theorem dX4_burden_1 : decode cX4_burden 1 = .ok (.iload_n 1, 1) := by decide +kernel
theorem dX4_burden_2 : decode cX4_burden 2 = .ok (.invokevirtual 104, 3) := by decide +kernel
theorem dX4_burden_5 : decode cX4_burden 5 = .ok (.ifCond .eq 10, 3) := by decide +kernel
theorem dX4_burden_8 : decode cX4_burden 8 = .ok (.iload_n 2, 1) := by decide +kernel
theorem dX4_burden_9 : decode cX4_burden 9 = .ok (.invokestatic 119, 3) := by decide +kernel
theorem dX4_burden_12 : decode cX4_burden 12 = .ok (.ifCond .ne 5, 3) := by decide +kernel
theorem dX4_burden_15 : decode cX4_burden 15 = .ok (.iconst (-1), 1) := by decide +kernel
theorem dX4_burden_16 : decode cX4_burden 16 = .ok (.ireturn, 1) := by decide +kernel
theorem dX4_burden_17 : decode cX4_burden 17 = .ok (.aload_n 0, 1) := by decide +kernel
theorem dX4_burden_18 : decode cX4_burden 18 = .ok (.iload_n 1, 1) := by decide +kernel
