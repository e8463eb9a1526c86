theorem dX5_fault_46 : decode cX5_fault 46 = .ok (.iconst 0, 1) := by decide +kernel
theorem dX5_fault_47 : decode cX5_fault 47 = .ok (.istore_n 1, 1) := by decide +kernel
theorem dX5_fault_48 : decode cX5_fault 48 = .ok (.iload_n 1, 1) := by decide +kernel
theorem dX5_fault_49 : decode cX5_fault 49 = .ok (.ifCond .eq 14, 3) := by decide +kernel
theorem dX5_fault_52 : decode cX5_fault 52 = .ok (.aload_n 0, 1) := by decide +kernel
theorem dX5_fault_53 : decode cX5_fault 53 = .ok (.getfield 121, 3) := by decide +kernel
theorem dX5_fault_56 : decode cX5_fault 56 = .ok (.iconst 3, 1) := by decide +kernel
theorem dX5_fault_57 : decode cX5_fault 57 = .ok (.if_icmp .ge 24, 3) := by decide +kernel
theorem dX5_fault_60 : decode cX5_fault 60 = .ok (.goto 26, 3) := by decide +kernel
theorem dX5_fault_63 : decode cX5_fault 63 = .ok (.aload_n 0, 1) := by decide +kernel
theorem dX5_fault_64 : decode cX5_fault 64 = .ok (.getfield 84, 3) := by decide +kernel
theorem dX5_fault_67 : decode cX5_fault 67 = .ok (.bipush 83, 2) := by decide +kernel
theorem dX5_fault_69 : decode cX5_fault 69 = .ok (.if_icmp .ne 12, 3) := by decide +kernel
theorem dX5_fault_72 : decode cX5_fault 72 = .ok (.aload_n 0, 1) := by decide +kernel
theorem dX5_fault_73 : decode cX5_fault 73 = .ok (.getfield 124, 3) := by decide +kernel
theorem dX5_fault_76 : decode cX5_fault 76 = .ok (.bipush 7, 2) := by decide +kernel
theorem dX5_fault_78 : decode cX5_fault 78 = .ok (.if_icmp .lt 8, 3) := by decide +kernel
theorem dX5_fault_81 : decode cX5_fault 81 = .ok (.aload_n 0, 1) := by decide +kernel
theorem dX5_fault_82 : decode cX5_fault 82 = .ok (.getfield 81, 3) := by decide +kernel
theorem dX5_fault_85 : decode cX5_fault 85 = .ok (.ireturn, 1) := by decide +kernel
theorem dX5_fault_86 : decode cX5_fault 86 = .ok (.aload_n 0, 1) := by decide +kernel
theorem dX5_fault_87 : decode cX5_fault 87 = .ok (.invokevirtual 118, 3) := by decide +kernel
theorem dX5_fault_90 : decode cX5_fault 90 = .ok (.iload_n 1, 1) := by decide +kernel
theorem dX5_fault_91 : decode cX5_fault 91 = .ok (.ifCond .ne 45, 3) := by decide +kernel
theorem dX5_fault_94 : decode cX5_fault 94 = .ok (.aload_n 0, 1) := by decide +kernel
theorem dX5_fault_95 : decode cX5_fault 95 = .ok (.getfield 84, 3) := by decide +kernel
theorem dX5_fault_98 : decode cX5_fault 98 = .ok (.i2l, 1) := by decide +kernel
theorem dX5_fault_99 : decode cX5_fault 99 = .ok (.ldc2_w 130, 3) := by decide +kernel
theorem dX5_fault_102 : decode cX5_fault 102 = .ok (.ldc2_w 97, 3) := by decide +kernel
theorem dX5_fault_105 : decode cX5_fault 105 = .ok (.invokestatic 66, 3) := by decide +kernel
theorem dX5_fault_108 : decode cX5_fault 108 = .ok (.ifCond .ne 8, 3) := by decide +kernel
theorem dX5_fault_111 : decode cX5_fault 111 = .ok (.aload_n 0, 1) := by decide +kernel
theorem dX5_fault_112 : decode cX5_fault 112 = .ok (.getfield 81, 3) := by decide +kernel
theorem dX5_fault_115 : decode cX5_fault 115 = .ok (.ireturn, 1) := by decide +kernel
theorem dX5_fault_116 : decode cX5_fault 116 = .ok (.aload_n 0, 1) := by decide +kernel
theorem dX5_fault_117 : decode cX5_fault 117 = .ok (.getfield 33, 3) := by decide +kernel
theorem dX5_fault_120 : decode cX5_fault 120 = .ok (.aload_n 0, 1) := by decide +kernel
theorem dX5_fault_121 : decode cX5_fault 121 = .ok (.getfield 124, 3) := by decide +kernel
theorem dX5_fault_124 : decode cX5_fault 124 = .ok (.aload_n 0, 1) := by decide +kernel
theorem dX5_fault_125 : decode cX5_fault 125 = .ok (.getfield 84, 3) := by decide +kernel
theorem dX5_fault_128 : decode cX5_fault 128 = .ok (.bipush 48, 2) := by decide +kernel
theorem dX5_fault_130 : decode cX5_fault 130 = .ok (.isub, 1) := by decide +kernel
theorem dX5_fault_131 : decode cX5_fault 131 = .ok (.iastore, 1) := by decide +kernel
theorem dX5_fault_132 : decode cX5_fault 132 = .ok (.aload_n 0, 1) := by decide +kernel
theorem dX5_fault_133 : decode cX5_fault 133 = .ok (.invokevirtual 118, 3) := by decide +kernel
theorem dX5_fault_136 : decode cX5_fault 136 = .ok (.aload_n 0, 1) := by decide +kernel
theorem dX5_fault_137 : decode cX5_fault 137 = .ok (.invokevirtual 132, 3) := by decide +kernel
theorem dX5_fault_140 : decode cX5_fault 140 = .ok (.istore_n 2, 1) := by decide +kernel
theorem dX5_fault_141 : decode cX5_fault 141 = .ok (.iload_n 2, 1) := by decide +kernel
theorem dX5_fault_142 : decode cX5_fault 142 = .ok (.ifCond .ge 12, 3) := by decide +kernel
theorem dX5_fault_145 : decode cX5_fault 145 = .ok (.aload_n 0, 1) := by decide +kernel
theorem dX5_fault_146 : decode cX5_fault 146 = .ok (.getfield 84, 3) := by decide +kernel
theorem dX5_fault_149 : decode cX5_fault 149 = .ok (.bipush 59, 2) := by decide +kernel
theorem dX5_fault_151 : decode cX5_fault 151 = .ok (.if_icmp .eq 8, 3) := by decide +kernel
theorem dX5_fault_154 : decode cX5_fault 154 = .ok (.aload_n 0, 1) := by decide +kernel
theorem dX5_fault_155 : decode cX5_fault 155 = .ok (.getfield 81, 3) := by decide +kernel
theorem dX5_fault_158 : decode cX5_fault 158 = .ok (.ireturn, 1) := by decide +kernel
theorem dX5_fault_159 : decode cX5_fault 159 = .ok (.iload_n 1, 1) := by decide +kernel
theorem dX5_fault_160 : decode cX5_fault 160 = .ok (.ifCond .eq 29, 3) := by decide +kernel
theorem dX5_fault_163 : decode cX5_fault 163 = .ok (.aload_n 0, 1) := by decide +kernel
theorem dX5_fault_164 : decode cX5_fault 164 = .ok (.dup, 1) := by decide +kernel
theorem dX5_fault_165 : decode cX5_fault 165 = .ok (.getfield 127, 3) := by decide +kernel
theorem dX5_fault_168 : decode cX5_fault 168 = .ok (.aload_n 0, 1) := by decide +kernel
theorem dX5_fault_169 : decode cX5_fault 169 = .ok (.getfield 115, 3) := by decide +kernel
theorem dX5_fault_172 : decode cX5_fault 172 = .ok (.land, 1) := by decide +kernel
theorem dX5_fault_173 : decode cX5_fault 173 = .ok (.putfield 127, 3) := by decide +kernel
theorem dX5_fault_176 : decode cX5_fault 176 = .ok (.aload_n 0, 1) := by decide +kernel
theorem dX5_fault_177 : decode cX5_fault 177 = .ok (.dup, 1) := by decide +kernel
theorem dX5_fault_178 : decode cX5_fault 178 = .ok (.getfield 121, 3) := by decide +kernel
theorem dX5_fault_181 : decode cX5_fault 181 = .ok (.iconst 1, 1) := by decide +kernel
theorem dX5_fault_182 : decode cX5_fault 182 = .ok (.iadd, 1) := by decide +kernel
theorem dX5_fault_183 : decode cX5_fault 183 = .ok (.putfield 121, 3) := by decide +kernel
theorem dX5_fault_186 : decode cX5_fault 186 = .ok (.goto 26, 3) := by decide +kernel
theorem dX5_fault_189 : decode cX5_fault 189 = .ok (.aload_n 0, 1) := by decide +kernel
theorem dX5_fault_190 : decode cX5_fault 190 = .ok (.getfield 36, 3) := by decide +kernel
theorem dX5_fault_193 : decode cX5_fault 193 = .ok (.aload_n 0, 1) := by decide +kernel
theorem dX5_fault_194 : decode cX5_fault 194 = .ok (.getfield 124, 3) := by decide +kernel
theorem dX5_fault_197 : decode cX5_fault 197 = .ok (.aload_n 0, 1) := by decide +kernel
theorem dX5_fault_198 : decode cX5_fault 198 = .ok (.getfield 115, 3) := by decide +kernel
theorem dX5_fault_201 : decode cX5_fault 201 = .ok (.lastore, 1) := by decide +kernel
theorem dX5_fault_202 : decode cX5_fault 202 = .ok (.aload_n 0, 1) := by decide +kernel
theorem dX5_fault_203 : decode cX5_fault 203 = .ok (.dup, 1) := by decide +kernel
theorem dX5_fault_204 : decode cX5_fault 204 = .ok (.getfield 124, 3) := by decide +kernel
theorem dX5_fault_207 : decode cX5_fault 207 = .ok (.iconst 1, 1) := by decide +kernel
theorem dX5_fault_208 : decode cX5_fault 208 = .ok (.iadd, 1) := by decide +kernel
theorem dX5_fault_209 : decode cX5_fault 209 = .ok (.putfield 124, 3) := by decide +kernel
theorem dX5_fault_212 : decode cX5_fault 212 = .ok (.aload_n 0, 1) := by decide +kernel
theorem dX5_fault_213 : decode cX5_fault 213 = .ok (.invokevirtual 118, 3) := by decide +kernel
theorem dX5_fault_216 : decode cX5_fault 216 = .ok (.goto (-190), 3) := by decide +kernel
theorem dX5_fault_219 : decode cX5_fault 219 = .ok (.iconst (-1), 1) := by decide +kernel
theorem dX5_fault_220 : decode cX5_fault 220 = .ok (.ireturn, 1) := by decide +kernel
set_option maxRecDepth 20000 in
theorem ggX5_tell_X5_fault : GoodIn wsX5_tell wsX5_fault := goodIn_r _ [16, 1, 3, 17, 5, 18, 19, 20, 21, 22, 8, 23, 10, 24, 25, 26, 15, 27, 11, 28, 29, 30, 31, 32, 33, 34, 35, 36, 37, 38, 39, 40, 41, 42, 43, 44, 45, 46, 47, 48, 49, 50, 51, 52, 53, 54, 55, 56, 57, 58, 59, 60, 61, 62, 63, 64, 65, 66, 67, 68, 69, 70, 71, 72, 73, 74, 75, 76, 77, 78, 79, 80, 81, 82, 83, 84, 85, 86, 87, 88, 89, 90, 91] (by decide +kernel) (by decide +kernel)
set_option maxRecDepth 20000 in
theorem gX5_tell_X5_fault : GoodIn wsX5_tell (wsV RX5 136 RX5 yX5_fault wsX5_fault) := goodIn_app (goodIn_of _ (by decide +kernel)) ggX5_tell_X5_fault
theorem dX5_tell_0 : decode cX5_tell 0 = .ok (.aload_n 0, 1) := by decide +kernel
theorem dX5_tell_1 : decode cX5_tell 1 = .ok (.invokevirtual 136, 3) := by decide +kernel
theorem dX5_tell_4 : decode cX5_tell 4 = .ok (.istore_n 1, 1) := by decide +kernel
theorem dX5_tell_5 : decode cX5_tell 5 = .ok (.iload_n 1, 1) := by decide +kernel
theorem dX5_tell_6 : decode cX5_tell 6 = .ok (.ifCond .lt 8, 3) := by decide +kernel
theorem dX5_tell_9 : decode cX5_tell 9 = .ok (.bipush (-10), 2) := by decide +kernel
theorem dX5_tell_11 : decode cX5_tell 11 = .ok (.iload_n 1, 1) := by decide +kernel
theorem dX5_tell_12 : decode cX5_tell 12 = .ok (.isub, 1) := by decide +kernel
theorem dX5_tell_13 : decode cX5_tell 13 = .ok (.ireturn, 1) := by decide +kernel
theorem dX5_tell_14 : decode cX5_tell 14 = .ok (.aload_n 0, 1) := by decide +kernel
theorem dX5_tell_15 : decode cX5_tell 15 = .ok (.aload_n 0, 1) := by decide +kernel
theorem dX5_tell_16 : decode cX5_tell 16 = .ok (.getfield 121, 3) := by decide +kernel
theorem dX5_tell_19 : decode cX5_tell 19 = .ok (.putfield 139, 3) := by decide +kernel
theorem dX5_tell_22 : decode cX5_tell 22 = .ok (.aload_n 0, 1) := by decide +kernel
theorem dX5_tell_23 : decode cX5_tell 23 = .ok (.aload_n 0, 1) := by decide +kernel
theorem dX5_tell_24 : decode cX5_tell 24 = .ok (.getfield 124, 3) := by decide +kernel
theorem dX5_tell_27 : decode cX5_tell 27 = .ok (.putfield 142, 3) := by decide +kernel
theorem dX5_tell_30 : decode cX5_tell 30 = .ok (.aload_n 0, 1) := by decide +kernel
theorem dX5_tell_31 : decode cX5_tell 31 = .ok (.aload_n 0, 1) := by decide +kernel
theorem dX5_tell_32 : decode cX5_tell 32 = .ok (.getfield 127, 3) := by decide +kernel
theorem dX5_tell_35 : decode cX5_tell 35 = .ok (.putfield 15, 3) := by decide +kernel
theorem dX5_tell_38 : decode cX5_tell 38 = .ok (.iconst 0, 1) := by decide +kernel
theorem dX5_tell_39 : decode cX5_tell 39 = .ok (.istore_n 2, 1) := by decide +kernel
theorem dX5_tell_40 : decode cX5_tell 40 = .ok (.iload_n 2, 1) := by decide +kernel
theorem dX5_tell_41 : decode cX5_tell 41 = .ok (.aload_n 0, 1) := by decide +kernel
theorem dX5_tell_42 : decode cX5_tell 42 = .ok (.getfield 142, 3) := by decide +kernel
theorem dX5_tell_45 : decode cX5_tell 45 = .ok (.if_icmp .ge 33, 3) := by decide +kernel
theorem dX5_tell_48 : decode cX5_tell 48 = .ok (.aload_n 0, 1) := by decide +kernel
theorem dX5_tell_49 : decode cX5_tell 49 = .ok (.getfield 22, 3) := by decide +kernel
theorem dX5_tell_52 : decode cX5_tell 52 = .ok (.iload_n 2, 1) := by decide +kernel
theorem dX5_tell_53 : decode cX5_tell 53 = .ok (.aload_n 0, 1) := by decide +kernel
theorem dX5_tell_54 : decode cX5_tell 54 = .ok (.getfield 33, 3) := by decide +kernel
theorem dX5_tell_57 : decode cX5_tell 57 = .ok (.iload_n 2, 1) := by decide +kernel
theorem dX5_tell_58 : decode cX5_tell 58 = .ok (.iaload, 1) := by decide +kernel
theorem dX5_tell_59 : decode cX5_tell 59 = .ok (.iastore, 1) := by decide +kernel
theorem dX5_tell_60 : decode cX5_tell 60 = .ok (.aload_n 0, 1) := by decide +kernel
theorem dX5_tell_61 : decode cX5_tell 61 = .ok (.getfield 26, 3) := by decide +kernel
theorem dX5_tell_64 : decode cX5_tell 64 = .ok (.iload_n 2, 1) := by decide +kernel
theorem dX5_tell_65 : decode cX5_tell 65 = .ok (.aload_n 0, 1) := by decide +kernel
theorem dX5_tell_66 : decode cX5_tell 66 = .ok (.getfield 36, 3) := by decide +kernel
theorem dX5_tell_69 : decode cX5_tell 69 = .ok (.iload_n 2, 1) := by decide +kernel
theorem dX5_tell_70 : decode cX5_tell 70 = .ok (.laload, 1) := by decide +kernel
theorem dX5_tell_71 : decode cX5_tell 71 = .ok (.lastore, 1) := by decide +kernel
theorem dX5_tell_72 : decode cX5_tell 72 = .ok (.iinc 2 1, 3) := by decide +kernel
theorem dX5_tell_75 : decode cX5_tell 75 = .ok (.goto (-35), 3) := by decide +kernel
theorem dX5_tell_78 : decode cX5_tell 78 = .ok (.aload_n 0, 1) := by decide +kernel
theorem dX5_tell_79 : decode cX5_tell 79 = .ok (.iconst 0, 1) := by decide +kernel
theorem dX5_tell_80 : decode cX5_tell 80 = .ok (.putfield 70, 3) := by decide +kernel
theorem dX5_tell_83 : decode cX5_tell 83 = .ok (.aload_n 0, 1) := by decide +kernel
theorem dX5_tell_84 : decode cX5_tell 84 = .ok (.getfield 139, 3) := by decide +kernel
theorem dX5_tell_87 : decode cX5_tell 87 = .ok (.aload_n 0, 1) := by decide +kernel
theorem dX5_tell_88 : decode cX5_tell 88 = .ok (.getfield 142, 3) := by decide +kernel
theorem dX5_tell_91 : decode cX5_tell 91 = .ok (.iadd, 1) := by decide +kernel
theorem dX5_tell_92 : decode cX5_tell 92 = .ok (.ireturn, 1) := by decide +kernel
set_option maxRecDepth 20000 in
theorem ggX5_question_X5_token : GoodIn wsX5_question wsX5_token := goodIn_r _ [11, 1, 3, 6, 12, 2, 13, 14, 15, 16, 17, 10, 18, 19, 20, 21, 22, 23, 24, 25, 26, 27, 49, 50, 51, 52, 53, 54, 55, 56, 57, 58, 59, 60, 61, 62, 63, 64, 65, 66, 67, 68, 69, 70, 71, 72, 73, 74, 75, 76, 77] (by decide +kernel) (by decide +kernel)
set_option maxRecDepth 20000 in
theorem gX5_question_X5_token : GoodIn wsX5_question (wsV RX5 118 RX5 yX5_token wsX5_token) := goodIn_app (goodIn_of _ (by decide +kernel)) ggX5_question_X5_token
set_option maxRecDepth 20000 in
theorem ggX5_question_X5_saying : GoodIn wsX5_question wsX5_saying := goodIn_r _ [31, 32, 33, 34, 35, 36, 2, 19, 37, 3, 38, 4, 21, 22, 10, 23, 39, 40, 41, 42, 43, 44, 45, 46, 47, 48, 7, 8, 9, 11, 1, 6, 12, 13, 14, 15, 16, 17, 18, 20, 24, 25, 26, 27, 49, 50, 51, 52, 53, 54, 55, 56, 57, 58, 59, 60, 61, 62, 63, 64, 65, 66, 67, 68, 69, 70, 71, 72, 73, 74, 75, 76, 77] (by decide +kernel) (by decide +kernel)
set_option maxRecDepth 20000 in
theorem gX5_question_X5_saying : GoodIn wsX5_question (wsV RX5 132 RX5 yX5_saying wsX5_saying) := goodIn_app (goodIn_of _ (by decide +kernel)) ggX5_question_X5_saying
theorem dX5_question_0 : decode cX5_question 0 = .ok (.aload_n 0, 1) := by decide +kernel
theorem dX5_question_1 : decode cX5_question 1 = .ok (.iconst 0, 1) := by decide +kernel
theorem dX5_question_2 : decode cX5_question 2 = .ok (.putfield 78, 3) := by decide +kernel
theorem dX5_question_5 : decode cX5_question 5 = .ok (.aload_n 0, 1) := by decide +kernel
theorem dX5_question_6 : decode cX5_question 6 = .ok (.invokevirtual 118, 3) := by decide +kernel
theorem dX5_question_9 : decode cX5_question 9 = .ok (.aload_n 0, 1) := by decide +kernel
theorem dX5_question_10 : decode cX5_question 10 = .ok (.invokevirtual 132, 3) := by decide +kernel
theorem dX5_question_13 : decode cX5_question 13 = .ok (.istore_n 1, 1) := by decide +kernel
theorem dX5_question_14 : decode cX5_question 14 = .ok (.iload_n 1, 1) := by decide +kernel
theorem dX5_question_15 : decode cX5_question 15 = .ok (.ifCond .ge 10, 3) := by decide +kernel
theorem dX5_question_18 : decode cX5_question 18 = .ok (.aload_n 0, 1) := by decide +kernel
theorem dX5_question_19 : decode cX5_question 19 = .ok (.getfield 84, 3) := by decide +kernel
theorem dX5_question_22 : decode cX5_question 22 = .ok (.ifCond .eq 11, 3) := by decide +kernel
theorem dX5_question_25 : decode cX5_question 25 = .ok (.bipush (-10), 2) := by decide +kernel
theorem dX5_question_27 : decode cX5_question 27 = .ok (.aload_n 0, 1) := by decide +kernel
theorem dX5_question_28 : decode cX5_question 28 = .ok (.getfield 81, 3) := by decide +kernel
theorem dX5_question_31 : decode cX5_question 31 = .ok (.isub, 1) := by decide +kernel
theorem dX5_question_32 : decode cX5_question 32 = .ok (.ireturn, 1) := by decide +kernel
theorem dX5_question_33 : decode cX5_question 33 = .ok (.aload_n 0, 1) := by decide +kernel
theorem dX5_question_34 : decode cX5_question 34 = .ok (.aload_n 0, 1) := by decide +kernel
theorem dX5_question_35 : decode cX5_question 35 = .ok (.getfield 115, 3) := by decide +kernel
theorem dX5_question_38 : decode cX5_question 38 = .ok (.putfield 19, 3) := by decide +kernel
theorem dX5_question_41 : decode cX5_question 41 = .ok (.aload_n 0, 1) := by decide +kernel
theorem dX5_question_42 : decode cX5_question 42 = .ok (.iconst 0, 1) := by decide +kernel
theorem dX5_question_43 : decode cX5_question 43 = .ok (.putfield 70, 3) := by decide +kernel
theorem dX5_question_46 : decode cX5_question 46 = .ok (.iconst 1, 1) := by decide +kernel
theorem dX5_question_47 : decode cX5_question 47 = .ok (.ireturn, 1) := by decide +kernel
set_option maxRecDepth 20000 in
theorem ggX5_isSayer_X5_in : GoodIn wsX5_isSayer wsX5_in := goodIn_r _ [5] (by decide +kernel) (by decide +kernel)
set_option maxRecDepth 20000 in
theorem gX5_isSayer_X5_in : GoodIn wsX5_isSayer (va_wsS RX5 66 yX5_in wsX5_in) := goodIn_app (goodIn_of _ (by decide +kernel)) ggX5_isSayer_X5_in
theorem dX5_isSayer_0 : decode cX5_isSayer 0 = .ok (.iload_n 1, 1) := by decide +kernel
theorem dX5_isSayer_1 : decode cX5_isSayer 1 = .ok (.i2l, 1) := by decide +kernel
theorem dX5_isSayer_2 : decode cX5_isSayer 2 = .ok (.lconst 0, 1) := by decide +kernel
theorem dX5_isSayer_3 : decode cX5_isSayer 3 = .ok (.aload_n 0, 1) := by decide +kernel
theorem dX5_isSayer_4 : decode cX5_isSayer 4 = .ok (.getfield 142, 3) := by decide +kernel
theorem dX5_isSayer_7 : decode cX5_isSayer 7 = .ok (.iconst 1, 1) := by decide +kernel
theorem dX5_isSayer_8 : decode cX5_isSayer 8 = .ok (.isub, 1) := by decide +kernel
theorem dX5_isSayer_9 : decode cX5_isSayer 9 = .ok (.i2l, 1) := by decide +kernel
theorem dX5_isSayer_10 : decode cX5_isSayer 10 = .ok (.invokestatic 66, 3) := by decide +kernel
theorem dX5_isSayer_13 : decode cX5_isSayer 13 = .ok (.ireturn, 1) := by decide +kernel
set_option maxRecDepth 20000 in
theorem ggX5_isWorld_X5_in : GoodIn wsX5_isWorld wsX5_in := goodIn_r _ [5] (by decide +kernel) (by decide +kernel)
set_option maxRecDepth 20000 in
theorem gX5_isWorld_X5_in : GoodIn wsX5_isWorld (va_wsS RX5 66 yX5_in wsX5_in) := goodIn_app (goodIn_of _ (by decide +kernel)) ggX5_isWorld_X5_in
theorem dX5_isWorld_0 : decode cX5_isWorld 0 = .ok (.iload_n 0, 1) := by decide +kernel
theorem dX5_isWorld_1 : decode cX5_isWorld 1 = .ok (.i2l, 1) := by decide +kernel
theorem dX5_isWorld_2 : decode cX5_isWorld 2 = .ok (.lconst 0, 1) := by decide +kernel
theorem dX5_isWorld_3 : decode cX5_isWorld 3 = .ok (.ldc2_w 145, 3) := by decide +kernel
theorem dX5_isWorld_6 : decode cX5_isWorld 6 = .ok (.invokestatic 66, 3) := by decide +kernel
theorem dX5_isWorld_9 : decode cX5_isWorld 9 = .ok (.ireturn, 1) := by decide +kernel
set_option maxRecDepth 20000 in
theorem ggX5_worlds_X5_isSayer : GoodIn wsX5_worlds wsX5_isSayer := goodIn_r _ [8, 9, 10, 11, 7, 12, 13, 14, 15, 16, 17, 18, 19, 20, 21, 22, 23, 24, 25, 26, 27, 28, 29, 30, 31, 32, 33, 34, 35, 36, 37, 38, 39, 40, 41] (by decide +kernel) (by decide +kernel)
set_option maxRecDepth 20000 in
theorem gX5_worlds_X5_isSayer : GoodIn wsX5_worlds (wsV RX5 147 RX5 yX5_isSayer wsX5_isSayer) := goodIn_app (goodIn_of _ (by decide +kernel)) ggX5_worlds_X5_isSayer
theorem dX5_worlds_0 : decode cX5_worlds 0 = .ok (.iload_n 1, 1) := by decide +kernel
theorem dX5_worlds_1 : decode cX5_worlds 1 = .ok (.ifCond .ne 10, 3) := by decide +kernel
theorem dX5_worlds_4 : decode cX5_worlds 4 = .ok (.aload_n 0, 1) := by decide +kernel
theorem dX5_worlds_5 : decode cX5_worlds 5 = .ok (.getfield 15, 3) := by decide +kernel
theorem dX5_worlds_8 : decode cX5_worlds 8 = .ok (.goto 38, 3) := by decide +kernel
theorem dX5_worlds_11 : decode cX5_worlds 11 = .ok (.iload_n 1, 1) := by decide +kernel
theorem dX5_worlds_12 : decode cX5_worlds 12 = .ok (.iconst 2, 1) := by decide +kernel
theorem dX5_worlds_13 : decode cX5_worlds 13 = .ok (.if_icmp .ne 10, 3) := by decide +kernel
theorem dX5_worlds_16 : decode cX5_worlds 16 = .ok (.aload_n 0, 1) := by decide +kernel
theorem dX5_worlds_17 : decode cX5_worlds 17 = .ok (.getfield 19, 3) := by decide +kernel
theorem dX5_worlds_20 : decode cX5_worlds 20 = .ok (.goto 26, 3) := by decide +kernel
theorem dX5_worlds_23 : decode cX5_worlds 23 = .ok (.iload_n 1, 1) := by decide +kernel
theorem dX5_worlds_24 : decode cX5_worlds 24 = .ok (.iconst 1, 1) := by decide +kernel
theorem dX5_worlds_25 : decode cX5_worlds 25 = .ok (.if_icmp .ne 20, 3) := by decide +kernel
theorem dX5_worlds_28 : decode cX5_worlds 28 = .ok (.aload_n 0, 1) := by decide +kernel
theorem dX5_worlds_29 : decode cX5_worlds 29 = .ok (.iload_n 2, 1) := by decide +kernel
theorem dX5_worlds_30 : decode cX5_worlds 30 = .ok (.invokevirtual 147, 3) := by decide +kernel
theorem dX5_worlds_33 : decode cX5_worlds 33 = .ok (.ifCond .eq 12, 3) := by decide +kernel
theorem dX5_worlds_36 : decode cX5_worlds 36 = .ok (.aload_n 0, 1) := by decide +kernel
theorem dX5_worlds_37 : decode cX5_worlds 37 = .ok (.getfield 26, 3) := by decide +kernel
theorem dX5_worlds_40 : decode cX5_worlds 40 = .ok (.iload_n 2, 1) := by decide +kernel
theorem dX5_worlds_41 : decode cX5_worlds 41 = .ok (.laload, 1) := by decide +kernel
theorem dX5_worlds_42 : decode cX5_worlds 42 = .ok (.goto 4, 3) := by decide +kernel
theorem dX5_worlds_45 : decode cX5_worlds 45 = .ok (.lconst 0, 1) := by decide +kernel
theorem dX5_worlds_46 : decode cX5_worlds 46 = .ok (.lreturn, 1) := by decide +kernel
set_option maxRecDepth 20000 in
theorem ggX5_cost_X5_in : GoodIn wsX5_cost wsX5_in := goodIn_r _ [7] (by decide +kernel) (by decide +kernel)
set_option maxRecDepth 20000 in
theorem gX5_cost_X5_in : GoodIn wsX5_cost (va_wsS RX5 66 yX5_in wsX5_in) := goodIn_app (goodIn_of _ (by decide +kernel)) ggX5_cost_X5_in
theorem dX5_cost_0 : decode cX5_cost 0 = .ok (.iload_n 1, 1) := by decide +kernel
theorem dX5_cost_1 : decode cX5_cost 1 = .ok (.i2l, 1) := by decide +kernel
theorem dX5_cost_2 : decode cX5_cost 2 = .ok (.lconst 0, 1) := by decide +kernel
theorem dX5_cost_3 : decode cX5_cost 3 = .ok (.ldc2_w 150, 3) := by decide +kernel
theorem dX5_cost_6 : decode cX5_cost 6 = .ok (.invokestatic 66, 3) := by decide +kernel
theorem dX5_cost_9 : decode cX5_cost 9 = .ok (.ifCond .eq 15, 3) := by decide +kernel
theorem dX5_cost_12 : decode cX5_cost 12 = .ok (.iload_n 2, 1) := by decide +kernel
theorem dX5_cost_13 : decode cX5_cost 13 = .ok (.i2l, 1) := by decide +kernel
theorem dX5_cost_14 : decode cX5_cost 14 = .ok (.lconst 0, 1) := by decide +kernel
theorem dX5_cost_15 : decode cX5_cost 15 = .ok (.ldc2_w 152, 3) := by decide +kernel
theorem dX5_cost_18 : decode cX5_cost 18 = .ok (.invokestatic 66, 3) := by decide +kernel
theorem dX5_cost_21 : decode cX5_cost 21 = .ok (.ifCond .ne 5, 3) := by decide +kernel
theorem dX5_cost_24 : decode cX5_cost 24 = .ok (.iconst (-1), 1) := by decide +kernel
theorem dX5_cost_25 : decode cX5_cost 25 = .ok (.ireturn, 1) := by decide +kernel
theorem dX5_cost_26 : decode cX5_cost 26 = .ok (.aload_n 0, 1) := by decide +kernel
theorem dX5_cost_27 : decode cX5_cost 27 = .ok (.getfield 30, 3) := by decide +kernel
theorem dX5_cost_30 : decode cX5_cost 30 = .ok (.iload_n 1, 1) := by decide +kernel
theorem dX5_cost_31 : decode cX5_cost 31 = .ok (.iaload, 1) := by decide +kernel
theorem dX5_cost_32 : decode cX5_cost 32 = .ok (.istore_n 3, 1) := by decide +kernel
theorem dX5_cost_33 : decode cX5_cost 33 = .ok (.aload_n 0, 1) := by decide +kernel
theorem dX5_cost_34 : decode cX5_cost 34 = .ok (.getfield 30, 3) := by decide +kernel
theorem dX5_cost_37 : decode cX5_cost 37 = .ok (.iload_n 1, 1) := by decide +kernel
theorem dX5_cost_38 : decode cX5_cost 38 = .ok (.iload_n 2, 1) := by decide +kernel
theorem dX5_cost_39 : decode cX5_cost 39 = .ok (.iastore, 1) := by decide +kernel
theorem dX5_cost_40 : decode cX5_cost 40 = .ok (.iload_n 3, 1) := by decide +kernel
theorem dX5_cost_41 : decode cX5_cost 41 = .ok (.ireturn, 1) := by decide +kernel
set_option maxRecDepth 20000 in
theorem ggX5_measure_X5_in : GoodIn wsX5_measure wsX5_in := goodIn_r _ [5] (by decide +kernel) (by decide +kernel)
set_option maxRecDepth 20000 in
theorem gX5_measure_X5_in : GoodIn wsX5_measure (va_wsS RX5 66 yX5_in wsX5_in) := goodIn_app (goodIn_of _ (by decide +kernel)) ggX5_measure_X5_in
theorem dX5_measure_0 : decode cX5_measure 0 = .ok (.iload_n 1, 1) := by decide +kernel
theorem dX5_measure_1 : decode cX5_measure 1 = .ok (.i2l, 1) := by decide +kernel
theorem dX5_measure_2 : decode cX5_measure 2 = .ok (.lconst 0, 1) := by decide +kernel
theorem dX5_measure_3 : decode cX5_measure 3 = .ok (.lconst 1, 1) := by decide +kernel
theorem dX5_measure_4 : decode cX5_measure 4 = .ok (.invokestatic 66, 3) := by decide +kernel
theorem dX5_measure_7 : decode cX5_measure 7 = .ok (.ifCond .ne 5, 3) := by decide +kernel
theorem dX5_measure_10 : decode cX5_measure 10 = .ok (.iconst (-1), 1) := by decide +kernel
theorem dX5_measure_11 : decode cX5_measure 11 = .ok (.ireturn, 1) := by decide +kernel
theorem dX5_measure_12 : decode cX5_measure 12 = .ok (.aload_n 0, 1) := by decide +kernel
theorem dX5_measure_13 : decode cX5_measure 13 = .ok (.getfield 154, 3) := by decide +kernel
theorem dX5_measure_16 : decode cX5_measure 16 = .ok (.istore_n 2, 1) := by decide +kernel
theorem dX5_measure_17 : decode cX5_measure 17 = .ok (.aload_n 0, 1) := by decide +kernel
theorem dX5_measure_18 : decode cX5_measure 18 = .ok (.iload_n 1, 1) := by decide +kernel
theorem dX5_measure_19 : decode cX5_measure 19 = .ok (.putfield 154, 3) := by decide +kernel
theorem dX5_measure_22 : decode cX5_measure 22 = .ok (.iload_n 2, 1) := by decide +kernel
theorem dX5_measure_23 : decode cX5_measure 23 = .ok (.ireturn, 1) := by decide +kernel
set_option maxRecDepth 20000 in
theorem ggX5_apartOf_X5_has : GoodIn wsX5_apartOf wsX5_has := goodIn_r _ [6] (by decide +kernel) (by decide +kernel)
set_option maxRecDepth 20000 in
theorem gX5_apartOf_X5_has : GoodIn wsX5_apartOf (va_wsS RX5 60 yX5_has wsX5_has) := goodIn_app (goodIn_of _ (by decide +kernel)) ggX5_apartOf_X5_has
theorem dX5_apartOf_0 : decode cX5_apartOf 0 = .ok (.iconst 0, 1) := by decide +kernel
theorem dX5_apartOf_1 : decode cX5_apartOf 1 = .ok (.istore_n 3, 1) := by decide +kernel
theorem dX5_apartOf_2 : decode cX5_apartOf 2 = .ok (.iconst 0, 1) := by decide +kernel
theorem dX5_apartOf_3 : decode cX5_apartOf 3 = .ok (.istore 4, 2) := by decide +kernel
theorem dX5_apartOf_5 : decode cX5_apartOf 5 = .ok (.iload 4, 2) := by decide +kernel
theorem dX5_apartOf_7 : decode cX5_apartOf 7 = .ok (.bipush 6, 2) := by decide +kernel
theorem dX5_apartOf_9 : decode cX5_apartOf 9 = .ok (.if_icmp .ge 35, 3) := by decide +kernel
theorem dX5_apartOf_12 : decode cX5_apartOf 12 = .ok (.iload_n 3, 1) := by decide +kernel
theorem dX5_apartOf_13 : decode cX5_apartOf 13 = .ok (.iload_n 1, 1) := by decide +kernel
theorem dX5_apartOf_14 : decode cX5_apartOf 14 = .ok (.iload_n 2, 1) := by decide +kernel
theorem dX5_apartOf_15 : decode cX5_apartOf 15 = .ok (.ixor, 1) := by decide +kernel
theorem dX5_apartOf_16 : decode cX5_apartOf 16 = .ok (.i2l, 1) := by decide +kernel
theorem dX5_apartOf_17 : decode cX5_apartOf 17 = .ok (.iload 4, 2) := by decide +kernel
theorem dX5_apartOf_19 : decode cX5_apartOf 19 = .ok (.invokestatic 60, 3) := by decide +kernel
theorem dX5_apartOf_22 : decode cX5_apartOf 22 = .ok (.ifCond .eq 13, 3) := by decide +kernel
theorem dX5_apartOf_25 : decode cX5_apartOf 25 = .ok (.aload_n 0, 1) := by decide +kernel
theorem dX5_apartOf_26 : decode cX5_apartOf 26 = .ok (.getfield 30, 3) := by decide +kernel
theorem dX5_apartOf_29 : decode cX5_apartOf 29 = .ok (.iload 4, 2) := by decide +kernel
theorem dX5_apartOf_31 : decode cX5_apartOf 31 = .ok (.iaload, 1) := by decide +kernel
theorem dX5_apartOf_32 : decode cX5_apartOf 32 = .ok (.goto 4, 3) := by decide +kernel
theorem dX5_apartOf_35 : decode cX5_apartOf 35 = .ok (.iconst 0, 1) := by decide +kernel
theorem dX5_apartOf_36 : decode cX5_apartOf 36 = .ok (.iadd, 1) := by decide +kernel
theorem dX5_apartOf_37 : decode cX5_apartOf 37 = .ok (.istore_n 3, 1) := by decide +kernel
theorem dX5_apartOf_38 : decode cX5_apartOf 38 = .ok (.iinc 4 1, 3) := by decide +kernel
theorem dX5_apartOf_41 : decode cX5_apartOf 41 = .ok (.goto (-36), 3) := by decide +kernel
theorem dX5_apartOf_44 : decode cX5_apartOf 44 = .ok (.aload_n 0, 1) := by decide +kernel
theorem dX5_apartOf_45 : decode cX5_apartOf 45 = .ok (.getfield 154, 3) := by decide +kernel
theorem dX5_apartOf_48 : decode cX5_apartOf 48 = .ok (.ifCond .ne 7, 3) := by decide +kernel
theorem dX5_apartOf_51 : decode cX5_apartOf 51 = .ok (.iload_n 3, 1) := by decide +kernel
theorem dX5_apartOf_52 : decode cX5_apartOf 52 = .ok (.goto 13, 3) := by decide +kernel
theorem dX5_apartOf_55 : decode cX5_apartOf 55 = .ok (.iload_n 1, 1) := by decide +kernel
theorem dX5_apartOf_56 : decode cX5_apartOf 56 = .ok (.iload_n 2, 1) := by decide +kernel
theorem dX5_apartOf_57 : decode cX5_apartOf 57 = .ok (.if_icmp .ne 7, 3) := by decide +kernel
theorem dX5_apartOf_60 : decode cX5_apartOf 60 = .ok (.iconst 0, 1) := by decide +kernel
theorem dX5_apartOf_61 : decode cX5_apartOf 61 = .ok (.goto 4, 3) := by decide +kernel
theorem dX5_apartOf_64 : decode cX5_apartOf 64 = .ok (.iconst 1, 1) := by decide +kernel
theorem dX5_apartOf_65 : decode cX5_apartOf 65 = .ok (.ireturn, 1) := by decide +kernel
set_option maxRecDepth 20000 in
theorem ggX5_apart_X5_isWorld : GoodIn wsX5_apart wsX5_isWorld := goodIn_r _ [4, 5, 6, 7, 3, 8] (by decide +kernel) (by decide +kernel)
set_option maxRecDepth 20000 in
theorem gX5_apart_X5_isWorld : GoodIn wsX5_apart (va_wsS RX5 157 yX5_isWorld wsX5_isWorld) := goodIn_app (goodIn_of _ (by decide +kernel)) ggX5_apart_X5_isWorld
set_option maxRecDepth 20000 in
theorem ggX5_apart_X5_apartOf : GoodIn wsX5_apart wsX5_apartOf := goodIn_r _ [12, 13, 14, 15, 16, 3, 17, 18, 19, 20, 21, 22, 23, 24, 25, 26, 27, 28, 29, 30, 31, 32, 33, 34, 35, 36, 37, 38, 39, 40, 41, 42, 43, 44, 45, 46] (by decide +kernel) (by decide +kernel)
set_option maxRecDepth 20000 in
theorem gX5_apart_X5_apartOf : GoodIn wsX5_apart (wsV RX5 160 RX5 yX5_apartOf wsX5_apartOf) := goodIn_app (goodIn_of _ (by decide +kernel)) ggX5_apart_X5_apartOf
theorem dX5_apart_0 : decode cX5_apart 0 = .ok (.iload_n 1, 1) := by decide +kernel
theorem dX5_apart_1 : decode cX5_apart 1 = .ok (.invokestatic 157, 3) := by decide +kernel
theorem dX5_apart_4 : decode cX5_apart 4 = .ok (.ifCond .eq 19, 3) := by decide +kernel
theorem dX5_apart_7 : decode cX5_apart 7 = .ok (.iload_n 2, 1) := by decide +kernel
theorem dX5_apart_8 : decode cX5_apart 8 = .ok (.invokestatic 157, 3) := by decide +kernel
theorem dX5_apart_11 : decode cX5_apart 11 = .ok (.ifCond .eq 12, 3) := by decide +kernel
theorem dX5_apart_14 : decode cX5_apart 14 = .ok (.aload_n 0, 1) := by decide +kernel
theorem dX5_apart_15 : decode cX5_apart 15 = .ok (.iload_n 1, 1) := by decide +kernel
theorem dX5_apart_16 : decode cX5_apart 16 = .ok (.iload_n 2, 1) := by decide +kernel
theorem dX5_apart_17 : decode cX5_apart 17 = .ok (.invokevirtual 160, 3) := by decide +kernel
theorem dX5_apart_20 : decode cX5_apart 20 = .ok (.goto 4, 3) := by decide +kernel
theorem dX5_apart_23 : decode cX5_apart 23 = .ok (.iconst (-1), 1) := by decide +kernel
theorem dX5_apart_24 : decode cX5_apart 24 = .ok (.ireturn, 1) := by decide +kernel
set_option maxRecDepth 20000 in
theorem ggX5_farOf_X5_has : GoodIn wsX5_farOf wsX5_has := goodIn_r _ [4] (by decide +kernel) (by decide +kernel)
set_option maxRecDepth 20000 in
theorem gX5_farOf_X5_has : GoodIn wsX5_farOf (va_wsS RX5 60 yX5_has wsX5_has) := goodIn_app (goodIn_of _ (by decide +kernel)) ggX5_farOf_X5_has
set_option maxRecDepth 20000 in
theorem ggX5_farOf_X5_apartOf : GoodIn wsX5_farOf wsX5_apartOf := goodIn_r _ [8, 9, 10, 1, 2, 3, 4, 11, 12, 13, 14, 15, 16, 17, 18, 19, 20, 21, 22, 23, 24, 25, 26, 27, 28, 29, 30, 31, 32, 33, 34, 35, 36, 37, 38, 39] (by decide +kernel) (by decide +kernel)
set_option maxRecDepth 20000 in
theorem gX5_farOf_X5_apartOf : GoodIn wsX5_farOf (wsV RX5 160 RX5 yX5_apartOf wsX5_apartOf) := goodIn_app (goodIn_of _ (by decide +kernel)) ggX5_farOf_X5_apartOf
theorem dX5_farOf_0 : decode cX5_farOf 0 = .ok (.iconst (-1), 1) := by decide +kernel
theorem dX5_farOf_1 : decode cX5_farOf 1 = .ok (.istore 4, 2) := by decide +kernel
theorem dX5_farOf_3 : decode cX5_farOf 3 = .ok (.iconst 0, 1) := by decide +kernel
theorem dX5_farOf_4 : decode cX5_farOf 4 = .ok (.istore 5, 2) := by decide +kernel
theorem dX5_farOf_6 : decode cX5_farOf 6 = .ok (.iload 5, 2) := by decide +kernel
theorem dX5_farOf_8 : decode cX5_farOf 8 = .ok (.bipush 64, 2) := by decide +kernel
theorem dX5_farOf_10 : decode cX5_farOf 10 = .ok (.if_icmp .ge 44, 3) := by decide +kernel
theorem dX5_farOf_13 : decode cX5_farOf 13 = .ok (.lload_n 2, 1) := by decide +kernel
theorem dX5_farOf_14 : decode cX5_farOf 14 = .ok (.iload 5, 2) := by decide +kernel
theorem dX5_farOf_16 : decode cX5_farOf 16 = .ok (.invokestatic 60, 3) := by decide +kernel
theorem dX5_farOf_19 : decode cX5_farOf 19 = .ok (.ifCond .eq 29, 3) := by decide +kernel
theorem dX5_farOf_22 : decode cX5_farOf 22 = .ok (.iload 4, 2) := by decide +kernel
theorem dX5_farOf_24 : decode cX5_farOf 24 = .ok (.ifCond .lt 15, 3) := by decide +kernel
theorem dX5_farOf_27 : decode cX5_farOf 27 = .ok (.aload_n 0, 1) := by decide +kernel
theorem dX5_farOf_28 : decode cX5_farOf 28 = .ok (.iload_n 1, 1) := by decide +kernel
theorem dX5_farOf_29 : decode cX5_farOf 29 = .ok (.iload 5, 2) := by decide +kernel
theorem dX5_farOf_31 : decode cX5_farOf 31 = .ok (.invokevirtual 160, 3) := by decide +kernel
theorem dX5_farOf_34 : decode cX5_farOf 34 = .ok (.iload 4, 2) := by decide +kernel
theorem dX5_farOf_36 : decode cX5_farOf 36 = .ok (.if_icmp .ge 12, 3) := by decide +kernel
theorem dX5_farOf_39 : decode cX5_farOf 39 = .ok (.aload_n 0, 1) := by decide +kernel
theorem dX5_farOf_40 : decode cX5_farOf 40 = .ok (.iload_n 1, 1) := by decide +kernel
theorem dX5_farOf_41 : decode cX5_farOf 41 = .ok (.iload 5, 2) := by decide +kernel
theorem dX5_farOf_43 : decode cX5_farOf 43 = .ok (.invokevirtual 160, 3) := by decide +kernel
theorem dX5_farOf_46 : decode cX5_farOf 46 = .ok (.istore 4, 2) := by decide +kernel
theorem dX5_farOf_48 : decode cX5_farOf 48 = .ok (.iinc 5 1, 3) := by decide +kernel
theorem dX5_farOf_51 : decode cX5_farOf 51 = .ok (.goto (-45), 3) := by decide +kernel
theorem dX5_farOf_54 : decode cX5_farOf 54 = .ok (.iload 4, 2) := by decide +kernel
theorem dX5_farOf_56 : decode cX5_farOf 56 = .ok (.ifCond .ge 7, 3) := by decide +kernel
theorem dX5_farOf_59 : decode cX5_farOf 59 = .ok (.iconst 0, 1) := by decide +kernel
theorem dX5_farOf_60 : decode cX5_farOf 60 = .ok (.goto 5, 3) := by decide +kernel
theorem dX5_farOf_63 : decode cX5_farOf 63 = .ok (.iload 4, 2) := by decide +kernel
theorem dX5_farOf_65 : decode cX5_farOf 65 = .ok (.ireturn, 1) := by decide +kernel
set_option maxRecDepth 20000 in
theorem ggX5_burden_X5_isSayer : GoodIn wsX5_burden wsX5_isSayer := goodIn_r _ [7, 8, 9, 10, 6, 11, 29, 30, 31, 32, 33, 34, 35, 36, 37, 38, 39, 40, 41, 42, 43, 44, 45, 46, 47, 48, 49, 50, 51, 52, 53, 54, 55, 56, 57] (by decide +kernel) (by decide +kernel)
set_option maxRecDepth 20000 in
theorem gX5_burden_X5_isSayer : GoodIn wsX5_burden (wsV RX5 147 RX5 yX5_isSayer wsX5_isSayer) := goodIn_app (goodIn_of _ (by decide +kernel)) ggX5_burden_X5_isSayer
set_option maxRecDepth 20000 in
theorem ggX5_burden_X5_isWorld : GoodIn wsX5_burden wsX5_isWorld := goodIn_r _ [14, 15, 9, 10, 6, 11] (by decide +kernel) (by decide +kernel)
set_option maxRecDepth 20000 in
theorem gX5_burden_X5_isWorld : GoodIn wsX5_burden (va_wsS RX5 157 yX5_isWorld wsX5_isWorld) := goodIn_app (goodIn_of _ (by decide +kernel)) ggX5_burden_X5_isWorld
set_option maxRecDepth 20000 in
theorem ggX5_burden_X5_farOf : GoodIn wsX5_burden wsX5_farOf := goodIn_r _ [19, 20, 21, 6, 22, 23, 24, 25, 26, 27, 28, 29, 30, 31, 32, 33, 34, 35, 36, 37, 38, 39, 40, 41, 42, 43, 44, 45, 46, 47, 48, 49, 50, 51, 52, 53, 54, 55, 56, 57] (by decide +kernel) (by decide +kernel)
set_option maxRecDepth 20000 in
theorem gX5_burden_X5_farOf : GoodIn wsX5_burden (wsV RX5 164 RX5 yX5_farOf wsX5_farOf) := goodIn_app (goodIn_of _ (by decide +kernel)) ggX5_burden_X5_farOf
theorem dX5_burden_0 : decode cX5_burden 0 = .ok (.aload_n 0, 1) := by decide +kernel
theorem dX5_burden_1 : decode cX5_burden 1 = .ok (.iload_n 1, 1) := by decide +kernel
theorem dX5_burden_2 : decode cX5_burden 2 = .ok (.invokevirtual 147, 3) := by decide +kernel
theorem dX5_burden_5 : decode cX5_burden 5 = .ok (.ifCond .eq 31, 3) := by decide +kernel
theorem dX5_burden_8 : decode cX5_burden 8 = .ok (.iload_n 2, 1) := by decide +kernel
theorem dX5_burden_9 : decode cX5_burden 9 = .ok (.invokestatic 157, 3) := by decide +kernel
theorem dX5_burden_12 : decode cX5_burden 12 = .ok (.ifCond .eq 24, 3) := by decide +kernel
theorem dX5_burden_15 : decode cX5_burden 15 = .ok (.aload_n 0, 1) := by decide +kernel
theorem dX5_burden_16 : decode cX5_burden 16 = .ok (.getfield 22, 3) := by decide +kernel
theorem dX5_burden_19 : decode cX5_burden 19 = .ok (.iload_n 1, 1) := by decide +kernel
theorem dX5_burden_20 : decode cX5_burden 20 = .ok (.iaload, 1) := by decide +kernel
theorem dX5_burden_21 : decode cX5_burden 21 = .ok (.aload_n 0, 1) := by decide +kernel
theorem dX5_burden_22 : decode cX5_burden 22 = .ok (.iload_n 2, 1) := by decide +kernel
theorem dX5_burden_23 : decode cX5_burden 23 = .ok (.aload_n 0, 1) := by decide +kernel
theorem dX5_burden_24 : decode cX5_burden 24 = .ok (.getfield 26, 3) := by decide +kernel
theorem dX5_burden_27 : decode cX5_burden 27 = .ok (.iload_n 1, 1) := by decide +kernel
theorem dX5_burden_28 : decode cX5_burden 28 = .ok (.laload, 1) := by decide +kernel
theorem dX5_burden_29 : decode cX5_burden 29 = .ok (.invokevirtual 164, 3) := by decide +kernel
theorem dX5_burden_32 : decode cX5_burden 32 = .ok (.imul, 1) := by decide +kernel
theorem dX5_burden_33 : decode cX5_burden 33 = .ok (.goto 4, 3) := by decide +kernel
theorem dX5_burden_36 : decode cX5_burden 36 = .ok (.iconst (-1), 1) := by decide +kernel
theorem dX5_burden_37 : decode cX5_burden 37 = .ok (.ireturn, 1) := by decide +kernel
set_option maxRecDepth 20000 in
theorem ggX5_lays_X5_farOf : GoodIn wsX5_lays wsX5_farOf := goodIn_r _ [7, 8, 9, 6, 10, 11, 12, 13, 14, 15, 16, 17, 18, 19, 20, 21, 22, 23, 24, 25, 26, 27, 28, 29, 30, 31, 32, 33, 34, 35, 36, 37, 38, 39, 40, 41, 42, 43, 44, 45] (by decide +kernel) (by decide +kernel)
set_option maxRecDepth 20000 in
theorem gX5_lays_X5_farOf : GoodIn wsX5_lays (wsV RX5 164 RX5 yX5_farOf wsX5_farOf) := goodIn_app (goodIn_of _ (by decide +kernel)) ggX5_lays_X5_farOf
theorem dX5_lays_0 : decode cX5_lays 0 = .ok (.iconst 0, 1) := by decide +kernel
theorem dX5_lays_1 : decode cX5_lays 1 = .ok (.istore 4, 2) := by decide +kernel
theorem dX5_lays_3 : decode cX5_lays 3 = .ok (.iload 4, 2) := by decide +kernel
theorem dX5_lays_5 : decode cX5_lays 5 = .ok (.bipush 64, 2) := by decide +kernel
theorem dX5_lays_7 : decode cX5_lays 7 = .ok (.if_icmp .ge 35, 3) := by decide +kernel
theorem dX5_lays_10 : decode cX5_lays 10 = .ok (.aload_n 0, 1) := by decide +kernel
theorem dX5_lays_11 : decode cX5_lays 11 = .ok (.getfield 48, 3) := by decide +kernel
theorem dX5_lays_14 : decode cX5_lays 14 = .ok (.bipush 64, 2) := by decide +kernel
theorem dX5_lays_16 : decode cX5_lays 16 = .ok (.iload_n 1, 1) := by decide +kernel
theorem dX5_lays_17 : decode cX5_lays 17 = .ok (.imul, 1) := by decide +kernel
theorem dX5_lays_18 : decode cX5_lays 18 = .ok (.iload 4, 2) := by decide +kernel
theorem dX5_lays_20 : decode cX5_lays 20 = .ok (.iadd, 1) := by decide +kernel
theorem dX5_lays_21 : decode cX5_lays 21 = .ok (.aload_n 0, 1) := by decide +kernel
theorem dX5_lays_22 : decode cX5_lays 22 = .ok (.getfield 22, 3) := by decide +kernel
theorem dX5_lays_25 : decode cX5_lays 25 = .ok (.iload_n 1, 1) := by decide +kernel
theorem dX5_lays_26 : decode cX5_lays 26 = .ok (.iaload, 1) := by decide +kernel
theorem dX5_lays_27 : decode cX5_lays 27 = .ok (.aload_n 0, 1) := by decide +kernel
theorem dX5_lays_28 : decode cX5_lays 28 = .ok (.iload 4, 2) := by decide +kernel
theorem dX5_lays_30 : decode cX5_lays 30 = .ok (.lload_n 2, 1) := by decide +kernel
theorem dX5_lays_31 : decode cX5_lays 31 = .ok (.invokevirtual 164, 3) := by decide +kernel
theorem dX5_lays_34 : decode cX5_lays 34 = .ok (.imul, 1) := by decide +kernel
theorem dX5_lays_35 : decode cX5_lays 35 = .ok (.iastore, 1) := by decide +kernel
theorem dX5_lays_36 : decode cX5_lays 36 = .ok (.iinc 4 1, 3) := by decide +kernel
theorem dX5_lays_39 : decode cX5_lays 39 = .ok (.goto (-36), 3) := by decide +kernel
theorem dX5_lays_42 : decode cX5_lays 42 = .ok (.return_, 1) := by decide +kernel
set_option maxRecDepth 20000 in
theorem ggX5_laysAll_X5_lays : GoodIn wsX5_laysAll wsX5_lays := goodIn_r _ [7, 8, 9, 10, 11, 12, 6, 13, 14, 15, 16, 17, 18, 19, 20, 21, 22, 23, 24, 25, 26, 27, 28, 29, 30, 31, 32, 33, 34, 35, 36, 37, 38, 39, 40, 41, 42, 43, 44, 45, 46, 47, 48, 49, 50, 51] (by decide +kernel) (by decide +kernel)
set_option maxRecDepth 20000 in
theorem gX5_laysAll_X5_lays : GoodIn wsX5_laysAll (wsV RX5 168 RX5 yX5_lays wsX5_lays) := goodIn_app (goodIn_of _ (by decide +kernel)) ggX5_laysAll_X5_lays
theorem dX5_laysAll_0 : decode cX5_laysAll 0 = .ok (.iconst 0, 1) := by decide +kernel
theorem dX5_laysAll_1 : decode cX5_laysAll 1 = .ok (.istore_n 1, 1) := by decide +kernel
theorem dX5_laysAll_2 : decode cX5_laysAll 2 = .ok (.iload_n 1, 1) := by decide +kernel
theorem dX5_laysAll_3 : decode cX5_laysAll 3 = .ok (.aload_n 0, 1) := by decide +kernel
theorem dX5_laysAll_4 : decode cX5_laysAll 4 = .ok (.getfield 142, 3) := by decide +kernel
theorem dX5_laysAll_7 : decode cX5_laysAll 7 = .ok (.if_icmp .ge 20, 3) := by decide +kernel
theorem dX5_laysAll_10 : decode cX5_laysAll 10 = .ok (.aload_n 0, 1) := by decide +kernel
theorem dX5_laysAll_11 : decode cX5_laysAll 11 = .ok (.iload_n 1, 1) := by decide +kernel
theorem dX5_laysAll_12 : decode cX5_laysAll 12 = .ok (.aload_n 0, 1) := by decide +kernel
theorem dX5_laysAll_13 : decode cX5_laysAll 13 = .ok (.getfield 26, 3) := by decide +kernel
theorem dX5_laysAll_16 : decode cX5_laysAll 16 = .ok (.iload_n 1, 1) := by decide +kernel
theorem dX5_laysAll_17 : decode cX5_laysAll 17 = .ok (.laload, 1) := by decide +kernel
theorem dX5_laysAll_18 : decode cX5_laysAll 18 = .ok (.invokevirtual 168, 3) := by decide +kernel
theorem dX5_laysAll_21 : decode cX5_laysAll 21 = .ok (.iinc 1 1, 3) := by decide +kernel
theorem dX5_laysAll_24 : decode cX5_laysAll 24 = .ok (.goto (-22), 3) := by decide +kernel
theorem dX5_laysAll_27 : decode cX5_laysAll 27 = .ok (.return_, 1) := by decide +kernel
theorem dX5_sumOf_0 : decode cX5_sumOf 0 = .ok (.iconst 0, 1) := by decide +kernel
theorem dX5_sumOf_1 : decode cX5_sumOf 1 = .ok (.istore_n 2, 1) := by decide +kernel
theorem dX5_sumOf_2 : decode cX5_sumOf 2 = .ok (.iconst 0, 1) := by decide +kernel
theorem dX5_sumOf_3 : decode cX5_sumOf 3 = .ok (.istore_n 3, 1) := by decide +kernel
theorem dX5_sumOf_4 : decode cX5_sumOf 4 = .ok (.iload_n 3, 1) := by decide +kernel
theorem dX5_sumOf_5 : decode cX5_sumOf 5 = .ok (.aload_n 0, 1) := by decide +kernel
theorem dX5_sumOf_6 : decode cX5_sumOf 6 = .ok (.getfield 142, 3) := by decide +kernel
theorem dX5_sumOf_9 : decode cX5_sumOf 9 = .ok (.if_icmp .ge 23, 3) := by decide +kernel
theorem dX5_sumOf_12 : decode cX5_sumOf 12 = .ok (.iload_n 2, 1) := by decide +kernel
theorem dX5_sumOf_13 : decode cX5_sumOf 13 = .ok (.aload_n 0, 1) := by decide +kernel
theorem dX5_sumOf_14 : decode cX5_sumOf 14 = .ok (.getfield 48, 3) := by decide +kernel
theorem dX5_sumOf_17 : decode cX5_sumOf 17 = .ok (.bipush 64, 2) := by decide +kernel
theorem dX5_sumOf_19 : decode cX5_sumOf 19 = .ok (.iload_n 3, 1) := by decide +kernel
theorem dX5_sumOf_20 : decode cX5_sumOf 20 = .ok (.imul, 1) := by decide +kernel
theorem dX5_sumOf_21 : decode cX5_sumOf 21 = .ok (.iload_n 1, 1) := by decide +kernel
theorem dX5_sumOf_22 : decode cX5_sumOf 22 = .ok (.iadd, 1) := by decide +kernel
theorem dX5_sumOf_23 : decode cX5_sumOf 23 = .ok (.iaload, 1) := by decide +kernel
theorem dX5_sumOf_24 : decode cX5_sumOf 24 = .ok (.iadd, 1) := by decide +kernel
theorem dX5_sumOf_25 : decode cX5_sumOf 25 = .ok (.istore_n 2, 1) := by decide +kernel
theorem dX5_sumOf_26 : decode cX5_sumOf 26 = .ok (.iinc 3 1, 3) := by decide +kernel
theorem dX5_sumOf_29 : decode cX5_sumOf 29 = .ok (.goto (-25), 3) := by decide +kernel
theorem dX5_sumOf_32 : decode cX5_sumOf 32 = .ok (.iload_n 2, 1) := by decide +kernel
theorem dX5_sumOf_33 : decode cX5_sumOf 33 = .ok (.ireturn, 1) := by decide +kernel
theorem dX5_worstOf_0 : decode cX5_worstOf 0 = .ok (.iconst 0, 1) := by decide +kernel
theorem dX5_worstOf_1 : decode cX5_worstOf 1 = .ok (.istore_n 2, 1) := by decide +kernel
theorem dX5_worstOf_2 : decode cX5_worstOf 2 = .ok (.iconst 0, 1) := by decide +kernel
theorem dX5_worstOf_3 : decode cX5_worstOf 3 = .ok (.istore_n 3, 1) := by decide +kernel
theorem dX5_worstOf_4 : decode cX5_worstOf 4 = .ok (.iload_n 3, 1) := by decide +kernel
theorem dX5_worstOf_5 : decode cX5_worstOf 5 = .ok (.aload_n 0, 1) := by decide +kernel
theorem dX5_worstOf_6 : decode cX5_worstOf 6 = .ok (.getfield 142, 3) := by decide +kernel
theorem dX5_worstOf_9 : decode cX5_worstOf 9 = .ok (.if_icmp .ge 40, 3) := by decide +kernel
theorem dX5_worstOf_12 : decode cX5_worstOf 12 = .ok (.aload_n 0, 1) := by decide +kernel
theorem dX5_worstOf_13 : decode cX5_worstOf 13 = .ok (.getfield 48, 3) := by decide +kernel
theorem dX5_worstOf_16 : decode cX5_worstOf 16 = .ok (.bipush 64, 2) := by decide +kernel
theorem dX5_worstOf_18 : decode cX5_worstOf 18 = .ok (.iload_n 3, 1) := by decide +kernel
theorem dX5_worstOf_19 : decode cX5_worstOf 19 = .ok (.imul, 1) := by decide +kernel
theorem dX5_worstOf_20 : decode cX5_worstOf 20 = .ok (.iload_n 1, 1) := by decide +kernel
theorem dX5_worstOf_21 : decode cX5_worstOf 21 = .ok (.iadd, 1) := by decide +kernel
theorem dX5_worstOf_22 : decode cX5_worstOf 22 = .ok (.iaload, 1) := by decide +kernel
theorem dX5_worstOf_23 : decode cX5_worstOf 23 = .ok (.iload_n 2, 1) := by decide +kernel
theorem dX5_worstOf_24 : decode cX5_worstOf 24 = .ok (.if_icmp .le 17, 3) := by decide +kernel
theorem dX5_worstOf_27 : decode cX5_worstOf 27 = .ok (.aload_n 0, 1) := by decide +kernel
theorem dX5_worstOf_28 : decode cX5_worstOf 28 = .ok (.getfield 48, 3) := by decide +kernel
theorem dX5_worstOf_31 : decode cX5_worstOf 31 = .ok (.bipush 64, 2) := by decide +kernel
theorem dX5_worstOf_33 : decode cX5_worstOf 33 = .ok (.iload_n 3, 1) := by decide +kernel
theorem dX5_worstOf_34 : decode cX5_worstOf 34 = .ok (.imul, 1) := by decide +kernel
theorem dX5_worstOf_35 : decode cX5_worstOf 35 = .ok (.iload_n 1, 1) := by decide +kernel
theorem dX5_worstOf_36 : decode cX5_worstOf 36 = .ok (.iadd, 1) := by decide +kernel
theorem dX5_worstOf_37 : decode cX5_worstOf 37 = .ok (.iaload, 1) := by decide +kernel
theorem dX5_worstOf_38 : decode cX5_worstOf 38 = .ok (.goto 4, 3) := by decide +kernel
theorem dX5_worstOf_41 : decode cX5_worstOf 41 = .ok (.iload_n 2, 1) := by decide +kernel
theorem dX5_worstOf_42 : decode cX5_worstOf 42 = .ok (.istore_n 2, 1) := by decide +kernel
theorem dX5_worstOf_43 : decode cX5_worstOf 43 = .ok (.iinc 3 1, 3) := by decide +kernel
theorem dX5_worstOf_46 : decode cX5_worstOf 46 = .ok (.goto (-42), 3) := by decide +kernel
theorem dX5_worstOf_49 : decode cX5_worstOf 49 = .ok (.iload_n 2, 1) := by decide +kernel
theorem dX5_worstOf_50 : decode cX5_worstOf 50 = .ok (.ireturn, 1) := by decide +kernel
set_option maxRecDepth 20000 in
theorem ggX5_rows_X5_sumOf : GoodIn wsX5_rows wsX5_sumOf := goodIn_r _ [8, 2, 3, 13, 14, 15, 16, 17, 18, 19, 20, 21, 22, 23, 24, 25, 26, 27, 28, 29, 30, 31, 32, 33, 34, 35, 36, 37, 38, 39, 40, 41] (by decide +kernel) (by decide +kernel)
set_option maxRecDepth 20000 in
theorem gX5_rows_X5_sumOf : GoodIn wsX5_rows (wsV RX5 172 RX5 yX5_sumOf wsX5_sumOf) := goodIn_app (goodIn_of _ (by decide +kernel)) ggX5_rows_X5_sumOf
set_option maxRecDepth 20000 in
theorem ggX5_rows_X5_worstOf : GoodIn wsX5_rows wsX5_worstOf := goodIn_r _ [12, 2, 3, 13, 14, 15, 16, 17, 18, 19, 20, 21, 22, 23, 24, 25, 26, 27, 28, 29, 30, 31, 32, 33, 34, 35, 36, 37, 38, 39, 40, 41] (by decide +kernel) (by decide +kernel)
set_option maxRecDepth 20000 in
theorem gX5_rows_X5_worstOf : GoodIn wsX5_rows (wsV RX5 176 RX5 yX5_worstOf wsX5_worstOf) := goodIn_app (goodIn_of _ (by decide +kernel)) ggX5_rows_X5_worstOf
theorem dX5_rows_0 : decode cX5_rows 0 = .ok (.iconst 0, 1) := by decide +kernel
theorem dX5_rows_1 : decode cX5_rows 1 = .ok (.istore_n 3, 1) := by decide +kernel
theorem dX5_rows_2 : decode cX5_rows 2 = .ok (.iload_n 3, 1) := by decide +kernel
theorem dX5_rows_3 : decode cX5_rows 3 = .ok (.bipush 7, 2) := by decide +kernel
theorem dX5_rows_5 : decode cX5_rows 5 = .ok (.if_icmp .ge 43, 3) := by decide +kernel
theorem dX5_rows_8 : decode cX5_rows 8 = .ok (.aload_n 0, 1) := by decide +kernel
theorem dX5_rows_9 : decode cX5_rows 9 = .ok (.getfield 54, 3) := by decide +kernel
theorem dX5_rows_12 : decode cX5_rows 12 = .ok (.iload_n 3, 1) := by decide +kernel
theorem dX5_rows_13 : decode cX5_rows 13 = .ok (.iload_n 1, 1) := by decide +kernel
theorem dX5_rows_14 : decode cX5_rows 14 = .ok (.iconst 2, 1) := by decide +kernel
theorem dX5_rows_15 : decode cX5_rows 15 = .ok (.if_icmp .ne 25, 3) := by decide +kernel
theorem dX5_rows_18 : decode cX5_rows 18 = .ok (.iload_n 3, 1) := by decide +kernel
theorem dX5_rows_19 : decode cX5_rows 19 = .ok (.aload_n 0, 1) := by decide +kernel
theorem dX5_rows_20 : decode cX5_rows 20 = .ok (.getfield 142, 3) := by decide +kernel
theorem dX5_rows_23 : decode cX5_rows 23 = .ok (.if_icmp .ge 17, 3) := by decide +kernel
theorem dX5_rows_26 : decode cX5_rows 26 = .ok (.aload_n 0, 1) := by decide +kernel
theorem dX5_rows_27 : decode cX5_rows 27 = .ok (.getfield 48, 3) := by decide +kernel
theorem dX5_rows_30 : decode cX5_rows 30 = .ok (.bipush 64, 2) := by decide +kernel
theorem dX5_rows_32 : decode cX5_rows 32 = .ok (.iload_n 3, 1) := by decide +kernel
theorem dX5_rows_33 : decode cX5_rows 33 = .ok (.imul, 1) := by decide +kernel
theorem dX5_rows_34 : decode cX5_rows 34 = .ok (.iload_n 2, 1) := by decide +kernel
theorem dX5_rows_35 : decode cX5_rows 35 = .ok (.iadd, 1) := by decide +kernel
theorem dX5_rows_36 : decode cX5_rows 36 = .ok (.iaload, 1) := by decide +kernel
theorem dX5_rows_37 : decode cX5_rows 37 = .ok (.goto 4, 3) := by decide +kernel
theorem dX5_rows_40 : decode cX5_rows 40 = .ok (.iconst 0, 1) := by decide +kernel
theorem dX5_rows_41 : decode cX5_rows 41 = .ok (.iastore, 1) := by decide +kernel
theorem dX5_rows_42 : decode cX5_rows 42 = .ok (.iinc 3 1, 3) := by decide +kernel
theorem dX5_rows_45 : decode cX5_rows 45 = .ok (.goto (-43), 3) := by decide +kernel
theorem dX5_rows_48 : decode cX5_rows 48 = .ok (.iload_n 1, 1) := by decide +kernel
theorem dX5_rows_49 : decode cX5_rows 49 = .ok (.iconst 2, 1) := by decide +kernel
theorem dX5_rows_50 : decode cX5_rows 50 = .ok (.if_icmp .ge 26, 3) := by decide +kernel
theorem dX5_rows_53 : decode cX5_rows 53 = .ok (.aload_n 0, 1) := by decide +kernel
theorem dX5_rows_54 : decode cX5_rows 54 = .ok (.getfield 54, 3) := by decide +kernel
theorem dX5_rows_57 : decode cX5_rows 57 = .ok (.iconst 0, 1) := by decide +kernel
theorem dX5_rows_58 : decode cX5_rows 58 = .ok (.iload_n 1, 1) := by decide +kernel
theorem dX5_rows_59 : decode cX5_rows 59 = .ok (.ifCond .ne 11, 3) := by decide +kernel
theorem dX5_rows_62 : decode cX5_rows 62 = .ok (.aload_n 0, 1) := by decide +kernel
theorem dX5_rows_63 : decode cX5_rows 63 = .ok (.iload_n 2, 1) := by decide +kernel
theorem dX5_rows_64 : decode cX5_rows 64 = .ok (.invokevirtual 172, 3) := by decide +kernel
theorem dX5_rows_67 : decode cX5_rows 67 = .ok (.goto 8, 3) := by decide +kernel
theorem dX5_rows_70 : decode cX5_rows 70 = .ok (.aload_n 0, 1) := by decide +kernel
theorem dX5_rows_71 : decode cX5_rows 71 = .ok (.iload_n 2, 1) := by decide +kernel
theorem dX5_rows_72 : decode cX5_rows 72 = .ok (.invokevirtual 176, 3) := by decide +kernel
theorem dX5_rows_75 : decode cX5_rows 75 = .ok (.iastore, 1) := by decide +kernel
theorem dX5_rows_76 : decode cX5_rows 76 = .ok (.iconst 1, 1) := by decide +kernel
theorem dX5_rows_77 : decode cX5_rows 77 = .ok (.istore_n 3, 1) := by decide +kernel
theorem dX5_rows_78 : decode cX5_rows 78 = .ok (.iload_n 3, 1) := by decide +kernel
theorem dX5_rows_79 : decode cX5_rows 79 = .ok (.bipush 7, 2) := by decide +kernel
theorem dX5_rows_81 : decode cX5_rows 81 = .ok (.if_icmp .ge 78, 3) := by decide +kernel
theorem dX5_rows_84 : decode cX5_rows 84 = .ok (.iload_n 3, 1) := by decide +kernel
theorem dX5_rows_85 : decode cX5_rows 85 = .ok (.istore 4, 2) := by decide +kernel
theorem dX5_rows_87 : decode cX5_rows 87 = .ok (.iload 4, 2) := by decide +kernel
theorem dX5_rows_89 : decode cX5_rows 89 = .ok (.ifCond .le 64, 3) := by decide +kernel
theorem dX5_rows_92 : decode cX5_rows 92 = .ok (.aload_n 0, 1) := by decide +kernel
theorem dX5_rows_93 : decode cX5_rows 93 = .ok (.getfield 54, 3) := by decide +kernel
theorem dX5_rows_96 : decode cX5_rows 96 = .ok (.iload 4, 2) := by decide +kernel
theorem dX5_rows_98 : decode cX5_rows 98 = .ok (.iaload, 1) := by decide +kernel
theorem dX5_rows_99 : decode cX5_rows 99 = .ok (.aload_n 0, 1) := by decide +kernel
theorem dX5_rows_100 : decode cX5_rows 100 = .ok (.getfield 54, 3) := by decide +kernel
theorem dX5_rows_103 : decode cX5_rows 103 = .ok (.iload 4, 2) := by decide +kernel
theorem dX5_rows_105 : decode cX5_rows 105 = .ok (.iconst 1, 1) := by decide +kernel
theorem dX5_rows_106 : decode cX5_rows 106 = .ok (.isub, 1) := by decide +kernel
theorem dX5_rows_107 : decode cX5_rows 107 = .ok (.iaload, 1) := by decide +kernel
theorem dX5_rows_108 : decode cX5_rows 108 = .ok (.if_icmp .le 45, 3) := by decide +kernel
theorem dX5_rows_111 : decode cX5_rows 111 = .ok (.aload_n 0, 1) := by decide +kernel
theorem dX5_rows_112 : decode cX5_rows 112 = .ok (.getfield 54, 3) := by decide +kernel
theorem dX5_rows_115 : decode cX5_rows 115 = .ok (.iload 4, 2) := by decide +kernel
theorem dX5_rows_117 : decode cX5_rows 117 = .ok (.iaload, 1) := by decide +kernel
theorem dX5_rows_118 : decode cX5_rows 118 = .ok (.istore 5, 2) := by decide +kernel
theorem dX5_rows_120 : decode cX5_rows 120 = .ok (.aload_n 0, 1) := by decide +kernel
theorem dX5_rows_121 : decode cX5_rows 121 = .ok (.getfield 54, 3) := by decide +kernel
theorem dX5_rows_124 : decode cX5_rows 124 = .ok (.iload 4, 2) := by decide +kernel
theorem dX5_rows_126 : decode cX5_rows 126 = .ok (.aload_n 0, 1) := by decide +kernel
theorem dX5_rows_127 : decode cX5_rows 127 = .ok (.getfield 54, 3) := by decide +kernel
theorem dX5_rows_130 : decode cX5_rows 130 = .ok (.iload 4, 2) := by decide +kernel
theorem dX5_rows_132 : decode cX5_rows 132 = .ok (.iconst 1, 1) := by decide +kernel
theorem dX5_rows_133 : decode cX5_rows 133 = .ok (.isub, 1) := by decide +kernel
theorem dX5_rows_134 : decode cX5_rows 134 = .ok (.iaload, 1) := by decide +kernel
theorem dX5_rows_135 : decode cX5_rows 135 = .ok (.iastore, 1) := by decide +kernel
theorem dX5_rows_136 : decode cX5_rows 136 = .ok (.aload_n 0, 1) := by decide +kernel
theorem dX5_rows_137 : decode cX5_rows 137 = .ok (.getfield 54, 3) := by decide +kernel
theorem dX5_rows_140 : decode cX5_rows 140 = .ok (.iload 4, 2) := by decide +kernel
theorem dX5_rows_142 : decode cX5_rows 142 = .ok (.iconst 1, 1) := by decide +kernel
theorem dX5_rows_143 : decode cX5_rows 143 = .ok (.isub, 1) := by decide +kernel
theorem dX5_rows_144 : decode cX5_rows 144 = .ok (.iload 5, 2) := by decide +kernel
theorem dX5_rows_146 : decode cX5_rows 146 = .ok (.iastore, 1) := by decide +kernel
theorem dX5_rows_147 : decode cX5_rows 147 = .ok (.iinc 4 (-1), 3) := by decide +kernel
theorem dX5_rows_150 : decode cX5_rows 150 = .ok (.goto (-63), 3) := by decide +kernel
theorem dX5_rows_153 : decode cX5_rows 153 = .ok (.iinc 3 1, 3) := by decide +kernel
theorem dX5_rows_156 : decode cX5_rows 156 = .ok (.goto (-78), 3) := by decide +kernel
theorem dX5_rows_159 : decode cX5_rows 159 = .ok (.return_, 1) := by decide +kernel
theorem dX5_against_0 : decode cX5_against 0 = .ok (.iconst 0, 1) := by decide +kernel
theorem dX5_against_1 : decode cX5_against 1 = .ok (.istore_n 1, 1) := by decide +kernel
theorem dX5_against_2 : decode cX5_against 2 = .ok (.iload_n 1, 1) := by decide +kernel
theorem dX5_against_3 : decode cX5_against 3 = .ok (.bipush 7, 2) := by decide +kernel
theorem dX5_against_5 : decode cX5_against 5 = .ok (.if_icmp .ge 45, 3) := by decide +kernel
theorem dX5_against_8 : decode cX5_against 8 = .ok (.aload_n 0, 1) := by decide +kernel
theorem dX5_against_9 : decode cX5_against 9 = .ok (.getfield 54, 3) := by decide +kernel
theorem dX5_against_12 : decode cX5_against 12 = .ok (.iload_n 1, 1) := by decide +kernel
theorem dX5_against_13 : decode cX5_against 13 = .ok (.iaload, 1) := by decide +kernel
theorem dX5_against_14 : decode cX5_against 14 = .ok (.aload_n 0, 1) := by decide +kernel
theorem dX5_against_15 : decode cX5_against 15 = .ok (.getfield 51, 3) := by decide +kernel
theorem dX5_against_18 : decode cX5_against 18 = .ok (.iload_n 1, 1) := by decide +kernel
theorem dX5_against_19 : decode cX5_against 19 = .ok (.iaload, 1) := by decide +kernel
theorem dX5_against_20 : decode cX5_against 20 = .ok (.if_icmp .eq 24, 3) := by decide +kernel
theorem dX5_against_23 : decode cX5_against 23 = .ok (.aload_n 0, 1) := by decide +kernel
theorem dX5_against_24 : decode cX5_against 24 = .ok (.getfield 54, 3) := by decide +kernel
theorem dX5_against_27 : decode cX5_against 27 = .ok (.iload_n 1, 1) := by decide +kernel
theorem dX5_against_28 : decode cX5_against 28 = .ok (.iaload, 1) := by decide +kernel
theorem dX5_against_29 : decode cX5_against 29 = .ok (.aload_n 0, 1) := by decide +kernel
theorem dX5_against_30 : decode cX5_against 30 = .ok (.getfield 51, 3) := by decide +kernel
theorem dX5_against_33 : decode cX5_against 33 = .ok (.iload_n 1, 1) := by decide +kernel
theorem dX5_against_34 : decode cX5_against 34 = .ok (.iaload, 1) := by decide +kernel
theorem dX5_against_35 : decode cX5_against 35 = .ok (.if_icmp .ge 7, 3) := by decide +kernel
theorem dX5_against_38 : decode cX5_against 38 = .ok (.iconst (-1), 1) := by decide +kernel
theorem dX5_against_39 : decode cX5_against 39 = .ok (.goto 4, 3) := by decide +kernel
theorem dX5_against_42 : decode cX5_against 42 = .ok (.iconst 1, 1) := by decide +kernel
theorem dX5_against_43 : decode cX5_against 43 = .ok (.ireturn, 1) := by decide +kernel
theorem dX5_against_44 : decode cX5_against 44 = .ok (.iinc 1 1, 3) := by decide +kernel
theorem dX5_against_47 : decode cX5_against 47 = .ok (.goto (-45), 3) := by decide +kernel
theorem dX5_against_50 : decode cX5_against 50 = .ok (.iconst 0, 1) := by decide +kernel
theorem dX5_against_51 : decode cX5_against 51 = .ok (.ireturn, 1) := by decide +kernel
set_option maxRecDepth 20000 in
theorem ggX5_mergedBy_X5_has : GoodIn wsX5_mergedBy wsX5_has := goodIn_r _ [7] (by decide +kernel) (by decide +kernel)
