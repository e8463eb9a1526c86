section
-- ===== PART A: goes FIRST, ahead of the names: the tables' words, and 'selects' of the private methods out of them =====
/-- a private method of a class that the tables say can be made, by its rows of tables_1 -/
def lw_okq (q : MethodName × Nat) : Prop := (q.1.cls ≠ "java/lang/invoke/MethodHandle" ∧ q.1.cls ≠ "java/lang/invoke/VarHandle") ∧ Cond.instantiable q.1.cls q.2 ∈ tables_1 ∧ Cond.privateMethod q.1 ∈ tables_1 ∧ Cond.instanceMethod q.1 ∈ tables_1
theorem lw_p0 : lw_okq (⟨"SayingsMerged$Reader", "begin", "()V"⟩, 4) := ⟨⟨by decide +kernel, by decide +kernel⟩, List.mem_of_getElem? (i := 43) (by decide +kernel), List.mem_of_getElem? (i := 183) (by decide +kernel), List.mem_of_getElem? (i := 184) (by decide +kernel)⟩
theorem lw_p1 : lw_okq (⟨"SayingsMerged$Text", "beginsToken", "(I)Z"⟩, 4) := ⟨⟨by decide +kernel, by decide +kernel⟩, List.mem_of_getElem? (i := 20) (by decide +kernel), List.mem_of_getElem? (i := 191) (by decide +kernel), List.mem_of_getElem? (i := 192) (by decide +kernel)⟩
theorem lw_p2 : lw_okq (⟨"SayingsMerged$Text", "isSmall", "(I)Z"⟩, 4) := ⟨⟨by decide +kernel, by decide +kernel⟩, List.mem_of_getElem? (i := 20) (by decide +kernel), List.mem_of_getElem? (i := 195) (by decide +kernel), List.mem_of_getElem? (i := 196) (by decide +kernel)⟩
theorem lw_p3 : lw_okq (⟨"SayingsMerged$Text", "tokenAt", "(I)I"⟩, 4) := ⟨⟨by decide +kernel, by decide +kernel⟩, List.mem_of_getElem? (i := 20) (by decide +kernel), List.mem_of_getElem? (i := 199) (by decide +kernel), List.mem_of_getElem? (i := 200) (by decide +kernel)⟩
theorem lw_p4 : lw_okq (⟨"SayingsMerged$Text", "wordAt", "(I)I"⟩, 4) := ⟨⟨by decide +kernel, by decide +kernel⟩, List.mem_of_getElem? (i := 20) (by decide +kernel), List.mem_of_getElem? (i := 203) (by decide +kernel), List.mem_of_getElem? (i := 204) (by decide +kernel)⟩
theorem lw_p5 : lw_okq (⟨"SayingsMerged$Reader", "readItem", "(LSayingsMerged$Told;)V"⟩, 4) := ⟨⟨by decide +kernel, by decide +kernel⟩, List.mem_of_getElem? (i := 43) (by decide +kernel), List.mem_of_getElem? (i := 217) (by decide +kernel), List.mem_of_getElem? (i := 218) (by decide +kernel)⟩
theorem lw_p6 : lw_okq (⟨"SayingsMerged$Reader", "advance", "()V"⟩, 4) := ⟨⟨by decide +kernel, by decide +kernel⟩, List.mem_of_getElem? (i := 43) (by decide +kernel), List.mem_of_getElem? (i := 221) (by decide +kernel), List.mem_of_getElem? (i := 222) (by decide +kernel)⟩
theorem lw_p7 : lw_okq (⟨"SayingsMerged$Reader", "readSaying", "(I)J"⟩, 4) := ⟨⟨by decide +kernel, by decide +kernel⟩, List.mem_of_getElem? (i := 43) (by decide +kernel), List.mem_of_getElem? (i := 225) (by decide +kernel), List.mem_of_getElem? (i := 226) (by decide +kernel)⟩
theorem lw_p8 : lw_okq (⟨"SayingsMerged$Reader", "readBoth", "(I)J"⟩, 4) := ⟨⟨by decide +kernel, by decide +kernel⟩, List.mem_of_getElem? (i := 43) (by decide +kernel), List.mem_of_getElem? (i := 229) (by decide +kernel), List.mem_of_getElem? (i := 230) (by decide +kernel)⟩
theorem lw_p9 : lw_okq (⟨"SayingsMerged$Reader", "readOne", "(I)J"⟩, 4) := ⟨⟨by decide +kernel, by decide +kernel⟩, List.mem_of_getElem? (i := 43) (by decide +kernel), List.mem_of_getElem? (i := 233) (by decide +kernel), List.mem_of_getElem? (i := 234) (by decide +kernel)⟩
theorem lw_p10 : lw_okq (⟨"SayingsMerged$Reader", "fail", "()V"⟩, 4) := ⟨⟨by decide +kernel, by decide +kernel⟩, List.mem_of_getElem? (i := 43) (by decide +kernel), List.mem_of_getElem? (i := 241) (by decide +kernel), List.mem_of_getElem? (i := 242) (by decide +kernel)⟩
theorem lw_p11 : lw_okq (⟨"SayingsMerged$Reader", "expect", "(I)V"⟩, 4) := ⟨⟨by decide +kernel, by decide +kernel⟩, List.mem_of_getElem? (i := 43) (by decide +kernel), List.mem_of_getElem? (i := 246) (by decide +kernel), List.mem_of_getElem? (i := 247) (by decide +kernel)⟩
theorem lw_p12 : lw_okq (⟨"SayingsMerged$Reader", "readWeight", "()I"⟩, 4) := ⟨⟨by decide +kernel, by decide +kernel⟩, List.mem_of_getElem? (i := 43) (by decide +kernel), List.mem_of_getElem? (i := 256) (by decide +kernel), List.mem_of_getElem? (i := 257) (by decide +kernel)⟩
theorem lw_p13 : lw_okq (⟨"SayingsMerged", "findCommon", "()V"⟩, 11) := ⟨⟨by decide +kernel, by decide +kernel⟩, List.mem_of_getElem? (i := 12) (by decide +kernel), List.mem_of_getElem? (i := 265) (by decide +kernel), List.mem_of_getElem? (i := 266) (by decide +kernel)⟩
theorem lw_p14 : lw_okq (⟨"SayingsMerged", "setsOfSayers", "()I"⟩, 11) := ⟨⟨by decide +kernel, by decide +kernel⟩, List.mem_of_getElem? (i := 12) (by decide +kernel), List.mem_of_getElem? (i := 269) (by decide +kernel), List.mem_of_getElem? (i := 270) (by decide +kernel)⟩
theorem lw_p15 : lw_okq (⟨"SayingsMerged", "findFars", "()V"⟩, 11) := ⟨⟨by decide +kernel, by decide +kernel⟩, List.mem_of_getElem? (i := 12) (by decide +kernel), List.mem_of_getElem? (i := 277) (by decide +kernel), List.mem_of_getElem? (i := 278) (by decide +kernel)⟩
def lw_privs_1 : List (MethodName × Nat) := [(⟨"SayingsMerged$Reader", "begin", "()V"⟩, 4), (⟨"SayingsMerged$Text", "beginsToken", "(I)Z"⟩, 4), (⟨"SayingsMerged$Text", "isSmall", "(I)Z"⟩, 4), (⟨"SayingsMerged$Text", "tokenAt", "(I)I"⟩, 4), (⟨"SayingsMerged$Text", "wordAt", "(I)I"⟩, 4), (⟨"SayingsMerged$Reader", "readItem", "(LSayingsMerged$Told;)V"⟩, 4), (⟨"SayingsMerged$Reader", "advance", "()V"⟩, 4), (⟨"SayingsMerged$Reader", "readSaying", "(I)J"⟩, 4), (⟨"SayingsMerged$Reader", "readBoth", "(I)J"⟩, 4), (⟨"SayingsMerged$Reader", "readOne", "(I)J"⟩, 4), (⟨"SayingsMerged$Reader", "fail", "()V"⟩, 4), (⟨"SayingsMerged$Reader", "expect", "(I)V"⟩, 4), (⟨"SayingsMerged$Reader", "readWeight", "()I"⟩, 4), (⟨"SayingsMerged", "findCommon", "()V"⟩, 11), (⟨"SayingsMerged", "setsOfSayers", "()I"⟩, 11), (⟨"SayingsMerged", "findFars", "()V"⟩, 11)]
theorem lw_r1 : ∀ q ∈ lw_privs_1, lw_okq q := List.forall_mem_cons.mpr ⟨lw_p0, List.forall_mem_cons.mpr ⟨lw_p1, List.forall_mem_cons.mpr ⟨lw_p2, List.forall_mem_cons.mpr ⟨lw_p3, List.forall_mem_cons.mpr ⟨lw_p4, List.forall_mem_cons.mpr ⟨lw_p5, List.forall_mem_cons.mpr ⟨lw_p6, List.forall_mem_cons.mpr ⟨lw_p7, List.forall_mem_cons.mpr ⟨lw_p8, List.forall_mem_cons.mpr ⟨lw_p9, List.forall_mem_cons.mpr ⟨lw_p10, List.forall_mem_cons.mpr ⟨lw_p11, List.forall_mem_cons.mpr ⟨lw_p12, List.forall_mem_cons.mpr ⟨lw_p13, List.forall_mem_cons.mpr ⟨lw_p14, List.forall_mem_cons.mpr ⟨lw_p15, fun _ h => absurd h List.not_mem_nil⟩⟩⟩⟩⟩⟩⟩⟩⟩⟩⟩⟩⟩⟩⟩⟩
theorem lw_p16 : lw_okq (⟨"SayingsMerged", "isSayer", "(I)Z"⟩, 11) := ⟨⟨by decide +kernel, by decide +kernel⟩, List.mem_of_getElem? (i := 12) (by decide +kernel), List.mem_of_getElem? (i := 315) (by decide +kernel), List.mem_of_getElem? (i := 316) (by decide +kernel)⟩
theorem lw_p17 : lw_okq (⟨"SayingsMerged", "burdenOf", "(II)J"⟩, 11) := ⟨⟨by decide +kernel, by decide +kernel⟩, List.mem_of_getElem? (i := 12) (by decide +kernel), List.mem_of_getElem? (i := 338) (by decide +kernel), List.mem_of_getElem? (i := 339) (by decide +kernel)⟩
theorem lw_p18 : lw_okq (⟨"SayingsMerged", "mergedBy", "(I)J"⟩, 11) := ⟨⟨by decide +kernel, by decide +kernel⟩, List.mem_of_getElem? (i := 12) (by decide +kernel), List.mem_of_getElem? (i := 349) (by decide +kernel), List.mem_of_getElem? (i := 350) (by decide +kernel)⟩
theorem lw_p19 : lw_okq (⟨"SayingsMerged", "weighed", "(III)J"⟩, 11) := ⟨⟨by decide +kernel, by decide +kernel⟩, List.mem_of_getElem? (i := 12) (by decide +kernel), List.mem_of_getElem? (i := 353) (by decide +kernel), List.mem_of_getElem? (i := 354) (by decide +kernel)⟩
theorem lw_p20 : lw_okq (⟨"SayingsMerged", "goneAlong", "(JJ)J"⟩, 11) := ⟨⟨by decide +kernel, by decide +kernel⟩, List.mem_of_getElem? (i := 12) (by decide +kernel), List.mem_of_getElem? (i := 384) (by decide +kernel), List.mem_of_getElem? (i := 385) (by decide +kernel)⟩
theorem lw_p21 : lw_okq (⟨"SayingsMerged", "isQuarrel", "(I)Z"⟩, 11) := ⟨⟨by decide +kernel, by decide +kernel⟩, List.mem_of_getElem? (i := 12) (by decide +kernel), List.mem_of_getElem? (i := 392) (by decide +kernel), List.mem_of_getElem? (i := 393) (by decide +kernel)⟩
theorem lw_p22 : lw_okq (⟨"SayingsMerged", "isListed", "(II)Z"⟩, 11) := ⟨⟨by decide +kernel, by decide +kernel⟩, List.mem_of_getElem? (i := 12) (by decide +kernel), List.mem_of_getElem? (i := 401) (by decide +kernel), List.mem_of_getElem? (i := 402) (by decide +kernel)⟩
theorem lw_p23 : lw_okq (⟨"SayingsMerged", "isLeastQuarrel", "(I)Z"⟩, 11) := ⟨⟨by decide +kernel, by decide +kernel⟩, List.mem_of_getElem? (i := 12) (by decide +kernel), List.mem_of_getElem? (i := 405) (by decide +kernel), List.mem_of_getElem? (i := 406) (by decide +kernel)⟩
theorem lw_p24 : lw_okq (⟨"SayingsMerged", "isGreatestAgreed", "(I)Z"⟩, 11) := ⟨⟨by decide +kernel, by decide +kernel⟩, List.mem_of_getElem? (i := 12) (by decide +kernel), List.mem_of_getElem? (i := 409) (by decide +kernel), List.mem_of_getElem? (i := 410) (by decide +kernel)⟩
theorem lw_p25 : lw_okq (⟨"SayingsMerged", "ordersTurnedBy", "(I)I"⟩, 11) := ⟨⟨by decide +kernel, by decide +kernel⟩, List.mem_of_getElem? (i := 12) (by decide +kernel), List.mem_of_getElem? (i := 421) (by decide +kernel), List.mem_of_getElem? (i := 422) (by decide +kernel)⟩
theorem lw_p26 : lw_okq (⟨"SayingsMerged", "lossOf", "(IJ)J"⟩, 11) := ⟨⟨by decide +kernel, by decide +kernel⟩, List.mem_of_getElem? (i := 12) (by decide +kernel), List.mem_of_getElem? (i := 434) (by decide +kernel), List.mem_of_getElem? (i := 435) (by decide +kernel)⟩
theorem lw_p27 : lw_okq (⟨"SayingsMerged", "bestLie", "(IIJZ)I"⟩, 11) := ⟨⟨by decide +kernel, by decide +kernel⟩, List.mem_of_getElem? (i := 12) (by decide +kernel), List.mem_of_getElem? (i := 438) (by decide +kernel), List.mem_of_getElem? (i := 439) (by decide +kernel)⟩
theorem lw_p28 : lw_okq (⟨"SayingsMerged", "mergedWithTerm", "(IIII)J"⟩, 11) := ⟨⟨by decide +kernel, by decide +kernel⟩, List.mem_of_getElem? (i := 12) (by decide +kernel), List.mem_of_getElem? (i := 442) (by decide +kernel), List.mem_of_getElem? (i := 443) (by decide +kernel)⟩
theorem lw_p29 : lw_okq (⟨"SayingsMerged", "sayerWorth", "(I)I"⟩, 11) := ⟨⟨by decide +kernel, by decide +kernel⟩, List.mem_of_getElem? (i := 12) (by decide +kernel), List.mem_of_getElem? (i := 450) (by decide +kernel), List.mem_of_getElem? (i := 451) (by decide +kernel)⟩
theorem lw_p30 : lw_okq (⟨"SayingsMerged", "weightyWorth", "(I)I"⟩, 11) := ⟨⟨by decide +kernel, by decide +kernel⟩, List.mem_of_getElem? (i := 12) (by decide +kernel), List.mem_of_getElem? (i := 460) (by decide +kernel), List.mem_of_getElem? (i := 461) (by decide +kernel)⟩
theorem lw_p31 : lw_okq (⟨"SayingsMerged", "loneWorth", "(I)I"⟩, 11) := ⟨⟨by decide +kernel, by decide +kernel⟩, List.mem_of_getElem? (i := 12) (by decide +kernel), List.mem_of_getElem? (i := 465) (by decide +kernel), List.mem_of_getElem? (i := 466) (by decide +kernel)⟩
def lw_privs_2 : List (MethodName × Nat) := [(⟨"SayingsMerged", "isSayer", "(I)Z"⟩, 11), (⟨"SayingsMerged", "burdenOf", "(II)J"⟩, 11), (⟨"SayingsMerged", "mergedBy", "(I)J"⟩, 11), (⟨"SayingsMerged", "weighed", "(III)J"⟩, 11), (⟨"SayingsMerged", "goneAlong", "(JJ)J"⟩, 11), (⟨"SayingsMerged", "isQuarrel", "(I)Z"⟩, 11), (⟨"SayingsMerged", "isListed", "(II)Z"⟩, 11), (⟨"SayingsMerged", "isLeastQuarrel", "(I)Z"⟩, 11), (⟨"SayingsMerged", "isGreatestAgreed", "(I)Z"⟩, 11), (⟨"SayingsMerged", "ordersTurnedBy", "(I)I"⟩, 11), (⟨"SayingsMerged", "lossOf", "(IJ)J"⟩, 11), (⟨"SayingsMerged", "bestLie", "(IIJZ)I"⟩, 11), (⟨"SayingsMerged", "mergedWithTerm", "(IIII)J"⟩, 11), (⟨"SayingsMerged", "sayerWorth", "(I)I"⟩, 11), (⟨"SayingsMerged", "weightyWorth", "(I)I"⟩, 11), (⟨"SayingsMerged", "loneWorth", "(I)I"⟩, 11)]
theorem lw_r2 : ∀ q ∈ lw_privs_2, lw_okq q := List.forall_mem_cons.mpr ⟨lw_p16, List.forall_mem_cons.mpr ⟨lw_p17, List.forall_mem_cons.mpr ⟨lw_p18, List.forall_mem_cons.mpr ⟨lw_p19, List.forall_mem_cons.mpr ⟨lw_p20, List.forall_mem_cons.mpr ⟨lw_p21, List.forall_mem_cons.mpr ⟨lw_p22, List.forall_mem_cons.mpr ⟨lw_p23, List.forall_mem_cons.mpr ⟨lw_p24, List.forall_mem_cons.mpr ⟨lw_p25, List.forall_mem_cons.mpr ⟨lw_p26, List.forall_mem_cons.mpr ⟨lw_p27, List.forall_mem_cons.mpr ⟨lw_p28, List.forall_mem_cons.mpr ⟨lw_p29, List.forall_mem_cons.mpr ⟨lw_p30, List.forall_mem_cons.mpr ⟨lw_p31, fun _ h => absurd h List.not_mem_nil⟩⟩⟩⟩⟩⟩⟩⟩⟩⟩⟩⟩⟩⟩⟩⟩
theorem lw_p32 : lw_okq (⟨"SayingsMerged", "firmWorth", "(I)I"⟩, 11) := ⟨⟨by decide +kernel, by decide +kernel⟩, List.mem_of_getElem? (i := 12) (by decide +kernel), List.mem_of_getElem? (i := 474) (by decide +kernel), List.mem_of_getElem? (i := 475) (by decide +kernel)⟩
theorem lw_p33 : lw_okq (⟨"SayingsMergedModel", "fault", "()I"⟩, 29) := ⟨⟨by decide +kernel, by decide +kernel⟩, List.mem_of_getElem? (i := 491) (by decide +kernel), List.mem_of_getElem? (i := 603) (by decide +kernel), List.mem_of_getElem? (i := 604) (by decide +kernel)⟩
theorem lw_p34 : lw_okq (⟨"SayingsMergedModel", "token", "()V"⟩, 29) := ⟨⟨by decide +kernel, by decide +kernel⟩, List.mem_of_getElem? (i := 491) (by decide +kernel), List.mem_of_getElem? (i := 607) (by decide +kernel), List.mem_of_getElem? (i := 608) (by decide +kernel)⟩
theorem lw_p35 : lw_okq (⟨"SayingsMergedModel", "isLow", "(I)Z"⟩, 29) := ⟨⟨by decide +kernel, by decide +kernel⟩, List.mem_of_getElem? (i := 491) (by decide +kernel), List.mem_of_getElem? (i := 611) (by decide +kernel), List.mem_of_getElem? (i := 612) (by decide +kernel)⟩
theorem lw_p36 : lw_okq (⟨"SayingsMergedModel", "isWord", "(III)Z"⟩, 29) := ⟨⟨by decide +kernel, by decide +kernel⟩, List.mem_of_getElem? (i := 491) (by decide +kernel), List.mem_of_getElem? (i := 617) (by decide +kernel), List.mem_of_getElem? (i := 618) (by decide +kernel)⟩
theorem lw_p37 : lw_okq (⟨"SayingsMergedModel", "saying", "()I"⟩, 29) := ⟨⟨by decide +kernel, by decide +kernel⟩, List.mem_of_getElem? (i := 491) (by decide +kernel), List.mem_of_getElem? (i := 624) (by decide +kernel), List.mem_of_getElem? (i := 625) (by decide +kernel)⟩
theorem lw_p38 : lw_okq (⟨"SayingsMergedModel", "ends", "(J)V"⟩, 29) := ⟨⟨by decide +kernel, by decide +kernel⟩, List.mem_of_getElem? (i := 491) (by decide +kernel), List.mem_of_getElem? (i := 635) (by decide +kernel), List.mem_of_getElem? (i := 636) (by decide +kernel)⟩
theorem lw_p39 : lw_okq (⟨"SayingsMergedModel", "isSayer", "(I)Z"⟩, 29) := ⟨⟨by decide +kernel, by decide +kernel⟩, List.mem_of_getElem? (i := 491) (by decide +kernel), List.mem_of_getElem? (i := 647) (by decide +kernel), List.mem_of_getElem? (i := 648) (by decide +kernel)⟩
theorem lw_p40 : lw_okq (⟨"SayingsMergedModel", "apartOf", "(II)I"⟩, 29) := ⟨⟨by decide +kernel, by decide +kernel⟩, List.mem_of_getElem? (i := 491) (by decide +kernel), List.mem_of_getElem? (i := 669) (by decide +kernel), List.mem_of_getElem? (i := 670) (by decide +kernel)⟩
theorem lw_p41 : lw_okq (⟨"SayingsMergedModel", "farOf", "(IJ)I"⟩, 29) := ⟨⟨by decide +kernel, by decide +kernel⟩, List.mem_of_getElem? (i := 491) (by decide +kernel), List.mem_of_getElem? (i := 677) (by decide +kernel), List.mem_of_getElem? (i := 678) (by decide +kernel)⟩
theorem lw_p42 : lw_okq (⟨"SayingsMergedModel", "laysAll", "()V"⟩, 29) := ⟨⟨by decide +kernel, by decide +kernel⟩, List.mem_of_getElem? (i := 491) (by decide +kernel), List.mem_of_getElem? (i := 686) (by decide +kernel), List.mem_of_getElem? (i := 687) (by decide +kernel)⟩
theorem lw_p43 : lw_okq (⟨"SayingsMergedModel", "lays", "(IJ)V"⟩, 29) := ⟨⟨by decide +kernel, by decide +kernel⟩, List.mem_of_getElem? (i := 491) (by decide +kernel), List.mem_of_getElem? (i := 690) (by decide +kernel), List.mem_of_getElem? (i := 691) (by decide +kernel)⟩
theorem lw_p44 : lw_okq (⟨"SayingsMergedModel", "mergedBy", "(I)J"⟩, 29) := ⟨⟨by decide +kernel, by decide +kernel⟩, List.mem_of_getElem? (i := 491) (by decide +kernel), List.mem_of_getElem? (i := 694) (by decide +kernel), List.mem_of_getElem? (i := 695) (by decide +kernel)⟩
theorem lw_p45 : lw_okq (⟨"SayingsMergedModel", "rows", "(II)V"⟩, 29) := ⟨⟨by decide +kernel, by decide +kernel⟩, List.mem_of_getElem? (i := 491) (by decide +kernel), List.mem_of_getElem? (i := 698) (by decide +kernel), List.mem_of_getElem? (i := 699) (by decide +kernel)⟩
theorem lw_p46 : lw_okq (⟨"SayingsMergedModel", "sumOf", "(I)I"⟩, 29) := ⟨⟨by decide +kernel, by decide +kernel⟩, List.mem_of_getElem? (i := 491) (by decide +kernel), List.mem_of_getElem? (i := 702) (by decide +kernel), List.mem_of_getElem? (i := 703) (by decide +kernel)⟩
theorem lw_p47 : lw_okq (⟨"SayingsMergedModel", "worstOf", "(I)I"⟩, 29) := ⟨⟨by decide +kernel, by decide +kernel⟩, List.mem_of_getElem? (i := 491) (by decide +kernel), List.mem_of_getElem? (i := 706) (by decide +kernel), List.mem_of_getElem? (i := 707) (by decide +kernel)⟩
def lw_privs_3 : List (MethodName × Nat) := [(⟨"SayingsMerged", "firmWorth", "(I)I"⟩, 11), (⟨"SayingsMergedModel", "fault", "()I"⟩, 29), (⟨"SayingsMergedModel", "token", "()V"⟩, 29), (⟨"SayingsMergedModel", "isLow", "(I)Z"⟩, 29), (⟨"SayingsMergedModel", "isWord", "(III)Z"⟩, 29), (⟨"SayingsMergedModel", "saying", "()I"⟩, 29), (⟨"SayingsMergedModel", "ends", "(J)V"⟩, 29), (⟨"SayingsMergedModel", "isSayer", "(I)Z"⟩, 29), (⟨"SayingsMergedModel", "apartOf", "(II)I"⟩, 29), (⟨"SayingsMergedModel", "farOf", "(IJ)I"⟩, 29), (⟨"SayingsMergedModel", "laysAll", "()V"⟩, 29), (⟨"SayingsMergedModel", "lays", "(IJ)V"⟩, 29), (⟨"SayingsMergedModel", "mergedBy", "(I)J"⟩, 29), (⟨"SayingsMergedModel", "rows", "(II)V"⟩, 29), (⟨"SayingsMergedModel", "sumOf", "(I)I"⟩, 29), (⟨"SayingsMergedModel", "worstOf", "(I)I"⟩, 29)]
theorem lw_r3 : ∀ q ∈ lw_privs_3, lw_okq q := List.forall_mem_cons.mpr ⟨lw_p32, List.forall_mem_cons.mpr ⟨lw_p33, List.forall_mem_cons.mpr ⟨lw_p34, List.forall_mem_cons.mpr ⟨lw_p35, List.forall_mem_cons.mpr ⟨lw_p36, List.forall_mem_cons.mpr ⟨lw_p37, List.forall_mem_cons.mpr ⟨lw_p38, List.forall_mem_cons.mpr ⟨lw_p39, List.forall_mem_cons.mpr ⟨lw_p40, List.forall_mem_cons.mpr ⟨lw_p41, List.forall_mem_cons.mpr ⟨lw_p42, List.forall_mem_cons.mpr ⟨lw_p43, List.forall_mem_cons.mpr ⟨lw_p44, List.forall_mem_cons.mpr ⟨lw_p45, List.forall_mem_cons.mpr ⟨lw_p46, List.forall_mem_cons.mpr ⟨lw_p47, fun _ h => absurd h List.not_mem_nil⟩⟩⟩⟩⟩⟩⟩⟩⟩⟩⟩⟩⟩⟩⟩⟩
theorem lw_p48 : lw_okq (⟨"SayingsMergedModel", "against", "()I"⟩, 29) := ⟨⟨by decide +kernel, by decide +kernel⟩, List.mem_of_getElem? (i := 491) (by decide +kernel), List.mem_of_getElem? (i := 710) (by decide +kernel), List.mem_of_getElem? (i := 711) (by decide +kernel)⟩
theorem lw_p49 : lw_okq (⟨"SayingsMergedModel", "nearest", "(JJ)J"⟩, 29) := ⟨⟨by decide +kernel, by decide +kernel⟩, List.mem_of_getElem? (i := 491) (by decide +kernel), List.mem_of_getElem? (i := 726) (by decide +kernel), List.mem_of_getElem? (i := 727) (by decide +kernel)⟩
theorem lw_p50 : lw_okq (⟨"SayingsMergedModel", "isSet", "(I)Z"⟩, 29) := ⟨⟨by decide +kernel, by decide +kernel⟩, List.mem_of_getElem? (i := 491) (by decide +kernel), List.mem_of_getElem? (i := 734) (by decide +kernel), List.mem_of_getElem? (i := 735) (by decide +kernel)⟩
theorem lw_p51 : lw_okq (⟨"SayingsMergedModel", "isQuarrel", "(I)Z"⟩, 29) := ⟨⟨by decide +kernel, by decide +kernel⟩, List.mem_of_getElem? (i := 491) (by decide +kernel), List.mem_of_getElem? (i := 738) (by decide +kernel), List.mem_of_getElem? (i := 739) (by decide +kernel)⟩
theorem lw_p52 : lw_okq (⟨"SayingsMergedModel", "isTold", "(II)Z"⟩, 29) := ⟨⟨by decide +kernel, by decide +kernel⟩, List.mem_of_getElem? (i := 491) (by decide +kernel), List.mem_of_getElem? (i := 749) (by decide +kernel), List.mem_of_getElem? (i := 750) (by decide +kernel)⟩
theorem lw_p53 : lw_okq (⟨"SayingsMergedModel", "loss", "(J)I"⟩, 29) := ⟨⟨by decide +kernel, by decide +kernel⟩, List.mem_of_getElem? (i := 491) (by decide +kernel), List.mem_of_getElem? (i := 768) (by decide +kernel), List.mem_of_getElem? (i := 769) (by decide +kernel)⟩
theorem lw_p54 : lw_okq (⟨"SayingsMergedModel", "laysTerm", "(III)V"⟩, 29) := ⟨⟨by decide +kernel, by decide +kernel⟩, List.mem_of_getElem? (i := 491) (by decide +kernel), List.mem_of_getElem? (i := 772) (by decide +kernel), List.mem_of_getElem? (i := 773) (by decide +kernel)⟩
theorem lw_p55 : lw_okq (⟨"SayingsMergedModel", "plain", "(I)I"⟩, 29) := ⟨⟨by decide +kernel, by decide +kernel⟩, List.mem_of_getElem? (i := 491) (by decide +kernel), List.mem_of_getElem? (i := 781) (by decide +kernel), List.mem_of_getElem? (i := 782) (by decide +kernel)⟩
theorem lw_p56 : lw_okq (⟨"SayingsMergedModel", "weighty", "(I)I"⟩, 29) := ⟨⟨by decide +kernel, by decide +kernel⟩, List.mem_of_getElem? (i := 491) (by decide +kernel), List.mem_of_getElem? (i := 785) (by decide +kernel), List.mem_of_getElem? (i := 786) (by decide +kernel)⟩
def lw_privs_4 : List (MethodName × Nat) := [(⟨"SayingsMergedModel", "against", "()I"⟩, 29), (⟨"SayingsMergedModel", "nearest", "(JJ)J"⟩, 29), (⟨"SayingsMergedModel", "isSet", "(I)Z"⟩, 29), (⟨"SayingsMergedModel", "isQuarrel", "(I)Z"⟩, 29), (⟨"SayingsMergedModel", "isTold", "(II)Z"⟩, 29), (⟨"SayingsMergedModel", "loss", "(J)I"⟩, 29), (⟨"SayingsMergedModel", "laysTerm", "(III)V"⟩, 29), (⟨"SayingsMergedModel", "plain", "(I)I"⟩, 29), (⟨"SayingsMergedModel", "weighty", "(I)I"⟩, 29)]
theorem lw_r4 : ∀ q ∈ lw_privs_4, lw_okq q := List.forall_mem_cons.mpr ⟨lw_p48, List.forall_mem_cons.mpr ⟨lw_p49, List.forall_mem_cons.mpr ⟨lw_p50, List.forall_mem_cons.mpr ⟨lw_p51, List.forall_mem_cons.mpr ⟨lw_p52, List.forall_mem_cons.mpr ⟨lw_p53, List.forall_mem_cons.mpr ⟨lw_p54, List.forall_mem_cons.mpr ⟨lw_p55, List.forall_mem_cons.mpr ⟨lw_p56, fun _ h => absurd h List.not_mem_nil⟩⟩⟩⟩⟩⟩⟩⟩⟩
def lw_privs : List (MethodName × Nat) := lw_privs_1 ++ (lw_privs_2 ++ (lw_privs_3 ++ (lw_privs_4)))
def lw_tbl : List Cond := k2_sels lw_privs ++ tables_1
theorem lw_privs_ok : ∀ q ∈ lw_privs, lw_okq q := by
  show ∀ q ∈ lw_privs_1 ++ (lw_privs_2 ++ (lw_privs_3 ++ (lw_privs_4))), lw_okq q
  exact List.forall_mem_append.mpr ⟨lw_r1, List.forall_mem_append.mpr ⟨lw_r2, List.forall_mem_append.mpr ⟨lw_r3, lw_r4⟩⟩⟩
end
section
/-! ===== BEGIN words of one list among another's, by their places ===== -/
theorem goodIn_r {big : List Cond} (ws : List Cond) (ps : List Nat) (hp : ws = ps.filterMap (fun i => big[i]?)) (h : ws.all goodWord = true) : GoodIn big ws := by
  intro w hw
  have h1 := List.all_eq_true.mp h w hw
  rw [hp] at hw
  obtain ⟨i, -, hi⟩ := List.mem_filterMap.mp hw
  have hm : w ∈ big := by first | exact List.mem_of_getElem? hi | exact List.getElem?_mem hi
  exact ⟨hm, good_of_word h1⟩
theorem goodIn_app {big a b : List Cond} (ha : GoodIn big a) (hb : GoodIn big b) : GoodIn big (a ++ b) := fun w h => (List.mem_append.mp h).elim (ha w) (hb w)
theorem goodIn_ca {big a b : List Cond} {c : Cond} (ha : GoodIn big (c :: a)) (hb : GoodIn big b) : GoodIn big (c :: (a ++ b)) := fun w h => (List.mem_cons.mp h).elim (fun e => ha w (List.mem_cons.mpr (Or.inl e))) (fun h => (List.mem_append.mp h).elim (fun h => ha w (List.mem_cons.mpr (Or.inr h))) (hb w))
theorem goodIn_sub {big ws : List Cond} (hm : ∀ w ∈ ws, w ∈ big) (h : ws.all goodWord = true) : GoodIn big ws := fun w hw => ⟨hm w hw, good_of_word (List.all_eq_true.mp h w hw)⟩
/-! ===== END ===== -/

/-! ===== BEGIN new T[n][m]: the outer array a place, the inner ones among the pooled ===== -/
/-- f, but v at every address of l -/
def vr_up {α : Type} (f : Nat → α) (l : List Nat) (v : α) : Nat → α := fun a => if a ∈ l then v else f a
theorem vr_up_in {α : Type} {f : Nat → α} {l : List Nat} {v : α} {a : Nat} (h : a ∈ l) : vr_up f l v a = v := if_pos h
theorem vr_up_ne {α : Type} {f : Nat → α} {l : List Nat} {v : α} {a : Nat} (h : a ∉ l) : vr_up f l v a = f a := if_neg h
theorem vr_rows {L l : List Nat} {f : Nat → va_E} {e : va_E} (h : ∀ a, a ∈ l → a ∉ L) : va_pl L f ++ l.map (fun a => (a, e)) = va_pl (L ++ l) (vr_up f l e) := by
  unfold va_pl
  rw [List.map_append]
  congr 1
  · apply List.map_congr_left
    intro a ha
    rw [vr_up_ne (fun q => h a q ha)]
  · apply List.map_congr_left
    intro a ha
    rw [vr_up_in ha]
theorem vr_lay {X rows : va_W} {x : Nat × va_E} {pl : va_W} {D : va_G} {cl : List vw_C} {H : Heap} (hP : va_P D cl (((X ++ pl) ++ [x]) ++ rows) H) : va_P D cl ((X ++ [x]) ++ (pl ++ rows)) H := by
  rw [List.append_assoc (X ++ pl)] at hP
  have h := va_P.swap hP
  rw [← List.append_assoc X] at h
  have h2 := va_P.swap h
  rw [List.append_assoc (X ++ [x])] at h2
  exact h2
theorem vr_layD {X rows : va_W} {x : Nat × va_E} {pl : va_W} {A : Nat → Prop} (hD : va_D A (((X ++ pl) ++ [x]) ++ rows)) : va_D A ((X ++ [x]) ++ (pl ++ rows)) := by
  rw [List.append_assoc (X ++ pl)] at hD
  have h := va_D.swap hD
  rw [← List.append_assoc X] at h
  have h2 := va_D.swap h
  rw [List.append_assoc (X ++ [x])] at h2
  exact h2
theorem vr_outer (c : ClassId) (N h0 : Nat) : ∀ i : Nat, Jvm.Free.Multi.outerC c N h0 i = arrV c N (fun j => va_rf (if j < i then some (h0 + 1 + j) else none))
  | 0 => by
    show ({ cls := c, slots := Array.replicate N .null, vm := .none } : Cell) = _
    rw [arrV_new]
    refine congrArg (arrV c N) (funext fun j => ?_)
    simp [va_rf]
  | i + 1 => by
    show (Jvm.Free.Multi.outerC c N h0 i).setSlot i (.ref (h0 + 1 + i)) = _
    rw [vr_outer c N h0 i, arrV_store]
    refine congrArg (arrV c N) (funext fun j => ?_)
    by_cases e : j = i
    · subst e
      simp [updV, va_rf]
    · by_cases h : j < i
      · simp [updV, e, h, Nat.lt_succ_of_lt h]
      · simp [updV, e, h, show ¬ j < i + 1 by omega]
def zk_AOA (ty : FieldType) (U : State) : Prop := (Cond.arrayOver (.array ty)).before #[] U = true
theorem zk_AOA.use {ty : FieldType} {A : Array Value} {U : State} (h : zk_AOA ty U) : (Cond.arrayOver (.array ty)).before A U = true := h
section VGM
variable {p : Program} {l : Launch} {e : Env} {R : Room} {s : State} {m : MethodId} {args : Array Value} {below : List Frame} {meth : Method} {c : Code} {H : Heap} {locs : List Loc} {cells slots : Nat} {Q : State → Prop}
variable {cc : ByteArray} {pc : Nat} {ls : Array Slot} {rest : List Value} {D : va_G} {cl : List vw_C} {A : Nat → Prop} {a : Nat} {tys : List (ClassId × FieldType)} {ws : va_W} {H0 : Heap}
theorem zk_mna {X : va_W} {L : List Nat} {f : Nat → va_E} {cc : ByteArray} (hexec : p.tables.exec = Jvm.exec) (hb : c.code = cc) {own : String} {index : Nat} {ty : FieldType} {cy : ClassId} (hown : s.vm.findClass own = some m.cls) (hclink : (Cond.classLink own index ("[" ++ (FieldType.array ty).toString)).before args s = true) (hover : zk_AOA ty s) (harr : (Cond.arrayClass ty).before args s = true) (hcy : s.vm.findClass (FieldType.array ty).toString = some cy)
    (hK : va_K D cl tys s) (hP : va_P D cl (X ++ va_pl L f) H) (hD : va_D A (X ++ va_pl L f)) (hS : va_S A H0 H locs) (hA : ∀ q, H0.size ≤ q → A q) {n k : Int32} {N' K' : Nat} {z : vp_A} (hn : ¬ n < 0) (hk : ¬ k < 0) (hN : n.toNatClampNeg = N') (hM : k.toNatClampNeg = K')
    (hb1 : N' * 4 ≤ 536870912) (hb2 : K' * componentBytes ty ≤ 536870912) (hb3 : K' ≤ 536870912) (hdf : fits ty (defaultValue ty) = true) (hdd : (defaultValue ty).isDefault = true) (hcells : cells + (1 + N') ≤ R.cells) (hslots : slots + (N' + N' * K') ≤ R.slots) (hz : ∀ c : ClassId, Jvm.Free.Multi.innerC c K' (defaultValue ty) = vp_cell c z) (hdg : decode cc pc = .ok (.multianewarray index 2, 4))
    (kk : ∀ (q : Nat) (r : Nat → Nat) (cA : ClassId) (H1 : Heap), (∀ i j : Nat, i < N' → j < N' → r i = r j → i = j) → (∀ i : Nat, i < N' → r i ∉ L) → va_K D cl (tys ++ [(cA, .array ty)]) s →
      va_P D cl ((X ++ [(q, .inl (cA, N', .inr (.inr (.inr (.inr (fun i => if i < N' then some (r i) else none))))))]) ++ va_pl (L ++ (List.range N').map r) (vr_up f ((List.range N').map r) (.inl (cy, z)))) H1 → va_D A ((X ++ [(q, .inl (cA, N', .inr (.inr (.inr (.inr (fun i => if i < N' then some (r i) else none))))))]) ++ va_pl (L ++ (List.range N').map r) (vr_up f ((List.range N').map r) (.inl (cy, z)))) → va_S A H0 H1 locs →
      W p l e R s m args below meth c H1 locs (cells + 1 + N') (slots + N' + N' * K') Q (F0 m (pc + 4) ls (.ref q :: rest))) : W p l e R s m args below meth c H locs cells slots Q (F0 m pc ls (.int k :: .int n :: rest)) := by
  subst hN
  subst hM
  intro T hT Xs
  obtain ⟨vm₁, cA, comp, -, fA, fC, hO, -, X', step⟩ := Xs.multianewarray2F hexec hown hclink (zk_AOA.use hover) harr (g := F0 m pc ls (.int k :: .int n :: rest)) rfl (by rw [hb]; exact hdg) rfl hn hk hb1 hb2 hb3 hdf hdd hcells hslots
  have ec : some cy = some comp := hcy.symm.trans fC
  cases ec
  generalize hF : Jvm.Free.Multi.fill (T.setVm vm₁) cA cy n.toNatClampNeg k.toNatClampNeg (defaultValue ty) n.toNatClampNeg = F at X' step
  have hTh : (T.setVm vm₁).heap = H := hT
  obtain ⟨f1, f2, -, -⟩ := Jvm.Free.Multi.fill_facts (T.setVm vm₁) cA cy n.toNatClampNeg k.toNatClampNeg (defaultValue ty) n.toNatClampNeg
  rw [hF, hTh] at f1 f2
  have hold : ∀ x : Nat, x < H.size → F.heap[x]? = H[x]? := fun x hx => by
    have := Jvm.Free.Multi.fill_old (T.setVm vm₁) cA cy n.toNatClampNeg k.toNatClampNeg (defaultValue ty) (a := x) (by rw [hTh]; exact hx) n.toNatClampNeg
    rw [hF, hTh] at this
    exact this
  have hrow : ∀ j : Nat, j < n.toNatClampNeg → F.heap[H.size + 1 + j]? = some (vp_cell cy z) := fun j hj => by
    have := Jvm.Free.Multi.fill_inner (T.setVm vm₁) cA cy n.toNatClampNeg k.toNatClampNeg (defaultValue ty) n.toNatClampNeg j hj
    rw [hF, hTh, hz] at this
    exact this
  have hout : Jvm.Free.Multi.outerC cA n.toNatClampNeg H.size n.toNatClampNeg = vp_cell cA (n.toNatClampNeg, .inr (.inr (.inr (.inr (fun i => if i < n.toNatClampNeg then some (H.size + 1 + i) else none))))) := by
    rw [vp_cell_q]
    exact vr_outer cA n.toNatClampNeg H.size n.toNatClampNeg
  rw [hout] at f2
  have hlt : ∀ a, a ∈ L → a < H.size := fun a ha => by
    obtain ⟨k9, hk9⟩ := va_pl_get (X := X) (f := f) ha
    exact (hP k9 _ hk9).lt
  have hnl : ∀ i : Nat, i < n.toNatClampNeg → H.size + 1 + i ∉ L := fun i _ h => by
    have := hlt _ h
    omega
  have hnm : ∀ a, a ∈ (List.range n.toNatClampNeg).map (fun i => H.size + 1 + i) → a ∉ L := fun a ha h => by
    obtain ⟨i, -, rfl⟩ := List.mem_map.mp ha
    have := hlt _ h
    omega
  have hP0 : va_P D cl (X ++ va_pl L f) F.heap := hP.kept (fun k9 x hx => hold x.1 ((hP k9 x hx).lt))
  have hP1 : va_P D cl ((X ++ va_pl L f) ++ [(H.size, .inl (cA, n.toNatClampNeg, .inr (.inr (.inr (.inr (fun i => if i < n.toNatClampNeg then some (H.size + 1 + i) else none))))))]) F.heap := hP0.app (fun k9 x hx => by
    have h0 : k9 < 1 := (List.getElem?_eq_some_iff.mp hx).1
    rw [show k9 = 0 by omega] at hx
    cases hx
    exact f2)
  have hP2 : va_P D cl (((X ++ va_pl L f) ++ [(H.size, .inl (cA, n.toNatClampNeg, .inr (.inr (.inr (.inr (fun i => if i < n.toNatClampNeg then some (H.size + 1 + i) else none))))))]) ++ ((List.range n.toNatClampNeg).map (fun i => H.size + 1 + i)).map (fun a => (a, .inl (cy, z)))) F.heap := hP1.app (fun k9 x hx => by
    obtain ⟨a, ha, rfl⟩ := List.mem_map.mp (List.mem_of_getElem? hx)
    obtain ⟨i, hi, rfl⟩ := List.mem_map.mp ha
    exact hrow i (List.mem_range.mp hi))
  have hD2 : va_D A (((X ++ va_pl L f) ++ [(H.size, .inl (cA, n.toNatClampNeg, .inr (.inr (.inr (.inr (fun i => if i < n.toNatClampNeg then some (H.size + 1 + i) else none))))))]) ++ ((List.range n.toNatClampNeg).map (fun i => H.size + 1 + i)).map (fun a => (a, .inl (cy, z)))) := by
    have hD1 := hD.push (e := .inl (cA, n.toNatClampNeg, .inr (.inr (.inr (.inr (fun i => if i < n.toNatClampNeg then some (H.size + 1 + i) else none)))))) hP rfl (hA _ hS.1)
    generalize hW1 : (X ++ va_pl L f) ++ [(H.size, .inl (cA, n.toNatClampNeg, .inr (.inr (.inr (.inr (fun i => if i < n.toNatClampNeg then some (H.size + 1 + i) else none))))))] = W1 at hD1 hP1 ⊢
    have hle : ∀ (k9 : Nat) (x : Nat × va_E), W1[k9]? = some x → x.1 ≤ H.size := fun k9 x hx => by
      rw [← hW1] at hx
      by_cases hl : k9 < (X ++ va_pl L f).length
      · rw [List.getElem?_append_left hl] at hx
        exact Nat.le_of_lt ((hP k9 x hx).lt)
      · rw [List.getElem?_append_right (by omega)] at hx
        have h0 : k9 - (X ++ va_pl L f).length < 1 := (List.getElem?_eq_some_iff.mp hx).1
        rw [show k9 - (X ++ va_pl L f).length = 0 by omega] at hx
        cases hx
        exact Nat.le_refl _
    have hr : ∀ (k9 : Nat) (x : Nat × va_E), (((List.range n.toNatClampNeg).map (fun i => H.size + 1 + i)).map (fun a => ((a, .inl (cy, z)) : Nat × va_E)))[k9]? = some x → x.1 = H.size + 1 + k9 := fun k9 x hx => by
      rw [List.getElem?_map, List.getElem?_map] at hx
      by_cases h9 : k9 < n.toNatClampNeg
      · rw [List.getElem?_range h9] at hx
        cases hx
        rfl
      · have hn0 : (List.range n.toNatClampNeg)[k9]? = none := List.getElem?_eq_none (by rw [List.length_range]; omega)
        rw [hn0] at hx
        cases hx
    refine ⟨fun i j x y hi hj hxy => ?_, fun k9 x hx => ?_⟩
    · by_cases h1 : i < W1.length <;> by_cases h2 : j < W1.length
      · rw [List.getElem?_append_left h1] at hi
        rw [List.getElem?_append_left h2] at hj
        exact hD1.1 i j x y hi hj hxy
      · rw [List.getElem?_append_left h1] at hi
        rw [List.getElem?_append_right (by omega)] at hj
        have := hle _ _ hi
        have := hr _ _ hj
        omega
      · rw [List.getElem?_append_right (by omega)] at hi
        rw [List.getElem?_append_left h2] at hj
        have := hle _ _ hj
        have := hr _ _ hi
        omega
      · rw [List.getElem?_append_right (by omega)] at hi hj
        have := hr _ _ hi
        have := hr _ _ hj
        omega
    · by_cases h1 : k9 < W1.length
      · rw [List.getElem?_append_left h1] at hx
        exact hD1.2 k9 x hx
      · rw [List.getElem?_append_right (by omega)] at hx
        have := hr _ _ hx
        exact hA _ (by have := hS.1; omega)
  have hAr : ArrOfT s cA (.array ty) := fun N9 z9 => by
    obtain ⟨-, k9, hk9, cm9, hkk9⟩ := (hO 0 0 0).1
    exact ⟨(fun q hq => by cases hq), k9, hk9, cm9, hkk9⟩
  have hK2 : va_K D cl (tys ++ [(cA, .array ty)]) s := ⟨hK.1, fun k9 x hx => by
    by_cases hl : k9 < tys.length
    · rw [List.getElem?_append_left hl] at hx
      exact hK.2 k9 x hx
    · rw [List.getElem?_append_right (by omega)] at hx
      have h0 : k9 - tys.length < 1 := (List.getElem?_eq_some_iff.mp hx).1
      rw [show k9 - tys.length = 0 by omega] at hx
      cases hx
      exact ⟨hAr, fA⟩⟩
  obtain ⟨t, a1, b1⟩ := kk H.size (fun i => H.size + 1 + i) cA F.heap (fun i j _ _ h => by have h9 : H.size + 1 + i = H.size + 1 + j := h; omega) hnl hK2 (by rw [← vr_rows hnm]; exact vr_lay hP2) (by rw [← vr_rows hnm]; exact vr_layD hD2) ⟨by rw [f1]; have := hS.1; omega, fun x h1 h2 => (hold x (Nat.lt_of_lt_of_le h1 hS.1)).trans (hS.2.1 x h1 h2), hS.2.2⟩ F rfl X'
  refine ⟨t, step t ?_, b1⟩
  have e : T.heap.size = H.size := by rw [hT]
  rw [e]
  exact a1
end VGM
/-! ===== END ===== -/

/-! ===== BEGIN printed: names, fields, word lists, decode rows ===== -/
def RX0 : String := "SayingsMerged$Distances"
def TX0 : u_T := fun k => match k with
  | 0 => ("SayingsMerged$Distances", "costs", "[I", true)
  | 1 => ("SayingsMerged$Distances", "alike", "Z", false)
  | _ => ("SayingsMerged$Distances", "lengths", "[I", true)
def tyX0 : Nat → FieldType := fun k => match k with
  | 0 => .array .int
  | 1 => .boolean
  | _ => .array .int
abbrev wsX00 : List Cond := u_ws RX0 TX0 3
theorem nmX0 : ∀ a, a < 3 → ∀ b, b < 3 → a ≠ b → (TX0 a).2.1 ≠ (TX0 b).2.1 := by decide +kernel
theorem tyX0_ok : ∀ k, k < 3 → parseFieldDescriptor (TX0 k).2.2.1 = some (tyX0 k) := by decide +kernel
abbrev cX0_init : ByteArray := prog_2_method_1_code
def yX0_init : MethodName := ⟨RX0, "<init>", "()V"⟩
abbrev cX0_findLengths : ByteArray := prog_2_method_2_code
def yX0_findLengths : MethodName := ⟨RX0, "findLengths", "()V"⟩
abbrev cX0_findFars : ByteArray := prog_2_method_3_code
def yX0_findFars : MethodName := ⟨RX0, "findFars", "(J[J)V"⟩
abbrev cX0_spread : ByteArray := prog_2_method_4_code
def yX0_spread : MethodName := ⟨RX0, "spread", "([JII)V"⟩
def RX1 : String := "SayingsMerged$Reader"
def TX1 : u_T := fun k => match k with
  | 0 => ("SayingsMerged$Reader", "text", "LSayingsMerged$Text;", true)
  | 1 => ("SayingsMerged$Reader", "at", "I", false)
  | 2 => ("SayingsMerged$Reader", "token", "I", false)
  | _ => ("SayingsMerged$Reader", "fault", "I", false)
def tyX1 : Nat → FieldType := fun k => match k with
  | 0 => .object "SayingsMerged$Text"
  | 1 => .int
  | 2 => .int
  | _ => .int
abbrev wsX10 : List Cond := u_ws RX1 TX1 4
theorem nmX1 : ∀ a, a < 4 → ∀ b, b < 4 → a ≠ b → (TX1 a).2.1 ≠ (TX1 b).2.1 := by decide +kernel
theorem tyX1_ok : ∀ k, k < 4 → parseFieldDescriptor (TX1 k).2.2.1 = some (tyX1 k) := by decide +kernel
abbrev cX1_init : ByteArray := prog_3_method_1_code
def yX1_init : MethodName := ⟨RX1, "<init>", "(LSayingsMerged$Text;)V"⟩
abbrev cX1_isFaulty : ByteArray := prog_3_method_2_code
def yX1_isFaulty : MethodName := ⟨RX1, "isFaulty", "()Z"⟩
abbrev cX1_readItems : ByteArray := prog_3_method_3_code
def yX1_readItems : MethodName := ⟨RX1, "readItems", "(LSayingsMerged$Told;)V"⟩
abbrev cX1_readQuestion : ByteArray := prog_3_method_4_code
def yX1_readQuestion : MethodName := ⟨RX1, "readQuestion", "()J"⟩
abbrev cX1_readItem : ByteArray := prog_3_method_5_code
def yX1_readItem : MethodName := ⟨RX1, "readItem", "(LSayingsMerged$Told;)V"⟩
abbrev cX1_readWeight : ByteArray := prog_3_method_6_code
def yX1_readWeight : MethodName := ⟨RX1, "readWeight", "()I"⟩
abbrev cX1_readSaying : ByteArray := prog_3_method_7_code
def yX1_readSaying : MethodName := ⟨RX1, "readSaying", "(I)J"⟩
abbrev cX1_readBoth : ByteArray := prog_3_method_8_code
def yX1_readBoth : MethodName := ⟨RX1, "readBoth", "(I)J"⟩
abbrev cX1_readOne : ByteArray := prog_3_method_9_code
def yX1_readOne : MethodName := ⟨RX1, "readOne", "(I)J"⟩
abbrev cX1_beginsOne : ByteArray := prog_3_method_10_code
def yX1_beginsOne : MethodName := ⟨RX1, "beginsOne", "(II)Z"⟩
abbrev cX1_expect : ByteArray := prog_3_method_11_code
def yX1_expect : MethodName := ⟨RX1, "expect", "(I)V"⟩
abbrev cX1_fail : ByteArray := prog_3_method_12_code
def yX1_fail : MethodName := ⟨RX1, "fail", "()V"⟩
abbrev cX1_begin : ByteArray := prog_3_method_13_code
def yX1_begin : MethodName := ⟨RX1, "begin", "()V"⟩
abbrev cX1_advance : ByteArray := prog_3_method_14_code
def yX1_advance : MethodName := ⟨RX1, "advance", "()V"⟩
def RX2 : String := "SayingsMerged$Text"
def TX2 : u_T := fun k => match k with
  | 0 => ("SayingsMerged$Text", "bytes", "[I", true)
  | 1 => ("SayingsMerged$Text", "length", "I", false)
  | 2 => ("SayingsMerged$Text", "tokens", "[I", true)
  | _ => ("SayingsMerged$Text", "places", "[I", true)
def tyX2 : Nat → FieldType := fun k => match k with
  | 0 => .array .int
  | 1 => .int
  | 2 => .array .int
  | _ => .array .int
abbrev wsX20 : List Cond := u_ws RX2 TX2 4
theorem nmX2 : ∀ a, a < 4 → ∀ b, b < 4 → a ≠ b → (TX2 a).2.1 ≠ (TX2 b).2.1 := by decide +kernel
theorem tyX2_ok : ∀ k, k < 4 → parseFieldDescriptor (TX2 k).2.2.1 = some (tyX2 k) := by decide +kernel
abbrev cX2_init : ByteArray := prog_4_method_1_code
def yX2_init : MethodName := ⟨RX2, "<init>", "()V"⟩
abbrev cX2_append : ByteArray := prog_4_method_2_code
def yX2_append : MethodName := ⟨RX2, "append", "(I)V"⟩
abbrev cX2_findTokens : ByteArray := prog_4_method_3_code
def yX2_findTokens : MethodName := ⟨RX2, "findTokens", "()V"⟩
abbrev cX2_beginsToken : ByteArray := prog_4_method_4_code
def yX2_beginsToken : MethodName := ⟨RX2, "beginsToken", "(I)Z"⟩
abbrev cX2_tokenAt : ByteArray := prog_4_method_5_code
def yX2_tokenAt : MethodName := ⟨RX2, "tokenAt", "(I)I"⟩
abbrev cX2_wordAt : ByteArray := prog_4_method_6_code
def yX2_wordAt : MethodName := ⟨RX2, "wordAt", "(I)I"⟩
abbrev cX2_isSmall : ByteArray := prog_4_method_7_code
def yX2_isSmall : MethodName := ⟨RX2, "isSmall", "(I)Z"⟩
abbrev cX2_isSign : ByteArray := prog_4_method_8_code
def yX2_isSign : MethodName := ⟨RX2, "isSign", "(I)Z"⟩
def RX3 : String := "SayingsMerged$Told"
def TX3 : u_T := fun k => match k with
  | 0 => ("SayingsMerged$Told", "laws", "I", false)
  | 1 => ("SayingsMerged$Told", "there", "J", false)
  | 2 => ("SayingsMerged$Told", "sayers", "I", false)
  | 3 => ("SayingsMerged$Told", "says", "[J", true)
  | _ => ("SayingsMerged$Told", "weights", "[I", true)
def tyX3 : Nat → FieldType := fun k => match k with
  | 0 => .int
  | 1 => .long
  | 2 => .int
  | 3 => .array .long
  | _ => .array .int
abbrev wsX30 : List Cond := u_ws RX3 TX3 5
theorem nmX3 : ∀ a, a < 5 → ∀ b, b < 5 → a ≠ b → (TX3 a).2.1 ≠ (TX3 b).2.1 := by decide +kernel
theorem tyX3_ok : ∀ k, k < 5 → parseFieldDescriptor (TX3 k).2.2.1 = some (tyX3 k) := by decide +kernel
abbrev cX3_init : ByteArray := prog_5_method_1_code
def yX3_init : MethodName := ⟨RX3, "<init>", "()V"⟩
abbrev cX3_empty : ByteArray := prog_5_method_2_code
def yX3_empty : MethodName := ⟨RX3, "empty", "()V"⟩
abbrev cX3_addLaw : ByteArray := prog_5_method_3_code
def yX3_addLaw : MethodName := ⟨RX3, "addLaw", "(J)V"⟩
abbrev cX3_addSayer : ByteArray := prog_5_method_4_code
def yX3_addSayer : MethodName := ⟨RX3, "addSayer", "(IJ)V"⟩
abbrev cX3_allWeights : ByteArray := prog_5_method_5_code
def yX3_allWeights : MethodName := ⟨RX3, "allWeights", "()I"⟩
abbrev cX3_saidByOthers : ByteArray := prog_5_method_6_code
def yX3_saidByOthers : MethodName := ⟨RX3, "saidByOthers", "(I)J"⟩
def RX4 : String := "SayingsMerged"
def TX4 : u_T := fun k => match k with
  | 0 => ("SayingsMerged", "text", "LSayingsMerged$Text;", true)
  | 1 => ("SayingsMerged", "reader", "LSayingsMerged$Reader;", true)
  | 2 => ("SayingsMerged", "told", "LSayingsMerged$Told;", false)
  | 3 => ("SayingsMerged", "spare", "LSayingsMerged$Told;", false)
  | 4 => ("SayingsMerged", "asked", "J", false)
  | 5 => ("SayingsMerged", "distances", "LSayingsMerged$Distances;", true)
  | 6 => ("SayingsMerged", "fars", "[[J", true)
  | 7 => ("SayingsMerged", "common", "[J", true)
  | 8 => ("SayingsMerged", "others", "[J", true)
  | 9 => ("SayingsMerged", "scale", "[J", true)
  | _ => ("SayingsMerged", "traced", "J", false)
def tyX4 : Nat → FieldType := fun k => match k with
  | 0 => .object "SayingsMerged$Text"
  | 1 => .object "SayingsMerged$Reader"
  | 2 => .object "SayingsMerged$Told"
  | 3 => .object "SayingsMerged$Told"
  | 4 => .long
  | 5 => .object "SayingsMerged$Distances"
  | 6 => .array (.array .long)
  | 7 => .array .long
  | 8 => .array .long
  | 9 => .array .long
  | _ => .long
abbrev wsX40 : List Cond := u_ws RX4 TX4 11
theorem nmX4 : ∀ a, a < 11 → ∀ b, b < 11 → a ≠ b → (TX4 a).2.1 ≠ (TX4 b).2.1 := by decide +kernel
theorem tyX4_ok : ∀ k, k < 11 → parseFieldDescriptor (TX4 k).2.2.1 = some (tyX4 k) := by decide +kernel
abbrev cX4_init : ByteArray := prog_1_method_1_code
def yX4_init : MethodName := ⟨RX4, "<init>", "()V"⟩
abbrev cX4_type : ByteArray := prog_1_method_2_code
def yX4_type : MethodName := ⟨RX4, "type", "(JI)I"⟩
abbrev cX4_clear : ByteArray := prog_1_method_3_code
def yX4_clear : MethodName := ⟨RX4, "clear", "()I"⟩
abbrev cX4_tell : ByteArray := prog_1_method_4_code
def yX4_tell : MethodName := ⟨RX4, "tell", "()I"⟩
abbrev cX4_question : ByteArray := prog_1_method_5_code
def yX4_question : MethodName := ⟨RX4, "question", "()I"⟩
abbrev cX4_worlds : ByteArray := prog_1_method_6_code
def yX4_worlds : MethodName := ⟨RX4, "worlds", "(II)J"⟩
abbrev cX4_cost : ByteArray := prog_1_method_7_code
def yX4_cost : MethodName := ⟨RX4, "cost", "(II)I"⟩
abbrev cX4_measure : ByteArray := prog_1_method_8_code
def yX4_measure : MethodName := ⟨RX4, "measure", "(I)I"⟩
abbrev cX4_apart : ByteArray := prog_1_method_9_code
def yX4_apart : MethodName := ⟨RX4, "apart", "(II)I"⟩
abbrev cX4_burden : ByteArray := prog_1_method_10_code
def yX4_burden : MethodName := ⟨RX4, "burden", "(II)I"⟩
abbrev cX4_merged : ByteArray := prog_1_method_11_code
def yX4_merged : MethodName := ⟨RX4, "merged", "(I)J"⟩
abbrev cX4_value : ByteArray := prog_1_method_12_code
def yX4_value : MethodName := ⟨RX4, "value", "(II)I"⟩
abbrev cX4_held : ByteArray := prog_1_method_13_code
def yX4_held : MethodName := ⟨RX4, "held", "(I)I"⟩
abbrev cX4_changed : ByteArray := prog_1_method_14_code
def yX4_changed : MethodName := ⟨RX4, "changed", "(II)J"⟩
abbrev cX4_quarrels : ByteArray := prog_1_method_15_code
def yX4_quarrels : MethodName := ⟨RX4, "quarrels", "(I)I"⟩
abbrev cX4_sets : ByteArray := prog_1_method_16_code
def yX4_sets : MethodName := ⟨RX4, "sets", "(II)I"⟩
abbrev cX4_free : ByteArray := prog_1_method_17_code
def yX4_free : MethodName := ⟨RX4, "free", "()I"⟩
abbrev cX4_share : ByteArray := prog_1_method_18_code
def yX4_share : MethodName := ⟨RX4, "share", "(II)I"⟩
abbrev cX4_lie : ByteArray := prog_1_method_19_code
def yX4_lie : MethodName := ⟨RX4, "lie", "(III)I"⟩
abbrev cX4_worth : ByteArray := prog_1_method_20_code
def yX4_worth : MethodName := ⟨RX4, "worth", "(II)I"⟩
abbrev cX4_count : ByteArray := prog_1_method_21_code
def yX4_count : MethodName := ⟨RX4, "count", "(I)I"⟩
abbrev cX4_trace : ByteArray := prog_1_method_22_code
def yX4_trace : MethodName := ⟨RX4, "trace", "()J"⟩
abbrev cX4_isSayer : ByteArray := prog_1_method_23_code
def yX4_isSayer : MethodName := ⟨RX4, "isSayer", "(I)Z"⟩
abbrev cX4_isWorld : ByteArray := prog_1_method_24_code
def yX4_isWorld : MethodName := ⟨RX4, "isWorld", "(I)Z"⟩
abbrev cX4_isWay : ByteArray := prog_1_method_25_code
def yX4_isWay : MethodName := ⟨RX4, "isWay", "(I)Z"⟩
abbrev cX4_isLetter : ByteArray := prog_1_method_26_code
def yX4_isLetter : MethodName := ⟨RX4, "isLetter", "(I)Z"⟩
abbrev cX4_findFars : ByteArray := prog_1_method_27_code
def yX4_findFars : MethodName := ⟨RX4, "findFars", "()V"⟩
abbrev cX4_burdenOf : ByteArray := prog_1_method_28_code
def yX4_burdenOf : MethodName := ⟨RX4, "burdenOf", "(II)J"⟩
abbrev cX4_least : ByteArray := prog_1_method_29_code
def yX4_least : MethodName := ⟨RX4, "least", "(J[J)J"⟩
abbrev cX4_isIn : ByteArray := prog_1_method_30_code
def yX4_isIn : MethodName := ⟨RX4, "isIn", "(JI)Z"⟩
abbrev cX4_goneAlong : ByteArray := prog_1_method_31_code
def yX4_goneAlong : MethodName := ⟨RX4, "goneAlong", "(JJ)J"⟩
abbrev cX4_mergedBy : ByteArray := prog_1_method_32_code
def yX4_mergedBy : MethodName := ⟨RX4, "mergedBy", "(I)J"⟩
abbrev cX4_weighed : ByteArray := prog_1_method_33_code
def yX4_weighed : MethodName := ⟨RX4, "weighed", "(III)J"⟩
abbrev cX4_joined : ByteArray := prog_1_method_34_code
def yX4_joined : MethodName := ⟨RX4, "joined", "(IJJ)J"⟩
abbrev cX4_putIntoRow : ByteArray := prog_1_method_35_code
def yX4_putIntoRow : MethodName := ⟨RX4, "putIntoRow", "(JJ)J"⟩
abbrev cX4_lossOf : ByteArray := prog_1_method_36_code
def yX4_lossOf : MethodName := ⟨RX4, "lossOf", "(IJ)J"⟩
abbrev cX4_bestLie : ByteArray := prog_1_method_37_code
def yX4_bestLie : MethodName := ⟨RX4, "bestLie", "(IIJZ)I"⟩
abbrev cX4_mergedWithTerm : ByteArray := prog_1_method_38_code
def yX4_mergedWithTerm : MethodName := ⟨RX4, "mergedWithTerm", "(IIII)J"⟩
abbrev cX4_setsOfSayers : ByteArray := prog_1_method_39_code
def yX4_setsOfSayers : MethodName := ⟨RX4, "setsOfSayers", "()I"⟩
abbrev cX4_findCommon : ByteArray := prog_1_method_40_code
def yX4_findCommon : MethodName := ⟨RX4, "findCommon", "()V"⟩
abbrev cX4_isQuarrel : ByteArray := prog_1_method_41_code
def yX4_isQuarrel : MethodName := ⟨RX4, "isQuarrel", "(I)Z"⟩
abbrev cX4_isListed : ByteArray := prog_1_method_42_code
def yX4_isListed : MethodName := ⟨RX4, "isListed", "(II)Z"⟩
abbrev cX4_isLeastQuarrel : ByteArray := prog_1_method_43_code
def yX4_isLeastQuarrel : MethodName := ⟨RX4, "isLeastQuarrel", "(I)Z"⟩
abbrev cX4_isGreatestAgreed : ByteArray := prog_1_method_44_code
def yX4_isGreatestAgreed : MethodName := ⟨RX4, "isGreatestAgreed", "(I)Z"⟩
abbrev cX4_ordersTurnedBy : ByteArray := prog_1_method_45_code
def yX4_ordersTurnedBy : MethodName := ⟨RX4, "ordersTurnedBy", "(I)I"⟩
abbrev cX4_commonDivisor : ByteArray := prog_1_method_46_code
def yX4_commonDivisor : MethodName := ⟨RX4, "commonDivisor", "(II)I"⟩
abbrev cX4_sayerWorth : ByteArray := prog_1_method_47_code
def yX4_sayerWorth : MethodName := ⟨RX4, "sayerWorth", "(I)I"⟩
abbrev cX4_weightyWorth : ByteArray := prog_1_method_48_code
def yX4_weightyWorth : MethodName := ⟨RX4, "weightyWorth", "(I)I"⟩
abbrev cX4_loneWorth : ByteArray := prog_1_method_49_code
def yX4_loneWorth : MethodName := ⟨RX4, "loneWorth", "(I)I"⟩
abbrev cX4_firmWorth : ByteArray := prog_1_method_50_code
def yX4_firmWorth : MethodName := ⟨RX4, "firmWorth", "(I)I"⟩
def RX5 : String := "SayingsMergedModel"
def TX5 : u_T := fun k => match k with
  | 0 => ("SayingsMergedModel", "length", "I", false)
  | 1 => ("SayingsMergedModel", "text", "[B", true)
  | 2 => ("SayingsMergedModel", "laws", "I", false)
  | 3 => ("SayingsMergedModel", "sayers", "I", false)
  | 4 => ("SayingsMergedModel", "there", "J", false)
  | 5 => ("SayingsMergedModel", "question", "J", false)
  | 6 => ("SayingsMergedModel", "weight", "[I", true)
  | 7 => ("SayingsMergedModel", "says", "[J", true)
  | 8 => ("SayingsMergedModel", "cost", "[I", true)
  | 9 => ("SayingsMergedModel", "measure", "I", false)
  | 10 => ("SayingsMergedModel", "trace", "J", false)
  | 11 => ("SayingsMergedModel", "readLaws", "I", false)
  | 12 => ("SayingsMergedModel", "readSayers", "I", false)
  | 13 => ("SayingsMergedModel", "readThere", "J", false)
  | 14 => ("SayingsMergedModel", "readWeight", "[I", true)
  | 15 => ("SayingsMergedModel", "readSays", "[J", true)
  | 16 => ("SayingsMergedModel", "begin", "I", false)
  | 17 => ("SayingsMergedModel", "end", "I", false)
  | 18 => ("SayingsMergedModel", "sort", "I", false)
  | 19 => ("SayingsMergedModel", "open", "I", false)
  | 20 => ("SayingsMergedModel", "opened", "[I", true)
  | 21 => ("SayingsMergedModel", "level", "I", false)
  | 22 => ("SayingsMergedModel", "any", "[J", true)
  | 23 => ("SayingsMergedModel", "all", "[J", true)
  | 24 => ("SayingsMergedModel", "said", "J", false)
  | 25 => ("SayingsMergedModel", "burdens", "[I", true)
  | 26 => ("SayingsMergedModel", "best", "[I", true)
  | 27 => ("SayingsMergedModel", "own", "[I", true)
  | _ => ("SayingsMergedModel", "truth", "[I", true)
def tyX5 : Nat → FieldType := fun k => match k with
  | 0 => .int
  | 1 => .array .byte
  | 2 => .int
  | 3 => .int
  | 4 => .long
  | 5 => .long
  | 6 => .array .int
  | 7 => .array .long
  | 8 => .array .int
  | 9 => .int
  | 10 => .long
  | 11 => .int
  | 12 => .int
  | 13 => .long
  | 14 => .array .int
  | 15 => .array .long
  | 16 => .int
  | 17 => .int
  | 18 => .int
  | 19 => .int
  | 20 => .array .int
  | 21 => .int
  | 22 => .array .long
  | 23 => .array .long
  | 24 => .long
  | 25 => .array .int
  | 26 => .array .int
  | 27 => .array .int
  | _ => .array .int
abbrev wsX50 : List Cond := u_ws RX5 TX5 29
theorem nmX5 : ∀ a, a < 29 → ∀ b, b < 29 → a ≠ b → (TX5 a).2.1 ≠ (TX5 b).2.1 := by decide +kernel
theorem tyX5_ok : ∀ k, k < 29 → parseFieldDescriptor (TX5 k).2.2.1 = some (tyX5 k) := by decide +kernel
abbrev cX5_init : ByteArray := prog_7_method_1_code
def yX5_init : MethodName := ⟨RX5, "<init>", "()V"⟩
abbrev cX5_in : ByteArray := prog_7_method_2_code
def yX5_in : MethodName := ⟨RX5, "in", "(JJJ)Z"⟩
abbrev cX5_has : ByteArray := prog_7_method_3_code
def yX5_has : MethodName := ⟨RX5, "has", "(JI)Z"⟩
abbrev cX5_many : ByteArray := prog_7_method_4_code
def yX5_many : MethodName := ⟨RX5, "many", "(J)I"⟩
abbrev cX5_type : ByteArray := prog_7_method_5_code
def yX5_type : MethodName := ⟨RX5, "type", "(JI)I"⟩
abbrev cX5_clear : ByteArray := prog_7_method_6_code
def yX5_clear : MethodName := ⟨RX5, "clear", "()I"⟩
abbrev cX5_isLow : ByteArray := prog_7_method_7_code
def yX5_isLow : MethodName := ⟨RX5, "isLow", "(I)Z"⟩
abbrev cX5_isWord : ByteArray := prog_7_method_8_code
def yX5_isWord : MethodName := ⟨RX5, "isWord", "(III)Z"⟩
abbrev cX5_token : ByteArray := prog_7_method_9_code
def yX5_token : MethodName := ⟨RX5, "token", "()V"⟩
abbrev cX5_lettered : ByteArray := prog_7_method_10_code
def yX5_lettered : MethodName := ⟨RX5, "lettered", "(I)J"⟩
abbrev cX5_saying : ByteArray := prog_7_method_11_code
def yX5_saying : MethodName := ⟨RX5, "saying", "()I"⟩
abbrev cX5_ends : ByteArray := prog_7_method_12_code
def yX5_ends : MethodName := ⟨RX5, "ends", "(J)V"⟩
abbrev cX5_fault : ByteArray := prog_7_method_13_code
def yX5_fault : MethodName := ⟨RX5, "fault", "()I"⟩
abbrev cX5_tell : ByteArray := prog_7_method_14_code
def yX5_tell : MethodName := ⟨RX5, "tell", "()I"⟩
abbrev cX5_question : ByteArray := prog_7_method_15_code
def yX5_question : MethodName := ⟨RX5, "question", "()I"⟩
abbrev cX5_isSayer : ByteArray := prog_7_method_16_code
def yX5_isSayer : MethodName := ⟨RX5, "isSayer", "(I)Z"⟩
abbrev cX5_isWorld : ByteArray := prog_7_method_17_code
def yX5_isWorld : MethodName := ⟨RX5, "isWorld", "(I)Z"⟩
abbrev cX5_worlds : ByteArray := prog_7_method_18_code
def yX5_worlds : MethodName := ⟨RX5, "worlds", "(II)J"⟩
abbrev cX5_cost : ByteArray := prog_7_method_19_code
def yX5_cost : MethodName := ⟨RX5, "cost", "(II)I"⟩
abbrev cX5_measure : ByteArray := prog_7_method_20_code
def yX5_measure : MethodName := ⟨RX5, "measure", "(I)I"⟩
abbrev cX5_apartOf : ByteArray := prog_7_method_21_code
def yX5_apartOf : MethodName := ⟨RX5, "apartOf", "(II)I"⟩
abbrev cX5_apart : ByteArray := prog_7_method_22_code
def yX5_apart : MethodName := ⟨RX5, "apart", "(II)I"⟩
abbrev cX5_farOf : ByteArray := prog_7_method_23_code
def yX5_farOf : MethodName := ⟨RX5, "farOf", "(IJ)I"⟩
abbrev cX5_burden : ByteArray := prog_7_method_24_code
def yX5_burden : MethodName := ⟨RX5, "burden", "(II)I"⟩
abbrev cX5_lays : ByteArray := prog_7_method_25_code
def yX5_lays : MethodName := ⟨RX5, "lays", "(IJ)V"⟩
abbrev cX5_laysAll : ByteArray := prog_7_method_26_code
def yX5_laysAll : MethodName := ⟨RX5, "laysAll", "()V"⟩
abbrev cX5_sumOf : ByteArray := prog_7_method_27_code
def yX5_sumOf : MethodName := ⟨RX5, "sumOf", "(I)I"⟩
abbrev cX5_worstOf : ByteArray := prog_7_method_28_code
def yX5_worstOf : MethodName := ⟨RX5, "worstOf", "(I)I"⟩
abbrev cX5_rows : ByteArray := prog_7_method_29_code
def yX5_rows : MethodName := ⟨RX5, "rows", "(II)V"⟩
abbrev cX5_against : ByteArray := prog_7_method_30_code
def yX5_against : MethodName := ⟨RX5, "against", "()I"⟩
abbrev cX5_mergedBy : ByteArray := prog_7_method_31_code
def yX5_mergedBy : MethodName := ⟨RX5, "mergedBy", "(I)J"⟩
abbrev cX5_merged : ByteArray := prog_7_method_32_code
def yX5_merged : MethodName := ⟨RX5, "merged", "(I)J"⟩
abbrev cX5_value : ByteArray := prog_7_method_33_code
def yX5_value : MethodName := ⟨RX5, "value", "(II)I"⟩
abbrev cX5_held : ByteArray := prog_7_method_34_code
def yX5_held : MethodName := ⟨RX5, "held", "(I)I"⟩
abbrev cX5_nearest : ByteArray := prog_7_method_35_code
def yX5_nearest : MethodName := ⟨RX5, "nearest", "(JJ)J"⟩
abbrev cX5_changed : ByteArray := prog_7_method_36_code
def yX5_changed : MethodName := ⟨RX5, "changed", "(II)J"⟩
abbrev cX5_isQuarrel : ByteArray := prog_7_method_37_code
def yX5_isQuarrel : MethodName := ⟨RX5, "isQuarrel", "(I)Z"⟩
abbrev cX5_isSet : ByteArray := prog_7_method_38_code
def yX5_isSet : MethodName := ⟨RX5, "isSet", "(I)Z"⟩
abbrev cX5_quarrels : ByteArray := prog_7_method_39_code
def yX5_quarrels : MethodName := ⟨RX5, "quarrels", "(I)I"⟩
abbrev cX5_isTold : ByteArray := prog_7_method_40_code
def yX5_isTold : MethodName := ⟨RX5, "isTold", "(II)Z"⟩
abbrev cX5_sets : ByteArray := prog_7_method_41_code
def yX5_sets : MethodName := ⟨RX5, "sets", "(II)I"⟩
abbrev cX5_free : ByteArray := prog_7_method_42_code
def yX5_free : MethodName := ⟨RX5, "free", "()I"⟩
abbrev cX5_orders : ByteArray := prog_7_method_43_code
def yX5_orders : MethodName := ⟨RX5, "orders", "(I)I"⟩
abbrev cX5_share : ByteArray := prog_7_method_44_code
def yX5_share : MethodName := ⟨RX5, "share", "(II)I"⟩
abbrev cX5_loss : ByteArray := prog_7_method_45_code
def yX5_loss : MethodName := ⟨RX5, "loss", "(J)I"⟩
abbrev cX5_laysTerm : ByteArray := prog_7_method_46_code
def yX5_laysTerm : MethodName := ⟨RX5, "laysTerm", "(III)V"⟩
abbrev cX5_lie : ByteArray := prog_7_method_47_code
def yX5_lie : MethodName := ⟨RX5, "lie", "(III)I"⟩
abbrev cX5_plain : ByteArray := prog_7_method_48_code
def yX5_plain : MethodName := ⟨RX5, "plain", "(I)I"⟩
abbrev cX5_weighty : ByteArray := prog_7_method_49_code
def yX5_weighty : MethodName := ⟨RX5, "weighty", "(I)I"⟩
abbrev cX5_worth : ByteArray := prog_7_method_50_code
def yX5_worth : MethodName := ⟨RX5, "worth", "(II)I"⟩
abbrev cX5_count : ByteArray := prog_7_method_51_code
def yX5_count : MethodName := ⟨RX5, "count", "(I)I"⟩
abbrev cX5_trace : ByteArray := prog_7_method_52_code
def yX5_trace : MethodName := ⟨RX5, "trace", "()J"⟩
def RJ6 : String := "java/lang/Integer"
def TJ6 : u_T := fun k => match k with
  | _ => ("", "", "", false)
def tyJ6 : Nat → FieldType := fun k => match k with
  | _ => .int
abbrev wsJ60 : List Cond := u_ws RJ6 TJ6 0
theorem nmJ6 : ∀ a, a < 0 → ∀ b, b < 0 → a ≠ b → (TJ6 a).2.1 ≠ (TJ6 b).2.1 := by decide +kernel
theorem tyJ6_ok : ∀ k, k < 0 → parseFieldDescriptor (TJ6 k).2.2.1 = some (tyJ6 k) := by decide +kernel
abbrev cJ6_numberOfTrailingZeros_0f7a4 : ByteArray := prog_8_method_48_code
def yJ6_numberOfTrailingZeros_0f7a4 : MethodName := ⟨RJ6, "numberOfTrailingZeros", "(I)I"⟩
abbrev cJ6_bitCount_0f7a4 : ByteArray := prog_8_method_49_code
def yJ6_bitCount_0f7a4 : MethodName := ⟨RJ6, "bitCount", "(I)I"⟩
def RJ13 : String := "java/lang/Long"
def TJ13 : u_T := fun k => match k with
  | _ => ("", "", "", false)
def tyJ13 : Nat → FieldType := fun k => match k with
  | _ => .int
abbrev wsJ130 : List Cond := u_ws RJ13 TJ13 0
theorem nmJ13 : ∀ a, a < 0 → ∀ b, b < 0 → a ≠ b → (TJ13 a).2.1 ≠ (TJ13 b).2.1 := by decide +kernel
theorem tyJ13_ok : ∀ k, k < 0 → parseFieldDescriptor (TJ13 k).2.2.1 = some (tyJ13 k) := by decide +kernel
abbrev cJ13_bitCount_95d88 : ByteArray := prog_9_method_50_code
def yJ13_bitCount_95d88 : MethodName := ⟨RJ13, "bitCount", "(J)I"⟩
def RJ9 : String := "java/lang/Math"
def TJ9 : u_T := fun k => match k with
  | _ => ("", "", "", false)
def tyJ9 : Nat → FieldType := fun k => match k with
  | _ => .int
abbrev wsJ90 : List Cond := u_ws RJ9 TJ9 0
theorem nmJ9 : ∀ a, a < 0 → ∀ b, b < 0 → a ≠ b → (TJ9 a).2.1 ≠ (TJ9 b).2.1 := by decide +kernel
theorem tyJ9_ok : ∀ k, k < 0 → parseFieldDescriptor (TJ9 k).2.2.1 = some (tyJ9 k) := by decide +kernel
abbrev cJ9_max_f86c9 : ByteArray := prog_10_method_66_code
def yJ9_max_f86c9 : MethodName := ⟨RJ9, "max", "(JJ)J"⟩
abbrev cJ9_min_f86c9 : ByteArray := prog_10_method_70_code
def yJ9_min_f86c9 : MethodName := ⟨RJ9, "min", "(JJ)J"⟩
def RJ7 : String := "java/util/Arrays"
def TJ7 : u_T := fun k => match k with
  | _ => ("", "", "", false)
def tyJ7 : Nat → FieldType := fun k => match k with
  | _ => .int
abbrev wsJ70 : List Cond := u_ws RJ7 TJ7 0
theorem nmJ7 : ∀ a, a < 0 → ∀ b, b < 0 → a ≠ b → (TJ7 a).2.1 ≠ (TJ7 b).2.1 := by decide +kernel
theorem tyJ7_ok : ∀ k, k < 0 → parseFieldDescriptor (TJ7 k).2.2.1 = some (tyJ7 k) := by decide +kernel
abbrev cJ7_fill_d0a16 : ByteArray := prog_11_method_101_code
def yJ7_fill_d0a16 : MethodName := ⟨RJ7, "fill", "([JJ)V"⟩
abbrev cJ7_fill_53178 : ByteArray := prog_11_method_103_code
def yJ7_fill_53178 : MethodName := ⟨RJ7, "fill", "([II)V"⟩
def RL : String := "SayingsMergedLaw"
abbrev cL_law : ByteArray := code
def yL_law : MethodName := ⟨RL, "law", "([I)Z"⟩
def wsJ7_fill_53178 : List Cond := .code yJ7_fill_53178 cJ7_fill_53178 4 none :: ([])
def wsJ6_bitCount_0f7a4 : List Cond := .code yJ6_bitCount_0f7a4 cJ6_bitCount_0f7a4 1 (some .int) :: ([.constant RJ6 265 (1431655765), .constant RJ6 266 (858993459), .constant RJ6 267 (252645135)])
def wsX0_init : List Cond := .code yX0_init cX0_init 2 none :: ([.methodLink RX0 3 objectInit, .instanceMethod objectInit, .code objectInit ⟨#[0xb1]⟩ 1 none, .arrayClass .int, .fieldLink RX0 9 "SayingsMerged$Distances" "costs" "[I", .fieldLink RX0 21 "SayingsMerged$Distances" "alike" "Z", .fieldLink RX0 25 "SayingsMerged$Distances" "lengths" "[I", .methodLink RX0 15 yJ7_fill_53178, .static yJ7_fill_53178, .initialized RJ7, .code yJ7_fill_53178 cJ7_fill_53178 4 none, .methodLink RX0 28 yJ6_bitCount_0f7a4, .static yJ6_bitCount_0f7a4, .initialized RJ6, .code yJ6_bitCount_0f7a4 cJ6_bitCount_0f7a4 1 (some .int), .constant RJ6 265 (1431655765), .constant RJ6 266 (858993459), .constant RJ6 267 (252645135)] ++ wsX00)
def wsJ6_numberOfTrailingZeros_0f7a4 : List Cond := .code yJ6_numberOfTrailingZeros_0f7a4 cJ6_numberOfTrailingZeros_0f7a4 2 (some .int) :: ([.constant RJ6 264 (65536)])
def wsX0_findLengths : List Cond := .code yX0_findLengths cX0_findLengths 3 none :: ([.fieldLink RX0 25 "SayingsMerged$Distances" "lengths" "[I", .fieldLink RX0 21 "SayingsMerged$Distances" "alike" "Z", .fieldLink RX0 9 "SayingsMerged$Distances" "costs" "[I", .methodLink RX0 34 yJ6_numberOfTrailingZeros_0f7a4, .static yJ6_numberOfTrailingZeros_0f7a4, .initialized RJ6, .code yJ6_numberOfTrailingZeros_0f7a4 cJ6_numberOfTrailingZeros_0f7a4 2 (some .int), .constant RJ6 264 (65536)] ++ wsX00)
def wsJ7_fill_d0a16 : List Cond := .code yJ7_fill_d0a16 cJ7_fill_d0a16 5 none :: ([])
def wsX4_isIn : List Cond := .code yX4_isIn cX4_isIn 3 (some .boolean) :: ([])
def wsX0_spread : List Cond := .code yX0_spread cX0_spread 4 none :: ([.methodLink RX0 50 Lib.MathLoose.min_long.x, .static Lib.MathLoose.min_long.x, .initialized "java/lang/Math", .code Lib.MathLoose.min_long.x Lib.MathLoose.min_long.code 4 (some .long)])
def wsX0_findFars : List Cond := .code yX0_findFars cX0_findFars 7 none :: ([.fieldLink RX0 21 "SayingsMerged$Distances" "alike" "Z", .constantLong RX0 40 (1000), .fieldLink RX0 9 "SayingsMerged$Distances" "costs" "[I", .methodLink RX0 37 yJ7_fill_d0a16, .static yJ7_fill_d0a16, .initialized RJ7, .code yJ7_fill_d0a16 cJ7_fill_d0a16 5 none, .static yX4_isIn, .initialized RX4, .code yX4_isIn cX4_isIn 3 (some .boolean), .methodLink RX0 46 yX0_spread, .static yX0_spread, .initialized RX0, .code yX0_spread cX0_spread 4 none, .methodLink RX0 50 Lib.MathLoose.min_long.x, .static Lib.MathLoose.min_long.x, .initialized "java/lang/Math", .code Lib.MathLoose.min_long.x Lib.MathLoose.min_long.code 4 (some .long)] ++ wsX00)
def wsX1_init : List Cond := .code yX1_init cX1_init 2 none :: ([.methodLink RX1 3 objectInit, .instanceMethod objectInit, .code objectInit ⟨#[0xb1]⟩ 1 none, .fieldLink RX1 9 "SayingsMerged$Reader" "text" "LSayingsMerged$Text;", .fieldLink RX1 15 "SayingsMerged$Reader" "at" "I", .fieldLink RX1 19 "SayingsMerged$Reader" "token" "I", .fieldLink RX1 22 "SayingsMerged$Reader" "fault" "I"] ++ wsX10)
def wsX1_isFaulty : List Cond := .code yX1_isFaulty cX1_isFaulty 1 (some .boolean) :: ([.fieldLink RX1 22 "SayingsMerged$Reader" "fault" "I"] ++ wsX10)
def wsX3_empty : List Cond := .code yX3_empty cX3_empty 1 none :: ([.fieldLink RX3 9 "SayingsMerged$Told" "laws" "I", .constantLong RX3 15 (-1), .fieldLink RX3 17 "SayingsMerged$Told" "there" "J", .fieldLink RX3 21 "SayingsMerged$Told" "sayers" "I"] ++ wsX30)
def wsX2_isSmall : List Cond := .code yX2_isSmall cX2_isSmall 2 (some .boolean) :: ([.fieldLink RX2 15 "SayingsMerged$Text" "length" "I", .fieldLink RX2 9 "SayingsMerged$Text" "bytes" "[I"] ++ wsX20)
def wsX2_beginsToken : List Cond := .code yX2_beginsToken cX2_beginsToken 2 (some .boolean) :: ([.fieldLink RX2 9 "SayingsMerged$Text" "bytes" "[I", .methodLink RX2 33 yX2_isSmall, .instanceMethod yX2_isSmall, .selects RX2 yX2_isSmall yX2_isSmall, .initialized RX2, .code yX2_isSmall cX2_isSmall 2 (some .boolean), .fieldLink RX2 15 "SayingsMerged$Text" "length" "I"] ++ wsX20)
def wsX4_isLetter : List Cond := .code yX4_isLetter cX4_isLetter 1 (some .boolean) :: ([])
def wsX2_wordAt : List Cond := .code yX2_wordAt cX2_wordAt 3 (some .int) :: ([.fieldLink RX2 15 "SayingsMerged$Text" "length" "I", .fieldLink RX2 9 "SayingsMerged$Text" "bytes" "[I", .methodLink RX2 33 yX2_isSmall, .instanceMethod yX2_isSmall, .selects RX2 yX2_isSmall yX2_isSmall, .initialized RX2, .code yX2_isSmall cX2_isSmall 2 (some .boolean), .static yX4_isLetter, .initialized RX4, .code yX4_isLetter cX4_isLetter 1 (some .boolean)] ++ wsX20)
def wsX2_isSign : List Cond := .code yX2_isSign cX2_isSign 1 (some .boolean) :: ([])
def wsX2_tokenAt : List Cond := .code yX2_tokenAt cX2_tokenAt 2 (some .int) :: ([.fieldLink RX2 9 "SayingsMerged$Text" "bytes" "[I", .methodLink RX2 33 yX2_isSmall, .instanceMethod yX2_isSmall, .selects RX2 yX2_isSmall yX2_isSmall, .initialized RX2, .code yX2_isSmall cX2_isSmall 2 (some .boolean), .fieldLink RX2 15 "SayingsMerged$Text" "length" "I", .methodLink RX2 36 yX2_wordAt, .instanceMethod yX2_wordAt, .selects RX2 yX2_wordAt yX2_wordAt, .code yX2_wordAt cX2_wordAt 3 (some .int), .static yX4_isLetter, .initialized RX4, .code yX4_isLetter cX4_isLetter 1 (some .boolean), .methodLink RX2 39 yX2_isSign, .static yX2_isSign, .code yX2_isSign cX2_isSign 1 (some .boolean)] ++ wsX20)
def wsX2_findTokens_r1 : List Cond := [Cond.fieldLink RX2 15 "SayingsMerged$Text" "length" "I", Cond.fieldLink RX2 19 "SayingsMerged$Text" "tokens" "[I", Cond.fieldLink RX2 22 "SayingsMerged$Text" "places" "[I", Cond.methodLink RX2 25 yX2_beginsToken, Cond.instanceMethod yX2_beginsToken, Cond.selects RX2 yX2_beginsToken yX2_beginsToken, Cond.initialized RX2, Cond.code yX2_beginsToken cX2_beginsToken 2 (some .boolean), Cond.fieldLink RX2 9 "SayingsMerged$Text" "bytes" "[I", Cond.methodLink RX2 33 yX2_isSmall, Cond.instanceMethod yX2_isSmall, Cond.selects RX2 yX2_isSmall yX2_isSmall, Cond.code yX2_isSmall cX2_isSmall 2 (some .boolean), Cond.methodLink RX2 29 yX2_tokenAt, Cond.instanceMethod yX2_tokenAt, Cond.selects RX2 yX2_tokenAt yX2_tokenAt, Cond.code yX2_tokenAt cX2_tokenAt 2 (some .int), Cond.methodLink RX2 36 yX2_wordAt, Cond.instanceMethod yX2_wordAt, Cond.selects RX2 yX2_wordAt yX2_wordAt, Cond.code yX2_wordAt cX2_wordAt 3 (some .int), Cond.static yX4_isLetter, Cond.initialized RX4, Cond.code yX4_isLetter cX4_isLetter 1 (some .boolean)]
def wsX2_findTokens_r2 : List Cond := [Cond.methodLink RX2 39 yX2_isSign, Cond.static yX2_isSign, Cond.code yX2_isSign cX2_isSign 1 (some .boolean)]
def wsX2_findTokens : List Cond := .code yX2_findTokens cX2_findTokens 3 none :: ((wsX2_findTokens_r1 ++ wsX2_findTokens_r2) ++ wsX20)
def wsX1_begin_r1 : List Cond := [Cond.fieldLink RX1 9 "SayingsMerged$Reader" "text" "LSayingsMerged$Text;", Cond.fieldLink RX1 15 "SayingsMerged$Reader" "at" "I", Cond.fieldLink RX1 19 "SayingsMerged$Reader" "token" "I", Cond.fieldLink RX1 22 "SayingsMerged$Reader" "fault" "I", Cond.methodLink RX1 99 yX2_findTokens, Cond.instanceMethod yX2_findTokens, Cond.selects RX2 yX2_findTokens yX2_findTokens, Cond.initialized RX2, Cond.code yX2_findTokens cX2_findTokens 3 none, Cond.fieldLink RX2 15 "SayingsMerged$Text" "length" "I", Cond.fieldLink RX2 19 "SayingsMerged$Text" "tokens" "[I", Cond.fieldLink RX2 22 "SayingsMerged$Text" "places" "[I", Cond.methodLink RX2 25 yX2_beginsToken, Cond.instanceMethod yX2_beginsToken, Cond.selects RX2 yX2_beginsToken yX2_beginsToken, Cond.code yX2_beginsToken cX2_beginsToken 2 (some .boolean), Cond.fieldLink RX2 9 "SayingsMerged$Text" "bytes" "[I", Cond.methodLink RX2 33 yX2_isSmall, Cond.instanceMethod yX2_isSmall, Cond.selects RX2 yX2_isSmall yX2_isSmall, Cond.code yX2_isSmall cX2_isSmall 2 (some .boolean), Cond.methodLink RX2 29 yX2_tokenAt, Cond.instanceMethod yX2_tokenAt, Cond.selects RX2 yX2_tokenAt yX2_tokenAt]
def wsX1_begin_r2 : List Cond := [Cond.code yX2_tokenAt cX2_tokenAt 2 (some .int), Cond.methodLink RX2 36 yX2_wordAt, Cond.instanceMethod yX2_wordAt, Cond.selects RX2 yX2_wordAt yX2_wordAt, Cond.code yX2_wordAt cX2_wordAt 3 (some .int), Cond.static yX4_isLetter, Cond.initialized RX4, Cond.code yX4_isLetter cX4_isLetter 1 (some .boolean), Cond.methodLink RX2 39 yX2_isSign, Cond.static yX2_isSign, Cond.code yX2_isSign cX2_isSign 1 (some .boolean)]
def wsX1_begin : List Cond := .code yX1_begin cX1_begin 1 none :: ((wsX1_begin_r1 ++ wsX1_begin_r2) ++ wsX10 ++ wsX20)
def wsX1_advance : List Cond := .code yX1_advance cX1_advance 1 none :: ([.fieldLink RX1 19 "SayingsMerged$Reader" "token" "I", .fieldLink RX1 15 "SayingsMerged$Reader" "at" "I", .fieldLink RX1 9 "SayingsMerged$Reader" "text" "LSayingsMerged$Text;"] ++ wsX10 ++ wsX20)
def wsX1_beginsOne : List Cond := .code yX1_beginsOne cX1_beginsOne 2 (some .boolean) :: ([.static yX4_isLetter, .initialized RX4, .code yX4_isLetter cX4_isLetter 1 (some .boolean)])
def wsX1_fail : List Cond := .code yX1_fail cX1_fail 1 none :: ([.fieldLink RX1 22 "SayingsMerged$Reader" "fault" "I", .fieldLink RX1 9 "SayingsMerged$Reader" "text" "LSayingsMerged$Text;", .fieldLink RX1 15 "SayingsMerged$Reader" "at" "I"] ++ wsX10 ++ wsX20)
def wsX1_expect : List Cond := .code yX1_expect cX1_expect 2 none :: ([.fieldLink RX1 19 "SayingsMerged$Reader" "token" "I", .methodLink RX1 33 yX1_isFaulty, .instanceMethod yX1_isFaulty, .selects RX1 yX1_isFaulty yX1_isFaulty, .initialized RX1, .code yX1_isFaulty cX1_isFaulty 1 (some .boolean), .fieldLink RX1 22 "SayingsMerged$Reader" "fault" "I", .methodLink RX1 70 yX1_fail, .instanceMethod yX1_fail, .selects RX1 yX1_fail yX1_fail, .code yX1_fail cX1_fail 1 none, .fieldLink RX1 9 "SayingsMerged$Reader" "text" "LSayingsMerged$Text;", .fieldLink RX1 15 "SayingsMerged$Reader" "at" "I", .methodLink RX1 52 yX1_advance, .instanceMethod yX1_advance, .selects RX1 yX1_advance yX1_advance, .code yX1_advance cX1_advance 1 none] ++ wsX10 ++ wsX20)
def wsX1_readBoth_r1 : List Cond := [Cond.fieldLink RX1 19 "SayingsMerged$Reader" "token" "I", Cond.methodLink RX1 76 yX1_readOne, Cond.instanceMethod yX1_readOne, Cond.selects RX1 yX1_readOne yX1_readOne, Cond.initialized RX1, Cond.methodLink RX1 33 yX1_isFaulty, Cond.instanceMethod yX1_isFaulty, Cond.selects RX1 yX1_isFaulty yX1_isFaulty, Cond.code yX1_isFaulty cX1_isFaulty 1 (some .boolean), Cond.fieldLink RX1 22 "SayingsMerged$Reader" "fault" "I", Cond.methodLink RX1 52 yX1_advance, Cond.instanceMethod yX1_advance, Cond.selects RX1 yX1_advance yX1_advance, Cond.code yX1_advance cX1_advance 1 none, Cond.fieldLink RX1 15 "SayingsMerged$Reader" "at" "I", Cond.fieldLink RX1 9 "SayingsMerged$Reader" "text" "LSayingsMerged$Text;", Cond.code yX1_readOne cX1_readOne 5 (some .long), Cond.constantLong RX1 83 (-1), Cond.methodLink RX1 79 yX1_beginsOne, Cond.static yX1_beginsOne, Cond.code yX1_beginsOne cX1_beginsOne 2 (some .boolean), Cond.static yX4_isLetter, Cond.initialized RX4, Cond.code yX4_isLetter cX4_isLetter 1 (some .boolean)]
def wsX1_readBoth_r2 : List Cond := [Cond.methodLink RX1 70 yX1_fail, Cond.instanceMethod yX1_fail, Cond.selects RX1 yX1_fail yX1_fail, Cond.code yX1_fail cX1_fail 1 none, Cond.methodLink RX1 41 yX1_readSaying, Cond.instanceMethod yX1_readSaying, Cond.selects RX1 yX1_readSaying yX1_readSaying, Cond.methodLink RX1 45 yX1_expect, Cond.instanceMethod yX1_expect, Cond.selects RX1 yX1_expect yX1_expect, Cond.code yX1_expect cX1_expect 2 none, Cond.code yX1_readSaying cX1_readSaying 5 (some .long), Cond.methodLink RX1 73 yX1_readBoth, Cond.instanceMethod yX1_readBoth, Cond.selects RX1 yX1_readBoth yX1_readBoth]
def wsX1_readBoth : List Cond := .code yX1_readBoth cX1_readBoth 5 (some .long) :: ((wsX1_readBoth_r1 ++ wsX1_readBoth_r2) ++ wsX10 ++ wsX20)
def wsX1_readOne_r1 : List Cond := [Cond.fieldLink RX1 19 "SayingsMerged$Reader" "token" "I", Cond.constantLong RX1 83 (-1), Cond.methodLink RX1 33 yX1_isFaulty, Cond.instanceMethod yX1_isFaulty, Cond.selects RX1 yX1_isFaulty yX1_isFaulty, Cond.initialized RX1, Cond.code yX1_isFaulty cX1_isFaulty 1 (some .boolean), Cond.fieldLink RX1 22 "SayingsMerged$Reader" "fault" "I", Cond.methodLink RX1 79 yX1_beginsOne, Cond.static yX1_beginsOne, Cond.code yX1_beginsOne cX1_beginsOne 2 (some .boolean), Cond.static yX4_isLetter, Cond.initialized RX4, Cond.code yX4_isLetter cX4_isLetter 1 (some .boolean), Cond.methodLink RX1 70 yX1_fail, Cond.instanceMethod yX1_fail, Cond.selects RX1 yX1_fail yX1_fail, Cond.code yX1_fail cX1_fail 1 none, Cond.fieldLink RX1 9 "SayingsMerged$Reader" "text" "LSayingsMerged$Text;", Cond.fieldLink RX1 15 "SayingsMerged$Reader" "at" "I", Cond.methodLink RX1 52 yX1_advance, Cond.instanceMethod yX1_advance, Cond.selects RX1 yX1_advance yX1_advance, Cond.code yX1_advance cX1_advance 1 none]
def wsX1_readOne_r2 : List Cond := [Cond.methodLink RX1 76 yX1_readOne, Cond.instanceMethod yX1_readOne, Cond.selects RX1 yX1_readOne yX1_readOne, Cond.methodLink RX1 41 yX1_readSaying, Cond.instanceMethod yX1_readSaying, Cond.selects RX1 yX1_readSaying yX1_readSaying, Cond.methodLink RX1 45 yX1_expect, Cond.instanceMethod yX1_expect, Cond.selects RX1 yX1_expect yX1_expect, Cond.code yX1_expect cX1_expect 2 none, Cond.code yX1_readBoth cX1_readBoth 5 (some .long), Cond.code yX1_readSaying cX1_readSaying 5 (some .long), Cond.methodLink RX1 73 yX1_readBoth, Cond.instanceMethod yX1_readBoth, Cond.selects RX1 yX1_readBoth yX1_readBoth]
def wsX1_readOne : List Cond := .code yX1_readOne cX1_readOne 5 (some .long) :: ((wsX1_readOne_r1 ++ wsX1_readOne_r2) ++ wsX10 ++ wsX20)
def wsX1_readSaying_r1 : List Cond := [Cond.fieldLink RX1 19 "SayingsMerged$Reader" "token" "I", Cond.methodLink RX1 73 yX1_readBoth, Cond.instanceMethod yX1_readBoth, Cond.selects RX1 yX1_readBoth yX1_readBoth, Cond.initialized RX1, Cond.methodLink RX1 33 yX1_isFaulty, Cond.instanceMethod yX1_isFaulty, Cond.selects RX1 yX1_isFaulty yX1_isFaulty, Cond.code yX1_isFaulty cX1_isFaulty 1 (some .boolean), Cond.fieldLink RX1 22 "SayingsMerged$Reader" "fault" "I", Cond.methodLink RX1 52 yX1_advance, Cond.instanceMethod yX1_advance, Cond.selects RX1 yX1_advance yX1_advance, Cond.code yX1_advance cX1_advance 1 none, Cond.fieldLink RX1 15 "SayingsMerged$Reader" "at" "I", Cond.fieldLink RX1 9 "SayingsMerged$Reader" "text" "LSayingsMerged$Text;", Cond.code yX1_readBoth cX1_readBoth 5 (some .long), Cond.methodLink RX1 76 yX1_readOne, Cond.instanceMethod yX1_readOne, Cond.selects RX1 yX1_readOne yX1_readOne, Cond.code yX1_readOne cX1_readOne 5 (some .long), Cond.constantLong RX1 83 (-1), Cond.methodLink RX1 79 yX1_beginsOne, Cond.static yX1_beginsOne]
def wsX1_readSaying_r2 : List Cond := [Cond.code yX1_beginsOne cX1_beginsOne 2 (some .boolean), Cond.static yX4_isLetter, Cond.initialized RX4, Cond.code yX4_isLetter cX4_isLetter 1 (some .boolean), Cond.methodLink RX1 70 yX1_fail, Cond.instanceMethod yX1_fail, Cond.selects RX1 yX1_fail yX1_fail, Cond.code yX1_fail cX1_fail 1 none, Cond.methodLink RX1 41 yX1_readSaying, Cond.instanceMethod yX1_readSaying, Cond.selects RX1 yX1_readSaying yX1_readSaying, Cond.methodLink RX1 45 yX1_expect, Cond.instanceMethod yX1_expect, Cond.selects RX1 yX1_expect yX1_expect, Cond.code yX1_expect cX1_expect 2 none]
def wsX1_readSaying : List Cond := .code yX1_readSaying cX1_readSaying 5 (some .long) :: ((wsX1_readSaying_r1 ++ wsX1_readSaying_r2) ++ wsX10 ++ wsX20)
def wsX3_addLaw : List Cond := .code yX3_addLaw cX3_addLaw 3 none :: ([.fieldLink RX3 9 "SayingsMerged$Told" "laws" "I", .fieldLink RX3 17 "SayingsMerged$Told" "there" "J"] ++ wsX30)
def wsX1_readWeight : List Cond := .code yX1_readWeight cX1_readWeight 2 (some .int) :: ([.fieldLink RX1 19 "SayingsMerged$Reader" "token" "I", .methodLink RX1 70 yX1_fail, .instanceMethod yX1_fail, .selects RX1 yX1_fail yX1_fail, .initialized RX1, .code yX1_fail cX1_fail 1 none, .fieldLink RX1 22 "SayingsMerged$Reader" "fault" "I", .fieldLink RX1 9 "SayingsMerged$Reader" "text" "LSayingsMerged$Text;", .fieldLink RX1 15 "SayingsMerged$Reader" "at" "I", .methodLink RX1 52 yX1_advance, .instanceMethod yX1_advance, .selects RX1 yX1_advance yX1_advance, .code yX1_advance cX1_advance 1 none] ++ wsX10 ++ wsX20)
def wsX3_addSayer : List Cond := .code yX3_addSayer cX3_addSayer 4 none :: ([.fieldLink RX3 21 "SayingsMerged$Told" "sayers" "I", .fieldLink RX3 28 "SayingsMerged$Told" "weights" "[I", .fieldLink RX3 24 "SayingsMerged$Told" "says" "[J"] ++ wsX30)
def wsX1_readItem_r1 : List Cond := [Cond.fieldLink RX1 19 "SayingsMerged$Reader" "token" "I", Cond.methodLink RX1 52 yX1_advance, Cond.instanceMethod yX1_advance, Cond.selects RX1 yX1_advance yX1_advance, Cond.initialized RX1, Cond.code yX1_advance cX1_advance 1 none, Cond.fieldLink RX1 15 "SayingsMerged$Reader" "at" "I", Cond.fieldLink RX1 9 "SayingsMerged$Reader" "text" "LSayingsMerged$Text;", Cond.methodLink RX1 41 yX1_readSaying, Cond.instanceMethod yX1_readSaying, Cond.selects RX1 yX1_readSaying yX1_readSaying, Cond.code yX1_readSaying cX1_readSaying 5 (some .long), Cond.methodLink RX1 73 yX1_readBoth, Cond.instanceMethod yX1_readBoth, Cond.selects RX1 yX1_readBoth yX1_readBoth, Cond.methodLink RX1 33 yX1_isFaulty, Cond.instanceMethod yX1_isFaulty, Cond.selects RX1 yX1_isFaulty yX1_isFaulty, Cond.code yX1_isFaulty cX1_isFaulty 1 (some .boolean), Cond.fieldLink RX1 22 "SayingsMerged$Reader" "fault" "I", Cond.code yX1_readBoth cX1_readBoth 5 (some .long), Cond.methodLink RX1 76 yX1_readOne, Cond.instanceMethod yX1_readOne, Cond.selects RX1 yX1_readOne yX1_readOne]
def wsX1_readItem_r2 : List Cond := [Cond.code yX1_readOne cX1_readOne 5 (some .long), Cond.constantLong RX1 83 (-1), Cond.methodLink RX1 79 yX1_beginsOne, Cond.static yX1_beginsOne, Cond.code yX1_beginsOne cX1_beginsOne 2 (some .boolean), Cond.static yX4_isLetter, Cond.initialized RX4, Cond.code yX4_isLetter cX4_isLetter 1 (some .boolean), Cond.methodLink RX1 70 yX1_fail, Cond.instanceMethod yX1_fail, Cond.selects RX1 yX1_fail yX1_fail, Cond.code yX1_fail cX1_fail 1 none, Cond.methodLink RX1 45 yX1_expect, Cond.instanceMethod yX1_expect, Cond.selects RX1 yX1_expect yX1_expect, Cond.code yX1_expect cX1_expect 2 none, Cond.methodLink RX1 55 yX3_addLaw, Cond.instanceMethod yX3_addLaw, Cond.selects RX3 yX3_addLaw yX3_addLaw, Cond.initialized RX3, Cond.code yX3_addLaw cX3_addLaw 3 none, Cond.fieldLink RX3 9 "SayingsMerged$Told" "laws" "I", Cond.fieldLink RX3 17 "SayingsMerged$Told" "there" "J", Cond.methodLink RX1 62 yX1_readWeight]
def wsX1_readItem_r3 : List Cond := [Cond.instanceMethod yX1_readWeight, Cond.selects RX1 yX1_readWeight yX1_readWeight, Cond.code yX1_readWeight cX1_readWeight 2 (some .int), Cond.methodLink RX1 66 yX3_addSayer, Cond.instanceMethod yX3_addSayer, Cond.selects RX3 yX3_addSayer yX3_addSayer, Cond.code yX3_addSayer cX3_addSayer 4 none, Cond.fieldLink RX3 21 "SayingsMerged$Told" "sayers" "I", Cond.fieldLink RX3 28 "SayingsMerged$Told" "weights" "[I", Cond.fieldLink RX3 24 "SayingsMerged$Told" "says" "[J"]
def wsX1_readItem : List Cond := .code yX1_readItem cX1_readItem 3 none :: ((wsX1_readItem_r1 ++ (wsX1_readItem_r2 ++ wsX1_readItem_r3)) ++ wsX10 ++ wsX30 ++ wsX20)
def wsX1_readItems_r1 : List Cond := [Cond.fieldLink RX1 19 "SayingsMerged$Reader" "token" "I", Cond.methodLink RX1 25 yX3_empty, Cond.instanceMethod yX3_empty, Cond.selects RX3 yX3_empty yX3_empty, Cond.initialized RX3, Cond.code yX3_empty cX3_empty 1 none, Cond.fieldLink RX3 9 "SayingsMerged$Told" "laws" "I", Cond.constantLong RX3 15 (-1), Cond.fieldLink RX3 17 "SayingsMerged$Told" "there" "J", Cond.fieldLink RX3 21 "SayingsMerged$Told" "sayers" "I", Cond.methodLink RX1 30 yX1_begin, Cond.instanceMethod yX1_begin, Cond.selects RX1 yX1_begin yX1_begin, Cond.initialized RX1, Cond.code yX1_begin cX1_begin 1 none, Cond.fieldLink RX1 9 "SayingsMerged$Reader" "text" "LSayingsMerged$Text;", Cond.fieldLink RX1 15 "SayingsMerged$Reader" "at" "I", Cond.fieldLink RX1 22 "SayingsMerged$Reader" "fault" "I", Cond.methodLink RX1 99 yX2_findTokens, Cond.instanceMethod yX2_findTokens, Cond.selects RX2 yX2_findTokens yX2_findTokens, Cond.initialized RX2, Cond.code yX2_findTokens cX2_findTokens 3 none, Cond.fieldLink RX2 15 "SayingsMerged$Text" "length" "I"]
def wsX1_readItems_r2 : List Cond := [Cond.fieldLink RX2 19 "SayingsMerged$Text" "tokens" "[I", Cond.fieldLink RX2 22 "SayingsMerged$Text" "places" "[I", Cond.methodLink RX2 25 yX2_beginsToken, Cond.instanceMethod yX2_beginsToken, Cond.selects RX2 yX2_beginsToken yX2_beginsToken, Cond.code yX2_beginsToken cX2_beginsToken 2 (some .boolean), Cond.fieldLink RX2 9 "SayingsMerged$Text" "bytes" "[I", Cond.methodLink RX2 33 yX2_isSmall, Cond.instanceMethod yX2_isSmall, Cond.selects RX2 yX2_isSmall yX2_isSmall, Cond.code yX2_isSmall cX2_isSmall 2 (some .boolean), Cond.methodLink RX2 29 yX2_tokenAt, Cond.instanceMethod yX2_tokenAt, Cond.selects RX2 yX2_tokenAt yX2_tokenAt, Cond.code yX2_tokenAt cX2_tokenAt 2 (some .int), Cond.methodLink RX2 36 yX2_wordAt, Cond.instanceMethod yX2_wordAt, Cond.selects RX2 yX2_wordAt yX2_wordAt, Cond.code yX2_wordAt cX2_wordAt 3 (some .int), Cond.static yX4_isLetter, Cond.initialized RX4, Cond.code yX4_isLetter cX4_isLetter 1 (some .boolean), Cond.methodLink RX2 39 yX2_isSign, Cond.static yX2_isSign]
def wsX1_readItems_r3 : List Cond := [Cond.code yX2_isSign cX2_isSign 1 (some .boolean), Cond.methodLink RX1 33 yX1_isFaulty, Cond.instanceMethod yX1_isFaulty, Cond.selects RX1 yX1_isFaulty yX1_isFaulty, Cond.code yX1_isFaulty cX1_isFaulty 1 (some .boolean), Cond.methodLink RX1 37 yX1_readItem, Cond.instanceMethod yX1_readItem, Cond.selects RX1 yX1_readItem yX1_readItem, Cond.code yX1_readItem cX1_readItem 3 none, Cond.methodLink RX1 52 yX1_advance, Cond.instanceMethod yX1_advance, Cond.selects RX1 yX1_advance yX1_advance, Cond.code yX1_advance cX1_advance 1 none, Cond.methodLink RX1 41 yX1_readSaying, Cond.instanceMethod yX1_readSaying, Cond.selects RX1 yX1_readSaying yX1_readSaying, Cond.code yX1_readSaying cX1_readSaying 5 (some .long), Cond.methodLink RX1 73 yX1_readBoth, Cond.instanceMethod yX1_readBoth, Cond.selects RX1 yX1_readBoth yX1_readBoth, Cond.code yX1_readBoth cX1_readBoth 5 (some .long), Cond.methodLink RX1 76 yX1_readOne, Cond.instanceMethod yX1_readOne, Cond.selects RX1 yX1_readOne yX1_readOne]
def wsX1_readItems_r4 : List Cond := [Cond.code yX1_readOne cX1_readOne 5 (some .long), Cond.constantLong RX1 83 (-1), Cond.methodLink RX1 79 yX1_beginsOne, Cond.static yX1_beginsOne, Cond.code yX1_beginsOne cX1_beginsOne 2 (some .boolean), Cond.methodLink RX1 70 yX1_fail, Cond.instanceMethod yX1_fail, Cond.selects RX1 yX1_fail yX1_fail, Cond.code yX1_fail cX1_fail 1 none, Cond.methodLink RX1 45 yX1_expect, Cond.instanceMethod yX1_expect, Cond.selects RX1 yX1_expect yX1_expect, Cond.code yX1_expect cX1_expect 2 none, Cond.methodLink RX1 55 yX3_addLaw, Cond.instanceMethod yX3_addLaw, Cond.selects RX3 yX3_addLaw yX3_addLaw, Cond.code yX3_addLaw cX3_addLaw 3 none, Cond.methodLink RX1 62 yX1_readWeight, Cond.instanceMethod yX1_readWeight, Cond.selects RX1 yX1_readWeight yX1_readWeight, Cond.code yX1_readWeight cX1_readWeight 2 (some .int), Cond.methodLink RX1 66 yX3_addSayer, Cond.instanceMethod yX3_addSayer, Cond.selects RX3 yX3_addSayer yX3_addSayer]
def wsX1_readItems_r5 : List Cond := [Cond.code yX3_addSayer cX3_addSayer 4 none, Cond.fieldLink RX3 28 "SayingsMerged$Told" "weights" "[I", Cond.fieldLink RX3 24 "SayingsMerged$Told" "says" "[J"]
def wsX1_readItems : List Cond := .code yX1_readItems cX1_readItems 3 none :: ((wsX1_readItems_r1 ++ (wsX1_readItems_r2 ++ (wsX1_readItems_r3 ++ (wsX1_readItems_r4 ++ wsX1_readItems_r5)))) ++ wsX10 ++ wsX30 ++ wsX20)
def wsX1_readQuestion_r1 : List Cond := [Cond.methodLink RX1 30 yX1_begin, Cond.instanceMethod yX1_begin, Cond.selects RX1 yX1_begin yX1_begin, Cond.initialized RX1, Cond.code yX1_begin cX1_begin 1 none, Cond.fieldLink RX1 9 "SayingsMerged$Reader" "text" "LSayingsMerged$Text;", Cond.fieldLink RX1 15 "SayingsMerged$Reader" "at" "I", Cond.fieldLink RX1 19 "SayingsMerged$Reader" "token" "I", Cond.fieldLink RX1 22 "SayingsMerged$Reader" "fault" "I", Cond.methodLink RX1 99 yX2_findTokens, Cond.instanceMethod yX2_findTokens, Cond.selects RX2 yX2_findTokens yX2_findTokens, Cond.initialized RX2, Cond.code yX2_findTokens cX2_findTokens 3 none, Cond.fieldLink RX2 15 "SayingsMerged$Text" "length" "I", Cond.fieldLink RX2 19 "SayingsMerged$Text" "tokens" "[I", Cond.fieldLink RX2 22 "SayingsMerged$Text" "places" "[I", Cond.methodLink RX2 25 yX2_beginsToken, Cond.instanceMethod yX2_beginsToken, Cond.selects RX2 yX2_beginsToken yX2_beginsToken, Cond.code yX2_beginsToken cX2_beginsToken 2 (some .boolean), Cond.fieldLink RX2 9 "SayingsMerged$Text" "bytes" "[I", Cond.methodLink RX2 33 yX2_isSmall, Cond.instanceMethod yX2_isSmall]
def wsX1_readQuestion_r2 : List Cond := [Cond.selects RX2 yX2_isSmall yX2_isSmall, Cond.code yX2_isSmall cX2_isSmall 2 (some .boolean), Cond.methodLink RX2 29 yX2_tokenAt, Cond.instanceMethod yX2_tokenAt, Cond.selects RX2 yX2_tokenAt yX2_tokenAt, Cond.code yX2_tokenAt cX2_tokenAt 2 (some .int), Cond.methodLink RX2 36 yX2_wordAt, Cond.instanceMethod yX2_wordAt, Cond.selects RX2 yX2_wordAt yX2_wordAt, Cond.code yX2_wordAt cX2_wordAt 3 (some .int), Cond.static yX4_isLetter, Cond.initialized RX4, Cond.code yX4_isLetter cX4_isLetter 1 (some .boolean), Cond.methodLink RX2 39 yX2_isSign, Cond.static yX2_isSign, Cond.code yX2_isSign cX2_isSign 1 (some .boolean), Cond.methodLink RX1 41 yX1_readSaying, Cond.instanceMethod yX1_readSaying, Cond.selects RX1 yX1_readSaying yX1_readSaying, Cond.code yX1_readSaying cX1_readSaying 5 (some .long), Cond.methodLink RX1 73 yX1_readBoth, Cond.instanceMethod yX1_readBoth, Cond.selects RX1 yX1_readBoth yX1_readBoth, Cond.methodLink RX1 33 yX1_isFaulty]
def wsX1_readQuestion_r3 : List Cond := [Cond.instanceMethod yX1_isFaulty, Cond.selects RX1 yX1_isFaulty yX1_isFaulty, Cond.code yX1_isFaulty cX1_isFaulty 1 (some .boolean), Cond.methodLink RX1 52 yX1_advance, Cond.instanceMethod yX1_advance, Cond.selects RX1 yX1_advance yX1_advance, Cond.code yX1_advance cX1_advance 1 none, Cond.code yX1_readBoth cX1_readBoth 5 (some .long), Cond.methodLink RX1 76 yX1_readOne, Cond.instanceMethod yX1_readOne, Cond.selects RX1 yX1_readOne yX1_readOne, Cond.code yX1_readOne cX1_readOne 5 (some .long), Cond.constantLong RX1 83 (-1), Cond.methodLink RX1 79 yX1_beginsOne, Cond.static yX1_beginsOne, Cond.code yX1_beginsOne cX1_beginsOne 2 (some .boolean), Cond.methodLink RX1 70 yX1_fail, Cond.instanceMethod yX1_fail, Cond.selects RX1 yX1_fail yX1_fail, Cond.code yX1_fail cX1_fail 1 none, Cond.methodLink RX1 45 yX1_expect, Cond.instanceMethod yX1_expect, Cond.selects RX1 yX1_expect yX1_expect, Cond.code yX1_expect cX1_expect 2 none]
def wsX1_readQuestion : List Cond := .code yX1_readQuestion cX1_readQuestion 3 (some .long) :: ((wsX1_readQuestion_r1 ++ (wsX1_readQuestion_r2 ++ wsX1_readQuestion_r3)) ++ wsX10 ++ wsX20)
def wsX2_init : List Cond := .code yX2_init cX2_init 1 none :: ([.methodLink RX2 3 objectInit, .instanceMethod objectInit, .code objectInit ⟨#[0xb1]⟩ 1 none, .arrayClass .int, .fieldLink RX2 9 "SayingsMerged$Text" "bytes" "[I", .fieldLink RX2 15 "SayingsMerged$Text" "length" "I", .fieldLink RX2 19 "SayingsMerged$Text" "tokens" "[I", .fieldLink RX2 22 "SayingsMerged$Text" "places" "[I"] ++ wsX20)
def wsX2_append : List Cond := .code yX2_append cX2_append 2 none :: ([.fieldLink RX2 15 "SayingsMerged$Text" "length" "I", .fieldLink RX2 9 "SayingsMerged$Text" "bytes" "[I"] ++ wsX20)
def wsX3_init : List Cond := .code yX3_init cX3_init 1 none :: ([.methodLink RX3 3 objectInit, .instanceMethod objectInit, .code objectInit ⟨#[0xb1]⟩ 1 none, .fieldLink RX3 9 "SayingsMerged$Told" "laws" "I", .constantLong RX3 15 (-1), .fieldLink RX3 17 "SayingsMerged$Told" "there" "J", .fieldLink RX3 21 "SayingsMerged$Told" "sayers" "I", .arrayClass .long, .fieldLink RX3 24 "SayingsMerged$Told" "says" "[J", .arrayClass .int, .fieldLink RX3 28 "SayingsMerged$Told" "weights" "[I"] ++ wsX30)
def wsX3_allWeights : List Cond := .code yX3_allWeights cX3_allWeights 3 (some .int) :: ([.fieldLink RX3 21 "SayingsMerged$Told" "sayers" "I", .fieldLink RX3 28 "SayingsMerged$Told" "weights" "[I"] ++ wsX30)
def wsX3_saidByOthers : List Cond := .code yX3_saidByOthers cX3_saidByOthers 5 (some .long) :: ([.fieldLink RX3 21 "SayingsMerged$Told" "sayers" "I", .fieldLink RX3 24 "SayingsMerged$Told" "says" "[J"] ++ wsX30)
def wsX4_init_r1 : List Cond := [Cond.methodLink RX4 3 objectInit, Cond.instanceMethod objectInit, Cond.code objectInit ⟨#[0xb1]⟩ 1 none, Cond.classLink RX4 9 RX2, Cond.instantiable RX2 4, Cond.initialized RX2, Cond.fieldLink RX4 12 "SayingsMerged" "text" "LSayingsMerged$Text;", Cond.classLink RX4 16 RX1, Cond.instantiable RX1 4, Cond.initialized RX1, Cond.fieldLink RX4 21 "SayingsMerged" "reader" "LSayingsMerged$Reader;", Cond.classLink RX4 25 RX3, Cond.instantiable RX3 5, Cond.initialized RX3, Cond.fieldLink RX4 28 "SayingsMerged" "told" "LSayingsMerged$Told;", Cond.fieldLink RX4 32 "SayingsMerged" "spare" "LSayingsMerged$Told;", Cond.constantLong RX4 35 (-1), Cond.fieldLink RX4 37 "SayingsMerged" "asked" "J", Cond.classLink RX4 41 RX0, Cond.instantiable RX0 3, Cond.initialized RX0, Cond.fieldLink RX4 44 "SayingsMerged" "distances" "LSayingsMerged$Distances;", Cond.classLink RX4 48 "[[J", Cond.arrayClass .long]
def wsX4_init_r2 : List Cond := [Cond.fieldLink RX4 50 "SayingsMerged" "fars" "[[J", Cond.fieldLink RX4 53 "SayingsMerged" "common" "[J", Cond.fieldLink RX4 57 "SayingsMerged" "others" "[J", Cond.fieldLink RX4 60 "SayingsMerged" "scale" "[J", Cond.fieldLink RX4 63 "SayingsMerged" "traced" "J", Cond.methodLink RX4 11 yX2_init, Cond.instanceMethod yX2_init, Cond.code yX2_init cX2_init 1 none, Cond.methodLink RX2 3 objectInit, Cond.arrayClass .int, Cond.fieldLink RX2 9 "SayingsMerged$Text" "bytes" "[I", Cond.fieldLink RX2 15 "SayingsMerged$Text" "length" "I", Cond.fieldLink RX2 19 "SayingsMerged$Text" "tokens" "[I", Cond.fieldLink RX2 22 "SayingsMerged$Text" "places" "[I", Cond.methodLink RX4 18 yX1_init, Cond.instanceMethod yX1_init, Cond.code yX1_init cX1_init 2 none, Cond.methodLink RX1 3 objectInit, Cond.fieldLink RX1 9 "SayingsMerged$Reader" "text" "LSayingsMerged$Text;", Cond.fieldLink RX1 15 "SayingsMerged$Reader" "at" "I", Cond.fieldLink RX1 19 "SayingsMerged$Reader" "token" "I", Cond.fieldLink RX1 22 "SayingsMerged$Reader" "fault" "I", Cond.methodLink RX4 27 yX3_init, Cond.instanceMethod yX3_init]
def wsX4_init_r3 : List Cond := [Cond.code yX3_init cX3_init 1 none, Cond.methodLink RX3 3 objectInit, Cond.fieldLink RX3 9 "SayingsMerged$Told" "laws" "I", Cond.constantLong RX3 15 (-1), Cond.fieldLink RX3 17 "SayingsMerged$Told" "there" "J", Cond.fieldLink RX3 21 "SayingsMerged$Told" "sayers" "I", Cond.fieldLink RX3 24 "SayingsMerged$Told" "says" "[J", Cond.fieldLink RX3 28 "SayingsMerged$Told" "weights" "[I", Cond.methodLink RX4 43 yX0_init, Cond.instanceMethod yX0_init, Cond.code yX0_init cX0_init 2 none, Cond.methodLink RX0 3 objectInit, Cond.fieldLink RX0 9 "SayingsMerged$Distances" "costs" "[I", Cond.fieldLink RX0 21 "SayingsMerged$Distances" "alike" "Z", Cond.fieldLink RX0 25 "SayingsMerged$Distances" "lengths" "[I", Cond.methodLink RX0 15 yJ7_fill_53178, Cond.static yJ7_fill_53178, Cond.initialized RJ7, Cond.code yJ7_fill_53178 cJ7_fill_53178 4 none, Cond.methodLink RX0 28 yJ6_bitCount_0f7a4, Cond.static yJ6_bitCount_0f7a4, Cond.initialized RJ6, Cond.code yJ6_bitCount_0f7a4 cJ6_bitCount_0f7a4 1 (some .int), Cond.constant RJ6 265 (1431655765)]
def wsX4_init_r4 : List Cond := [Cond.constant RJ6 266 (858993459), Cond.constant RJ6 267 (252645135)]
def wsX4_init : List Cond := .code yX4_init cX4_init 1 none :: ((wsX4_init_r1 ++ (wsX4_init_r2 ++ (wsX4_init_r3 ++ wsX4_init_r4))) ++ wsX20 ++ wsX40 ++ wsX10 ++ wsX30 ++ wsX00)
def wsX4_type : List Cond := .code yX4_type cX4_type 5 (some .int) :: ([.fieldLink RX4 12 "SayingsMerged" "text" "LSayingsMerged$Text;", .methodLink RX4 70 yX2_append, .instanceMethod yX2_append, .selects RX2 yX2_append yX2_append, .initialized RX2, .code yX2_append cX2_append 2 none, .fieldLink RX2 15 "SayingsMerged$Text" "length" "I", .fieldLink RX2 9 "SayingsMerged$Text" "bytes" "[I"] ++ wsX40 ++ wsX20)
def wsX4_clear : List Cond := .code yX4_clear cX4_clear 2 (some .int) :: ([.fieldLink RX4 12 "SayingsMerged" "text" "LSayingsMerged$Text;"] ++ wsX40 ++ wsX20)
def wsX4_setsOfSayers : List Cond := .code yX4_setsOfSayers cX4_setsOfSayers 1 (some .int) :: ([.fieldLink RX4 28 "SayingsMerged" "told" "LSayingsMerged$Told;"] ++ wsX40 ++ wsX30)
def wsX4_findCommon : List Cond := .code yX4_findCommon cX4_findCommon 3 none :: ([.fieldLink RX4 53 "SayingsMerged" "common" "[J", .fieldLink RX4 28 "SayingsMerged" "told" "LSayingsMerged$Told;", .methodLink RX4 148 yX4_setsOfSayers, .instanceMethod yX4_setsOfSayers, .selects RX4 yX4_setsOfSayers yX4_setsOfSayers, .initialized RX4, .code yX4_setsOfSayers cX4_setsOfSayers 1 (some .int), .methodLink RX4 239 yJ6_numberOfTrailingZeros_0f7a4, .static yJ6_numberOfTrailingZeros_0f7a4, .initialized RJ6, .code yJ6_numberOfTrailingZeros_0f7a4 cJ6_numberOfTrailingZeros_0f7a4 2 (some .int), .constant RJ6 264 (65536)] ++ wsX40 ++ wsX30)
def wsX4_findFars_r1 : List Cond := [Cond.fieldLink RX4 44 "SayingsMerged" "distances" "LSayingsMerged$Distances;", Cond.fieldLink RX4 28 "SayingsMerged" "told" "LSayingsMerged$Told;", Cond.fieldLink RX4 50 "SayingsMerged" "fars" "[[J", Cond.methodLink RX4 206 yX0_findLengths, Cond.instanceMethod yX0_findLengths, Cond.selects RX0 yX0_findLengths yX0_findLengths, Cond.initialized RX0, Cond.code yX0_findLengths cX0_findLengths 3 none, Cond.fieldLink RX0 25 "SayingsMerged$Distances" "lengths" "[I", Cond.fieldLink RX0 21 "SayingsMerged$Distances" "alike" "Z", Cond.fieldLink RX0 9 "SayingsMerged$Distances" "costs" "[I", Cond.methodLink RX0 34 yJ6_numberOfTrailingZeros_0f7a4, Cond.static yJ6_numberOfTrailingZeros_0f7a4, Cond.initialized RJ6, Cond.code yJ6_numberOfTrailingZeros_0f7a4 cJ6_numberOfTrailingZeros_0f7a4 2 (some .int), Cond.constant RJ6 264 (65536), Cond.methodLink RX4 209 yX0_findFars, Cond.instanceMethod yX0_findFars, Cond.selects RX0 yX0_findFars yX0_findFars, Cond.code yX0_findFars cX0_findFars 7 none, Cond.constantLong RX0 40 (1000), Cond.methodLink RX0 37 yJ7_fill_d0a16, Cond.static yJ7_fill_d0a16, Cond.initialized RJ7]
def wsX4_findFars_r2 : List Cond := [Cond.code yJ7_fill_d0a16 cJ7_fill_d0a16 5 none, Cond.static yX4_isIn, Cond.initialized RX4, Cond.code yX4_isIn cX4_isIn 3 (some .boolean), Cond.methodLink RX0 46 yX0_spread, Cond.static yX0_spread, Cond.code yX0_spread cX0_spread 4 none, Cond.methodLink RX0 50 Lib.MathLoose.min_long.x, Cond.static Lib.MathLoose.min_long.x, Cond.initialized "java/lang/Math", Cond.code Lib.MathLoose.min_long.x Lib.MathLoose.min_long.code 4 (some .long)]
def wsX4_findFars : List Cond := .code yX4_findFars cX4_findFars 2 none :: ((wsX4_findFars_r1 ++ wsX4_findFars_r2) ++ wsX40 ++ wsX30 ++ wsX00)
def wsX4_tell_r1 : List Cond := [Cond.fieldLink RX4 21 "SayingsMerged" "reader" "LSayingsMerged$Reader;", Cond.fieldLink RX4 32 "SayingsMerged" "spare" "LSayingsMerged$Told;", Cond.fieldLink RX4 28 "SayingsMerged" "told" "LSayingsMerged$Told;", Cond.fieldLink RX4 12 "SayingsMerged" "text" "LSayingsMerged$Text;", Cond.methodLink RX4 74 yX1_readItems, Cond.instanceMethod yX1_readItems, Cond.selects RX1 yX1_readItems yX1_readItems, Cond.initialized RX1, Cond.code yX1_readItems cX1_readItems 3 none, Cond.fieldLink RX1 19 "SayingsMerged$Reader" "token" "I", Cond.methodLink RX1 25 yX3_empty, Cond.instanceMethod yX3_empty, Cond.selects RX3 yX3_empty yX3_empty, Cond.initialized RX3, Cond.code yX3_empty cX3_empty 1 none, Cond.fieldLink RX3 9 "SayingsMerged$Told" "laws" "I", Cond.constantLong RX3 15 (-1), Cond.fieldLink RX3 17 "SayingsMerged$Told" "there" "J", Cond.fieldLink RX3 21 "SayingsMerged$Told" "sayers" "I", Cond.methodLink RX1 30 yX1_begin, Cond.instanceMethod yX1_begin, Cond.selects RX1 yX1_begin yX1_begin, Cond.code yX1_begin cX1_begin 1 none, Cond.fieldLink RX1 9 "SayingsMerged$Reader" "text" "LSayingsMerged$Text;"]
def wsX4_tell_r2 : List Cond := [Cond.fieldLink RX1 15 "SayingsMerged$Reader" "at" "I", Cond.fieldLink RX1 22 "SayingsMerged$Reader" "fault" "I", Cond.methodLink RX1 99 yX2_findTokens, Cond.instanceMethod yX2_findTokens, Cond.selects RX2 yX2_findTokens yX2_findTokens, Cond.initialized RX2, Cond.code yX2_findTokens cX2_findTokens 3 none, Cond.fieldLink RX2 15 "SayingsMerged$Text" "length" "I", Cond.fieldLink RX2 19 "SayingsMerged$Text" "tokens" "[I", Cond.fieldLink RX2 22 "SayingsMerged$Text" "places" "[I", Cond.methodLink RX2 25 yX2_beginsToken, Cond.instanceMethod yX2_beginsToken, Cond.selects RX2 yX2_beginsToken yX2_beginsToken, Cond.code yX2_beginsToken cX2_beginsToken 2 (some .boolean), Cond.fieldLink RX2 9 "SayingsMerged$Text" "bytes" "[I", Cond.methodLink RX2 33 yX2_isSmall, Cond.instanceMethod yX2_isSmall, Cond.selects RX2 yX2_isSmall yX2_isSmall, Cond.code yX2_isSmall cX2_isSmall 2 (some .boolean), Cond.methodLink RX2 29 yX2_tokenAt, Cond.instanceMethod yX2_tokenAt, Cond.selects RX2 yX2_tokenAt yX2_tokenAt, Cond.code yX2_tokenAt cX2_tokenAt 2 (some .int), Cond.methodLink RX2 36 yX2_wordAt]
def wsX4_tell_r3 : List Cond := [Cond.instanceMethod yX2_wordAt, Cond.selects RX2 yX2_wordAt yX2_wordAt, Cond.code yX2_wordAt cX2_wordAt 3 (some .int), Cond.static yX4_isLetter, Cond.initialized RX4, Cond.code yX4_isLetter cX4_isLetter 1 (some .boolean), Cond.methodLink RX2 39 yX2_isSign, Cond.static yX2_isSign, Cond.code yX2_isSign cX2_isSign 1 (some .boolean), Cond.methodLink RX1 33 yX1_isFaulty, Cond.instanceMethod yX1_isFaulty, Cond.selects RX1 yX1_isFaulty yX1_isFaulty, Cond.code yX1_isFaulty cX1_isFaulty 1 (some .boolean), Cond.methodLink RX1 37 yX1_readItem, Cond.instanceMethod yX1_readItem, Cond.selects RX1 yX1_readItem yX1_readItem, Cond.code yX1_readItem cX1_readItem 3 none, Cond.methodLink RX1 52 yX1_advance, Cond.instanceMethod yX1_advance, Cond.selects RX1 yX1_advance yX1_advance, Cond.code yX1_advance cX1_advance 1 none, Cond.methodLink RX1 41 yX1_readSaying, Cond.instanceMethod yX1_readSaying, Cond.selects RX1 yX1_readSaying yX1_readSaying]
def wsX4_tell_r4 : List Cond := [Cond.code yX1_readSaying cX1_readSaying 5 (some .long), Cond.methodLink RX1 73 yX1_readBoth, Cond.instanceMethod yX1_readBoth, Cond.selects RX1 yX1_readBoth yX1_readBoth, Cond.code yX1_readBoth cX1_readBoth 5 (some .long), Cond.methodLink RX1 76 yX1_readOne, Cond.instanceMethod yX1_readOne, Cond.selects RX1 yX1_readOne yX1_readOne, Cond.code yX1_readOne cX1_readOne 5 (some .long), Cond.constantLong RX1 83 (-1), Cond.methodLink RX1 79 yX1_beginsOne, Cond.static yX1_beginsOne, Cond.code yX1_beginsOne cX1_beginsOne 2 (some .boolean), Cond.methodLink RX1 70 yX1_fail, Cond.instanceMethod yX1_fail, Cond.selects RX1 yX1_fail yX1_fail, Cond.code yX1_fail cX1_fail 1 none, Cond.methodLink RX1 45 yX1_expect, Cond.instanceMethod yX1_expect, Cond.selects RX1 yX1_expect yX1_expect, Cond.code yX1_expect cX1_expect 2 none, Cond.methodLink RX1 55 yX3_addLaw, Cond.instanceMethod yX3_addLaw, Cond.selects RX3 yX3_addLaw yX3_addLaw]
def wsX4_tell_r5 : List Cond := [Cond.code yX3_addLaw cX3_addLaw 3 none, Cond.methodLink RX1 62 yX1_readWeight, Cond.instanceMethod yX1_readWeight, Cond.selects RX1 yX1_readWeight yX1_readWeight, Cond.code yX1_readWeight cX1_readWeight 2 (some .int), Cond.methodLink RX1 66 yX3_addSayer, Cond.instanceMethod yX3_addSayer, Cond.selects RX3 yX3_addSayer yX3_addSayer, Cond.code yX3_addSayer cX3_addSayer 4 none, Cond.fieldLink RX3 28 "SayingsMerged$Told" "weights" "[I", Cond.fieldLink RX3 24 "SayingsMerged$Told" "says" "[J", Cond.methodLink RX4 78 yX1_isFaulty, Cond.methodLink RX4 85 yX4_findCommon, Cond.instanceMethod yX4_findCommon, Cond.selects RX4 yX4_findCommon yX4_findCommon, Cond.code yX4_findCommon cX4_findCommon 3 none, Cond.fieldLink RX4 53 "SayingsMerged" "common" "[J", Cond.methodLink RX4 148 yX4_setsOfSayers, Cond.instanceMethod yX4_setsOfSayers, Cond.selects RX4 yX4_setsOfSayers yX4_setsOfSayers, Cond.code yX4_setsOfSayers cX4_setsOfSayers 1 (some .int), Cond.methodLink RX4 239 yJ6_numberOfTrailingZeros_0f7a4, Cond.static yJ6_numberOfTrailingZeros_0f7a4, Cond.initialized RJ6]
def wsX4_tell_r6 : List Cond := [Cond.code yJ6_numberOfTrailingZeros_0f7a4 cJ6_numberOfTrailingZeros_0f7a4 2 (some .int), Cond.constant RJ6 264 (65536), Cond.methodLink RX4 88 yX4_findFars, Cond.instanceMethod yX4_findFars, Cond.selects RX4 yX4_findFars yX4_findFars, Cond.code yX4_findFars cX4_findFars 2 none, Cond.fieldLink RX4 44 "SayingsMerged" "distances" "LSayingsMerged$Distances;", Cond.fieldLink RX4 50 "SayingsMerged" "fars" "[[J", Cond.methodLink RX4 206 yX0_findLengths, Cond.instanceMethod yX0_findLengths, Cond.selects RX0 yX0_findLengths yX0_findLengths, Cond.initialized RX0, Cond.code yX0_findLengths cX0_findLengths 3 none, Cond.fieldLink RX0 25 "SayingsMerged$Distances" "lengths" "[I", Cond.fieldLink RX0 21 "SayingsMerged$Distances" "alike" "Z", Cond.fieldLink RX0 9 "SayingsMerged$Distances" "costs" "[I", Cond.methodLink RX0 34 yJ6_numberOfTrailingZeros_0f7a4, Cond.methodLink RX4 209 yX0_findFars, Cond.instanceMethod yX0_findFars, Cond.selects RX0 yX0_findFars yX0_findFars, Cond.code yX0_findFars cX0_findFars 7 none, Cond.constantLong RX0 40 (1000), Cond.methodLink RX0 37 yJ7_fill_d0a16, Cond.static yJ7_fill_d0a16]
def wsX4_tell_r7 : List Cond := [Cond.initialized RJ7, Cond.code yJ7_fill_d0a16 cJ7_fill_d0a16 5 none, Cond.static yX4_isIn, Cond.code yX4_isIn cX4_isIn 3 (some .boolean), Cond.methodLink RX0 46 yX0_spread, Cond.static yX0_spread, Cond.code yX0_spread cX0_spread 4 none, Cond.methodLink RX0 50 Lib.MathLoose.min_long.x, Cond.static Lib.MathLoose.min_long.x, Cond.initialized "java/lang/Math", Cond.code Lib.MathLoose.min_long.x Lib.MathLoose.min_long.code 4 (some .long)]
def wsX4_tell : List Cond := .code yX4_tell cX4_tell 2 (some .int) :: ((wsX4_tell_r1 ++ (wsX4_tell_r2 ++ (wsX4_tell_r3 ++ (wsX4_tell_r4 ++ (wsX4_tell_r5 ++ (wsX4_tell_r6 ++ wsX4_tell_r7)))))) ++ wsX40 ++ wsX10 ++ wsX20 ++ wsX30 ++ wsX00)
def wsX4_question_r1 : List Cond := [Cond.fieldLink RX4 21 "SayingsMerged" "reader" "LSayingsMerged$Reader;", Cond.fieldLink RX4 37 "SayingsMerged" "asked" "J", Cond.fieldLink RX4 12 "SayingsMerged" "text" "LSayingsMerged$Text;", Cond.methodLink RX4 97 yX1_readQuestion, Cond.instanceMethod yX1_readQuestion, Cond.selects RX1 yX1_readQuestion yX1_readQuestion, Cond.initialized RX1, Cond.code yX1_readQuestion cX1_readQuestion 3 (some .long), Cond.methodLink RX1 30 yX1_begin, Cond.instanceMethod yX1_begin, Cond.selects RX1 yX1_begin yX1_begin, Cond.code yX1_begin cX1_begin 1 none, Cond.fieldLink RX1 9 "SayingsMerged$Reader" "text" "LSayingsMerged$Text;", Cond.fieldLink RX1 15 "SayingsMerged$Reader" "at" "I", Cond.fieldLink RX1 19 "SayingsMerged$Reader" "token" "I", Cond.fieldLink RX1 22 "SayingsMerged$Reader" "fault" "I", Cond.methodLink RX1 99 yX2_findTokens, Cond.instanceMethod yX2_findTokens, Cond.selects RX2 yX2_findTokens yX2_findTokens, Cond.initialized RX2, Cond.code yX2_findTokens cX2_findTokens 3 none, Cond.fieldLink RX2 15 "SayingsMerged$Text" "length" "I", Cond.fieldLink RX2 19 "SayingsMerged$Text" "tokens" "[I", Cond.fieldLink RX2 22 "SayingsMerged$Text" "places" "[I"]
def wsX4_question_r2 : List Cond := [Cond.methodLink RX2 25 yX2_beginsToken, Cond.instanceMethod yX2_beginsToken, Cond.selects RX2 yX2_beginsToken yX2_beginsToken, Cond.code yX2_beginsToken cX2_beginsToken 2 (some .boolean), Cond.fieldLink RX2 9 "SayingsMerged$Text" "bytes" "[I", Cond.methodLink RX2 33 yX2_isSmall, Cond.instanceMethod yX2_isSmall, Cond.selects RX2 yX2_isSmall yX2_isSmall, Cond.code yX2_isSmall cX2_isSmall 2 (some .boolean), Cond.methodLink RX2 29 yX2_tokenAt, Cond.instanceMethod yX2_tokenAt, Cond.selects RX2 yX2_tokenAt yX2_tokenAt, Cond.code yX2_tokenAt cX2_tokenAt 2 (some .int), Cond.methodLink RX2 36 yX2_wordAt, Cond.instanceMethod yX2_wordAt, Cond.selects RX2 yX2_wordAt yX2_wordAt, Cond.code yX2_wordAt cX2_wordAt 3 (some .int), Cond.static yX4_isLetter, Cond.initialized RX4, Cond.code yX4_isLetter cX4_isLetter 1 (some .boolean), Cond.methodLink RX2 39 yX2_isSign, Cond.static yX2_isSign, Cond.code yX2_isSign cX2_isSign 1 (some .boolean), Cond.methodLink RX1 41 yX1_readSaying]
def wsX4_question_r3 : List Cond := [Cond.instanceMethod yX1_readSaying, Cond.selects RX1 yX1_readSaying yX1_readSaying, Cond.code yX1_readSaying cX1_readSaying 5 (some .long), Cond.methodLink RX1 73 yX1_readBoth, Cond.instanceMethod yX1_readBoth, Cond.selects RX1 yX1_readBoth yX1_readBoth, Cond.methodLink RX1 33 yX1_isFaulty, Cond.instanceMethod yX1_isFaulty, Cond.selects RX1 yX1_isFaulty yX1_isFaulty, Cond.code yX1_isFaulty cX1_isFaulty 1 (some .boolean), Cond.methodLink RX1 52 yX1_advance, Cond.instanceMethod yX1_advance, Cond.selects RX1 yX1_advance yX1_advance, Cond.code yX1_advance cX1_advance 1 none, Cond.code yX1_readBoth cX1_readBoth 5 (some .long), Cond.methodLink RX1 76 yX1_readOne, Cond.instanceMethod yX1_readOne, Cond.selects RX1 yX1_readOne yX1_readOne, Cond.code yX1_readOne cX1_readOne 5 (some .long), Cond.constantLong RX1 83 (-1), Cond.methodLink RX1 79 yX1_beginsOne, Cond.static yX1_beginsOne, Cond.code yX1_beginsOne cX1_beginsOne 2 (some .boolean), Cond.methodLink RX1 70 yX1_fail]
def wsX4_question_r4 : List Cond := [Cond.instanceMethod yX1_fail, Cond.selects RX1 yX1_fail yX1_fail, Cond.code yX1_fail cX1_fail 1 none, Cond.methodLink RX1 45 yX1_expect, Cond.instanceMethod yX1_expect, Cond.selects RX1 yX1_expect yX1_expect, Cond.code yX1_expect cX1_expect 2 none, Cond.methodLink RX4 78 yX1_isFaulty]
def wsX4_question : List Cond := .code yX4_question cX4_question 3 (some .int) :: ((wsX4_question_r1 ++ (wsX4_question_r2 ++ (wsX4_question_r3 ++ wsX4_question_r4))) ++ wsX40 ++ wsX10 ++ wsX20)
def wsX4_isSayer : List Cond := .code yX4_isSayer cX4_isSayer 2 (some .boolean) :: ([.fieldLink RX4 28 "SayingsMerged" "told" "LSayingsMerged$Told;"] ++ wsX40 ++ wsX30)
def wsX4_worlds : List Cond := .code yX4_worlds cX4_worlds 3 (some .long) :: ([.fieldLink RX4 28 "SayingsMerged" "told" "LSayingsMerged$Told;", .fieldLink RX4 37 "SayingsMerged" "asked" "J", .methodLink RX4 104 yX4_isSayer, .instanceMethod yX4_isSayer, .selects RX4 yX4_isSayer yX4_isSayer, .initialized RX4, .code yX4_isSayer cX4_isSayer 2 (some .boolean)] ++ wsX40 ++ wsX30)
def wsX4_cost_r1 : List Cond := [Cond.fieldLink RX4 44 "SayingsMerged" "distances" "LSayingsMerged$Distances;", Cond.methodLink RX4 88 yX4_findFars, Cond.instanceMethod yX4_findFars, Cond.selects RX4 yX4_findFars yX4_findFars, Cond.initialized RX4, Cond.code yX4_findFars cX4_findFars 2 none, Cond.fieldLink RX4 28 "SayingsMerged" "told" "LSayingsMerged$Told;", Cond.fieldLink RX4 50 "SayingsMerged" "fars" "[[J", Cond.methodLink RX4 206 yX0_findLengths, Cond.instanceMethod yX0_findLengths, Cond.selects RX0 yX0_findLengths yX0_findLengths, Cond.initialized RX0, Cond.code yX0_findLengths cX0_findLengths 3 none, Cond.fieldLink RX0 25 "SayingsMerged$Distances" "lengths" "[I", Cond.fieldLink RX0 21 "SayingsMerged$Distances" "alike" "Z", Cond.fieldLink RX0 9 "SayingsMerged$Distances" "costs" "[I", Cond.methodLink RX0 34 yJ6_numberOfTrailingZeros_0f7a4, Cond.static yJ6_numberOfTrailingZeros_0f7a4, Cond.initialized RJ6, Cond.code yJ6_numberOfTrailingZeros_0f7a4 cJ6_numberOfTrailingZeros_0f7a4 2 (some .int), Cond.constant RJ6 264 (65536), Cond.methodLink RX4 209 yX0_findFars, Cond.instanceMethod yX0_findFars, Cond.selects RX0 yX0_findFars yX0_findFars]
def wsX4_cost_r2 : List Cond := [Cond.code yX0_findFars cX0_findFars 7 none, Cond.constantLong RX0 40 (1000), Cond.methodLink RX0 37 yJ7_fill_d0a16, Cond.static yJ7_fill_d0a16, Cond.initialized RJ7, Cond.code yJ7_fill_d0a16 cJ7_fill_d0a16 5 none, Cond.static yX4_isIn, Cond.code yX4_isIn cX4_isIn 3 (some .boolean), Cond.methodLink RX0 46 yX0_spread, Cond.static yX0_spread, Cond.code yX0_spread cX0_spread 4 none, Cond.methodLink RX0 50 Lib.MathLoose.min_long.x, Cond.static Lib.MathLoose.min_long.x, Cond.initialized "java/lang/Math", Cond.code Lib.MathLoose.min_long.x Lib.MathLoose.min_long.code 4 (some .long)]
def wsX4_cost : List Cond := .code yX4_cost cX4_cost 4 (some .int) :: ((wsX4_cost_r1 ++ wsX4_cost_r2) ++ wsX40 ++ wsX00 ++ wsX30)
def wsX4_measure_r1 : List Cond := [Cond.fieldLink RX4 44 "SayingsMerged" "distances" "LSayingsMerged$Distances;", Cond.methodLink RX4 88 yX4_findFars, Cond.instanceMethod yX4_findFars, Cond.selects RX4 yX4_findFars yX4_findFars, Cond.initialized RX4, Cond.code yX4_findFars cX4_findFars 2 none, Cond.fieldLink RX4 28 "SayingsMerged" "told" "LSayingsMerged$Told;", Cond.fieldLink RX4 50 "SayingsMerged" "fars" "[[J", Cond.methodLink RX4 206 yX0_findLengths, Cond.instanceMethod yX0_findLengths, Cond.selects RX0 yX0_findLengths yX0_findLengths, Cond.initialized RX0, Cond.code yX0_findLengths cX0_findLengths 3 none, Cond.fieldLink RX0 25 "SayingsMerged$Distances" "lengths" "[I", Cond.fieldLink RX0 21 "SayingsMerged$Distances" "alike" "Z", Cond.fieldLink RX0 9 "SayingsMerged$Distances" "costs" "[I", Cond.methodLink RX0 34 yJ6_numberOfTrailingZeros_0f7a4, Cond.static yJ6_numberOfTrailingZeros_0f7a4, Cond.initialized RJ6, Cond.code yJ6_numberOfTrailingZeros_0f7a4 cJ6_numberOfTrailingZeros_0f7a4 2 (some .int), Cond.constant RJ6 264 (65536), Cond.methodLink RX4 209 yX0_findFars, Cond.instanceMethod yX0_findFars, Cond.selects RX0 yX0_findFars yX0_findFars]
def wsX4_measure_r2 : List Cond := [Cond.code yX0_findFars cX0_findFars 7 none, Cond.constantLong RX0 40 (1000), Cond.methodLink RX0 37 yJ7_fill_d0a16, Cond.static yJ7_fill_d0a16, Cond.initialized RJ7, Cond.code yJ7_fill_d0a16 cJ7_fill_d0a16 5 none, Cond.static yX4_isIn, Cond.code yX4_isIn cX4_isIn 3 (some .boolean), Cond.methodLink RX0 46 yX0_spread, Cond.static yX0_spread, Cond.code yX0_spread cX0_spread 4 none, Cond.methodLink RX0 50 Lib.MathLoose.min_long.x, Cond.static Lib.MathLoose.min_long.x, Cond.initialized "java/lang/Math", Cond.code Lib.MathLoose.min_long.x Lib.MathLoose.min_long.code 4 (some .long)]
def wsX4_measure : List Cond := .code yX4_measure cX4_measure 3 (some .int) :: ((wsX4_measure_r1 ++ wsX4_measure_r2) ++ wsX40 ++ wsX00 ++ wsX30)
def wsX4_isWorld : List Cond := .code yX4_isWorld cX4_isWorld 1 (some .boolean) :: ([])
def wsX4_apart : List Cond := .code yX4_apart cX4_apart 3 (some .int) :: ([.fieldLink RX4 44 "SayingsMerged" "distances" "LSayingsMerged$Distances;", .methodLink RX4 119 yX4_isWorld, .static yX4_isWorld, .initialized RX4, .code yX4_isWorld cX4_isWorld 1 (some .boolean)] ++ wsX40 ++ wsX00)
def wsX4_burdenOf : List Cond := .code yX4_burdenOf cX4_burdenOf 3 (some .long) :: ([.fieldLink RX4 28 "SayingsMerged" "told" "LSayingsMerged$Told;", .fieldLink RX4 50 "SayingsMerged" "fars" "[[J"] ++ wsX40 ++ wsX30)
def wsX4_burden : List Cond := .code yX4_burden cX4_burden 3 (some .int) :: ([.methodLink RX4 104 yX4_isSayer, .instanceMethod yX4_isSayer, .selects RX4 yX4_isSayer yX4_isSayer, .initialized RX4, .code yX4_isSayer cX4_isSayer 2 (some .boolean), .fieldLink RX4 28 "SayingsMerged" "told" "LSayingsMerged$Told;", .methodLink RX4 119 yX4_isWorld, .static yX4_isWorld, .code yX4_isWorld cX4_isWorld 1 (some .boolean), .methodLink RX4 125 yX4_burdenOf, .instanceMethod yX4_burdenOf, .selects RX4 yX4_burdenOf yX4_burdenOf, .code yX4_burdenOf cX4_burdenOf 3 (some .long), .fieldLink RX4 50 "SayingsMerged" "fars" "[[J"] ++ wsX40 ++ wsX30)
def wsX4_isWay : List Cond := .code yX4_isWay cX4_isWay 1 (some .boolean) :: ([])
def wsX4_putIntoRow : List Cond := .code yX4_putIntoRow cX4_putIntoRow 9 (some .long) :: ([.constantLong RX4 233 (511)])
def wsX4_joined : List Cond := .code yX4_joined cX4_joined 5 (some .long) :: ([.methodLink RX4 225 Lib.MathLoose.max_long.x, .static Lib.MathLoose.max_long.x, .initialized "java/lang/Math", .code Lib.MathLoose.max_long.x Lib.MathLoose.max_long.code 4 (some .long), .methodLink RX4 230 yX4_putIntoRow, .static yX4_putIntoRow, .initialized RX4, .code yX4_putIntoRow cX4_putIntoRow 9 (some .long), .constantLong RX4 233 (511)])
def wsX4_weighed : List Cond := .code yX4_weighed cX4_weighed 7 (some .long) :: ([.fieldLink RX4 28 "SayingsMerged" "told" "LSayingsMerged$Told;", .methodLink RX4 125 yX4_burdenOf, .instanceMethod yX4_burdenOf, .selects RX4 yX4_burdenOf yX4_burdenOf, .initialized RX4, .code yX4_burdenOf cX4_burdenOf 3 (some .long), .fieldLink RX4 50 "SayingsMerged" "fars" "[[J", .methodLink RX4 221 yX4_joined, .static yX4_joined, .code yX4_joined cX4_joined 5 (some .long), .methodLink RX4 225 Lib.MathLoose.max_long.x, .static Lib.MathLoose.max_long.x, .initialized "java/lang/Math", .code Lib.MathLoose.max_long.x Lib.MathLoose.max_long.code 4 (some .long), .methodLink RX4 230 yX4_putIntoRow, .static yX4_putIntoRow, .code yX4_putIntoRow cX4_putIntoRow 9 (some .long), .constantLong RX4 233 (511)] ++ wsX40 ++ wsX30)
def wsX4_least : List Cond := .code yX4_least cX4_least 8 (some .long) :: ([.constantLong RX4 215 (9223372036854775807), .methodLink RX4 217 yX4_isIn, .static yX4_isIn, .initialized RX4, .code yX4_isIn cX4_isIn 3 (some .boolean)])
def wsX4_mergedBy_r1 : List Cond := [Cond.fieldLink RX4 60 "SayingsMerged" "scale" "[J", Cond.fieldLink RX4 28 "SayingsMerged" "told" "LSayingsMerged$Told;", Cond.methodLink RX4 136 yX4_weighed, Cond.instanceMethod yX4_weighed, Cond.selects RX4 yX4_weighed yX4_weighed, Cond.initialized RX4, Cond.code yX4_weighed cX4_weighed 7 (some .long), Cond.methodLink RX4 125 yX4_burdenOf, Cond.instanceMethod yX4_burdenOf, Cond.selects RX4 yX4_burdenOf yX4_burdenOf, Cond.code yX4_burdenOf cX4_burdenOf 3 (some .long), Cond.fieldLink RX4 50 "SayingsMerged" "fars" "[[J", Cond.methodLink RX4 221 yX4_joined, Cond.static yX4_joined, Cond.code yX4_joined cX4_joined 5 (some .long), Cond.methodLink RX4 225 Lib.MathLoose.max_long.x, Cond.static Lib.MathLoose.max_long.x, Cond.initialized "java/lang/Math", Cond.code Lib.MathLoose.max_long.x Lib.MathLoose.max_long.code 4 (some .long), Cond.methodLink RX4 230 yX4_putIntoRow, Cond.static yX4_putIntoRow, Cond.code yX4_putIntoRow cX4_putIntoRow 9 (some .long), Cond.constantLong RX4 233 (511), Cond.methodLink RX4 140 yX4_least]
def wsX4_mergedBy_r2 : List Cond := [Cond.static yX4_least, Cond.code yX4_least cX4_least 8 (some .long), Cond.constantLong RX4 215 (9223372036854775807), Cond.methodLink RX4 217 yX4_isIn, Cond.static yX4_isIn, Cond.code yX4_isIn cX4_isIn 3 (some .boolean)]
def wsX4_mergedBy : List Cond := .code yX4_mergedBy cX4_mergedBy 3 (some .long) :: ((wsX4_mergedBy_r1 ++ wsX4_mergedBy_r2) ++ wsX40 ++ wsX30)
def wsX4_merged_r1 : List Cond := [Cond.methodLink RX4 129 yX4_isWay, Cond.static yX4_isWay, Cond.initialized RX4, Cond.code yX4_isWay cX4_isWay 1 (some .boolean), Cond.methodLink RX4 132 yX4_mergedBy, Cond.instanceMethod yX4_mergedBy, Cond.selects RX4 yX4_mergedBy yX4_mergedBy, Cond.code yX4_mergedBy cX4_mergedBy 3 (some .long), Cond.fieldLink RX4 60 "SayingsMerged" "scale" "[J", Cond.fieldLink RX4 28 "SayingsMerged" "told" "LSayingsMerged$Told;", Cond.methodLink RX4 136 yX4_weighed, Cond.instanceMethod yX4_weighed, Cond.selects RX4 yX4_weighed yX4_weighed, Cond.code yX4_weighed cX4_weighed 7 (some .long), Cond.methodLink RX4 125 yX4_burdenOf, Cond.instanceMethod yX4_burdenOf, Cond.selects RX4 yX4_burdenOf yX4_burdenOf, Cond.code yX4_burdenOf cX4_burdenOf 3 (some .long), Cond.fieldLink RX4 50 "SayingsMerged" "fars" "[[J", Cond.methodLink RX4 221 yX4_joined, Cond.static yX4_joined, Cond.code yX4_joined cX4_joined 5 (some .long), Cond.methodLink RX4 225 Lib.MathLoose.max_long.x, Cond.static Lib.MathLoose.max_long.x]
def wsX4_merged_r2 : List Cond := [Cond.initialized "java/lang/Math", Cond.code Lib.MathLoose.max_long.x Lib.MathLoose.max_long.code 4 (some .long), Cond.methodLink RX4 230 yX4_putIntoRow, Cond.static yX4_putIntoRow, Cond.code yX4_putIntoRow cX4_putIntoRow 9 (some .long), Cond.constantLong RX4 233 (511), Cond.methodLink RX4 140 yX4_least, Cond.static yX4_least, Cond.code yX4_least cX4_least 8 (some .long), Cond.constantLong RX4 215 (9223372036854775807), Cond.methodLink RX4 217 yX4_isIn, Cond.static yX4_isIn, Cond.code yX4_isIn cX4_isIn 3 (some .boolean)]
def wsX4_merged : List Cond := .code yX4_merged cX4_merged 2 (some .long) :: ((wsX4_merged_r1 ++ wsX4_merged_r2) ++ wsX40 ++ wsX30)
def wsX4_value_r1 : List Cond := [Cond.methodLink RX4 119 yX4_isWorld, Cond.static yX4_isWorld, Cond.initialized RX4, Cond.code yX4_isWorld cX4_isWorld 1 (some .boolean), Cond.methodLink RX4 136 yX4_weighed, Cond.instanceMethod yX4_weighed, Cond.selects RX4 yX4_weighed yX4_weighed, Cond.code yX4_weighed cX4_weighed 7 (some .long), Cond.fieldLink RX4 28 "SayingsMerged" "told" "LSayingsMerged$Told;", Cond.methodLink RX4 125 yX4_burdenOf, Cond.instanceMethod yX4_burdenOf, Cond.selects RX4 yX4_burdenOf yX4_burdenOf, Cond.code yX4_burdenOf cX4_burdenOf 3 (some .long), Cond.fieldLink RX4 50 "SayingsMerged" "fars" "[[J", Cond.methodLink RX4 221 yX4_joined, Cond.static yX4_joined, Cond.code yX4_joined cX4_joined 5 (some .long), Cond.methodLink RX4 225 Lib.MathLoose.max_long.x, Cond.static Lib.MathLoose.max_long.x, Cond.initialized "java/lang/Math", Cond.code Lib.MathLoose.max_long.x Lib.MathLoose.max_long.code 4 (some .long), Cond.methodLink RX4 230 yX4_putIntoRow, Cond.static yX4_putIntoRow, Cond.code yX4_putIntoRow cX4_putIntoRow 9 (some .long)]
def wsX4_value_r2 : List Cond := [Cond.constantLong RX4 233 (511)]
def wsX4_value : List Cond := .code yX4_value cX4_value 3 (some .int) :: ((wsX4_value_r1 ++ wsX4_value_r2) ++ wsX40 ++ wsX30)
def wsX4_held_r1 : List Cond := [Cond.fieldLink RX4 37 "SayingsMerged" "asked" "J", Cond.constantLong RX4 35 (-1), Cond.methodLink RX4 129 yX4_isWay, Cond.static yX4_isWay, Cond.initialized RX4, Cond.code yX4_isWay cX4_isWay 1 (some .boolean), Cond.methodLink RX4 132 yX4_mergedBy, Cond.instanceMethod yX4_mergedBy, Cond.selects RX4 yX4_mergedBy yX4_mergedBy, Cond.code yX4_mergedBy cX4_mergedBy 3 (some .long), Cond.fieldLink RX4 60 "SayingsMerged" "scale" "[J", Cond.fieldLink RX4 28 "SayingsMerged" "told" "LSayingsMerged$Told;", Cond.methodLink RX4 136 yX4_weighed, Cond.instanceMethod yX4_weighed, Cond.selects RX4 yX4_weighed yX4_weighed, Cond.code yX4_weighed cX4_weighed 7 (some .long), Cond.methodLink RX4 125 yX4_burdenOf, Cond.instanceMethod yX4_burdenOf, Cond.selects RX4 yX4_burdenOf yX4_burdenOf, Cond.code yX4_burdenOf cX4_burdenOf 3 (some .long), Cond.fieldLink RX4 50 "SayingsMerged" "fars" "[[J", Cond.methodLink RX4 221 yX4_joined, Cond.static yX4_joined, Cond.code yX4_joined cX4_joined 5 (some .long)]
def wsX4_held_r2 : List Cond := [Cond.methodLink RX4 225 Lib.MathLoose.max_long.x, Cond.static Lib.MathLoose.max_long.x, Cond.initialized "java/lang/Math", Cond.code Lib.MathLoose.max_long.x Lib.MathLoose.max_long.code 4 (some .long), Cond.methodLink RX4 230 yX4_putIntoRow, Cond.static yX4_putIntoRow, Cond.code yX4_putIntoRow cX4_putIntoRow 9 (some .long), Cond.constantLong RX4 233 (511), Cond.methodLink RX4 140 yX4_least, Cond.static yX4_least, Cond.code yX4_least cX4_least 8 (some .long), Cond.constantLong RX4 215 (9223372036854775807), Cond.methodLink RX4 217 yX4_isIn, Cond.static yX4_isIn, Cond.code yX4_isIn cX4_isIn 3 (some .boolean)]
def wsX4_held : List Cond := .code yX4_held cX4_held 2 (some .int) :: ((wsX4_held_r1 ++ wsX4_held_r2) ++ wsX40 ++ wsX30)
def wsX4_goneAlong : List Cond := .code yX4_goneAlong cX4_goneAlong 9 (some .long) :: ([.fieldLink RX4 60 "SayingsMerged" "scale" "[J", .fieldLink RX4 44 "SayingsMerged" "distances" "LSayingsMerged$Distances;", .methodLink RX4 217 yX4_isIn, .static yX4_isIn, .initialized RX4, .code yX4_isIn cX4_isIn 3 (some .boolean), .methodLink RX4 140 yX4_least, .static yX4_least, .code yX4_least cX4_least 8 (some .long), .constantLong RX4 215 (9223372036854775807)] ++ wsX40 ++ wsX00)
def wsX4_changed : List Cond := .code yX4_changed cX4_changed 3 (some .long) :: ([.fieldLink RX4 28 "SayingsMerged" "told" "LSayingsMerged$Told;", .fieldLink RX4 37 "SayingsMerged" "asked" "J", .fieldLink RX4 50 "SayingsMerged" "fars" "[[J", .constantLong RX4 35 (-1), .methodLink RX4 104 yX4_isSayer, .instanceMethod yX4_isSayer, .selects RX4 yX4_isSayer yX4_isSayer, .initialized RX4, .code yX4_isSayer cX4_isSayer 2 (some .boolean), .methodLink RX4 140 yX4_least, .static yX4_least, .code yX4_least cX4_least 8 (some .long), .constantLong RX4 215 (9223372036854775807), .methodLink RX4 217 yX4_isIn, .static yX4_isIn, .code yX4_isIn cX4_isIn 3 (some .boolean), .methodLink RX4 144 yX4_goneAlong, .instanceMethod yX4_goneAlong, .selects RX4 yX4_goneAlong yX4_goneAlong, .code yX4_goneAlong cX4_goneAlong 9 (some .long), .fieldLink RX4 60 "SayingsMerged" "scale" "[J", .fieldLink RX4 44 "SayingsMerged" "distances" "LSayingsMerged$Distances;"] ++ wsX40 ++ wsX30 ++ wsX00)
def wsX4_isQuarrel : List Cond := .code yX4_isQuarrel cX4_isQuarrel 2 (some .boolean) :: ([.fieldLink RX4 53 "SayingsMerged" "common" "[J"] ++ wsX40)
def wsX4_quarrels : List Cond := .code yX4_quarrels cX4_quarrels 2 (some .int) :: ([.methodLink RX4 148 yX4_setsOfSayers, .instanceMethod yX4_setsOfSayers, .selects RX4 yX4_setsOfSayers yX4_setsOfSayers, .initialized RX4, .code yX4_setsOfSayers cX4_setsOfSayers 1 (some .int), .fieldLink RX4 28 "SayingsMerged" "told" "LSayingsMerged$Told;", .methodLink RX4 152 yX4_isQuarrel, .instanceMethod yX4_isQuarrel, .selects RX4 yX4_isQuarrel yX4_isQuarrel, .code yX4_isQuarrel cX4_isQuarrel 2 (some .boolean), .fieldLink RX4 53 "SayingsMerged" "common" "[J"] ++ wsX40 ++ wsX30)
def wsX4_isLeastQuarrel : List Cond := .code yX4_isLeastQuarrel cX4_isLeastQuarrel 3 (some .boolean) :: ([.fieldLink RX4 28 "SayingsMerged" "told" "LSayingsMerged$Told;", .methodLink RX4 152 yX4_isQuarrel, .instanceMethod yX4_isQuarrel, .selects RX4 yX4_isQuarrel yX4_isQuarrel, .initialized RX4, .code yX4_isQuarrel cX4_isQuarrel 2 (some .boolean), .fieldLink RX4 53 "SayingsMerged" "common" "[J"] ++ wsX40 ++ wsX30)
def wsX4_isGreatestAgreed : List Cond := .code yX4_isGreatestAgreed cX4_isGreatestAgreed 3 (some .boolean) :: ([.fieldLink RX4 28 "SayingsMerged" "told" "LSayingsMerged$Told;", .methodLink RX4 152 yX4_isQuarrel, .instanceMethod yX4_isQuarrel, .selects RX4 yX4_isQuarrel yX4_isQuarrel, .initialized RX4, .code yX4_isQuarrel cX4_isQuarrel 2 (some .boolean), .fieldLink RX4 53 "SayingsMerged" "common" "[J"] ++ wsX40 ++ wsX30)
def wsX4_isListed : List Cond := .code yX4_isListed cX4_isListed 3 (some .boolean) :: ([.methodLink RX4 165 yX4_isLeastQuarrel, .instanceMethod yX4_isLeastQuarrel, .selects RX4 yX4_isLeastQuarrel yX4_isLeastQuarrel, .initialized RX4, .code yX4_isLeastQuarrel cX4_isLeastQuarrel 3 (some .boolean), .fieldLink RX4 28 "SayingsMerged" "told" "LSayingsMerged$Told;", .methodLink RX4 152 yX4_isQuarrel, .instanceMethod yX4_isQuarrel, .selects RX4 yX4_isQuarrel yX4_isQuarrel, .code yX4_isQuarrel cX4_isQuarrel 2 (some .boolean), .fieldLink RX4 53 "SayingsMerged" "common" "[J", .methodLink RX4 242 yX4_isGreatestAgreed, .instanceMethod yX4_isGreatestAgreed, .selects RX4 yX4_isGreatestAgreed yX4_isGreatestAgreed, .code yX4_isGreatestAgreed cX4_isGreatestAgreed 3 (some .boolean)] ++ wsX40 ++ wsX30)
def wsX4_sets_r1 : List Cond := [Cond.fieldLink RX4 28 "SayingsMerged" "told" "LSayingsMerged$Told;", Cond.methodLink RX4 148 yX4_setsOfSayers, Cond.instanceMethod yX4_setsOfSayers, Cond.selects RX4 yX4_setsOfSayers yX4_setsOfSayers, Cond.initialized RX4, Cond.code yX4_setsOfSayers cX4_setsOfSayers 1 (some .int), Cond.methodLink RX4 155 yJ6_bitCount_0f7a4, Cond.static yJ6_bitCount_0f7a4, Cond.initialized RJ6, Cond.code yJ6_bitCount_0f7a4 cJ6_bitCount_0f7a4 1 (some .int), Cond.constant RJ6 265 (1431655765), Cond.constant RJ6 266 (858993459), Cond.constant RJ6 267 (252645135), Cond.methodLink RX4 161 yX4_isListed, Cond.instanceMethod yX4_isListed, Cond.selects RX4 yX4_isListed yX4_isListed, Cond.code yX4_isListed cX4_isListed 3 (some .boolean), Cond.methodLink RX4 165 yX4_isLeastQuarrel, Cond.instanceMethod yX4_isLeastQuarrel, Cond.selects RX4 yX4_isLeastQuarrel yX4_isLeastQuarrel, Cond.code yX4_isLeastQuarrel cX4_isLeastQuarrel 3 (some .boolean), Cond.methodLink RX4 152 yX4_isQuarrel, Cond.instanceMethod yX4_isQuarrel, Cond.selects RX4 yX4_isQuarrel yX4_isQuarrel]
def wsX4_sets_r2 : List Cond := [Cond.code yX4_isQuarrel cX4_isQuarrel 2 (some .boolean), Cond.fieldLink RX4 53 "SayingsMerged" "common" "[J", Cond.methodLink RX4 242 yX4_isGreatestAgreed, Cond.instanceMethod yX4_isGreatestAgreed, Cond.selects RX4 yX4_isGreatestAgreed yX4_isGreatestAgreed, Cond.code yX4_isGreatestAgreed cX4_isGreatestAgreed 3 (some .boolean)]
def wsX4_sets : List Cond := .code yX4_sets cX4_sets 7 (some .int) :: ((wsX4_sets_r1 ++ wsX4_sets_r2) ++ wsX40 ++ wsX30)
def wsX4_free : List Cond := .code yX4_free cX4_free 3 (some .int) :: ([.methodLink RX4 148 yX4_setsOfSayers, .instanceMethod yX4_setsOfSayers, .selects RX4 yX4_setsOfSayers yX4_setsOfSayers, .initialized RX4, .code yX4_setsOfSayers cX4_setsOfSayers 1 (some .int), .fieldLink RX4 28 "SayingsMerged" "told" "LSayingsMerged$Told;", .methodLink RX4 165 yX4_isLeastQuarrel, .instanceMethod yX4_isLeastQuarrel, .selects RX4 yX4_isLeastQuarrel yX4_isLeastQuarrel, .code yX4_isLeastQuarrel cX4_isLeastQuarrel 3 (some .boolean), .methodLink RX4 152 yX4_isQuarrel, .instanceMethod yX4_isQuarrel, .selects RX4 yX4_isQuarrel yX4_isQuarrel, .code yX4_isQuarrel cX4_isQuarrel 2 (some .boolean), .fieldLink RX4 53 "SayingsMerged" "common" "[J"] ++ wsX40 ++ wsX30)
def wsX4_ordersTurnedBy : List Cond := .code yX4_ordersTurnedBy cX4_ordersTurnedBy 5 (some .int) :: ([.fieldLink RX4 171 "SayingsMerged" "ORDERS" "[I", .fieldLink RX4 28 "SayingsMerged" "told" "LSayingsMerged$Told;", .methodLink RX4 148 yX4_setsOfSayers, .instanceMethod yX4_setsOfSayers, .selects RX4 yX4_setsOfSayers yX4_setsOfSayers, .initialized RX4, .code yX4_setsOfSayers cX4_setsOfSayers 1 (some .int), .methodLink RX4 152 yX4_isQuarrel, .instanceMethod yX4_isQuarrel, .selects RX4 yX4_isQuarrel yX4_isQuarrel, .code yX4_isQuarrel cX4_isQuarrel 2 (some .boolean), .fieldLink RX4 53 "SayingsMerged" "common" "[J", .methodLink RX4 155 yJ6_bitCount_0f7a4, .static yJ6_bitCount_0f7a4, .initialized RJ6, .code yJ6_bitCount_0f7a4 cJ6_bitCount_0f7a4 1 (some .int), .constant RJ6 265 (1431655765), .constant RJ6 266 (858993459), .constant RJ6 267 (252645135)] ++ wsX40 ++ wsX30)
def wsX4_commonDivisor : List Cond := .code yX4_commonDivisor cX4_commonDivisor 6 (some .int) :: ([])
def wsX4_share_r1 : List Cond := [Cond.fieldLink RX4 171 "SayingsMerged" "ORDERS" "[I", Cond.fieldLink RX4 28 "SayingsMerged" "told" "LSayingsMerged$Told;", Cond.methodLink RX4 104 yX4_isSayer, Cond.instanceMethod yX4_isSayer, Cond.selects RX4 yX4_isSayer yX4_isSayer, Cond.initialized RX4, Cond.code yX4_isSayer cX4_isSayer 2 (some .boolean), Cond.methodLink RX4 168 yX4_ordersTurnedBy, Cond.instanceMethod yX4_ordersTurnedBy, Cond.selects RX4 yX4_ordersTurnedBy yX4_ordersTurnedBy, Cond.code yX4_ordersTurnedBy cX4_ordersTurnedBy 5 (some .int), Cond.methodLink RX4 148 yX4_setsOfSayers, Cond.instanceMethod yX4_setsOfSayers, Cond.selects RX4 yX4_setsOfSayers yX4_setsOfSayers, Cond.code yX4_setsOfSayers cX4_setsOfSayers 1 (some .int), Cond.methodLink RX4 152 yX4_isQuarrel, Cond.instanceMethod yX4_isQuarrel, Cond.selects RX4 yX4_isQuarrel yX4_isQuarrel, Cond.code yX4_isQuarrel cX4_isQuarrel 2 (some .boolean), Cond.fieldLink RX4 53 "SayingsMerged" "common" "[J", Cond.methodLink RX4 155 yJ6_bitCount_0f7a4, Cond.static yJ6_bitCount_0f7a4, Cond.initialized RJ6, Cond.code yJ6_bitCount_0f7a4 cJ6_bitCount_0f7a4 1 (some .int)]
def wsX4_share_r2 : List Cond := [Cond.constant RJ6 265 (1431655765), Cond.constant RJ6 266 (858993459), Cond.constant RJ6 267 (252645135), Cond.methodLink RX4 174 yX4_commonDivisor, Cond.static yX4_commonDivisor, Cond.code yX4_commonDivisor cX4_commonDivisor 6 (some .int)]
def wsX4_share : List Cond := .code yX4_share cX4_share 6 (some .int) :: ((wsX4_share_r1 ++ wsX4_share_r2) ++ wsX40 ++ wsX30)
def wsX4_lossOf : List Cond := .code yX4_lossOf cX4_lossOf 7 (some .long) :: ([.fieldLink RX4 50 "SayingsMerged" "fars" "[[J", .methodLink RX4 225 Lib.MathLoose.max_long.x, .static Lib.MathLoose.max_long.x, .initialized "java/lang/Math", .code Lib.MathLoose.max_long.x Lib.MathLoose.max_long.code 4 (some .long), .methodLink RX4 217 yX4_isIn, .static yX4_isIn, .initialized RX4, .code yX4_isIn cX4_isIn 3 (some .boolean)] ++ wsX40)
def wsX4_mergedWithTerm : List Cond := .code yX4_mergedWithTerm cX4_mergedWithTerm 7 (some .long) :: ([.fieldLink RX4 60 "SayingsMerged" "scale" "[J", .fieldLink RX4 57 "SayingsMerged" "others" "[J", .fieldLink RX4 44 "SayingsMerged" "distances" "LSayingsMerged$Distances;", .fieldLink RX4 28 "SayingsMerged" "told" "LSayingsMerged$Told;", .methodLink RX4 221 yX4_joined, .static yX4_joined, .initialized RX4, .code yX4_joined cX4_joined 5 (some .long), .methodLink RX4 225 Lib.MathLoose.max_long.x, .static Lib.MathLoose.max_long.x, .initialized "java/lang/Math", .code Lib.MathLoose.max_long.x Lib.MathLoose.max_long.code 4 (some .long), .methodLink RX4 230 yX4_putIntoRow, .static yX4_putIntoRow, .code yX4_putIntoRow cX4_putIntoRow 9 (some .long), .constantLong RX4 233 (511), .methodLink RX4 140 yX4_least, .static yX4_least, .code yX4_least cX4_least 8 (some .long), .constantLong RX4 215 (9223372036854775807), .methodLink RX4 217 yX4_isIn, .static yX4_isIn, .code yX4_isIn cX4_isIn 3 (some .boolean)] ++ wsX40 ++ wsX00 ++ wsX30)
def wsX4_bestLie_r1 : List Cond := [Cond.fieldLink RX4 57 "SayingsMerged" "others" "[J", Cond.fieldLink RX4 28 "SayingsMerged" "told" "LSayingsMerged$Told;", Cond.methodLink RX4 136 yX4_weighed, Cond.instanceMethod yX4_weighed, Cond.selects RX4 yX4_weighed yX4_weighed, Cond.initialized RX4, Cond.code yX4_weighed cX4_weighed 7 (some .long), Cond.methodLink RX4 125 yX4_burdenOf, Cond.instanceMethod yX4_burdenOf, Cond.selects RX4 yX4_burdenOf yX4_burdenOf, Cond.code yX4_burdenOf cX4_burdenOf 3 (some .long), Cond.fieldLink RX4 50 "SayingsMerged" "fars" "[[J", Cond.methodLink RX4 221 yX4_joined, Cond.static yX4_joined, Cond.code yX4_joined cX4_joined 5 (some .long), Cond.methodLink RX4 225 Lib.MathLoose.max_long.x, Cond.static Lib.MathLoose.max_long.x, Cond.initialized "java/lang/Math", Cond.code Lib.MathLoose.max_long.x Lib.MathLoose.max_long.code 4 (some .long), Cond.methodLink RX4 230 yX4_putIntoRow, Cond.static yX4_putIntoRow, Cond.code yX4_putIntoRow cX4_putIntoRow 9 (some .long), Cond.constantLong RX4 233 (511), Cond.methodLink RX4 235 yX4_mergedWithTerm]
def wsX4_bestLie_r2 : List Cond := [Cond.instanceMethod yX4_mergedWithTerm, Cond.selects RX4 yX4_mergedWithTerm yX4_mergedWithTerm, Cond.code yX4_mergedWithTerm cX4_mergedWithTerm 7 (some .long), Cond.fieldLink RX4 60 "SayingsMerged" "scale" "[J", Cond.fieldLink RX4 44 "SayingsMerged" "distances" "LSayingsMerged$Distances;", Cond.methodLink RX4 140 yX4_least, Cond.static yX4_least, Cond.code yX4_least cX4_least 8 (some .long), Cond.constantLong RX4 215 (9223372036854775807), Cond.methodLink RX4 217 yX4_isIn, Cond.static yX4_isIn, Cond.code yX4_isIn cX4_isIn 3 (some .boolean), Cond.methodLink RX4 178 yX4_lossOf, Cond.instanceMethod yX4_lossOf, Cond.selects RX4 yX4_lossOf yX4_lossOf, Cond.code yX4_lossOf cX4_lossOf 7 (some .long)]
def wsX4_bestLie : List Cond := .code yX4_bestLie cX4_bestLie 15 (some .int) :: ((wsX4_bestLie_r1 ++ wsX4_bestLie_r2) ++ wsX40 ++ wsX30 ++ wsX00)
def wsX4_lie_r1 : List Cond := [Cond.methodLink RX4 104 yX4_isSayer, Cond.instanceMethod yX4_isSayer, Cond.selects RX4 yX4_isSayer yX4_isSayer, Cond.initialized RX4, Cond.code yX4_isSayer cX4_isSayer 2 (some .boolean), Cond.fieldLink RX4 28 "SayingsMerged" "told" "LSayingsMerged$Told;", Cond.methodLink RX4 129 yX4_isWay, Cond.static yX4_isWay, Cond.code yX4_isWay cX4_isWay 1 (some .boolean), Cond.methodLink RX4 132 yX4_mergedBy, Cond.instanceMethod yX4_mergedBy, Cond.selects RX4 yX4_mergedBy yX4_mergedBy, Cond.code yX4_mergedBy cX4_mergedBy 3 (some .long), Cond.fieldLink RX4 60 "SayingsMerged" "scale" "[J", Cond.methodLink RX4 136 yX4_weighed, Cond.instanceMethod yX4_weighed, Cond.selects RX4 yX4_weighed yX4_weighed, Cond.code yX4_weighed cX4_weighed 7 (some .long), Cond.methodLink RX4 125 yX4_burdenOf, Cond.instanceMethod yX4_burdenOf, Cond.selects RX4 yX4_burdenOf yX4_burdenOf, Cond.code yX4_burdenOf cX4_burdenOf 3 (some .long), Cond.fieldLink RX4 50 "SayingsMerged" "fars" "[[J", Cond.methodLink RX4 221 yX4_joined]
def wsX4_lie_r2 : List Cond := [Cond.static yX4_joined, Cond.code yX4_joined cX4_joined 5 (some .long), Cond.methodLink RX4 225 Lib.MathLoose.max_long.x, Cond.static Lib.MathLoose.max_long.x, Cond.initialized "java/lang/Math", Cond.code Lib.MathLoose.max_long.x Lib.MathLoose.max_long.code 4 (some .long), Cond.methodLink RX4 230 yX4_putIntoRow, Cond.static yX4_putIntoRow, Cond.code yX4_putIntoRow cX4_putIntoRow 9 (some .long), Cond.constantLong RX4 233 (511), Cond.methodLink RX4 140 yX4_least, Cond.static yX4_least, Cond.code yX4_least cX4_least 8 (some .long), Cond.constantLong RX4 215 (9223372036854775807), Cond.methodLink RX4 217 yX4_isIn, Cond.static yX4_isIn, Cond.code yX4_isIn cX4_isIn 3 (some .boolean), Cond.methodLink RX4 178 yX4_lossOf, Cond.instanceMethod yX4_lossOf, Cond.selects RX4 yX4_lossOf yX4_lossOf, Cond.code yX4_lossOf cX4_lossOf 7 (some .long), Cond.methodLink RX4 182 yX4_bestLie, Cond.instanceMethod yX4_bestLie, Cond.selects RX4 yX4_bestLie yX4_bestLie]
def wsX4_lie_r3 : List Cond := [Cond.code yX4_bestLie cX4_bestLie 15 (some .int), Cond.fieldLink RX4 57 "SayingsMerged" "others" "[J", Cond.methodLink RX4 235 yX4_mergedWithTerm, Cond.instanceMethod yX4_mergedWithTerm, Cond.selects RX4 yX4_mergedWithTerm yX4_mergedWithTerm, Cond.code yX4_mergedWithTerm cX4_mergedWithTerm 7 (some .long), Cond.fieldLink RX4 44 "SayingsMerged" "distances" "LSayingsMerged$Distances;"]
def wsX4_lie : List Cond := .code yX4_lie cX4_lie 6 (some .int) :: ((wsX4_lie_r1 ++ (wsX4_lie_r2 ++ wsX4_lie_r3)) ++ wsX40 ++ wsX30 ++ wsX00)
def wsJ13_bitCount_95d88 : List Cond := .code yJ13_bitCount_95d88 cJ13_bitCount_95d88 2 (some .int) :: ([.constantLong RJ13 314 (6148914691236517205), .constantLong RJ13 316 (3689348814741910323), .constantLong RJ13 318 (1085102592571150095)])
def wsX4_sayerWorth : List Cond := .code yX4_sayerWorth cX4_sayerWorth 2 (some .int) :: ([.fieldLink RX4 63 "SayingsMerged" "traced" "J", .fieldLink RX4 28 "SayingsMerged" "told" "LSayingsMerged$Told;", .methodLink RX4 201 yJ13_bitCount_95d88, .static yJ13_bitCount_95d88, .initialized RJ13, .code yJ13_bitCount_95d88 cJ13_bitCount_95d88 2 (some .int), .constantLong RJ13 314 (6148914691236517205), .constantLong RJ13 316 (3689348814741910323), .constantLong RJ13 318 (1085102592571150095)] ++ wsX40 ++ wsX30)
def wsX4_weightyWorth : List Cond := .code yX4_weightyWorth cX4_weightyWorth 2 (some .int) :: ([.fieldLink RX4 63 "SayingsMerged" "traced" "J", .constantLong RX4 245 (10), .fieldLink RX4 28 "SayingsMerged" "told" "LSayingsMerged$Told;", .methodLink RX4 186 yX4_sayerWorth, .instanceMethod yX4_sayerWorth, .selects RX4 yX4_sayerWorth yX4_sayerWorth, .initialized RX4, .code yX4_sayerWorth cX4_sayerWorth 2 (some .int), .methodLink RX4 201 yJ13_bitCount_95d88, .static yJ13_bitCount_95d88, .initialized RJ13, .code yJ13_bitCount_95d88 cJ13_bitCount_95d88 2 (some .int), .constantLong RJ13 314 (6148914691236517205), .constantLong RJ13 316 (3689348814741910323), .constantLong RJ13 318 (1085102592571150095)] ++ wsX40 ++ wsX30)
def wsX4_loneWorth : List Cond := .code yX4_loneWorth cX4_loneWorth 2 (some .int) :: ([.fieldLink RX4 63 "SayingsMerged" "traced" "J", .constantLong RX4 247 (100), .fieldLink RX4 28 "SayingsMerged" "told" "LSayingsMerged$Told;", .methodLink RX4 186 yX4_sayerWorth, .instanceMethod yX4_sayerWorth, .selects RX4 yX4_sayerWorth yX4_sayerWorth, .initialized RX4, .code yX4_sayerWorth cX4_sayerWorth 2 (some .int), .methodLink RX4 201 yJ13_bitCount_95d88, .static yJ13_bitCount_95d88, .initialized RJ13, .code yJ13_bitCount_95d88 cJ13_bitCount_95d88 2 (some .int), .constantLong RJ13 314 (6148914691236517205), .constantLong RJ13 316 (3689348814741910323), .constantLong RJ13 318 (1085102592571150095), .methodLink RX4 249 yX3_saidByOthers, .instanceMethod yX3_saidByOthers, .selects RX3 yX3_saidByOthers yX3_saidByOthers, .initialized RX3, .code yX3_saidByOthers cX3_saidByOthers 5 (some .long), .fieldLink RX3 21 "SayingsMerged$Told" "sayers" "I", .fieldLink RX3 24 "SayingsMerged$Told" "says" "[J"] ++ wsX40 ++ wsX30)
def wsX4_firmWorth_r1 : List Cond := [Cond.fieldLink RX4 63 "SayingsMerged" "traced" "J", Cond.constantLong RX4 252 (1000), Cond.methodLink RX4 189 yX4_weightyWorth, Cond.instanceMethod yX4_weightyWorth, Cond.selects RX4 yX4_weightyWorth yX4_weightyWorth, Cond.initialized RX4, Cond.code yX4_weightyWorth cX4_weightyWorth 2 (some .int), Cond.constantLong RX4 245 (10), Cond.fieldLink RX4 28 "SayingsMerged" "told" "LSayingsMerged$Told;", Cond.methodLink RX4 186 yX4_sayerWorth, Cond.instanceMethod yX4_sayerWorth, Cond.selects RX4 yX4_sayerWorth yX4_sayerWorth, Cond.code yX4_sayerWorth cX4_sayerWorth 2 (some .int), Cond.methodLink RX4 201 yJ13_bitCount_95d88, Cond.static yJ13_bitCount_95d88, Cond.initialized RJ13, Cond.code yJ13_bitCount_95d88 cJ13_bitCount_95d88 2 (some .int), Cond.constantLong RJ13 314 (6148914691236517205), Cond.constantLong RJ13 316 (3689348814741910323), Cond.constantLong RJ13 318 (1085102592571150095), Cond.methodLink RX4 132 yX4_mergedBy, Cond.instanceMethod yX4_mergedBy, Cond.selects RX4 yX4_mergedBy yX4_mergedBy, Cond.code yX4_mergedBy cX4_mergedBy 3 (some .long)]
def wsX4_firmWorth_r2 : List Cond := [Cond.fieldLink RX4 60 "SayingsMerged" "scale" "[J", Cond.methodLink RX4 136 yX4_weighed, Cond.instanceMethod yX4_weighed, Cond.selects RX4 yX4_weighed yX4_weighed, Cond.code yX4_weighed cX4_weighed 7 (some .long), Cond.methodLink RX4 125 yX4_burdenOf, Cond.instanceMethod yX4_burdenOf, Cond.selects RX4 yX4_burdenOf yX4_burdenOf, Cond.code yX4_burdenOf cX4_burdenOf 3 (some .long), Cond.fieldLink RX4 50 "SayingsMerged" "fars" "[[J", Cond.methodLink RX4 221 yX4_joined, Cond.static yX4_joined, Cond.code yX4_joined cX4_joined 5 (some .long), Cond.methodLink RX4 225 Lib.MathLoose.max_long.x, Cond.static Lib.MathLoose.max_long.x, Cond.initialized "java/lang/Math", Cond.code Lib.MathLoose.max_long.x Lib.MathLoose.max_long.code 4 (some .long), Cond.methodLink RX4 230 yX4_putIntoRow, Cond.static yX4_putIntoRow, Cond.code yX4_putIntoRow cX4_putIntoRow 9 (some .long), Cond.constantLong RX4 233 (511), Cond.methodLink RX4 140 yX4_least, Cond.static yX4_least, Cond.code yX4_least cX4_least 8 (some .long)]
def wsX4_firmWorth_r3 : List Cond := [Cond.constantLong RX4 215 (9223372036854775807), Cond.methodLink RX4 217 yX4_isIn, Cond.static yX4_isIn, Cond.code yX4_isIn cX4_isIn 3 (some .boolean)]
def wsX4_firmWorth : List Cond := .code yX4_firmWorth cX4_firmWorth 2 (some .int) :: ((wsX4_firmWorth_r1 ++ (wsX4_firmWorth_r2 ++ wsX4_firmWorth_r3)) ++ wsX40 ++ wsX30)
def wsX4_worth_r1 : List Cond := [Cond.methodLink RX4 104 yX4_isSayer, Cond.instanceMethod yX4_isSayer, Cond.selects RX4 yX4_isSayer yX4_isSayer, Cond.initialized RX4, Cond.code yX4_isSayer cX4_isSayer 2 (some .boolean), Cond.fieldLink RX4 28 "SayingsMerged" "told" "LSayingsMerged$Told;", Cond.methodLink RX4 186 yX4_sayerWorth, Cond.instanceMethod yX4_sayerWorth, Cond.selects RX4 yX4_sayerWorth yX4_sayerWorth, Cond.code yX4_sayerWorth cX4_sayerWorth 2 (some .int), Cond.fieldLink RX4 63 "SayingsMerged" "traced" "J", Cond.methodLink RX4 201 yJ13_bitCount_95d88, Cond.static yJ13_bitCount_95d88, Cond.initialized RJ13, Cond.code yJ13_bitCount_95d88 cJ13_bitCount_95d88 2 (some .int), Cond.constantLong RJ13 314 (6148914691236517205), Cond.constantLong RJ13 316 (3689348814741910323), Cond.constantLong RJ13 318 (1085102592571150095), Cond.methodLink RX4 189 yX4_weightyWorth, Cond.instanceMethod yX4_weightyWorth, Cond.selects RX4 yX4_weightyWorth yX4_weightyWorth, Cond.code yX4_weightyWorth cX4_weightyWorth 2 (some .int), Cond.constantLong RX4 245 (10), Cond.methodLink RX4 192 yX4_loneWorth]
def wsX4_worth_r2 : List Cond := [Cond.instanceMethod yX4_loneWorth, Cond.selects RX4 yX4_loneWorth yX4_loneWorth, Cond.code yX4_loneWorth cX4_loneWorth 2 (some .int), Cond.constantLong RX4 247 (100), Cond.methodLink RX4 249 yX3_saidByOthers, Cond.instanceMethod yX3_saidByOthers, Cond.selects RX3 yX3_saidByOthers yX3_saidByOthers, Cond.initialized RX3, Cond.code yX3_saidByOthers cX3_saidByOthers 5 (some .long), Cond.fieldLink RX3 21 "SayingsMerged$Told" "sayers" "I", Cond.fieldLink RX3 24 "SayingsMerged$Told" "says" "[J", Cond.methodLink RX4 195 yX4_firmWorth, Cond.instanceMethod yX4_firmWorth, Cond.selects RX4 yX4_firmWorth yX4_firmWorth, Cond.code yX4_firmWorth cX4_firmWorth 2 (some .int), Cond.constantLong RX4 252 (1000), Cond.methodLink RX4 132 yX4_mergedBy, Cond.instanceMethod yX4_mergedBy, Cond.selects RX4 yX4_mergedBy yX4_mergedBy, Cond.code yX4_mergedBy cX4_mergedBy 3 (some .long), Cond.fieldLink RX4 60 "SayingsMerged" "scale" "[J", Cond.methodLink RX4 136 yX4_weighed, Cond.instanceMethod yX4_weighed, Cond.selects RX4 yX4_weighed yX4_weighed]
def wsX4_worth_r3 : List Cond := [Cond.code yX4_weighed cX4_weighed 7 (some .long), Cond.methodLink RX4 125 yX4_burdenOf, Cond.instanceMethod yX4_burdenOf, Cond.selects RX4 yX4_burdenOf yX4_burdenOf, Cond.code yX4_burdenOf cX4_burdenOf 3 (some .long), Cond.fieldLink RX4 50 "SayingsMerged" "fars" "[[J", Cond.methodLink RX4 221 yX4_joined, Cond.static yX4_joined, Cond.code yX4_joined cX4_joined 5 (some .long), Cond.methodLink RX4 225 Lib.MathLoose.max_long.x, Cond.static Lib.MathLoose.max_long.x, Cond.initialized "java/lang/Math", Cond.code Lib.MathLoose.max_long.x Lib.MathLoose.max_long.code 4 (some .long), Cond.methodLink RX4 230 yX4_putIntoRow, Cond.static yX4_putIntoRow, Cond.code yX4_putIntoRow cX4_putIntoRow 9 (some .long), Cond.constantLong RX4 233 (511), Cond.methodLink RX4 140 yX4_least, Cond.static yX4_least, Cond.code yX4_least cX4_least 8 (some .long), Cond.constantLong RX4 215 (9223372036854775807), Cond.methodLink RX4 217 yX4_isIn, Cond.static yX4_isIn, Cond.code yX4_isIn cX4_isIn 3 (some .boolean)]
def wsX4_worth : List Cond := .code yX4_worth cX4_worth 3 (some .int) :: ((wsX4_worth_r1 ++ (wsX4_worth_r2 ++ wsX4_worth_r3)) ++ wsX40 ++ wsX30)
def wsX4_count : List Cond := .code yX4_count cX4_count 2 (some .int) :: ([.fieldLink RX4 28 "SayingsMerged" "told" "LSayingsMerged$Told;", .fieldLink RX4 12 "SayingsMerged" "text" "LSayingsMerged$Text;", .methodLink RX4 198 yX3_allWeights, .instanceMethod yX3_allWeights, .selects RX3 yX3_allWeights yX3_allWeights, .initialized RX3, .code yX3_allWeights cX3_allWeights 3 (some .int), .fieldLink RX3 21 "SayingsMerged$Told" "sayers" "I", .fieldLink RX3 28 "SayingsMerged$Told" "weights" "[I", .methodLink RX4 201 yJ13_bitCount_95d88, .static yJ13_bitCount_95d88, .initialized RJ13, .code yJ13_bitCount_95d88 cJ13_bitCount_95d88 2 (some .int), .constantLong RJ13 314 (6148914691236517205), .constantLong RJ13 316 (3689348814741910323), .constantLong RJ13 318 (1085102592571150095)] ++ wsX40 ++ wsX30 ++ wsX20)
def wsX4_trace : List Cond := .code yX4_trace cX4_trace 1 (some .long) :: ([.fieldLink RX4 63 "SayingsMerged" "traced" "J"] ++ wsX40)
def wsX5_init : List Cond := .code yX5_init cX5_init 1 none :: ([.methodLink RX5 1 objectInit, .instanceMethod objectInit, .code objectInit ⟨#[0xb1]⟩ 1 none, .arrayClass .byte, .fieldLink RX5 7 "SayingsMergedModel" "text" "[B", .constantLong RX5 13 (-1), .fieldLink RX5 15 "SayingsMergedModel" "there" "J", .fieldLink RX5 19 "SayingsMergedModel" "question" "J", .arrayClass .int, .fieldLink RX5 22 "SayingsMergedModel" "weight" "[I", .arrayClass .long, .fieldLink RX5 26 "SayingsMergedModel" "says" "[J", .fieldLink RX5 30 "SayingsMergedModel" "cost" "[I", .fieldLink RX5 33 "SayingsMergedModel" "readWeight" "[I", .fieldLink RX5 36 "SayingsMergedModel" "readSays" "[J", .fieldLink RX5 39 "SayingsMergedModel" "opened" "[I", .fieldLink RX5 42 "SayingsMergedModel" "any" "[J", .fieldLink RX5 45 "SayingsMergedModel" "all" "[J", .fieldLink RX5 48 "SayingsMergedModel" "burdens" "[I", .fieldLink RX5 51 "SayingsMergedModel" "best" "[I", .fieldLink RX5 54 "SayingsMergedModel" "own" "[I", .fieldLink RX5 57 "SayingsMergedModel" "truth" "[I"] ++ wsX50)
def wsX5_in : List Cond := .code yX5_in cX5_in 6 (some .boolean) :: ([])
def wsX5_has : List Cond := .code yX5_has cX5_has 3 (some .boolean) :: ([])
def wsX5_many : List Cond := .code yX5_many cX5_many 4 (some .int) :: ([.methodLink RX5 60 yX5_has, .static yX5_has, .initialized RX5, .code yX5_has cX5_has 3 (some .boolean)])
def wsX5_type : List Cond := .code yX5_type cX5_type 5 (some .int) :: ([.constantLong RX5 64 (8), .fieldLink RX5 70 "SayingsMergedModel" "length" "I", .fieldLink RX5 7 "SayingsMergedModel" "text" "[B", .methodLink RX5 66 yX5_in, .static yX5_in, .initialized RX5, .code yX5_in cX5_in 6 (some .boolean)] ++ wsX50)
def wsX5_clear : List Cond := .code yX5_clear cX5_clear 2 (some .int) :: ([.fieldLink RX5 70 "SayingsMergedModel" "length" "I"] ++ wsX50)
def wsX5_isLow : List Cond := .code yX5_isLow cX5_isLow 2 (some .boolean) :: ([.fieldLink RX5 70 "SayingsMergedModel" "length" "I", .fieldLink RX5 7 "SayingsMergedModel" "text" "[B", .constantLong RX5 74 (97), .constantLong RX5 76 (122), .methodLink RX5 66 yX5_in, .static yX5_in, .initialized RX5, .code yX5_in cX5_in 6 (some .boolean)] ++ wsX50)
def wsX5_isWord : List Cond := .code yX5_isWord cX5_isWord 4 (some .boolean) :: ([.fieldLink RX5 78 "SayingsMergedModel" "end" "I", .fieldLink RX5 81 "SayingsMergedModel" "begin" "I", .fieldLink RX5 7 "SayingsMergedModel" "text" "[B"] ++ wsX50)
def wsX5_token : List Cond := .code yX5_token cX5_token 3 none :: ([.fieldLink RX5 78 "SayingsMergedModel" "end" "I", .fieldLink RX5 81 "SayingsMergedModel" "begin" "I", .fieldLink RX5 70 "SayingsMergedModel" "length" "I", .fieldLink RX5 7 "SayingsMergedModel" "text" "[B", .fieldLink RX5 84 "SayingsMergedModel" "sort" "I", .constantLong RX5 95 (48), .constantLong RX5 97 (57), .methodLink RX5 87 yX5_isLow, .instanceMethod yX5_isLow, .selects RX5 yX5_isLow yX5_isLow, .initialized RX5, .code yX5_isLow cX5_isLow 2 (some .boolean), .constantLong RX5 74 (97), .constantLong RX5 76 (122), .methodLink RX5 66 yX5_in, .static yX5_in, .code yX5_in cX5_in 6 (some .boolean), .methodLink RX5 91 yX5_isWord, .instanceMethod yX5_isWord, .selects RX5 yX5_isWord yX5_isWord, .code yX5_isWord cX5_isWord 4 (some .boolean)] ++ wsX50)
def wsX5_lettered : List Cond := .code yX5_lettered cX5_lettered 4 (some .long) :: ([.methodLink RX5 60 yX5_has, .static yX5_has, .initialized RX5, .code yX5_has cX5_has 3 (some .boolean)])
def wsX5_ends : List Cond := .code yX5_ends cX5_ends 5 none :: ([.fieldLink RX5 99 "SayingsMergedModel" "open" "I", .fieldLink RX5 39 "SayingsMergedModel" "opened" "[I", .constantLong RX5 13 (-1), .fieldLink RX5 45 "SayingsMergedModel" "all" "[J", .fieldLink RX5 102 "SayingsMergedModel" "level" "I"] ++ wsX50)
def wsX5_saying_r1 : List Cond := [Cond.fieldLink RX5 99 "SayingsMergedModel" "open" "I", Cond.fieldLink RX5 102 "SayingsMergedModel" "level" "I", Cond.fieldLink RX5 42 "SayingsMergedModel" "any" "[J", Cond.fieldLink RX5 45 "SayingsMergedModel" "all" "[J", Cond.constantLong RX5 13 (-1), Cond.fieldLink RX5 84 "SayingsMergedModel" "sort" "I", Cond.constantLong RX5 74 (97), Cond.constantLong RX5 105 (102), Cond.fieldLink RX5 81 "SayingsMergedModel" "begin" "I", Cond.fieldLink RX5 39 "SayingsMergedModel" "opened" "[I", Cond.fieldLink RX5 115 "SayingsMergedModel" "said" "J", Cond.methodLink RX5 66 yX5_in, Cond.static yX5_in, Cond.initialized RX5, Cond.code yX5_in cX5_in 6 (some .boolean), Cond.methodLink RX5 107 yX5_lettered, Cond.static yX5_lettered, Cond.code yX5_lettered cX5_lettered 4 (some .long), Cond.methodLink RX5 60 yX5_has, Cond.static yX5_has, Cond.code yX5_has cX5_has 3 (some .boolean), Cond.methodLink RX5 111 yX5_ends, Cond.instanceMethod yX5_ends, Cond.selects RX5 yX5_ends yX5_ends]
def wsX5_saying_r2 : List Cond := [Cond.code yX5_ends cX5_ends 5 none, Cond.methodLink RX5 118 yX5_token, Cond.instanceMethod yX5_token, Cond.selects RX5 yX5_token yX5_token, Cond.code yX5_token cX5_token 3 none, Cond.fieldLink RX5 78 "SayingsMergedModel" "end" "I", Cond.fieldLink RX5 70 "SayingsMergedModel" "length" "I", Cond.fieldLink RX5 7 "SayingsMergedModel" "text" "[B", Cond.constantLong RX5 95 (48), Cond.constantLong RX5 97 (57), Cond.methodLink RX5 87 yX5_isLow, Cond.instanceMethod yX5_isLow, Cond.selects RX5 yX5_isLow yX5_isLow, Cond.code yX5_isLow cX5_isLow 2 (some .boolean), Cond.constantLong RX5 76 (122), Cond.methodLink RX5 91 yX5_isWord, Cond.instanceMethod yX5_isWord, Cond.selects RX5 yX5_isWord yX5_isWord, Cond.code yX5_isWord cX5_isWord 4 (some .boolean)]
def wsX5_saying : List Cond := .code yX5_saying cX5_saying 4 (some .int) :: ((wsX5_saying_r1 ++ wsX5_saying_r2) ++ wsX50)
def wsX5_fault_r1 : List Cond := [Cond.fieldLink RX5 121 "SayingsMergedModel" "readLaws" "I", Cond.fieldLink RX5 124 "SayingsMergedModel" "readSayers" "I", Cond.constantLong RX5 13 (-1), Cond.fieldLink RX5 127 "SayingsMergedModel" "readThere" "J", Cond.fieldLink RX5 78 "SayingsMergedModel" "end" "I", Cond.fieldLink RX5 84 "SayingsMergedModel" "sort" "I", Cond.fieldLink RX5 81 "SayingsMergedModel" "begin" "I", Cond.constantLong RX5 130 (49), Cond.constantLong RX5 97 (57), Cond.fieldLink RX5 33 "SayingsMergedModel" "readWeight" "[I", Cond.fieldLink RX5 115 "SayingsMergedModel" "said" "J", Cond.fieldLink RX5 36 "SayingsMergedModel" "readSays" "[J", Cond.methodLink RX5 118 yX5_token, Cond.instanceMethod yX5_token, Cond.selects RX5 yX5_token yX5_token, Cond.initialized RX5, Cond.code yX5_token cX5_token 3 none, Cond.fieldLink RX5 70 "SayingsMergedModel" "length" "I", Cond.fieldLink RX5 7 "SayingsMergedModel" "text" "[B", Cond.constantLong RX5 95 (48), Cond.methodLink RX5 87 yX5_isLow, Cond.instanceMethod yX5_isLow, Cond.selects RX5 yX5_isLow yX5_isLow, Cond.code yX5_isLow cX5_isLow 2 (some .boolean)]
def wsX5_fault_r2 : List Cond := [Cond.constantLong RX5 74 (97), Cond.constantLong RX5 76 (122), Cond.methodLink RX5 66 yX5_in, Cond.static yX5_in, Cond.code yX5_in cX5_in 6 (some .boolean), Cond.methodLink RX5 91 yX5_isWord, Cond.instanceMethod yX5_isWord, Cond.selects RX5 yX5_isWord yX5_isWord, Cond.code yX5_isWord cX5_isWord 4 (some .boolean), Cond.methodLink RX5 132 yX5_saying, Cond.instanceMethod yX5_saying, Cond.selects RX5 yX5_saying yX5_saying, Cond.code yX5_saying cX5_saying 4 (some .int), Cond.fieldLink RX5 99 "SayingsMergedModel" "open" "I", Cond.fieldLink RX5 102 "SayingsMergedModel" "level" "I", Cond.fieldLink RX5 42 "SayingsMergedModel" "any" "[J", Cond.fieldLink RX5 45 "SayingsMergedModel" "all" "[J", Cond.constantLong RX5 105 (102), Cond.fieldLink RX5 39 "SayingsMergedModel" "opened" "[I", Cond.methodLink RX5 107 yX5_lettered, Cond.static yX5_lettered, Cond.code yX5_lettered cX5_lettered 4 (some .long), Cond.methodLink RX5 60 yX5_has, Cond.static yX5_has]
def wsX5_fault_r3 : List Cond := [Cond.code yX5_has cX5_has 3 (some .boolean), Cond.methodLink RX5 111 yX5_ends, Cond.instanceMethod yX5_ends, Cond.selects RX5 yX5_ends yX5_ends, Cond.code yX5_ends cX5_ends 5 none]
def wsX5_fault : List Cond := .code yX5_fault cX5_fault 3 (some .int) :: ((wsX5_fault_r1 ++ (wsX5_fault_r2 ++ wsX5_fault_r3)) ++ wsX50)
def wsX5_tell_r1 : List Cond := [Cond.fieldLink RX5 121 "SayingsMergedModel" "readLaws" "I", Cond.fieldLink RX5 139 "SayingsMergedModel" "laws" "I", Cond.fieldLink RX5 124 "SayingsMergedModel" "readSayers" "I", Cond.fieldLink RX5 142 "SayingsMergedModel" "sayers" "I", Cond.fieldLink RX5 127 "SayingsMergedModel" "readThere" "J", Cond.fieldLink RX5 15 "SayingsMergedModel" "there" "J", Cond.fieldLink RX5 22 "SayingsMergedModel" "weight" "[I", Cond.fieldLink RX5 33 "SayingsMergedModel" "readWeight" "[I", Cond.fieldLink RX5 26 "SayingsMergedModel" "says" "[J", Cond.fieldLink RX5 36 "SayingsMergedModel" "readSays" "[J", Cond.fieldLink RX5 70 "SayingsMergedModel" "length" "I", Cond.methodLink RX5 136 yX5_fault, Cond.instanceMethod yX5_fault, Cond.selects RX5 yX5_fault yX5_fault, Cond.initialized RX5, Cond.code yX5_fault cX5_fault 3 (some .int), Cond.constantLong RX5 13 (-1), Cond.fieldLink RX5 78 "SayingsMergedModel" "end" "I", Cond.fieldLink RX5 84 "SayingsMergedModel" "sort" "I", Cond.fieldLink RX5 81 "SayingsMergedModel" "begin" "I", Cond.constantLong RX5 130 (49), Cond.constantLong RX5 97 (57), Cond.fieldLink RX5 115 "SayingsMergedModel" "said" "J", Cond.methodLink RX5 118 yX5_token]
def wsX5_tell_r2 : List Cond := [Cond.instanceMethod yX5_token, Cond.selects RX5 yX5_token yX5_token, Cond.code yX5_token cX5_token 3 none, Cond.fieldLink RX5 7 "SayingsMergedModel" "text" "[B", Cond.constantLong RX5 95 (48), Cond.methodLink RX5 87 yX5_isLow, Cond.instanceMethod yX5_isLow, Cond.selects RX5 yX5_isLow yX5_isLow, Cond.code yX5_isLow cX5_isLow 2 (some .boolean), Cond.constantLong RX5 74 (97), Cond.constantLong RX5 76 (122), Cond.methodLink RX5 66 yX5_in, Cond.static yX5_in, Cond.code yX5_in cX5_in 6 (some .boolean), Cond.methodLink RX5 91 yX5_isWord, Cond.instanceMethod yX5_isWord, Cond.selects RX5 yX5_isWord yX5_isWord, Cond.code yX5_isWord cX5_isWord 4 (some .boolean), Cond.methodLink RX5 132 yX5_saying, Cond.instanceMethod yX5_saying, Cond.selects RX5 yX5_saying yX5_saying, Cond.code yX5_saying cX5_saying 4 (some .int), Cond.fieldLink RX5 99 "SayingsMergedModel" "open" "I", Cond.fieldLink RX5 102 "SayingsMergedModel" "level" "I"]
def wsX5_tell_r3 : List Cond := [Cond.fieldLink RX5 42 "SayingsMergedModel" "any" "[J", Cond.fieldLink RX5 45 "SayingsMergedModel" "all" "[J", Cond.constantLong RX5 105 (102), Cond.fieldLink RX5 39 "SayingsMergedModel" "opened" "[I", Cond.methodLink RX5 107 yX5_lettered, Cond.static yX5_lettered, Cond.code yX5_lettered cX5_lettered 4 (some .long), Cond.methodLink RX5 60 yX5_has, Cond.static yX5_has, Cond.code yX5_has cX5_has 3 (some .boolean), Cond.methodLink RX5 111 yX5_ends, Cond.instanceMethod yX5_ends, Cond.selects RX5 yX5_ends yX5_ends, Cond.code yX5_ends cX5_ends 5 none]
def wsX5_tell : List Cond := .code yX5_tell cX5_tell 3 (some .int) :: ((wsX5_tell_r1 ++ (wsX5_tell_r2 ++ wsX5_tell_r3)) ++ wsX50)
def wsX5_question_r1 : List Cond := [Cond.fieldLink RX5 78 "SayingsMergedModel" "end" "I", Cond.fieldLink RX5 84 "SayingsMergedModel" "sort" "I", Cond.fieldLink RX5 81 "SayingsMergedModel" "begin" "I", Cond.fieldLink RX5 115 "SayingsMergedModel" "said" "J", Cond.fieldLink RX5 19 "SayingsMergedModel" "question" "J", Cond.fieldLink RX5 70 "SayingsMergedModel" "length" "I", Cond.methodLink RX5 118 yX5_token, Cond.instanceMethod yX5_token, Cond.selects RX5 yX5_token yX5_token, Cond.initialized RX5, Cond.code yX5_token cX5_token 3 none, Cond.fieldLink RX5 7 "SayingsMergedModel" "text" "[B", Cond.constantLong RX5 95 (48), Cond.constantLong RX5 97 (57), Cond.methodLink RX5 87 yX5_isLow, Cond.instanceMethod yX5_isLow, Cond.selects RX5 yX5_isLow yX5_isLow, Cond.code yX5_isLow cX5_isLow 2 (some .boolean), Cond.constantLong RX5 74 (97), Cond.constantLong RX5 76 (122), Cond.methodLink RX5 66 yX5_in, Cond.static yX5_in, Cond.code yX5_in cX5_in 6 (some .boolean), Cond.methodLink RX5 91 yX5_isWord]
def wsX5_question_r2 : List Cond := [Cond.instanceMethod yX5_isWord, Cond.selects RX5 yX5_isWord yX5_isWord, Cond.code yX5_isWord cX5_isWord 4 (some .boolean), Cond.methodLink RX5 132 yX5_saying, Cond.instanceMethod yX5_saying, Cond.selects RX5 yX5_saying yX5_saying, Cond.code yX5_saying cX5_saying 4 (some .int), Cond.fieldLink RX5 99 "SayingsMergedModel" "open" "I", Cond.fieldLink RX5 102 "SayingsMergedModel" "level" "I", Cond.fieldLink RX5 42 "SayingsMergedModel" "any" "[J", Cond.fieldLink RX5 45 "SayingsMergedModel" "all" "[J", Cond.constantLong RX5 13 (-1), Cond.constantLong RX5 105 (102), Cond.fieldLink RX5 39 "SayingsMergedModel" "opened" "[I", Cond.methodLink RX5 107 yX5_lettered, Cond.static yX5_lettered, Cond.code yX5_lettered cX5_lettered 4 (some .long), Cond.methodLink RX5 60 yX5_has, Cond.static yX5_has, Cond.code yX5_has cX5_has 3 (some .boolean), Cond.methodLink RX5 111 yX5_ends, Cond.instanceMethod yX5_ends, Cond.selects RX5 yX5_ends yX5_ends, Cond.code yX5_ends cX5_ends 5 none]
def wsX5_question : List Cond := .code yX5_question cX5_question 2 (some .int) :: ((wsX5_question_r1 ++ wsX5_question_r2) ++ wsX50)
def wsX5_isSayer : List Cond := .code yX5_isSayer cX5_isSayer 2 (some .boolean) :: ([.fieldLink RX5 142 "SayingsMergedModel" "sayers" "I", .methodLink RX5 66 yX5_in, .static yX5_in, .initialized RX5, .code yX5_in cX5_in 6 (some .boolean)] ++ wsX50)
def wsX5_isWorld : List Cond := .code yX5_isWorld cX5_isWorld 1 (some .boolean) :: ([.constantLong RX5 145 (63), .methodLink RX5 66 yX5_in, .static yX5_in, .initialized RX5, .code yX5_in cX5_in 6 (some .boolean)])
def wsX5_worlds : List Cond := .code yX5_worlds cX5_worlds 3 (some .long) :: ([.fieldLink RX5 15 "SayingsMergedModel" "there" "J", .fieldLink RX5 19 "SayingsMergedModel" "question" "J", .fieldLink RX5 26 "SayingsMergedModel" "says" "[J", .methodLink RX5 147 yX5_isSayer, .instanceMethod yX5_isSayer, .selects RX5 yX5_isSayer yX5_isSayer, .initialized RX5, .code yX5_isSayer cX5_isSayer 2 (some .boolean), .fieldLink RX5 142 "SayingsMergedModel" "sayers" "I", .methodLink RX5 66 yX5_in, .static yX5_in, .code yX5_in cX5_in 6 (some .boolean)] ++ wsX50)
def wsX5_cost : List Cond := .code yX5_cost cX5_cost 4 (some .int) :: ([.constantLong RX5 150 (5), .constantLong RX5 152 (9), .fieldLink RX5 30 "SayingsMergedModel" "cost" "[I", .methodLink RX5 66 yX5_in, .static yX5_in, .initialized RX5, .code yX5_in cX5_in 6 (some .boolean)] ++ wsX50)
def wsX5_measure : List Cond := .code yX5_measure cX5_measure 3 (some .int) :: ([.fieldLink RX5 154 "SayingsMergedModel" "measure" "I", .methodLink RX5 66 yX5_in, .static yX5_in, .initialized RX5, .code yX5_in cX5_in 6 (some .boolean)] ++ wsX50)
def wsX5_apartOf : List Cond := .code yX5_apartOf cX5_apartOf 5 (some .int) :: ([.fieldLink RX5 30 "SayingsMergedModel" "cost" "[I", .fieldLink RX5 154 "SayingsMergedModel" "measure" "I", .methodLink RX5 60 yX5_has, .static yX5_has, .initialized RX5, .code yX5_has cX5_has 3 (some .boolean)] ++ wsX50)
def wsX5_apart : List Cond := .code yX5_apart cX5_apart 3 (some .int) :: ([.methodLink RX5 157 yX5_isWorld, .static yX5_isWorld, .initialized RX5, .code yX5_isWorld cX5_isWorld 1 (some .boolean), .constantLong RX5 145 (63), .methodLink RX5 66 yX5_in, .static yX5_in, .code yX5_in cX5_in 6 (some .boolean), .methodLink RX5 160 yX5_apartOf, .instanceMethod yX5_apartOf, .selects RX5 yX5_apartOf yX5_apartOf, .code yX5_apartOf cX5_apartOf 5 (some .int), .fieldLink RX5 30 "SayingsMergedModel" "cost" "[I", .fieldLink RX5 154 "SayingsMergedModel" "measure" "I", .methodLink RX5 60 yX5_has, .static yX5_has, .code yX5_has cX5_has 3 (some .boolean)] ++ wsX50)
def wsX5_farOf : List Cond := .code yX5_farOf cX5_farOf 6 (some .int) :: ([.methodLink RX5 60 yX5_has, .static yX5_has, .initialized RX5, .code yX5_has cX5_has 3 (some .boolean), .methodLink RX5 160 yX5_apartOf, .instanceMethod yX5_apartOf, .selects RX5 yX5_apartOf yX5_apartOf, .code yX5_apartOf cX5_apartOf 5 (some .int), .fieldLink RX5 30 "SayingsMergedModel" "cost" "[I", .fieldLink RX5 154 "SayingsMergedModel" "measure" "I"] ++ wsX50)
def wsX5_burden_r1 : List Cond := [Cond.fieldLink RX5 22 "SayingsMergedModel" "weight" "[I", Cond.fieldLink RX5 26 "SayingsMergedModel" "says" "[J", Cond.methodLink RX5 147 yX5_isSayer, Cond.instanceMethod yX5_isSayer, Cond.selects RX5 yX5_isSayer yX5_isSayer, Cond.initialized RX5, Cond.code yX5_isSayer cX5_isSayer 2 (some .boolean), Cond.fieldLink RX5 142 "SayingsMergedModel" "sayers" "I", Cond.methodLink RX5 66 yX5_in, Cond.static yX5_in, Cond.code yX5_in cX5_in 6 (some .boolean), Cond.methodLink RX5 157 yX5_isWorld, Cond.static yX5_isWorld, Cond.code yX5_isWorld cX5_isWorld 1 (some .boolean), Cond.constantLong RX5 145 (63), Cond.methodLink RX5 164 yX5_farOf, Cond.instanceMethod yX5_farOf, Cond.selects RX5 yX5_farOf yX5_farOf, Cond.code yX5_farOf cX5_farOf 6 (some .int), Cond.methodLink RX5 60 yX5_has, Cond.static yX5_has, Cond.code yX5_has cX5_has 3 (some .boolean), Cond.methodLink RX5 160 yX5_apartOf, Cond.instanceMethod yX5_apartOf]
def wsX5_burden_r2 : List Cond := [Cond.selects RX5 yX5_apartOf yX5_apartOf, Cond.code yX5_apartOf cX5_apartOf 5 (some .int), Cond.fieldLink RX5 30 "SayingsMergedModel" "cost" "[I", Cond.fieldLink RX5 154 "SayingsMergedModel" "measure" "I"]
def wsX5_burden : List Cond := .code yX5_burden cX5_burden 3 (some .int) :: ((wsX5_burden_r1 ++ wsX5_burden_r2) ++ wsX50)
def wsX5_lays : List Cond := .code yX5_lays cX5_lays 5 none :: ([.fieldLink RX5 48 "SayingsMergedModel" "burdens" "[I", .fieldLink RX5 22 "SayingsMergedModel" "weight" "[I", .methodLink RX5 164 yX5_farOf, .instanceMethod yX5_farOf, .selects RX5 yX5_farOf yX5_farOf, .initialized RX5, .code yX5_farOf cX5_farOf 6 (some .int), .methodLink RX5 60 yX5_has, .static yX5_has, .code yX5_has cX5_has 3 (some .boolean), .methodLink RX5 160 yX5_apartOf, .instanceMethod yX5_apartOf, .selects RX5 yX5_apartOf yX5_apartOf, .code yX5_apartOf cX5_apartOf 5 (some .int), .fieldLink RX5 30 "SayingsMergedModel" "cost" "[I", .fieldLink RX5 154 "SayingsMergedModel" "measure" "I"] ++ wsX50)
def wsX5_laysAll : List Cond := .code yX5_laysAll cX5_laysAll 2 none :: ([.fieldLink RX5 142 "SayingsMergedModel" "sayers" "I", .fieldLink RX5 26 "SayingsMergedModel" "says" "[J", .methodLink RX5 168 yX5_lays, .instanceMethod yX5_lays, .selects RX5 yX5_lays yX5_lays, .initialized RX5, .code yX5_lays cX5_lays 5 none, .fieldLink RX5 48 "SayingsMergedModel" "burdens" "[I", .fieldLink RX5 22 "SayingsMergedModel" "weight" "[I", .methodLink RX5 164 yX5_farOf, .instanceMethod yX5_farOf, .selects RX5 yX5_farOf yX5_farOf, .code yX5_farOf cX5_farOf 6 (some .int), .methodLink RX5 60 yX5_has, .static yX5_has, .code yX5_has cX5_has 3 (some .boolean), .methodLink RX5 160 yX5_apartOf, .instanceMethod yX5_apartOf, .selects RX5 yX5_apartOf yX5_apartOf, .code yX5_apartOf cX5_apartOf 5 (some .int), .fieldLink RX5 30 "SayingsMergedModel" "cost" "[I", .fieldLink RX5 154 "SayingsMergedModel" "measure" "I"] ++ wsX50)
def wsX5_sumOf : List Cond := .code yX5_sumOf cX5_sumOf 4 (some .int) :: ([.fieldLink RX5 142 "SayingsMergedModel" "sayers" "I", .fieldLink RX5 48 "SayingsMergedModel" "burdens" "[I"] ++ wsX50)
def wsX5_worstOf : List Cond := .code yX5_worstOf cX5_worstOf 4 (some .int) :: ([.fieldLink RX5 142 "SayingsMergedModel" "sayers" "I", .fieldLink RX5 48 "SayingsMergedModel" "burdens" "[I"] ++ wsX50)
def wsX5_rows : List Cond := .code yX5_rows cX5_rows 6 none :: ([.fieldLink RX5 54 "SayingsMergedModel" "own" "[I", .fieldLink RX5 142 "SayingsMergedModel" "sayers" "I", .fieldLink RX5 48 "SayingsMergedModel" "burdens" "[I", .methodLink RX5 172 yX5_sumOf, .instanceMethod yX5_sumOf, .selects RX5 yX5_sumOf yX5_sumOf, .initialized RX5, .code yX5_sumOf cX5_sumOf 4 (some .int), .methodLink RX5 176 yX5_worstOf, .instanceMethod yX5_worstOf, .selects RX5 yX5_worstOf yX5_worstOf, .code yX5_worstOf cX5_worstOf 4 (some .int)] ++ wsX50)
def wsX5_against : List Cond := .code yX5_against cX5_against 2 (some .int) :: ([.fieldLink RX5 54 "SayingsMergedModel" "own" "[I", .fieldLink RX5 51 "SayingsMergedModel" "best" "[I"] ++ wsX50)
def wsX5_mergedBy_r1 : List Cond := [Cond.fieldLink RX5 15 "SayingsMergedModel" "there" "J", Cond.fieldLink RX5 51 "SayingsMergedModel" "best" "[I", Cond.fieldLink RX5 54 "SayingsMergedModel" "own" "[I", Cond.methodLink RX5 60 yX5_has, Cond.static yX5_has, Cond.initialized RX5, Cond.code yX5_has cX5_has 3 (some .boolean), Cond.methodLink RX5 179 yX5_rows, Cond.instanceMethod yX5_rows, Cond.selects RX5 yX5_rows yX5_rows, Cond.code yX5_rows cX5_rows 6 none, Cond.fieldLink RX5 142 "SayingsMergedModel" "sayers" "I", Cond.fieldLink RX5 48 "SayingsMergedModel" "burdens" "[I", Cond.methodLink RX5 172 yX5_sumOf, Cond.instanceMethod yX5_sumOf, Cond.selects RX5 yX5_sumOf yX5_sumOf, Cond.code yX5_sumOf cX5_sumOf 4 (some .int), Cond.methodLink RX5 176 yX5_worstOf, Cond.instanceMethod yX5_worstOf, Cond.selects RX5 yX5_worstOf yX5_worstOf, Cond.code yX5_worstOf cX5_worstOf 4 (some .int), Cond.methodLink RX5 183 yX5_against, Cond.instanceMethod yX5_against, Cond.selects RX5 yX5_against yX5_against]
def wsX5_mergedBy_r2 : List Cond := [Cond.code yX5_against cX5_against 2 (some .int)]
def wsX5_mergedBy : List Cond := .code yX5_mergedBy cX5_mergedBy 7 (some .long) :: ((wsX5_mergedBy_r1 ++ wsX5_mergedBy_r2) ++ wsX50)
def wsX5_merged_r1 : List Cond := [Cond.constantLong RX5 186 (2), Cond.methodLink RX5 66 yX5_in, Cond.static yX5_in, Cond.initialized RX5, Cond.code yX5_in cX5_in 6 (some .boolean), Cond.methodLink RX5 188 yX5_laysAll, Cond.instanceMethod yX5_laysAll, Cond.selects RX5 yX5_laysAll yX5_laysAll, Cond.code yX5_laysAll cX5_laysAll 2 none, Cond.fieldLink RX5 142 "SayingsMergedModel" "sayers" "I", Cond.fieldLink RX5 26 "SayingsMergedModel" "says" "[J", Cond.methodLink RX5 168 yX5_lays, Cond.instanceMethod yX5_lays, Cond.selects RX5 yX5_lays yX5_lays, Cond.code yX5_lays cX5_lays 5 none, Cond.fieldLink RX5 48 "SayingsMergedModel" "burdens" "[I", Cond.fieldLink RX5 22 "SayingsMergedModel" "weight" "[I", Cond.methodLink RX5 164 yX5_farOf, Cond.instanceMethod yX5_farOf, Cond.selects RX5 yX5_farOf yX5_farOf, Cond.code yX5_farOf cX5_farOf 6 (some .int), Cond.methodLink RX5 60 yX5_has, Cond.static yX5_has, Cond.code yX5_has cX5_has 3 (some .boolean)]
def wsX5_merged_r2 : List Cond := [Cond.methodLink RX5 160 yX5_apartOf, Cond.instanceMethod yX5_apartOf, Cond.selects RX5 yX5_apartOf yX5_apartOf, Cond.code yX5_apartOf cX5_apartOf 5 (some .int), Cond.fieldLink RX5 30 "SayingsMergedModel" "cost" "[I", Cond.fieldLink RX5 154 "SayingsMergedModel" "measure" "I", Cond.methodLink RX5 191 yX5_mergedBy, Cond.instanceMethod yX5_mergedBy, Cond.selects RX5 yX5_mergedBy yX5_mergedBy, Cond.code yX5_mergedBy cX5_mergedBy 7 (some .long), Cond.fieldLink RX5 15 "SayingsMergedModel" "there" "J", Cond.fieldLink RX5 51 "SayingsMergedModel" "best" "[I", Cond.fieldLink RX5 54 "SayingsMergedModel" "own" "[I", Cond.methodLink RX5 179 yX5_rows, Cond.instanceMethod yX5_rows, Cond.selects RX5 yX5_rows yX5_rows, Cond.code yX5_rows cX5_rows 6 none, Cond.methodLink RX5 172 yX5_sumOf, Cond.instanceMethod yX5_sumOf, Cond.selects RX5 yX5_sumOf yX5_sumOf, Cond.code yX5_sumOf cX5_sumOf 4 (some .int), Cond.methodLink RX5 176 yX5_worstOf, Cond.instanceMethod yX5_worstOf, Cond.selects RX5 yX5_worstOf yX5_worstOf]
def wsX5_merged_r3 : List Cond := [Cond.code yX5_worstOf cX5_worstOf 4 (some .int), Cond.methodLink RX5 183 yX5_against, Cond.instanceMethod yX5_against, Cond.selects RX5 yX5_against yX5_against, Cond.code yX5_against cX5_against 2 (some .int)]
def wsX5_merged : List Cond := .code yX5_merged cX5_merged 2 (some .long) :: ((wsX5_merged_r1 ++ (wsX5_merged_r2 ++ wsX5_merged_r3)) ++ wsX50)
def wsX5_value_r1 : List Cond := [Cond.methodLink RX5 66 yX5_in, Cond.static yX5_in, Cond.initialized RX5, Cond.code yX5_in cX5_in 6 (some .boolean), Cond.methodLink RX5 157 yX5_isWorld, Cond.static yX5_isWorld, Cond.code yX5_isWorld cX5_isWorld 1 (some .boolean), Cond.constantLong RX5 145 (63), Cond.methodLink RX5 188 yX5_laysAll, Cond.instanceMethod yX5_laysAll, Cond.selects RX5 yX5_laysAll yX5_laysAll, Cond.code yX5_laysAll cX5_laysAll 2 none, Cond.fieldLink RX5 142 "SayingsMergedModel" "sayers" "I", Cond.fieldLink RX5 26 "SayingsMergedModel" "says" "[J", Cond.methodLink RX5 168 yX5_lays, Cond.instanceMethod yX5_lays, Cond.selects RX5 yX5_lays yX5_lays, Cond.code yX5_lays cX5_lays 5 none, Cond.fieldLink RX5 48 "SayingsMergedModel" "burdens" "[I", Cond.fieldLink RX5 22 "SayingsMergedModel" "weight" "[I", Cond.methodLink RX5 164 yX5_farOf, Cond.instanceMethod yX5_farOf, Cond.selects RX5 yX5_farOf yX5_farOf, Cond.code yX5_farOf cX5_farOf 6 (some .int)]
def wsX5_value_r2 : List Cond := [Cond.methodLink RX5 60 yX5_has, Cond.static yX5_has, Cond.code yX5_has cX5_has 3 (some .boolean), Cond.methodLink RX5 160 yX5_apartOf, Cond.instanceMethod yX5_apartOf, Cond.selects RX5 yX5_apartOf yX5_apartOf, Cond.code yX5_apartOf cX5_apartOf 5 (some .int), Cond.fieldLink RX5 30 "SayingsMergedModel" "cost" "[I", Cond.fieldLink RX5 154 "SayingsMergedModel" "measure" "I", Cond.methodLink RX5 172 yX5_sumOf, Cond.instanceMethod yX5_sumOf, Cond.selects RX5 yX5_sumOf yX5_sumOf, Cond.code yX5_sumOf cX5_sumOf 4 (some .int), Cond.methodLink RX5 176 yX5_worstOf, Cond.instanceMethod yX5_worstOf, Cond.selects RX5 yX5_worstOf yX5_worstOf, Cond.code yX5_worstOf cX5_worstOf 4 (some .int)]
def wsX5_value : List Cond := .code yX5_value cX5_value 3 (some .int) :: ((wsX5_value_r1 ++ wsX5_value_r2) ++ wsX50)
def wsX5_held_r1 : List Cond := [Cond.constantLong RX5 186 (2), Cond.fieldLink RX5 19 "SayingsMergedModel" "question" "J", Cond.constantLong RX5 13 (-1), Cond.methodLink RX5 66 yX5_in, Cond.static yX5_in, Cond.initialized RX5, Cond.code yX5_in cX5_in 6 (some .boolean), Cond.methodLink RX5 188 yX5_laysAll, Cond.instanceMethod yX5_laysAll, Cond.selects RX5 yX5_laysAll yX5_laysAll, Cond.code yX5_laysAll cX5_laysAll 2 none, Cond.fieldLink RX5 142 "SayingsMergedModel" "sayers" "I", Cond.fieldLink RX5 26 "SayingsMergedModel" "says" "[J", Cond.methodLink RX5 168 yX5_lays, Cond.instanceMethod yX5_lays, Cond.selects RX5 yX5_lays yX5_lays, Cond.code yX5_lays cX5_lays 5 none, Cond.fieldLink RX5 48 "SayingsMergedModel" "burdens" "[I", Cond.fieldLink RX5 22 "SayingsMergedModel" "weight" "[I", Cond.methodLink RX5 164 yX5_farOf, Cond.instanceMethod yX5_farOf, Cond.selects RX5 yX5_farOf yX5_farOf, Cond.code yX5_farOf cX5_farOf 6 (some .int), Cond.methodLink RX5 60 yX5_has]
def wsX5_held_r2 : List Cond := [Cond.static yX5_has, Cond.code yX5_has cX5_has 3 (some .boolean), Cond.methodLink RX5 160 yX5_apartOf, Cond.instanceMethod yX5_apartOf, Cond.selects RX5 yX5_apartOf yX5_apartOf, Cond.code yX5_apartOf cX5_apartOf 5 (some .int), Cond.fieldLink RX5 30 "SayingsMergedModel" "cost" "[I", Cond.fieldLink RX5 154 "SayingsMergedModel" "measure" "I", Cond.methodLink RX5 191 yX5_mergedBy, Cond.instanceMethod yX5_mergedBy, Cond.selects RX5 yX5_mergedBy yX5_mergedBy, Cond.code yX5_mergedBy cX5_mergedBy 7 (some .long), Cond.fieldLink RX5 15 "SayingsMergedModel" "there" "J", Cond.fieldLink RX5 51 "SayingsMergedModel" "best" "[I", Cond.fieldLink RX5 54 "SayingsMergedModel" "own" "[I", Cond.methodLink RX5 179 yX5_rows, Cond.instanceMethod yX5_rows, Cond.selects RX5 yX5_rows yX5_rows, Cond.code yX5_rows cX5_rows 6 none, Cond.methodLink RX5 172 yX5_sumOf, Cond.instanceMethod yX5_sumOf, Cond.selects RX5 yX5_sumOf yX5_sumOf, Cond.code yX5_sumOf cX5_sumOf 4 (some .int), Cond.methodLink RX5 176 yX5_worstOf]
def wsX5_held_r3 : List Cond := [Cond.instanceMethod yX5_worstOf, Cond.selects RX5 yX5_worstOf yX5_worstOf, Cond.code yX5_worstOf cX5_worstOf 4 (some .int), Cond.methodLink RX5 183 yX5_against, Cond.instanceMethod yX5_against, Cond.selects RX5 yX5_against yX5_against, Cond.code yX5_against cX5_against 2 (some .int)]
def wsX5_held : List Cond := .code yX5_held cX5_held 2 (some .int) :: ((wsX5_held_r1 ++ (wsX5_held_r2 ++ wsX5_held_r3)) ++ wsX50)
def wsX5_nearest : List Cond := .code yX5_nearest cX5_nearest 10 (some .long) :: ([.methodLink RX5 60 yX5_has, .static yX5_has, .initialized RX5, .code yX5_has cX5_has 3 (some .boolean), .methodLink RX5 164 yX5_farOf, .instanceMethod yX5_farOf, .selects RX5 yX5_farOf yX5_farOf, .code yX5_farOf cX5_farOf 6 (some .int), .methodLink RX5 160 yX5_apartOf, .instanceMethod yX5_apartOf, .selects RX5 yX5_apartOf yX5_apartOf, .code yX5_apartOf cX5_apartOf 5 (some .int), .fieldLink RX5 30 "SayingsMergedModel" "cost" "[I", .fieldLink RX5 154 "SayingsMergedModel" "measure" "I"] ++ wsX50)
def wsX5_changed_r1 : List Cond := [Cond.constantLong RX5 186 (2), Cond.fieldLink RX5 15 "SayingsMergedModel" "there" "J", Cond.fieldLink RX5 19 "SayingsMergedModel" "question" "J", Cond.fieldLink RX5 26 "SayingsMergedModel" "says" "[J", Cond.constantLong RX5 13 (-1), Cond.methodLink RX5 147 yX5_isSayer, Cond.instanceMethod yX5_isSayer, Cond.selects RX5 yX5_isSayer yX5_isSayer, Cond.initialized RX5, Cond.code yX5_isSayer cX5_isSayer 2 (some .boolean), Cond.fieldLink RX5 142 "SayingsMergedModel" "sayers" "I", Cond.methodLink RX5 66 yX5_in, Cond.static yX5_in, Cond.code yX5_in cX5_in 6 (some .boolean), Cond.methodLink RX5 194 yX5_nearest, Cond.instanceMethod yX5_nearest, Cond.selects RX5 yX5_nearest yX5_nearest, Cond.code yX5_nearest cX5_nearest 10 (some .long), Cond.methodLink RX5 60 yX5_has, Cond.static yX5_has, Cond.code yX5_has cX5_has 3 (some .boolean), Cond.methodLink RX5 164 yX5_farOf, Cond.instanceMethod yX5_farOf, Cond.selects RX5 yX5_farOf yX5_farOf]
def wsX5_changed_r2 : List Cond := [Cond.code yX5_farOf cX5_farOf 6 (some .int), Cond.methodLink RX5 160 yX5_apartOf, Cond.instanceMethod yX5_apartOf, Cond.selects RX5 yX5_apartOf yX5_apartOf, Cond.code yX5_apartOf cX5_apartOf 5 (some .int), Cond.fieldLink RX5 30 "SayingsMergedModel" "cost" "[I", Cond.fieldLink RX5 154 "SayingsMergedModel" "measure" "I"]
def wsX5_changed : List Cond := .code yX5_changed cX5_changed 6 (some .long) :: ((wsX5_changed_r1 ++ wsX5_changed_r2) ++ wsX50)
def wsX5_isQuarrel : List Cond := .code yX5_isQuarrel cX5_isQuarrel 5 (some .boolean) :: ([.fieldLink RX5 15 "SayingsMergedModel" "there" "J", .fieldLink RX5 142 "SayingsMergedModel" "sayers" "I", .fieldLink RX5 26 "SayingsMergedModel" "says" "[J", .constantLong RX5 13 (-1), .methodLink RX5 60 yX5_has, .static yX5_has, .initialized RX5, .code yX5_has cX5_has 3 (some .boolean)] ++ wsX50)
def wsX5_isSet : List Cond := .code yX5_isSet cX5_isSet 2 (some .boolean) :: ([.fieldLink RX5 142 "SayingsMergedModel" "sayers" "I", .methodLink RX5 66 yX5_in, .static yX5_in, .initialized RX5, .code yX5_in cX5_in 6 (some .boolean)] ++ wsX50)
def wsX5_quarrels : List Cond := .code yX5_quarrels cX5_quarrels 2 (some .int) :: ([.methodLink RX5 198 yX5_isSet, .instanceMethod yX5_isSet, .selects RX5 yX5_isSet yX5_isSet, .initialized RX5, .code yX5_isSet cX5_isSet 2 (some .boolean), .fieldLink RX5 142 "SayingsMergedModel" "sayers" "I", .methodLink RX5 66 yX5_in, .static yX5_in, .code yX5_in cX5_in 6 (some .boolean), .methodLink RX5 201 yX5_isQuarrel, .instanceMethod yX5_isQuarrel, .selects RX5 yX5_isQuarrel yX5_isQuarrel, .code yX5_isQuarrel cX5_isQuarrel 5 (some .boolean), .fieldLink RX5 15 "SayingsMergedModel" "there" "J", .fieldLink RX5 26 "SayingsMergedModel" "says" "[J", .constantLong RX5 13 (-1), .methodLink RX5 60 yX5_has, .static yX5_has, .code yX5_has cX5_has 3 (some .boolean)] ++ wsX50)
def wsX5_isTold : List Cond := .code yX5_isTold cX5_isTold 6 (some .boolean) :: ([.fieldLink RX5 142 "SayingsMergedModel" "sayers" "I", .methodLink RX5 201 yX5_isQuarrel, .instanceMethod yX5_isQuarrel, .selects RX5 yX5_isQuarrel yX5_isQuarrel, .initialized RX5, .code yX5_isQuarrel cX5_isQuarrel 5 (some .boolean), .fieldLink RX5 15 "SayingsMergedModel" "there" "J", .fieldLink RX5 26 "SayingsMergedModel" "says" "[J", .constantLong RX5 13 (-1), .methodLink RX5 60 yX5_has, .static yX5_has, .code yX5_has cX5_has 3 (some .boolean)] ++ wsX50)
def wsX5_sets : List Cond := .code yX5_sets cX5_sets 7 (some .int) :: ([.fieldLink RX5 142 "SayingsMergedModel" "sayers" "I", .methodLink RX5 66 yX5_in, .static yX5_in, .initialized RX5, .code yX5_in cX5_in 6 (some .boolean), .methodLink RX5 204 yX5_many, .static yX5_many, .code yX5_many cX5_many 4 (some .int), .methodLink RX5 60 yX5_has, .static yX5_has, .code yX5_has cX5_has 3 (some .boolean), .methodLink RX5 208 yX5_isTold, .instanceMethod yX5_isTold, .selects RX5 yX5_isTold yX5_isTold, .code yX5_isTold cX5_isTold 6 (some .boolean), .methodLink RX5 201 yX5_isQuarrel, .instanceMethod yX5_isQuarrel, .selects RX5 yX5_isQuarrel yX5_isQuarrel, .code yX5_isQuarrel cX5_isQuarrel 5 (some .boolean), .fieldLink RX5 15 "SayingsMergedModel" "there" "J", .fieldLink RX5 26 "SayingsMergedModel" "says" "[J", .constantLong RX5 13 (-1)] ++ wsX50)
def wsX5_free : List Cond := .code yX5_free cX5_free 3 (some .int) :: ([.fieldLink RX5 142 "SayingsMergedModel" "sayers" "I", .methodLink RX5 208 yX5_isTold, .instanceMethod yX5_isTold, .selects RX5 yX5_isTold yX5_isTold, .initialized RX5, .code yX5_isTold cX5_isTold 6 (some .boolean), .methodLink RX5 201 yX5_isQuarrel, .instanceMethod yX5_isQuarrel, .selects RX5 yX5_isQuarrel yX5_isQuarrel, .code yX5_isQuarrel cX5_isQuarrel 5 (some .boolean), .fieldLink RX5 15 "SayingsMergedModel" "there" "J", .fieldLink RX5 26 "SayingsMergedModel" "says" "[J", .constantLong RX5 13 (-1), .methodLink RX5 60 yX5_has, .static yX5_has, .code yX5_has cX5_has 3 (some .boolean)] ++ wsX50)
def wsX5_orders : List Cond := .code yX5_orders cX5_orders 3 (some .int) :: ([])
def wsX5_share_r1 : List Cond := [Cond.fieldLink RX5 142 "SayingsMergedModel" "sayers" "I", Cond.methodLink RX5 147 yX5_isSayer, Cond.instanceMethod yX5_isSayer, Cond.selects RX5 yX5_isSayer yX5_isSayer, Cond.initialized RX5, Cond.code yX5_isSayer cX5_isSayer 2 (some .boolean), Cond.methodLink RX5 66 yX5_in, Cond.static yX5_in, Cond.code yX5_in cX5_in 6 (some .boolean), Cond.methodLink RX5 60 yX5_has, Cond.static yX5_has, Cond.code yX5_has cX5_has 3 (some .boolean), Cond.methodLink RX5 201 yX5_isQuarrel, Cond.instanceMethod yX5_isQuarrel, Cond.selects RX5 yX5_isQuarrel yX5_isQuarrel, Cond.code yX5_isQuarrel cX5_isQuarrel 5 (some .boolean), Cond.fieldLink RX5 15 "SayingsMergedModel" "there" "J", Cond.fieldLink RX5 26 "SayingsMergedModel" "says" "[J", Cond.constantLong RX5 13 (-1), Cond.methodLink RX5 204 yX5_many, Cond.static yX5_many, Cond.code yX5_many cX5_many 4 (some .int), Cond.methodLink RX5 212 yX5_orders, Cond.static yX5_orders]
def wsX5_share_r2 : List Cond := [Cond.code yX5_orders cX5_orders 3 (some .int)]
def wsX5_share : List Cond := .code yX5_share cX5_share 8 (some .int) :: ((wsX5_share_r1 ++ wsX5_share_r2) ++ wsX50)
def wsX5_loss : List Cond := .code yX5_loss cX5_loss 5 (some .int) :: ([.fieldLink RX5 57 "SayingsMergedModel" "truth" "[I", .methodLink RX5 60 yX5_has, .static yX5_has, .initialized RX5, .code yX5_has cX5_has 3 (some .boolean)] ++ wsX50)
def wsX5_laysTerm : List Cond := .code yX5_laysTerm cX5_laysTerm 8 none :: ([.fieldLink RX5 30 "SayingsMergedModel" "cost" "[I", .fieldLink RX5 48 "SayingsMergedModel" "burdens" "[I", .fieldLink RX5 22 "SayingsMergedModel" "weight" "[I", .fieldLink RX5 154 "SayingsMergedModel" "measure" "I", .methodLink RX5 60 yX5_has, .static yX5_has, .initialized RX5, .code yX5_has cX5_has 3 (some .boolean)] ++ wsX50)
def wsX5_lie_r1 : List Cond := [Cond.constantLong RX5 186 (2), Cond.fieldLink RX5 57 "SayingsMergedModel" "truth" "[I", Cond.fieldLink RX5 26 "SayingsMergedModel" "says" "[J", Cond.methodLink RX5 147 yX5_isSayer, Cond.instanceMethod yX5_isSayer, Cond.selects RX5 yX5_isSayer yX5_isSayer, Cond.initialized RX5, Cond.code yX5_isSayer cX5_isSayer 2 (some .boolean), Cond.fieldLink RX5 142 "SayingsMergedModel" "sayers" "I", Cond.methodLink RX5 66 yX5_in, Cond.static yX5_in, Cond.code yX5_in cX5_in 6 (some .boolean), Cond.methodLink RX5 188 yX5_laysAll, Cond.instanceMethod yX5_laysAll, Cond.selects RX5 yX5_laysAll yX5_laysAll, Cond.code yX5_laysAll cX5_laysAll 2 none, Cond.methodLink RX5 168 yX5_lays, Cond.instanceMethod yX5_lays, Cond.selects RX5 yX5_lays yX5_lays, Cond.code yX5_lays cX5_lays 5 none, Cond.fieldLink RX5 48 "SayingsMergedModel" "burdens" "[I", Cond.fieldLink RX5 22 "SayingsMergedModel" "weight" "[I", Cond.methodLink RX5 164 yX5_farOf, Cond.instanceMethod yX5_farOf]
def wsX5_lie_r2 : List Cond := [Cond.selects RX5 yX5_farOf yX5_farOf, Cond.code yX5_farOf cX5_farOf 6 (some .int), Cond.methodLink RX5 60 yX5_has, Cond.static yX5_has, Cond.code yX5_has cX5_has 3 (some .boolean), Cond.methodLink RX5 160 yX5_apartOf, Cond.instanceMethod yX5_apartOf, Cond.selects RX5 yX5_apartOf yX5_apartOf, Cond.code yX5_apartOf cX5_apartOf 5 (some .int), Cond.fieldLink RX5 30 "SayingsMergedModel" "cost" "[I", Cond.fieldLink RX5 154 "SayingsMergedModel" "measure" "I", Cond.methodLink RX5 191 yX5_mergedBy, Cond.instanceMethod yX5_mergedBy, Cond.selects RX5 yX5_mergedBy yX5_mergedBy, Cond.code yX5_mergedBy cX5_mergedBy 7 (some .long), Cond.fieldLink RX5 15 "SayingsMergedModel" "there" "J", Cond.fieldLink RX5 51 "SayingsMergedModel" "best" "[I", Cond.fieldLink RX5 54 "SayingsMergedModel" "own" "[I", Cond.methodLink RX5 179 yX5_rows, Cond.instanceMethod yX5_rows, Cond.selects RX5 yX5_rows yX5_rows, Cond.code yX5_rows cX5_rows 6 none, Cond.methodLink RX5 172 yX5_sumOf, Cond.instanceMethod yX5_sumOf]
def wsX5_lie_r3 : List Cond := [Cond.selects RX5 yX5_sumOf yX5_sumOf, Cond.code yX5_sumOf cX5_sumOf 4 (some .int), Cond.methodLink RX5 176 yX5_worstOf, Cond.instanceMethod yX5_worstOf, Cond.selects RX5 yX5_worstOf yX5_worstOf, Cond.code yX5_worstOf cX5_worstOf 4 (some .int), Cond.methodLink RX5 183 yX5_against, Cond.instanceMethod yX5_against, Cond.selects RX5 yX5_against yX5_against, Cond.code yX5_against cX5_against 2 (some .int), Cond.methodLink RX5 215 yX5_loss, Cond.instanceMethod yX5_loss, Cond.selects RX5 yX5_loss yX5_loss, Cond.code yX5_loss cX5_loss 5 (some .int), Cond.methodLink RX5 218 yX5_laysTerm, Cond.instanceMethod yX5_laysTerm, Cond.selects RX5 yX5_laysTerm yX5_laysTerm, Cond.code yX5_laysTerm cX5_laysTerm 8 none]
def wsX5_lie : List Cond := .code yX5_lie cX5_lie 9 (some .int) :: ((wsX5_lie_r1 ++ (wsX5_lie_r2 ++ wsX5_lie_r3)) ++ wsX50)
def wsX5_plain : List Cond := .code yX5_plain cX5_plain 2 (some .int) :: ([.fieldLink RX5 222 "SayingsMergedModel" "trace" "J", .fieldLink RX5 15 "SayingsMergedModel" "there" "J", .fieldLink RX5 26 "SayingsMergedModel" "says" "[J", .methodLink RX5 204 yX5_many, .static yX5_many, .initialized RX5, .code yX5_many cX5_many 4 (some .int), .methodLink RX5 60 yX5_has, .static yX5_has, .code yX5_has cX5_has 3 (some .boolean)] ++ wsX50)
def wsX5_weighty : List Cond := .code yX5_weighty cX5_weighty 2 (some .int) :: ([.fieldLink RX5 222 "SayingsMergedModel" "trace" "J", .constantLong RX5 225 (10), .fieldLink RX5 22 "SayingsMergedModel" "weight" "[I", .methodLink RX5 227 yX5_plain, .instanceMethod yX5_plain, .selects RX5 yX5_plain yX5_plain, .initialized RX5, .code yX5_plain cX5_plain 2 (some .int), .fieldLink RX5 15 "SayingsMergedModel" "there" "J", .fieldLink RX5 26 "SayingsMergedModel" "says" "[J", .methodLink RX5 204 yX5_many, .static yX5_many, .code yX5_many cX5_many 4 (some .int), .methodLink RX5 60 yX5_has, .static yX5_has, .code yX5_has cX5_has 3 (some .boolean)] ++ wsX50)
def wsX5_worth_r1 : List Cond := [Cond.constantLong RX5 230 (3), Cond.fieldLink RX5 222 "SayingsMergedModel" "trace" "J", Cond.constantLong RX5 235 (100), Cond.fieldLink RX5 142 "SayingsMergedModel" "sayers" "I", Cond.fieldLink RX5 26 "SayingsMergedModel" "says" "[J", Cond.fieldLink RX5 15 "SayingsMergedModel" "there" "J", Cond.constantLong RX5 237 (1000), Cond.methodLink RX5 66 yX5_in, Cond.static yX5_in, Cond.initialized RX5, Cond.code yX5_in cX5_in 6 (some .boolean), Cond.methodLink RX5 147 yX5_isSayer, Cond.instanceMethod yX5_isSayer, Cond.selects RX5 yX5_isSayer yX5_isSayer, Cond.code yX5_isSayer cX5_isSayer 2 (some .boolean), Cond.methodLink RX5 227 yX5_plain, Cond.instanceMethod yX5_plain, Cond.selects RX5 yX5_plain yX5_plain, Cond.code yX5_plain cX5_plain 2 (some .int), Cond.methodLink RX5 204 yX5_many, Cond.static yX5_many, Cond.code yX5_many cX5_many 4 (some .int), Cond.methodLink RX5 60 yX5_has, Cond.static yX5_has]
def wsX5_worth_r2 : List Cond := [Cond.code yX5_has cX5_has 3 (some .boolean), Cond.methodLink RX5 232 yX5_weighty, Cond.instanceMethod yX5_weighty, Cond.selects RX5 yX5_weighty yX5_weighty, Cond.code yX5_weighty cX5_weighty 2 (some .int), Cond.constantLong RX5 225 (10), Cond.fieldLink RX5 22 "SayingsMergedModel" "weight" "[I", Cond.methodLink RX5 188 yX5_laysAll, Cond.instanceMethod yX5_laysAll, Cond.selects RX5 yX5_laysAll yX5_laysAll, Cond.code yX5_laysAll cX5_laysAll 2 none, Cond.methodLink RX5 168 yX5_lays, Cond.instanceMethod yX5_lays, Cond.selects RX5 yX5_lays yX5_lays, Cond.code yX5_lays cX5_lays 5 none, Cond.fieldLink RX5 48 "SayingsMergedModel" "burdens" "[I", Cond.methodLink RX5 164 yX5_farOf, Cond.instanceMethod yX5_farOf, Cond.selects RX5 yX5_farOf yX5_farOf, Cond.code yX5_farOf cX5_farOf 6 (some .int), Cond.methodLink RX5 160 yX5_apartOf, Cond.instanceMethod yX5_apartOf, Cond.selects RX5 yX5_apartOf yX5_apartOf, Cond.code yX5_apartOf cX5_apartOf 5 (some .int)]
def wsX5_worth_r3 : List Cond := [Cond.fieldLink RX5 30 "SayingsMergedModel" "cost" "[I", Cond.fieldLink RX5 154 "SayingsMergedModel" "measure" "I", Cond.methodLink RX5 191 yX5_mergedBy, Cond.instanceMethod yX5_mergedBy, Cond.selects RX5 yX5_mergedBy yX5_mergedBy, Cond.code yX5_mergedBy cX5_mergedBy 7 (some .long), Cond.fieldLink RX5 51 "SayingsMergedModel" "best" "[I", Cond.fieldLink RX5 54 "SayingsMergedModel" "own" "[I", Cond.methodLink RX5 179 yX5_rows, Cond.instanceMethod yX5_rows, Cond.selects RX5 yX5_rows yX5_rows, Cond.code yX5_rows cX5_rows 6 none, Cond.methodLink RX5 172 yX5_sumOf, Cond.instanceMethod yX5_sumOf, Cond.selects RX5 yX5_sumOf yX5_sumOf, Cond.code yX5_sumOf cX5_sumOf 4 (some .int), Cond.methodLink RX5 176 yX5_worstOf, Cond.instanceMethod yX5_worstOf, Cond.selects RX5 yX5_worstOf yX5_worstOf, Cond.code yX5_worstOf cX5_worstOf 4 (some .int), Cond.methodLink RX5 183 yX5_against, Cond.instanceMethod yX5_against, Cond.selects RX5 yX5_against yX5_against, Cond.code yX5_against cX5_against 2 (some .int)]
def wsX5_worth : List Cond := .code yX5_worth cX5_worth 6 (some .int) :: ((wsX5_worth_r1 ++ (wsX5_worth_r2 ++ wsX5_worth_r3)) ++ wsX50)
def wsX5_count : List Cond := .code yX5_count cX5_count 4 (some .int) :: ([.fieldLink RX5 142 "SayingsMergedModel" "sayers" "I", .fieldLink RX5 22 "SayingsMergedModel" "weight" "[I", .fieldLink RX5 139 "SayingsMergedModel" "laws" "I", .fieldLink RX5 70 "SayingsMergedModel" "length" "I", .fieldLink RX5 15 "SayingsMergedModel" "there" "J", .methodLink RX5 204 yX5_many, .static yX5_many, .initialized RX5, .code yX5_many cX5_many 4 (some .int), .methodLink RX5 60 yX5_has, .static yX5_has, .code yX5_has cX5_has 3 (some .boolean)] ++ wsX50)
def wsX5_trace : List Cond := .code yX5_trace cX5_trace 1 (some .long) :: ([.fieldLink RX5 222 "SayingsMergedModel" "trace" "J"] ++ wsX50)
def wsJ9_max_f86c9 : List Cond := .code yJ9_max_f86c9 cJ9_max_f86c9 4 (some .long) :: ([])
def wsJ9_min_f86c9 : List Cond := .code yJ9_min_f86c9 cJ9_min_f86c9 4 (some .long) :: ([])
abbrev vwCl : List vw_C := [(RX0, TX0, 3), (RX1, TX1, 4), (RX2, TX2, 4), (RX3, TX3, 5), (RX4, TX4, 11), (RX5, TX5, 29)]
end
section
set_option maxRecDepth 20000 in
theorem ggX0_init_J7_fill_53178 : GoodIn wsX0_init wsJ7_fill_53178 := goodIn_r _ [11] (by decide +kernel) (by decide +kernel)
set_option maxRecDepth 20000 in
theorem gX0_init_J7_fill_53178 : GoodIn wsX0_init (va_wsS RX0 15 yJ7_fill_53178 wsJ7_fill_53178) := goodIn_app (goodIn_of _ (by decide +kernel)) ggX0_init_J7_fill_53178
set_option maxRecDepth 20000 in
theorem ggX0_init_J6_bitCount_0f7a4 : GoodIn wsX0_init wsJ6_bitCount_0f7a4 := goodIn_r _ [15, 16, 17, 18] (by decide +kernel) (by decide +kernel)
set_option maxRecDepth 20000 in
theorem gX0_init_J6_bitCount_0f7a4 : GoodIn wsX0_init (va_wsS RX0 28 yJ6_bitCount_0f7a4 wsJ6_bitCount_0f7a4) := goodIn_app (goodIn_of _ (by decide +kernel)) ggX0_init_J6_bitCount_0f7a4
theorem dX0_init_0 : decode cX0_init 0 = .ok (.aload_n 0, 1) := by decide +kernel
theorem dX0_init_1 : decode cX0_init 1 = .ok (.invokespecial 3, 3) := by decide +kernel
theorem dX0_init_4 : decode cX0_init 4 = .ok (.aload_n 0, 1) := by decide +kernel
theorem dX0_init_5 : decode cX0_init 5 = .ok (.bipush 6, 2) := by decide +kernel
theorem dX0_init_7 : decode cX0_init 7 = .ok (.newarray .int, 2) := by decide +kernel
theorem dX0_init_9 : decode cX0_init 9 = .ok (.putfield 9, 3) := by decide +kernel
theorem dX0_init_12 : decode cX0_init 12 = .ok (.aload_n 0, 1) := by decide +kernel
theorem dX0_init_13 : decode cX0_init 13 = .ok (.getfield 9, 3) := by decide +kernel
theorem dX0_init_16 : decode cX0_init 16 = .ok (.iconst 1, 1) := by decide +kernel
theorem dX0_init_17 : decode cX0_init 17 = .ok (.invokestatic 15, 3) := by decide +kernel
theorem dX0_init_20 : decode cX0_init 20 = .ok (.aload_n 0, 1) := by decide +kernel
theorem dX0_init_21 : decode cX0_init 21 = .ok (.iconst 0, 1) := by decide +kernel
theorem dX0_init_22 : decode cX0_init 22 = .ok (.putfield 21, 3) := by decide +kernel
theorem dX0_init_25 : decode cX0_init 25 = .ok (.aload_n 0, 1) := by decide +kernel
theorem dX0_init_26 : decode cX0_init 26 = .ok (.bipush 64, 2) := by decide +kernel
theorem dX0_init_28 : decode cX0_init 28 = .ok (.newarray .int, 2) := by decide +kernel
theorem dX0_init_30 : decode cX0_init 30 = .ok (.putfield 25, 3) := by decide +kernel
theorem dX0_init_33 : decode cX0_init 33 = .ok (.iconst 0, 1) := by decide +kernel
theorem dX0_init_34 : decode cX0_init 34 = .ok (.istore_n 1, 1) := by decide +kernel
theorem dX0_init_35 : decode cX0_init 35 = .ok (.iload_n 1, 1) := by decide +kernel
theorem dX0_init_36 : decode cX0_init 36 = .ok (.bipush 64, 2) := by decide +kernel
theorem dX0_init_38 : decode cX0_init 38 = .ok (.if_icmp .ge 19, 3) := by decide +kernel
theorem dX0_init_41 : decode cX0_init 41 = .ok (.aload_n 0, 1) := by decide +kernel
theorem dX0_init_42 : decode cX0_init 42 = .ok (.getfield 25, 3) := by decide +kernel
theorem dX0_init_45 : decode cX0_init 45 = .ok (.iload_n 1, 1) := by decide +kernel
theorem dX0_init_46 : decode cX0_init 46 = .ok (.iload_n 1, 1) := by decide +kernel
theorem dX0_init_47 : decode cX0_init 47 = .ok (.invokestatic 28, 3) := by decide +kernel
theorem dX0_init_50 : decode cX0_init 50 = .ok (.iastore, 1) := by decide +kernel
theorem dX0_init_51 : decode cX0_init 51 = .ok (.iinc 1 1, 3) := by decide +kernel
theorem dX0_init_54 : decode cX0_init 54 = .ok (.goto (-19), 3) := by decide +kernel
theorem dX0_init_57 : decode cX0_init 57 = .ok (.return_, 1) := by decide +kernel
set_option maxRecDepth 20000 in
theorem ggX0_findLengths_J6_numberOfTrailingZeros_0f7a4 : GoodIn wsX0_findLengths wsJ6_numberOfTrailingZeros_0f7a4 := goodIn_r _ [7, 8] (by decide +kernel) (by decide +kernel)
set_option maxRecDepth 20000 in
theorem gX0_findLengths_J6_numberOfTrailingZeros_0f7a4 : GoodIn wsX0_findLengths (va_wsS RX0 34 yJ6_numberOfTrailingZeros_0f7a4 wsJ6_numberOfTrailingZeros_0f7a4) := goodIn_app (goodIn_of _ (by decide +kernel)) ggX0_findLengths_J6_numberOfTrailingZeros_0f7a4
theorem dX0_findLengths_0 : decode cX0_findLengths 0 = .ok (.aload_n 0, 1) := by decide +kernel
theorem dX0_findLengths_1 : decode cX0_findLengths 1 = .ok (.getfield 25, 3) := by decide +kernel
theorem dX0_findLengths_4 : decode cX0_findLengths 4 = .ok (.iconst 0, 1) := by decide +kernel
theorem dX0_findLengths_5 : decode cX0_findLengths 5 = .ok (.iconst 0, 1) := by decide +kernel
theorem dX0_findLengths_6 : decode cX0_findLengths 6 = .ok (.iastore, 1) := by decide +kernel
theorem dX0_findLengths_7 : decode cX0_findLengths 7 = .ok (.iconst 1, 1) := by decide +kernel
theorem dX0_findLengths_8 : decode cX0_findLengths 8 = .ok (.istore_n 1, 1) := by decide +kernel
theorem dX0_findLengths_9 : decode cX0_findLengths 9 = .ok (.iload_n 1, 1) := by decide +kernel
theorem dX0_findLengths_10 : decode cX0_findLengths 10 = .ok (.bipush 64, 2) := by decide +kernel
theorem dX0_findLengths_12 : decode cX0_findLengths 12 = .ok (.if_icmp .ge 50, 3) := by decide +kernel
theorem dX0_findLengths_15 : decode cX0_findLengths 15 = .ok (.iload_n 1, 1) := by decide +kernel
theorem dX0_findLengths_16 : decode cX0_findLengths 16 = .ok (.invokestatic 34, 3) := by decide +kernel
theorem dX0_findLengths_19 : decode cX0_findLengths 19 = .ok (.istore_n 2, 1) := by decide +kernel
theorem dX0_findLengths_20 : decode cX0_findLengths 20 = .ok (.aload_n 0, 1) := by decide +kernel
theorem dX0_findLengths_21 : decode cX0_findLengths 21 = .ok (.getfield 25, 3) := by decide +kernel
theorem dX0_findLengths_24 : decode cX0_findLengths 24 = .ok (.iload_n 1, 1) := by decide +kernel
theorem dX0_findLengths_25 : decode cX0_findLengths 25 = .ok (.aload_n 0, 1) := by decide +kernel
theorem dX0_findLengths_26 : decode cX0_findLengths 26 = .ok (.getfield 21, 3) := by decide +kernel
theorem dX0_findLengths_29 : decode cX0_findLengths 29 = .ok (.ifCond .eq 7, 3) := by decide +kernel
theorem dX0_findLengths_32 : decode cX0_findLengths 32 = .ok (.iconst 1, 1) := by decide +kernel
theorem dX0_findLengths_33 : decode cX0_findLengths 33 = .ok (.goto 22, 3) := by decide +kernel
theorem dX0_findLengths_36 : decode cX0_findLengths 36 = .ok (.aload_n 0, 1) := by decide +kernel
theorem dX0_findLengths_37 : decode cX0_findLengths 37 = .ok (.getfield 25, 3) := by decide +kernel
theorem dX0_findLengths_40 : decode cX0_findLengths 40 = .ok (.iload_n 1, 1) := by decide +kernel
theorem dX0_findLengths_41 : decode cX0_findLengths 41 = .ok (.iconst 1, 1) := by decide +kernel
theorem dX0_findLengths_42 : decode cX0_findLengths 42 = .ok (.iload_n 2, 1) := by decide +kernel
theorem dX0_findLengths_43 : decode cX0_findLengths 43 = .ok (.ishl, 1) := by decide +kernel
theorem dX0_findLengths_44 : decode cX0_findLengths 44 = .ok (.iconst (-1), 1) := by decide +kernel
theorem dX0_findLengths_45 : decode cX0_findLengths 45 = .ok (.ixor, 1) := by decide +kernel
theorem dX0_findLengths_46 : decode cX0_findLengths 46 = .ok (.iand, 1) := by decide +kernel
theorem dX0_findLengths_47 : decode cX0_findLengths 47 = .ok (.iaload, 1) := by decide +kernel
theorem dX0_findLengths_48 : decode cX0_findLengths 48 = .ok (.aload_n 0, 1) := by decide +kernel
theorem dX0_findLengths_49 : decode cX0_findLengths 49 = .ok (.getfield 9, 3) := by decide +kernel
theorem dX0_findLengths_52 : decode cX0_findLengths 52 = .ok (.iload_n 2, 1) := by decide +kernel
theorem dX0_findLengths_53 : decode cX0_findLengths 53 = .ok (.iaload, 1) := by decide +kernel
theorem dX0_findLengths_54 : decode cX0_findLengths 54 = .ok (.iadd, 1) := by decide +kernel
theorem dX0_findLengths_55 : decode cX0_findLengths 55 = .ok (.iastore, 1) := by decide +kernel
theorem dX0_findLengths_56 : decode cX0_findLengths 56 = .ok (.iinc 1 1, 3) := by decide +kernel
theorem dX0_findLengths_59 : decode cX0_findLengths 59 = .ok (.goto (-50), 3) := by decide +kernel
theorem dX0_findLengths_62 : decode cX0_findLengths 62 = .ok (.return_, 1) := by decide +kernel
set_option maxRecDepth 20000 in
theorem ggX0_findFars_J7_fill_d0a16 : GoodIn wsX0_findFars wsJ7_fill_d0a16 := goodIn_r _ [7] (by decide +kernel) (by decide +kernel)
set_option maxRecDepth 20000 in
theorem gX0_findFars_J7_fill_d0a16 : GoodIn wsX0_findFars (va_wsS RX0 37 yJ7_fill_d0a16 wsJ7_fill_d0a16) := goodIn_app (goodIn_of _ (by decide +kernel)) ggX0_findFars_J7_fill_d0a16
set_option maxRecDepth 20000 in
theorem ggX0_findFars_X4_isIn : GoodIn wsX0_findFars wsX4_isIn := goodIn_r _ [10] (by decide +kernel) (by decide +kernel)
set_option maxRecDepth 20000 in
theorem gX0_findFars_X4_isIn_n42 : GoodIn wsX0_findFars (wsX4_isIn) := ggX0_findFars_X4_isIn
set_option maxRecDepth 20000 in
theorem ggX0_findFars_X0_spread : GoodIn wsX0_findFars wsX0_spread := goodIn_r _ [14, 15, 16, 17, 18] (by decide +kernel) (by decide +kernel)
set_option maxRecDepth 20000 in
theorem gX0_findFars_X0_spread : GoodIn wsX0_findFars (va_wsS RX0 46 yX0_spread wsX0_spread) := goodIn_app (goodIn_of _ (by decide +kernel)) ggX0_findFars_X0_spread
theorem dX0_findFars_0 : decode cX0_findFars 0 = .ok (.lload_n 1, 1) := by decide +kernel
theorem dX0_findFars_1 : decode cX0_findFars 1 = .ok (.lconst 0, 1) := by decide +kernel
theorem dX0_findFars_2 : decode cX0_findFars 2 = .ok (.lcmp, 1) := by decide +kernel
theorem dX0_findFars_3 : decode cX0_findFars 3 = .ok (.ifCond .ne 9, 3) := by decide +kernel
theorem dX0_findFars_6 : decode cX0_findFars 6 = .ok (.aload_n 3, 1) := by decide +kernel
theorem dX0_findFars_7 : decode cX0_findFars 7 = .ok (.lconst 0, 1) := by decide +kernel
theorem dX0_findFars_8 : decode cX0_findFars 8 = .ok (.invokestatic 37, 3) := by decide +kernel
theorem dX0_findFars_11 : decode cX0_findFars 11 = .ok (.return_, 1) := by decide +kernel
theorem dX0_findFars_12 : decode cX0_findFars 12 = .ok (.aload_n 0, 1) := by decide +kernel
theorem dX0_findFars_13 : decode cX0_findFars 13 = .ok (.getfield 21, 3) := by decide +kernel
theorem dX0_findFars_16 : decode cX0_findFars 16 = .ok (.ifCond .eq 7, 3) := by decide +kernel
theorem dX0_findFars_19 : decode cX0_findFars 19 = .ok (.lconst 1, 1) := by decide +kernel
theorem dX0_findFars_20 : decode cX0_findFars 20 = .ok (.goto 6, 3) := by decide +kernel
theorem dX0_findFars_23 : decode cX0_findFars 23 = .ok (.ldc2_w 40, 3) := by decide +kernel
theorem dX0_findFars_26 : decode cX0_findFars 26 = .ok (.lstore 4, 2) := by decide +kernel
theorem dX0_findFars_28 : decode cX0_findFars 28 = .ok (.iconst 0, 1) := by decide +kernel
theorem dX0_findFars_29 : decode cX0_findFars 29 = .ok (.istore 6, 2) := by decide +kernel
theorem dX0_findFars_31 : decode cX0_findFars 31 = .ok (.iload 6, 2) := by decide +kernel
theorem dX0_findFars_33 : decode cX0_findFars 33 = .ok (.bipush 64, 2) := by decide +kernel
theorem dX0_findFars_35 : decode cX0_findFars 35 = .ok (.if_icmp .ge 28, 3) := by decide +kernel
theorem dX0_findFars_38 : decode cX0_findFars 38 = .ok (.aload_n 3, 1) := by decide +kernel
theorem dX0_findFars_39 : decode cX0_findFars 39 = .ok (.iload 6, 2) := by decide +kernel
theorem dX0_findFars_41 : decode cX0_findFars 41 = .ok (.lload_n 1, 1) := by decide +kernel
theorem dX0_findFars_42 : decode cX0_findFars 42 = .ok (.iload 6, 2) := by decide +kernel
theorem dX0_findFars_44 : decode cX0_findFars 44 = .ok (.invokestatic 42, 3) := by decide +kernel
theorem dX0_findFars_47 : decode cX0_findFars 47 = .ok (.ifCond .eq 7, 3) := by decide +kernel
theorem dX0_findFars_50 : decode cX0_findFars 50 = .ok (.lconst 0, 1) := by decide +kernel
theorem dX0_findFars_51 : decode cX0_findFars 51 = .ok (.goto 5, 3) := by decide +kernel
theorem dX0_findFars_54 : decode cX0_findFars 54 = .ok (.lload 4, 2) := by decide +kernel
theorem dX0_findFars_56 : decode cX0_findFars 56 = .ok (.lastore, 1) := by decide +kernel
theorem dX0_findFars_57 : decode cX0_findFars 57 = .ok (.iinc 6 1, 3) := by decide +kernel
theorem dX0_findFars_60 : decode cX0_findFars 60 = .ok (.goto (-29), 3) := by decide +kernel
theorem dX0_findFars_63 : decode cX0_findFars 63 = .ok (.aload_n 0, 1) := by decide +kernel
theorem dX0_findFars_64 : decode cX0_findFars 64 = .ok (.getfield 21, 3) := by decide +kernel
theorem dX0_findFars_67 : decode cX0_findFars 67 = .ok (.ifCond .ne 34, 3) := by decide +kernel
theorem dX0_findFars_70 : decode cX0_findFars 70 = .ok (.iconst 0, 1) := by decide +kernel
theorem dX0_findFars_71 : decode cX0_findFars 71 = .ok (.istore 6, 2) := by decide +kernel
theorem dX0_findFars_73 : decode cX0_findFars 73 = .ok (.iload 6, 2) := by decide +kernel
theorem dX0_findFars_75 : decode cX0_findFars 75 = .ok (.bipush 6, 2) := by decide +kernel
theorem dX0_findFars_77 : decode cX0_findFars 77 = .ok (.if_icmp .ge 24, 3) := by decide +kernel
theorem dX0_findFars_80 : decode cX0_findFars 80 = .ok (.aload_n 3, 1) := by decide +kernel
theorem dX0_findFars_81 : decode cX0_findFars 81 = .ok (.iconst 1, 1) := by decide +kernel
theorem dX0_findFars_82 : decode cX0_findFars 82 = .ok (.iload 6, 2) := by decide +kernel
theorem dX0_findFars_84 : decode cX0_findFars 84 = .ok (.ishl, 1) := by decide +kernel
theorem dX0_findFars_85 : decode cX0_findFars 85 = .ok (.aload_n 0, 1) := by decide +kernel
theorem dX0_findFars_86 : decode cX0_findFars 86 = .ok (.getfield 9, 3) := by decide +kernel
theorem dX0_findFars_89 : decode cX0_findFars 89 = .ok (.iload 6, 2) := by decide +kernel
theorem dX0_findFars_91 : decode cX0_findFars 91 = .ok (.iaload, 1) := by decide +kernel
theorem dX0_findFars_92 : decode cX0_findFars 92 = .ok (.invokestatic 46, 3) := by decide +kernel
theorem dX0_findFars_95 : decode cX0_findFars 95 = .ok (.iinc 6 1, 3) := by decide +kernel
theorem dX0_findFars_98 : decode cX0_findFars 98 = .ok (.goto (-25), 3) := by decide +kernel
theorem dX0_findFars_101 : decode cX0_findFars 101 = .ok (.return_, 1) := by decide +kernel
theorem dX0_spread_0 : decode cX0_spread 0 = .ok (.iconst 0, 1) := by decide +kernel
theorem dX0_spread_1 : decode cX0_spread 1 = .ok (.istore_n 3, 1) := by decide +kernel
theorem dX0_spread_2 : decode cX0_spread 2 = .ok (.iload_n 3, 1) := by decide +kernel
theorem dX0_spread_3 : decode cX0_spread 3 = .ok (.bipush 64, 2) := by decide +kernel
theorem dX0_spread_5 : decode cX0_spread 5 = .ok (.if_icmp .ge 26, 3) := by decide +kernel
theorem dX0_spread_8 : decode cX0_spread 8 = .ok (.aload_n 0, 1) := by decide +kernel
theorem dX0_spread_9 : decode cX0_spread 9 = .ok (.iload_n 3, 1) := by decide +kernel
theorem dX0_spread_10 : decode cX0_spread 10 = .ok (.aload_n 0, 1) := by decide +kernel
theorem dX0_spread_11 : decode cX0_spread 11 = .ok (.iload_n 3, 1) := by decide +kernel
theorem dX0_spread_12 : decode cX0_spread 12 = .ok (.laload, 1) := by decide +kernel
theorem dX0_spread_13 : decode cX0_spread 13 = .ok (.aload_n 0, 1) := by decide +kernel
theorem dX0_spread_14 : decode cX0_spread 14 = .ok (.iload_n 3, 1) := by decide +kernel
theorem dX0_spread_15 : decode cX0_spread 15 = .ok (.iload_n 1, 1) := by decide +kernel
theorem dX0_spread_16 : decode cX0_spread 16 = .ok (.ixor, 1) := by decide +kernel
theorem dX0_spread_17 : decode cX0_spread 17 = .ok (.laload, 1) := by decide +kernel
theorem dX0_spread_18 : decode cX0_spread 18 = .ok (.iload_n 2, 1) := by decide +kernel
theorem dX0_spread_19 : decode cX0_spread 19 = .ok (.i2l, 1) := by decide +kernel
theorem dX0_spread_20 : decode cX0_spread 20 = .ok (.ladd, 1) := by decide +kernel
theorem dX0_spread_21 : decode cX0_spread 21 = .ok (.invokestatic 50, 3) := by decide +kernel
theorem dX0_spread_24 : decode cX0_spread 24 = .ok (.lastore, 1) := by decide +kernel
theorem dX0_spread_25 : decode cX0_spread 25 = .ok (.iinc 3 1, 3) := by decide +kernel
theorem dX0_spread_28 : decode cX0_spread 28 = .ok (.goto (-26), 3) := by decide +kernel
theorem dX0_spread_31 : decode cX0_spread 31 = .ok (.return_, 1) := by decide +kernel
theorem dX1_init_0 : decode cX1_init 0 = .ok (.aload_n 0, 1) := by decide +kernel
theorem dX1_init_1 : decode cX1_init 1 = .ok (.invokespecial 3, 3) := by decide +kernel
theorem dX1_init_4 : decode cX1_init 4 = .ok (.aload_n 0, 1) := by decide +kernel
theorem dX1_init_5 : decode cX1_init 5 = .ok (.aload_n 1, 1) := by decide +kernel
theorem dX1_init_6 : decode cX1_init 6 = .ok (.putfield 9, 3) := by decide +kernel
theorem dX1_init_9 : decode cX1_init 9 = .ok (.aload_n 0, 1) := by decide +kernel
theorem dX1_init_10 : decode cX1_init 10 = .ok (.iconst 0, 1) := by decide +kernel
theorem dX1_init_11 : decode cX1_init 11 = .ok (.putfield 15, 3) := by decide +kernel
theorem dX1_init_14 : decode cX1_init 14 = .ok (.aload_n 0, 1) := by decide +kernel
theorem dX1_init_15 : decode cX1_init 15 = .ok (.sipush 258, 3) := by decide +kernel
theorem dX1_init_18 : decode cX1_init 18 = .ok (.putfield 19, 3) := by decide +kernel
theorem dX1_init_21 : decode cX1_init 21 = .ok (.aload_n 0, 1) := by decide +kernel
theorem dX1_init_22 : decode cX1_init 22 = .ok (.iconst (-1), 1) := by decide +kernel
theorem dX1_init_23 : decode cX1_init 23 = .ok (.putfield 22, 3) := by decide +kernel
theorem dX1_init_26 : decode cX1_init 26 = .ok (.return_, 1) := by decide +kernel
theorem dX1_isFaulty_0 : decode cX1_isFaulty 0 = .ok (.aload_n 0, 1) := by decide +kernel
theorem dX1_isFaulty_1 : decode cX1_isFaulty 1 = .ok (.getfield 22, 3) := by decide +kernel
theorem dX1_isFaulty_4 : decode cX1_isFaulty 4 = .ok (.iconst (-1), 1) := by decide +kernel
theorem dX1_isFaulty_5 : decode cX1_isFaulty 5 = .ok (.if_icmp .eq 7, 3) := by decide +kernel
theorem dX1_isFaulty_8 : decode cX1_isFaulty 8 = .ok (.iconst 1, 1) := by decide +kernel
theorem dX1_isFaulty_9 : decode cX1_isFaulty 9 = .ok (.goto 4, 3) := by decide +kernel
theorem dX1_isFaulty_12 : decode cX1_isFaulty 12 = .ok (.iconst 0, 1) := by decide +kernel
theorem dX1_isFaulty_13 : decode cX1_isFaulty 13 = .ok (.ireturn, 1) := by decide +kernel
set_option maxRecDepth 20000 in
theorem ggX1_readItems_X3_empty : GoodIn wsX1_readItems wsX3_empty := goodIn_r _ [6, 7, 8, 9, 10, 104, 105, 106, 107, 108] (by decide +kernel) (by decide +kernel)
set_option maxRecDepth 20000 in
theorem gX1_readItems_X3_empty : GoodIn wsX1_readItems (wsV RX1 25 RX3 yX3_empty wsX3_empty) := goodIn_app (goodIn_of _ (by decide +kernel)) ggX1_readItems_X3_empty
set_option maxRecDepth 20000 in
theorem ggX1_readItems_X1_begin : GoodIn wsX1_readItems wsX1_begin := goodIn_r _ [15, 16, 17, 1, 18, 19, 20, 21, 22, 23, 24, 25, 26, 27, 28, 29, 30, 31, 32, 33, 34, 35, 36, 37, 38, 39, 40, 41, 42, 43, 44, 45, 46, 47, 48, 49, 100, 101, 102, 103, 109, 110, 111, 112] (by decide +kernel) (by decide +kernel)
set_option maxRecDepth 20000 in
theorem gX1_readItems_X1_begin : GoodIn wsX1_readItems (wsV RX1 30 RX1 yX1_begin wsX1_begin) := goodIn_app (goodIn_of _ (by decide +kernel)) ggX1_readItems_X1_begin
set_option maxRecDepth 20000 in
theorem ggX1_readItems_X1_isFaulty : GoodIn wsX1_readItems wsX1_isFaulty := goodIn_r _ [53, 18, 100, 101, 102, 103] (by decide +kernel) (by decide +kernel)
set_option maxRecDepth 20000 in
theorem gX1_readItems_X1_isFaulty : GoodIn wsX1_readItems (wsV RX1 33 RX1 yX1_isFaulty wsX1_isFaulty) := goodIn_app (goodIn_of _ (by decide +kernel)) ggX1_readItems_X1_isFaulty
set_option maxRecDepth 20000 in
theorem ggX1_readItems_X1_readItem : GoodIn wsX1_readItems wsX1_readItem := goodIn_r _ [57, 1, 58, 59, 60, 14, 61, 17, 16, 62, 63, 64, 65, 66, 67, 68, 50, 51, 52, 53, 18, 69, 70, 71, 72, 73, 74, 75, 76, 77, 44, 45, 46, 78, 79, 80, 81, 82, 83, 84, 85, 86, 87, 88, 5, 89, 7, 9, 90, 91, 92, 93, 94, 95, 96, 97, 10, 98, 99, 100, 101, 102, 103, 104, 105, 106, 107, 108, 109, 110, 111, 112] (by decide +kernel) (by decide +kernel)
set_option maxRecDepth 20000 in
theorem gX1_readItems_X1_readItem : GoodIn wsX1_readItems (wsV RX1 37 RX1 yX1_readItem wsX1_readItem) := goodIn_app (goodIn_of _ (by decide +kernel)) ggX1_readItems_X1_readItem
theorem dX1_readItems_0 : decode cX1_readItems 0 = .ok (.aload_n 1, 1) := by decide +kernel
theorem dX1_readItems_1 : decode cX1_readItems 1 = .ok (.invokevirtual 25, 3) := by decide +kernel
theorem dX1_readItems_4 : decode cX1_readItems 4 = .ok (.aload_n 0, 1) := by decide +kernel
theorem dX1_readItems_5 : decode cX1_readItems 5 = .ok (.invokevirtual 30, 3) := by decide +kernel
theorem dX1_readItems_8 : decode cX1_readItems 8 = .ok (.iconst 0, 1) := by decide +kernel
theorem dX1_readItems_9 : decode cX1_readItems 9 = .ok (.istore_n 2, 1) := by decide +kernel
theorem dX1_readItems_10 : decode cX1_readItems 10 = .ok (.iload_n 2, 1) := by decide +kernel
theorem dX1_readItems_11 : decode cX1_readItems 11 = .ok (.sipush 300, 3) := by decide +kernel
theorem dX1_readItems_14 : decode cX1_readItems 14 = .ok (.if_icmp .ge 31, 3) := by decide +kernel
theorem dX1_readItems_17 : decode cX1_readItems 17 = .ok (.aload_n 0, 1) := by decide +kernel
theorem dX1_readItems_18 : decode cX1_readItems 18 = .ok (.invokevirtual 33, 3) := by decide +kernel
theorem dX1_readItems_21 : decode cX1_readItems 21 = .ok (.ifCond .ne 24, 3) := by decide +kernel
theorem dX1_readItems_24 : decode cX1_readItems 24 = .ok (.aload_n 0, 1) := by decide +kernel
theorem dX1_readItems_25 : decode cX1_readItems 25 = .ok (.getfield 19, 3) := by decide +kernel
theorem dX1_readItems_28 : decode cX1_readItems 28 = .ok (.sipush 258, 3) := by decide +kernel
theorem dX1_readItems_31 : decode cX1_readItems 31 = .ok (.if_icmp .eq 14, 3) := by decide +kernel
theorem dX1_readItems_34 : decode cX1_readItems 34 = .ok (.aload_n 0, 1) := by decide +kernel
theorem dX1_readItems_35 : decode cX1_readItems 35 = .ok (.aload_n 1, 1) := by decide +kernel
theorem dX1_readItems_36 : decode cX1_readItems 36 = .ok (.invokevirtual 37, 3) := by decide +kernel
theorem dX1_readItems_39 : decode cX1_readItems 39 = .ok (.iinc 2 1, 3) := by decide +kernel
theorem dX1_readItems_42 : decode cX1_readItems 42 = .ok (.goto (-32), 3) := by decide +kernel
theorem dX1_readItems_45 : decode cX1_readItems 45 = .ok (.return_, 1) := by decide +kernel
set_option maxRecDepth 20000 in
theorem ggX1_readQuestion_X1_begin : GoodIn wsX1_readQuestion wsX1_begin := goodIn_r _ [5, 6, 7, 8, 9, 10, 11, 12, 13, 14, 15, 16, 17, 18, 19, 20, 21, 22, 23, 24, 25, 26, 27, 28, 29, 30, 31, 32, 33, 34, 35, 36, 37, 38, 39, 40, 73, 74, 75, 76, 77, 78, 79, 80] (by decide +kernel) (by decide +kernel)
set_option maxRecDepth 20000 in
theorem gX1_readQuestion_X1_begin : GoodIn wsX1_readQuestion (wsV RX1 30 RX1 yX1_begin wsX1_begin) := goodIn_app (goodIn_of _ (by decide +kernel)) ggX1_readQuestion_X1_begin
set_option maxRecDepth 20000 in
theorem ggX1_readQuestion_X1_readSaying : GoodIn wsX1_readQuestion wsX1_readSaying := goodIn_r _ [44, 8, 45, 46, 47, 4, 48, 49, 50, 51, 9, 52, 53, 54, 55, 7, 6, 56, 57, 58, 59, 60, 61, 62, 63, 64, 35, 36, 37, 65, 66, 67, 68, 41, 42, 43, 69, 70, 71, 72, 73, 74, 75, 76, 77, 78, 79, 80] (by decide +kernel) (by decide +kernel)
set_option maxRecDepth 20000 in
theorem gX1_readQuestion_X1_readSaying : GoodIn wsX1_readQuestion (wsV RX1 41 RX1 yX1_readSaying wsX1_readSaying) := goodIn_app (goodIn_of _ (by decide +kernel)) ggX1_readQuestion_X1_readSaying
set_option maxRecDepth 20000 in
theorem ggX1_readQuestion_X1_expect : GoodIn wsX1_readQuestion wsX1_expect := goodIn_r _ [72, 8, 48, 49, 50, 4, 51, 9, 65, 66, 67, 68, 6, 7, 52, 53, 54, 55, 73, 74, 75, 76, 77, 78, 79, 80] (by decide +kernel) (by decide +kernel)
set_option maxRecDepth 20000 in
theorem gX1_readQuestion_X1_expect : GoodIn wsX1_readQuestion (wsV RX1 45 RX1 yX1_expect wsX1_expect) := goodIn_app (goodIn_of _ (by decide +kernel)) ggX1_readQuestion_X1_expect
theorem dX1_readQuestion_0 : decode cX1_readQuestion 0 = .ok (.aload_n 0, 1) := by decide +kernel
theorem dX1_readQuestion_1 : decode cX1_readQuestion 1 = .ok (.invokevirtual 30, 3) := by decide +kernel
theorem dX1_readQuestion_4 : decode cX1_readQuestion 4 = .ok (.aload_n 0, 1) := by decide +kernel
theorem dX1_readQuestion_5 : decode cX1_readQuestion 5 = .ok (.iconst 0, 1) := by decide +kernel
theorem dX1_readQuestion_6 : decode cX1_readQuestion 6 = .ok (.invokevirtual 41, 3) := by decide +kernel
theorem dX1_readQuestion_9 : decode cX1_readQuestion 9 = .ok (.lstore_n 1, 1) := by decide +kernel
theorem dX1_readQuestion_10 : decode cX1_readQuestion 10 = .ok (.aload_n 0, 1) := by decide +kernel
theorem dX1_readQuestion_11 : decode cX1_readQuestion 11 = .ok (.sipush 258, 3) := by decide +kernel
theorem dX1_readQuestion_14 : decode cX1_readQuestion 14 = .ok (.invokevirtual 45, 3) := by decide +kernel
theorem dX1_readQuestion_17 : decode cX1_readQuestion 17 = .ok (.lload_n 1, 1) := by decide +kernel
theorem dX1_readQuestion_18 : decode cX1_readQuestion 18 = .ok (.lreturn, 1) := by decide +kernel
set_option maxRecDepth 20000 in
theorem ggX1_readItem_X1_advance : GoodIn wsX1_readItem wsX1_advance := goodIn_r _ [6, 1, 7, 8, 59, 60, 61, 62, 68, 69, 70, 71] (by decide +kernel) (by decide +kernel)
set_option maxRecDepth 20000 in
theorem gX1_readItem_X1_advance : GoodIn wsX1_readItem (wsV RX1 52 RX1 yX1_advance wsX1_advance) := goodIn_app (goodIn_of _ (by decide +kernel)) ggX1_readItem_X1_advance
set_option maxRecDepth 20000 in
theorem ggX1_readItem_X1_readSaying : GoodIn wsX1_readItem wsX1_readSaying := goodIn_r _ [12, 1, 13, 14, 15, 5, 16, 17, 18, 19, 20, 2, 3, 4, 6, 7, 8, 21, 22, 23, 24, 25, 26, 27, 28, 29, 30, 31, 32, 33, 34, 35, 36, 9, 10, 11, 37, 38, 39, 40, 59, 60, 61, 62, 68, 69, 70, 71] (by decide +kernel) (by decide +kernel)
set_option maxRecDepth 20000 in
theorem gX1_readItem_X1_readSaying : GoodIn wsX1_readItem (wsV RX1 41 RX1 yX1_readSaying wsX1_readSaying) := goodIn_app (goodIn_of _ (by decide +kernel)) ggX1_readItem_X1_readSaying
set_option maxRecDepth 20000 in
theorem ggX1_readItem_X3_addLaw : GoodIn wsX1_readItem wsX3_addLaw := goodIn_r _ [45, 46, 47, 63, 64, 65, 66, 67] (by decide +kernel) (by decide +kernel)
set_option maxRecDepth 20000 in
theorem gX1_readItem_X3_addLaw : GoodIn wsX1_readItem (wsV RX1 55 RX3 yX3_addLaw wsX3_addLaw) := goodIn_app (goodIn_of _ (by decide +kernel)) ggX1_readItem_X3_addLaw
set_option maxRecDepth 20000 in
theorem ggX1_readItem_X1_expect : GoodIn wsX1_readItem wsX1_expect := goodIn_r _ [40, 1, 16, 17, 18, 5, 19, 20, 33, 34, 35, 36, 8, 7, 2, 3, 4, 6, 59, 60, 61, 62, 68, 69, 70, 71] (by decide +kernel) (by decide +kernel)
set_option maxRecDepth 20000 in
theorem gX1_readItem_X1_expect : GoodIn wsX1_readItem (wsV RX1 45 RX1 yX1_expect wsX1_expect) := goodIn_app (goodIn_of _ (by decide +kernel)) ggX1_readItem_X1_expect
set_option maxRecDepth 20000 in
theorem ggX1_readItem_X1_readWeight : GoodIn wsX1_readItem wsX1_readWeight := goodIn_r _ [51, 1, 33, 34, 35, 5, 36, 20, 8, 7, 2, 3, 4, 6, 59, 60, 61, 62, 68, 69, 70, 71] (by decide +kernel) (by decide +kernel)
set_option maxRecDepth 20000 in
theorem gX1_readItem_X1_readWeight : GoodIn wsX1_readItem (wsV RX1 62 RX1 yX1_readWeight wsX1_readWeight) := goodIn_app (goodIn_of _ (by decide +kernel)) ggX1_readItem_X1_readWeight
set_option maxRecDepth 20000 in
theorem ggX1_readItem_X3_addSayer : GoodIn wsX1_readItem wsX3_addSayer := goodIn_r _ [55, 56, 57, 58, 63, 64, 65, 66, 67] (by decide +kernel) (by decide +kernel)
set_option maxRecDepth 20000 in
theorem gX1_readItem_X3_addSayer : GoodIn wsX1_readItem (wsV RX1 66 RX3 yX3_addSayer wsX3_addSayer) := goodIn_app (goodIn_of _ (by decide +kernel)) ggX1_readItem_X3_addSayer
set_option maxRecDepth 20000 in
theorem ggX1_readItem_X1_fail : GoodIn wsX1_readItem wsX1_fail := goodIn_r _ [36, 20, 8, 7, 59, 60, 61, 62, 68, 69, 70, 71] (by decide +kernel) (by decide +kernel)
set_option maxRecDepth 20000 in
theorem gX1_readItem_X1_fail : GoodIn wsX1_readItem (wsV RX1 70 RX1 yX1_fail wsX1_fail) := goodIn_app (goodIn_of _ (by decide +kernel)) ggX1_readItem_X1_fail
theorem dX1_readItem_0 : decode cX1_readItem 0 = .ok (.aload_n 0, 1) := by decide +kernel
theorem dX1_readItem_1 : decode cX1_readItem 1 = .ok (.getfield 19, 3) := by decide +kernel
theorem dX1_readItem_4 : decode cX1_readItem 4 = .ok (.sipush 256, 3) := by decide +kernel
theorem dX1_readItem_7 : decode cX1_readItem 7 = .ok (.if_icmp .ne 33, 3) := by decide +kernel
theorem dX1_readItem_10 : decode cX1_readItem 10 = .ok (.aload_n 1, 1) := by decide +kernel
theorem dX1_readItem_11 : decode cX1_readItem 11 = .ok (.getfield 49, 3) := by decide +kernel
theorem dX1_readItem_14 : decode cX1_readItem 14 = .ok (.iconst 3, 1) := by decide +kernel
theorem dX1_readItem_15 : decode cX1_readItem 15 = .ok (.if_icmp .ge 25, 3) := by decide +kernel
theorem dX1_readItem_18 : decode cX1_readItem 18 = .ok (.aload_n 0, 1) := by decide +kernel
theorem dX1_readItem_19 : decode cX1_readItem 19 = .ok (.invokevirtual 52, 3) := by decide +kernel
theorem dX1_readItem_22 : decode cX1_readItem 22 = .ok (.aload_n 1, 1) := by decide +kernel
theorem dX1_readItem_23 : decode cX1_readItem 23 = .ok (.aload_n 0, 1) := by decide +kernel
theorem dX1_readItem_24 : decode cX1_readItem 24 = .ok (.iconst 0, 1) := by decide +kernel
theorem dX1_readItem_25 : decode cX1_readItem 25 = .ok (.invokevirtual 41, 3) := by decide +kernel
theorem dX1_readItem_28 : decode cX1_readItem 28 = .ok (.invokevirtual 55, 3) := by decide +kernel
theorem dX1_readItem_31 : decode cX1_readItem 31 = .ok (.aload_n 0, 1) := by decide +kernel
theorem dX1_readItem_32 : decode cX1_readItem 32 = .ok (.bipush 59, 2) := by decide +kernel
theorem dX1_readItem_34 : decode cX1_readItem 34 = .ok (.invokevirtual 45, 3) := by decide +kernel
theorem dX1_readItem_37 : decode cX1_readItem 37 = .ok (.goto 54, 3) := by decide +kernel
theorem dX1_readItem_40 : decode cX1_readItem 40 = .ok (.aload_n 0, 1) := by decide +kernel
theorem dX1_readItem_41 : decode cX1_readItem 41 = .ok (.getfield 19, 3) := by decide +kernel
theorem dX1_readItem_44 : decode cX1_readItem 44 = .ok (.sipush 257, 3) := by decide +kernel
theorem dX1_readItem_47 : decode cX1_readItem 47 = .ok (.if_icmp .ne 40, 3) := by decide +kernel
theorem dX1_readItem_50 : decode cX1_readItem 50 = .ok (.aload_n 1, 1) := by decide +kernel
theorem dX1_readItem_51 : decode cX1_readItem 51 = .ok (.getfield 59, 3) := by decide +kernel
theorem dX1_readItem_54 : decode cX1_readItem 54 = .ok (.bipush 7, 2) := by decide +kernel
theorem dX1_readItem_56 : decode cX1_readItem 56 = .ok (.if_icmp .ge 31, 3) := by decide +kernel
theorem dX1_readItem_59 : decode cX1_readItem 59 = .ok (.aload_n 0, 1) := by decide +kernel
theorem dX1_readItem_60 : decode cX1_readItem 60 = .ok (.invokevirtual 52, 3) := by decide +kernel
theorem dX1_readItem_63 : decode cX1_readItem 63 = .ok (.aload_n 0, 1) := by decide +kernel
theorem dX1_readItem_64 : decode cX1_readItem 64 = .ok (.invokevirtual 62, 3) := by decide +kernel
theorem dX1_readItem_67 : decode cX1_readItem 67 = .ok (.istore_n 2, 1) := by decide +kernel
theorem dX1_readItem_68 : decode cX1_readItem 68 = .ok (.aload_n 1, 1) := by decide +kernel
theorem dX1_readItem_69 : decode cX1_readItem 69 = .ok (.iload_n 2, 1) := by decide +kernel
theorem dX1_readItem_70 : decode cX1_readItem 70 = .ok (.aload_n 0, 1) := by decide +kernel
theorem dX1_readItem_71 : decode cX1_readItem 71 = .ok (.iconst 0, 1) := by decide +kernel
theorem dX1_readItem_72 : decode cX1_readItem 72 = .ok (.invokevirtual 41, 3) := by decide +kernel
theorem dX1_readItem_75 : decode cX1_readItem 75 = .ok (.invokevirtual 66, 3) := by decide +kernel
theorem dX1_readItem_78 : decode cX1_readItem 78 = .ok (.aload_n 0, 1) := by decide +kernel
theorem dX1_readItem_79 : decode cX1_readItem 79 = .ok (.bipush 59, 2) := by decide +kernel
theorem dX1_readItem_81 : decode cX1_readItem 81 = .ok (.invokevirtual 45, 3) := by decide +kernel
theorem dX1_readItem_84 : decode cX1_readItem 84 = .ok (.goto 7, 3) := by decide +kernel
theorem dX1_readItem_87 : decode cX1_readItem 87 = .ok (.aload_n 0, 1) := by decide +kernel
theorem dX1_readItem_88 : decode cX1_readItem 88 = .ok (.invokevirtual 70, 3) := by decide +kernel
theorem dX1_readItem_91 : decode cX1_readItem 91 = .ok (.return_, 1) := by decide +kernel
set_option maxRecDepth 20000 in
theorem ggX1_readWeight_X1_fail : GoodIn wsX1_readWeight wsX1_fail := goodIn_r _ [6, 7, 8, 9, 14, 15, 16, 17, 18, 19, 20, 21] (by decide +kernel) (by decide +kernel)
set_option maxRecDepth 20000 in
theorem gX1_readWeight_X1_fail : GoodIn wsX1_readWeight (wsV RX1 70 RX1 yX1_fail wsX1_fail) := goodIn_app (goodIn_of _ (by decide +kernel)) ggX1_readWeight_X1_fail
set_option maxRecDepth 20000 in
theorem ggX1_readWeight_X1_advance : GoodIn wsX1_readWeight wsX1_advance := goodIn_r _ [13, 1, 9, 8, 14, 15, 16, 17, 18, 19, 20, 21] (by decide +kernel) (by decide +kernel)
set_option maxRecDepth 20000 in
theorem gX1_readWeight_X1_advance : GoodIn wsX1_readWeight (wsV RX1 52 RX1 yX1_advance wsX1_advance) := goodIn_app (goodIn_of _ (by decide +kernel)) ggX1_readWeight_X1_advance
theorem dX1_readWeight_0 : decode cX1_readWeight 0 = .ok (.aload_n 0, 1) := by decide +kernel
theorem dX1_readWeight_1 : decode cX1_readWeight 1 = .ok (.getfield 19, 3) := by decide +kernel
theorem dX1_readWeight_4 : decode cX1_readWeight 4 = .ok (.bipush 48, 2) := by decide +kernel
theorem dX1_readWeight_6 : decode cX1_readWeight 6 = .ok (.isub, 1) := by decide +kernel
theorem dX1_readWeight_7 : decode cX1_readWeight 7 = .ok (.istore_n 1, 1) := by decide +kernel
theorem dX1_readWeight_8 : decode cX1_readWeight 8 = .ok (.iload_n 1, 1) := by decide +kernel
theorem dX1_readWeight_9 : decode cX1_readWeight 9 = .ok (.iconst 1, 1) := by decide +kernel
theorem dX1_readWeight_10 : decode cX1_readWeight 10 = .ok (.if_icmp .lt 9, 3) := by decide +kernel
theorem dX1_readWeight_13 : decode cX1_readWeight 13 = .ok (.iload_n 1, 1) := by decide +kernel
theorem dX1_readWeight_14 : decode cX1_readWeight 14 = .ok (.bipush 9, 2) := by decide +kernel
theorem dX1_readWeight_16 : decode cX1_readWeight 16 = .ok (.if_icmp .le 9, 3) := by decide +kernel
theorem dX1_readWeight_19 : decode cX1_readWeight 19 = .ok (.aload_n 0, 1) := by decide +kernel
theorem dX1_readWeight_20 : decode cX1_readWeight 20 = .ok (.invokevirtual 70, 3) := by decide +kernel
theorem dX1_readWeight_23 : decode cX1_readWeight 23 = .ok (.iconst 0, 1) := by decide +kernel
theorem dX1_readWeight_24 : decode cX1_readWeight 24 = .ok (.ireturn, 1) := by decide +kernel
theorem dX1_readWeight_25 : decode cX1_readWeight 25 = .ok (.aload_n 0, 1) := by decide +kernel
theorem dX1_readWeight_26 : decode cX1_readWeight 26 = .ok (.invokevirtual 52, 3) := by decide +kernel
theorem dX1_readWeight_29 : decode cX1_readWeight 29 = .ok (.iload_n 1, 1) := by decide +kernel
theorem dX1_readWeight_30 : decode cX1_readWeight 30 = .ok (.ireturn, 1) := by decide +kernel
set_option maxRecDepth 20000 in
theorem ggX1_readSaying_X1_readBoth : GoodIn wsX1_readSaying wsX1_readBoth := goodIn_r _ [17, 1, 18, 19, 20, 5, 6, 7, 8, 9, 10, 11, 12, 13, 14, 15, 16, 21, 22, 23, 24, 25, 26, 27, 28, 29, 30, 31, 32, 33, 34, 35, 36, 37, 38, 39, 0, 2, 3, 4, 40, 41, 42, 43, 44, 45, 46, 47] (by decide +kernel) (by decide +kernel)
set_option maxRecDepth 20000 in
theorem gX1_readSaying_X1_readBoth : GoodIn wsX1_readSaying (wsV RX1 73 RX1 yX1_readBoth wsX1_readBoth) := goodIn_app (goodIn_of _ (by decide +kernel)) ggX1_readSaying_X1_readBoth
set_option maxRecDepth 20000 in
theorem ggX1_readSaying_X1_isFaulty : GoodIn wsX1_readSaying wsX1_isFaulty := goodIn_r _ [9, 10, 40, 41, 42, 43] (by decide +kernel) (by decide +kernel)
set_option maxRecDepth 20000 in
theorem gX1_readSaying_X1_isFaulty : GoodIn wsX1_readSaying (wsV RX1 33 RX1 yX1_isFaulty wsX1_isFaulty) := goodIn_app (goodIn_of _ (by decide +kernel)) ggX1_readSaying_X1_isFaulty
set_option maxRecDepth 20000 in
theorem ggX1_readSaying_X1_advance : GoodIn wsX1_readSaying wsX1_advance := goodIn_r _ [14, 1, 15, 16, 40, 41, 42, 43, 44, 45, 46, 47] (by decide +kernel) (by decide +kernel)
set_option maxRecDepth 20000 in
theorem gX1_readSaying_X1_advance : GoodIn wsX1_readSaying (wsV RX1 52 RX1 yX1_advance wsX1_advance) := goodIn_app (goodIn_of _ (by decide +kernel)) ggX1_readSaying_X1_advance
theorem dX1_readSaying_0 : decode cX1_readSaying 0 = .ok (.aload_n 0, 1) := by decide +kernel
theorem dX1_readSaying_1 : decode cX1_readSaying 1 = .ok (.iload_n 1, 1) := by decide +kernel
theorem dX1_readSaying_2 : decode cX1_readSaying 2 = .ok (.invokevirtual 73, 3) := by decide +kernel
theorem dX1_readSaying_5 : decode cX1_readSaying 5 = .ok (.lstore_n 2, 1) := by decide +kernel
theorem dX1_readSaying_6 : decode cX1_readSaying 6 = .ok (.iconst 0, 1) := by decide +kernel
theorem dX1_readSaying_7 : decode cX1_readSaying 7 = .ok (.istore 4, 2) := by decide +kernel
theorem dX1_readSaying_9 : decode cX1_readSaying 9 = .ok (.iload 4, 2) := by decide +kernel
theorem dX1_readSaying_11 : decode cX1_readSaying 11 = .ok (.sipush 300, 3) := by decide +kernel
theorem dX1_readSaying_14 : decode cX1_readSaying 14 = .ok (.if_icmp .ge 37, 3) := by decide +kernel
theorem dX1_readSaying_17 : decode cX1_readSaying 17 = .ok (.aload_n 0, 1) := by decide +kernel
theorem dX1_readSaying_18 : decode cX1_readSaying 18 = .ok (.invokevirtual 33, 3) := by decide +kernel
theorem dX1_readSaying_21 : decode cX1_readSaying 21 = .ok (.ifCond .ne 30, 3) := by decide +kernel
theorem dX1_readSaying_24 : decode cX1_readSaying 24 = .ok (.aload_n 0, 1) := by decide +kernel
theorem dX1_readSaying_25 : decode cX1_readSaying 25 = .ok (.getfield 19, 3) := by decide +kernel
theorem dX1_readSaying_28 : decode cX1_readSaying 28 = .ok (.bipush 124, 2) := by decide +kernel
theorem dX1_readSaying_30 : decode cX1_readSaying 30 = .ok (.if_icmp .ne 21, 3) := by decide +kernel
theorem dX1_readSaying_33 : decode cX1_readSaying 33 = .ok (.aload_n 0, 1) := by decide +kernel
theorem dX1_readSaying_34 : decode cX1_readSaying 34 = .ok (.invokevirtual 52, 3) := by decide +kernel
theorem dX1_readSaying_37 : decode cX1_readSaying 37 = .ok (.lload_n 2, 1) := by decide +kernel
theorem dX1_readSaying_38 : decode cX1_readSaying 38 = .ok (.aload_n 0, 1) := by decide +kernel
theorem dX1_readSaying_39 : decode cX1_readSaying 39 = .ok (.iload_n 1, 1) := by decide +kernel
theorem dX1_readSaying_40 : decode cX1_readSaying 40 = .ok (.invokevirtual 73, 3) := by decide +kernel
theorem dX1_readSaying_43 : decode cX1_readSaying 43 = .ok (.lor, 1) := by decide +kernel
theorem dX1_readSaying_44 : decode cX1_readSaying 44 = .ok (.lstore_n 2, 1) := by decide +kernel
theorem dX1_readSaying_45 : decode cX1_readSaying 45 = .ok (.iinc 4 1, 3) := by decide +kernel
theorem dX1_readSaying_48 : decode cX1_readSaying 48 = .ok (.goto (-39), 3) := by decide +kernel
theorem dX1_readSaying_51 : decode cX1_readSaying 51 = .ok (.lload_n 2, 1) := by decide +kernel
theorem dX1_readSaying_52 : decode cX1_readSaying 52 = .ok (.lreturn, 1) := by decide +kernel
set_option maxRecDepth 20000 in
theorem ggX1_readBoth_X1_readOne : GoodIn wsX1_readBoth wsX1_readOne := goodIn_r _ [17, 1, 18, 6, 7, 8, 5, 9, 10, 19, 20, 21, 22, 23, 24, 25, 26, 27, 28, 16, 15, 11, 12, 13, 14, 2, 3, 4, 29, 30, 31, 32, 33, 34, 35, 0, 36, 37, 38, 39, 40, 41, 42, 43, 44, 45, 46, 47] (by decide +kernel) (by decide +kernel)
set_option maxRecDepth 20000 in
theorem gX1_readBoth_X1_readOne : GoodIn wsX1_readBoth (wsV RX1 76 RX1 yX1_readOne wsX1_readOne) := goodIn_app (goodIn_of _ (by decide +kernel)) ggX1_readBoth_X1_readOne
set_option maxRecDepth 20000 in
theorem ggX1_readBoth_X1_isFaulty : GoodIn wsX1_readBoth wsX1_isFaulty := goodIn_r _ [9, 10, 40, 41, 42, 43] (by decide +kernel) (by decide +kernel)
set_option maxRecDepth 20000 in
theorem gX1_readBoth_X1_isFaulty : GoodIn wsX1_readBoth (wsV RX1 33 RX1 yX1_isFaulty wsX1_isFaulty) := goodIn_app (goodIn_of _ (by decide +kernel)) ggX1_readBoth_X1_isFaulty
set_option maxRecDepth 20000 in
theorem ggX1_readBoth_X1_advance : GoodIn wsX1_readBoth wsX1_advance := goodIn_r _ [14, 1, 15, 16, 40, 41, 42, 43, 44, 45, 46, 47] (by decide +kernel) (by decide +kernel)
set_option maxRecDepth 20000 in
theorem gX1_readBoth_X1_advance : GoodIn wsX1_readBoth (wsV RX1 52 RX1 yX1_advance wsX1_advance) := goodIn_app (goodIn_of _ (by decide +kernel)) ggX1_readBoth_X1_advance
theorem dX1_readBoth_0 : decode cX1_readBoth 0 = .ok (.aload_n 0, 1) := by decide +kernel
theorem dX1_readBoth_1 : decode cX1_readBoth 1 = .ok (.iload_n 1, 1) := by decide +kernel
theorem dX1_readBoth_2 : decode cX1_readBoth 2 = .ok (.invokevirtual 76, 3) := by decide +kernel
theorem dX1_readBoth_5 : decode cX1_readBoth 5 = .ok (.lstore_n 2, 1) := by decide +kernel
theorem dX1_readBoth_6 : decode cX1_readBoth 6 = .ok (.iconst 0, 1) := by decide +kernel
theorem dX1_readBoth_7 : decode cX1_readBoth 7 = .ok (.istore 4, 2) := by decide +kernel
theorem dX1_readBoth_9 : decode cX1_readBoth 9 = .ok (.iload 4, 2) := by decide +kernel
theorem dX1_readBoth_11 : decode cX1_readBoth 11 = .ok (.sipush 300, 3) := by decide +kernel
theorem dX1_readBoth_14 : decode cX1_readBoth 14 = .ok (.if_icmp .ge 37, 3) := by decide +kernel
theorem dX1_readBoth_17 : decode cX1_readBoth 17 = .ok (.aload_n 0, 1) := by decide +kernel
theorem dX1_readBoth_18 : decode cX1_readBoth 18 = .ok (.invokevirtual 33, 3) := by decide +kernel
theorem dX1_readBoth_21 : decode cX1_readBoth 21 = .ok (.ifCond .ne 30, 3) := by decide +kernel
theorem dX1_readBoth_24 : decode cX1_readBoth 24 = .ok (.aload_n 0, 1) := by decide +kernel
theorem dX1_readBoth_25 : decode cX1_readBoth 25 = .ok (.getfield 19, 3) := by decide +kernel
theorem dX1_readBoth_28 : decode cX1_readBoth 28 = .ok (.bipush 38, 2) := by decide +kernel
theorem dX1_readBoth_30 : decode cX1_readBoth 30 = .ok (.if_icmp .ne 21, 3) := by decide +kernel
theorem dX1_readBoth_33 : decode cX1_readBoth 33 = .ok (.aload_n 0, 1) := by decide +kernel
theorem dX1_readBoth_34 : decode cX1_readBoth 34 = .ok (.invokevirtual 52, 3) := by decide +kernel
theorem dX1_readBoth_37 : decode cX1_readBoth 37 = .ok (.lload_n 2, 1) := by decide +kernel
theorem dX1_readBoth_38 : decode cX1_readBoth 38 = .ok (.aload_n 0, 1) := by decide +kernel
theorem dX1_readBoth_39 : decode cX1_readBoth 39 = .ok (.iload_n 1, 1) := by decide +kernel
theorem dX1_readBoth_40 : decode cX1_readBoth 40 = .ok (.invokevirtual 76, 3) := by decide +kernel
theorem dX1_readBoth_43 : decode cX1_readBoth 43 = .ok (.land, 1) := by decide +kernel
theorem dX1_readBoth_44 : decode cX1_readBoth 44 = .ok (.lstore_n 2, 1) := by decide +kernel
theorem dX1_readBoth_45 : decode cX1_readBoth 45 = .ok (.iinc 4 1, 3) := by decide +kernel
theorem dX1_readBoth_48 : decode cX1_readBoth 48 = .ok (.goto (-39), 3) := by decide +kernel
theorem dX1_readBoth_51 : decode cX1_readBoth 51 = .ok (.lload_n 2, 1) := by decide +kernel
theorem dX1_readBoth_52 : decode cX1_readBoth 52 = .ok (.lreturn, 1) := by decide +kernel
set_option maxRecDepth 20000 in
theorem ggX1_readOne_X1_isFaulty : GoodIn wsX1_readOne wsX1_isFaulty := goodIn_r _ [7, 8, 40, 41, 42, 43] (by decide +kernel) (by decide +kernel)
set_option maxRecDepth 20000 in
theorem gX1_readOne_X1_isFaulty : GoodIn wsX1_readOne (wsV RX1 33 RX1 yX1_isFaulty wsX1_isFaulty) := goodIn_app (goodIn_of _ (by decide +kernel)) ggX1_readOne_X1_isFaulty
set_option maxRecDepth 20000 in
theorem ggX1_readOne_X1_beginsOne : GoodIn wsX1_readOne wsX1_beginsOne := goodIn_r _ [11, 12, 13, 14] (by decide +kernel) (by decide +kernel)
set_option maxRecDepth 20000 in
theorem gX1_readOne_X1_beginsOne : GoodIn wsX1_readOne (va_wsS RX1 79 yX1_beginsOne wsX1_beginsOne) := goodIn_app (goodIn_of _ (by decide +kernel)) ggX1_readOne_X1_beginsOne
set_option maxRecDepth 20000 in
theorem ggX1_readOne_X1_fail : GoodIn wsX1_readOne wsX1_fail := goodIn_r _ [18, 8, 19, 20, 40, 41, 42, 43, 44, 45, 46, 47] (by decide +kernel) (by decide +kernel)
set_option maxRecDepth 20000 in
theorem gX1_readOne_X1_fail : GoodIn wsX1_readOne (wsV RX1 70 RX1 yX1_fail wsX1_fail) := goodIn_app (goodIn_of _ (by decide +kernel)) ggX1_readOne_X1_fail
set_option maxRecDepth 20000 in
theorem ggX1_readOne_X1_advance : GoodIn wsX1_readOne wsX1_advance := goodIn_r _ [24, 1, 20, 19, 40, 41, 42, 43, 44, 45, 46, 47] (by decide +kernel) (by decide +kernel)
set_option maxRecDepth 20000 in
theorem gX1_readOne_X1_advance : GoodIn wsX1_readOne (wsV RX1 52 RX1 yX1_advance wsX1_advance) := goodIn_app (goodIn_of _ (by decide +kernel)) ggX1_readOne_X1_advance
set_option maxRecDepth 20000 in
theorem ggX1_readOne_X1_readOne : GoodIn wsX1_readOne wsX1_readOne := goodIn_r _ [0, 1, 2, 3, 4, 5, 6, 7, 8, 9, 10, 11, 12, 13, 14, 15, 16, 17, 18, 19, 20, 21, 22, 23, 24, 25, 26, 27, 28, 29, 30, 31, 32, 33, 34, 35, 36, 37, 38, 39, 40, 41, 42, 43, 44, 45, 46, 47] (by decide +kernel) (by decide +kernel)
set_option maxRecDepth 20000 in
theorem gX1_readOne_X1_readOne : GoodIn wsX1_readOne (wsV RX1 76 RX1 yX1_readOne wsX1_readOne) := goodIn_app (goodIn_of _ (by decide +kernel)) ggX1_readOne_X1_readOne
set_option maxRecDepth 20000 in
theorem ggX1_readOne_X1_readSaying : GoodIn wsX1_readOne wsX1_readSaying := goodIn_r _ [36, 1, 37, 38, 39, 6, 3, 4, 5, 7, 8, 21, 22, 23, 24, 20, 19, 35, 25, 26, 27, 0, 2, 9, 10, 11, 12, 13, 14, 15, 16, 17, 18, 28, 29, 30, 31, 32, 33, 34, 40, 41, 42, 43, 44, 45, 46, 47] (by decide +kernel) (by decide +kernel)
set_option maxRecDepth 20000 in
theorem gX1_readOne_X1_readSaying : GoodIn wsX1_readOne (wsV RX1 41 RX1 yX1_readSaying wsX1_readSaying) := goodIn_app (goodIn_of _ (by decide +kernel)) ggX1_readOne_X1_readSaying
set_option maxRecDepth 20000 in
theorem ggX1_readOne_X1_expect : GoodIn wsX1_readOne wsX1_expect := goodIn_r _ [34, 1, 3, 4, 5, 6, 7, 8, 15, 16, 17, 18, 19, 20, 21, 22, 23, 24, 40, 41, 42, 43, 44, 45, 46, 47] (by decide +kernel) (by decide +kernel)
set_option maxRecDepth 20000 in
theorem gX1_readOne_X1_expect : GoodIn wsX1_readOne (wsV RX1 45 RX1 yX1_expect wsX1_expect) := goodIn_app (goodIn_of _ (by decide +kernel)) ggX1_readOne_X1_expect
set_option maxRecDepth 20000 in
theorem ggX1_readOne_X4_isLetter : GoodIn wsX1_readOne wsX4_isLetter := goodIn_r _ [14] (by decide +kernel) (by decide +kernel)
set_option maxRecDepth 20000 in
theorem gX1_readOne_X4_isLetter_n85 : GoodIn wsX1_readOne (wsX4_isLetter) := ggX1_readOne_X4_isLetter
theorem dX1_readOne_0 : decode cX1_readOne 0 = .ok (.aload_n 0, 1) := by decide +kernel
theorem dX1_readOne_1 : decode cX1_readOne 1 = .ok (.getfield 19, 3) := by decide +kernel
theorem dX1_readOne_4 : decode cX1_readOne 4 = .ok (.istore_n 2, 1) := by decide +kernel
theorem dX1_readOne_5 : decode cX1_readOne 5 = .ok (.aload_n 0, 1) := by decide +kernel
theorem dX1_readOne_6 : decode cX1_readOne 6 = .ok (.invokevirtual 33, 3) := by decide +kernel
theorem dX1_readOne_9 : decode cX1_readOne 9 = .ok (.ifCond .ne 11, 3) := by decide +kernel
theorem dX1_readOne_12 : decode cX1_readOne 12 = .ok (.iload_n 2, 1) := by decide +kernel
theorem dX1_readOne_13 : decode cX1_readOne 13 = .ok (.iload_n 1, 1) := by decide +kernel
theorem dX1_readOne_14 : decode cX1_readOne 14 = .ok (.invokestatic 79, 3) := by decide +kernel
theorem dX1_readOne_17 : decode cX1_readOne 17 = .ok (.ifCond .ne 9, 3) := by decide +kernel
theorem dX1_readOne_20 : decode cX1_readOne 20 = .ok (.aload_n 0, 1) := by decide +kernel
theorem dX1_readOne_21 : decode cX1_readOne 21 = .ok (.invokevirtual 70, 3) := by decide +kernel
theorem dX1_readOne_24 : decode cX1_readOne 24 = .ok (.lconst 0, 1) := by decide +kernel
theorem dX1_readOne_25 : decode cX1_readOne 25 = .ok (.lreturn, 1) := by decide +kernel
theorem dX1_readOne_26 : decode cX1_readOne 26 = .ok (.aload_n 0, 1) := by decide +kernel
theorem dX1_readOne_27 : decode cX1_readOne 27 = .ok (.invokevirtual 52, 3) := by decide +kernel
theorem dX1_readOne_30 : decode cX1_readOne 30 = .ok (.iload_n 2, 1) := by decide +kernel
theorem dX1_readOne_31 : decode cX1_readOne 31 = .ok (.bipush 33, 2) := by decide +kernel
theorem dX1_readOne_33 : decode cX1_readOne 33 = .ok (.if_icmp .ne 15, 3) := by decide +kernel
theorem dX1_readOne_36 : decode cX1_readOne 36 = .ok (.aload_n 0, 1) := by decide +kernel
theorem dX1_readOne_37 : decode cX1_readOne 37 = .ok (.iload_n 1, 1) := by decide +kernel
theorem dX1_readOne_38 : decode cX1_readOne 38 = .ok (.iconst 1, 1) := by decide +kernel
theorem dX1_readOne_39 : decode cX1_readOne 39 = .ok (.iadd, 1) := by decide +kernel
theorem dX1_readOne_40 : decode cX1_readOne 40 = .ok (.invokevirtual 76, 3) := by decide +kernel
theorem dX1_readOne_43 : decode cX1_readOne 43 = .ok (.ldc2_w 83, 3) := by decide +kernel
theorem dX1_readOne_46 : decode cX1_readOne 46 = .ok (.lxor, 1) := by decide +kernel
theorem dX1_readOne_47 : decode cX1_readOne 47 = .ok (.lreturn, 1) := by decide +kernel
theorem dX1_readOne_48 : decode cX1_readOne 48 = .ok (.iload_n 2, 1) := by decide +kernel
theorem dX1_readOne_49 : decode cX1_readOne 49 = .ok (.bipush 40, 2) := by decide +kernel
theorem dX1_readOne_51 : decode cX1_readOne 51 = .ok (.if_icmp .ne 19, 3) := by decide +kernel
theorem dX1_readOne_54 : decode cX1_readOne 54 = .ok (.aload_n 0, 1) := by decide +kernel
theorem dX1_readOne_55 : decode cX1_readOne 55 = .ok (.iload_n 1, 1) := by decide +kernel
theorem dX1_readOne_56 : decode cX1_readOne 56 = .ok (.iconst 1, 1) := by decide +kernel
theorem dX1_readOne_57 : decode cX1_readOne 57 = .ok (.iadd, 1) := by decide +kernel
theorem dX1_readOne_58 : decode cX1_readOne 58 = .ok (.invokevirtual 41, 3) := by decide +kernel
theorem dX1_readOne_61 : decode cX1_readOne 61 = .ok (.lstore_n 3, 1) := by decide +kernel
theorem dX1_readOne_62 : decode cX1_readOne 62 = .ok (.aload_n 0, 1) := by decide +kernel
theorem dX1_readOne_63 : decode cX1_readOne 63 = .ok (.bipush 41, 2) := by decide +kernel
theorem dX1_readOne_65 : decode cX1_readOne 65 = .ok (.invokevirtual 45, 3) := by decide +kernel
theorem dX1_readOne_68 : decode cX1_readOne 68 = .ok (.lload_n 3, 1) := by decide +kernel
theorem dX1_readOne_69 : decode cX1_readOne 69 = .ok (.lreturn, 1) := by decide +kernel
theorem dX1_readOne_70 : decode cX1_readOne 70 = .ok (.iload_n 2, 1) := by decide +kernel
theorem dX1_readOne_71 : decode cX1_readOne 71 = .ok (.invokestatic 85, 3) := by decide +kernel
theorem dX1_readOne_74 : decode cX1_readOne 74 = .ok (.ifCond .eq 12, 3) := by decide +kernel
theorem dX1_readOne_77 : decode cX1_readOne 77 = .ok (.getstatic 89, 3) := by decide +kernel
theorem dX1_readOne_80 : decode cX1_readOne 80 = .ok (.iload_n 2, 1) := by decide +kernel
theorem dX1_readOne_81 : decode cX1_readOne 81 = .ok (.bipush 97, 2) := by decide +kernel
theorem dX1_readOne_83 : decode cX1_readOne 83 = .ok (.isub, 1) := by decide +kernel
theorem dX1_readOne_84 : decode cX1_readOne 84 = .ok (.laload, 1) := by decide +kernel
theorem dX1_readOne_85 : decode cX1_readOne 85 = .ok (.lreturn, 1) := by decide +kernel
theorem dX1_readOne_86 : decode cX1_readOne 86 = .ok (.iload_n 2, 1) := by decide +kernel
theorem dX1_readOne_87 : decode cX1_readOne 87 = .ok (.bipush 49, 2) := by decide +kernel
theorem dX1_readOne_89 : decode cX1_readOne 89 = .ok (.if_icmp .ne 9, 3) := by decide +kernel
theorem dX1_readOne_92 : decode cX1_readOne 92 = .ok (.ldc2_w 83, 3) := by decide +kernel
theorem dX1_readOne_95 : decode cX1_readOne 95 = .ok (.goto 4, 3) := by decide +kernel
theorem dX1_readOne_98 : decode cX1_readOne 98 = .ok (.lconst 0, 1) := by decide +kernel
theorem dX1_readOne_99 : decode cX1_readOne 99 = .ok (.lreturn, 1) := by decide +kernel
set_option maxRecDepth 20000 in
theorem ggX1_beginsOne_X4_isLetter : GoodIn wsX1_beginsOne wsX4_isLetter := goodIn_r _ [3] (by decide +kernel) (by decide +kernel)
set_option maxRecDepth 20000 in
theorem gX1_beginsOne_X4_isLetter_n85 : GoodIn wsX1_beginsOne (wsX4_isLetter) := ggX1_beginsOne_X4_isLetter
theorem dX1_beginsOne_0 : decode cX1_beginsOne 0 = .ok (.iload_n 0, 1) := by decide +kernel
theorem dX1_beginsOne_1 : decode cX1_beginsOne 1 = .ok (.bipush 33, 2) := by decide +kernel
theorem dX1_beginsOne_3 : decode cX1_beginsOne 3 = .ok (.if_icmp .eq 9, 3) := by decide +kernel
theorem dX1_beginsOne_6 : decode cX1_beginsOne 6 = .ok (.iload_n 0, 1) := by decide +kernel
theorem dX1_beginsOne_7 : decode cX1_beginsOne 7 = .ok (.bipush 40, 2) := by decide +kernel
theorem dX1_beginsOne_9 : decode cX1_beginsOne 9 = .ok (.if_icmp .ne 15, 3) := by decide +kernel
theorem dX1_beginsOne_12 : decode cX1_beginsOne 12 = .ok (.iload_n 1, 1) := by decide +kernel
theorem dX1_beginsOne_13 : decode cX1_beginsOne 13 = .ok (.bipush 8, 2) := by decide +kernel
theorem dX1_beginsOne_15 : decode cX1_beginsOne 15 = .ok (.if_icmp .ge 7, 3) := by decide +kernel
theorem dX1_beginsOne_18 : decode cX1_beginsOne 18 = .ok (.iconst 1, 1) := by decide +kernel
theorem dX1_beginsOne_19 : decode cX1_beginsOne 19 = .ok (.goto 4, 3) := by decide +kernel
theorem dX1_beginsOne_22 : decode cX1_beginsOne 22 = .ok (.iconst 0, 1) := by decide +kernel
theorem dX1_beginsOne_23 : decode cX1_beginsOne 23 = .ok (.ireturn, 1) := by decide +kernel
theorem dX1_beginsOne_24 : decode cX1_beginsOne 24 = .ok (.iload_n 0, 1) := by decide +kernel
theorem dX1_beginsOne_25 : decode cX1_beginsOne 25 = .ok (.bipush 48, 2) := by decide +kernel
theorem dX1_beginsOne_27 : decode cX1_beginsOne 27 = .ok (.if_icmp .eq 16, 3) := by decide +kernel
theorem dX1_beginsOne_30 : decode cX1_beginsOne 30 = .ok (.iload_n 0, 1) := by decide +kernel
theorem dX1_beginsOne_31 : decode cX1_beginsOne 31 = .ok (.bipush 49, 2) := by decide +kernel
theorem dX1_beginsOne_33 : decode cX1_beginsOne 33 = .ok (.if_icmp .eq 10, 3) := by decide +kernel
theorem dX1_beginsOne_36 : decode cX1_beginsOne 36 = .ok (.iload_n 0, 1) := by decide +kernel
theorem dX1_beginsOne_37 : decode cX1_beginsOne 37 = .ok (.invokestatic 85, 3) := by decide +kernel
theorem dX1_beginsOne_40 : decode cX1_beginsOne 40 = .ok (.ifCond .eq 7, 3) := by decide +kernel
theorem dX1_beginsOne_43 : decode cX1_beginsOne 43 = .ok (.iconst 1, 1) := by decide +kernel
theorem dX1_beginsOne_44 : decode cX1_beginsOne 44 = .ok (.goto 4, 3) := by decide +kernel
theorem dX1_beginsOne_47 : decode cX1_beginsOne 47 = .ok (.iconst 0, 1) := by decide +kernel
theorem dX1_beginsOne_48 : decode cX1_beginsOne 48 = .ok (.ireturn, 1) := by decide +kernel
set_option maxRecDepth 20000 in
theorem ggX1_expect_X1_isFaulty : GoodIn wsX1_expect wsX1_isFaulty := goodIn_r _ [6, 7, 18, 19, 20, 21] (by decide +kernel) (by decide +kernel)
set_option maxRecDepth 20000 in
theorem gX1_expect_X1_isFaulty : GoodIn wsX1_expect (wsV RX1 33 RX1 yX1_isFaulty wsX1_isFaulty) := goodIn_app (goodIn_of _ (by decide +kernel)) ggX1_expect_X1_isFaulty
set_option maxRecDepth 20000 in
theorem ggX1_expect_X1_fail : GoodIn wsX1_expect wsX1_fail := goodIn_r _ [11, 7, 12, 13, 18, 19, 20, 21, 22, 23, 24, 25] (by decide +kernel) (by decide +kernel)
set_option maxRecDepth 20000 in
theorem gX1_expect_X1_fail : GoodIn wsX1_expect (wsV RX1 70 RX1 yX1_fail wsX1_fail) := goodIn_app (goodIn_of _ (by decide +kernel)) ggX1_expect_X1_fail
set_option maxRecDepth 20000 in
theorem ggX1_expect_X1_advance : GoodIn wsX1_expect wsX1_advance := goodIn_r _ [17, 1, 13, 12, 18, 19, 20, 21, 22, 23, 24, 25] (by decide +kernel) (by decide +kernel)
set_option maxRecDepth 20000 in
theorem gX1_expect_X1_advance : GoodIn wsX1_expect (wsV RX1 52 RX1 yX1_advance wsX1_advance) := goodIn_app (goodIn_of _ (by decide +kernel)) ggX1_expect_X1_advance
theorem dX1_expect_0 : decode cX1_expect 0 = .ok (.aload_n 0, 1) := by decide +kernel
theorem dX1_expect_1 : decode cX1_expect 1 = .ok (.invokevirtual 33, 3) := by decide +kernel
theorem dX1_expect_4 : decode cX1_expect 4 = .ok (.ifCond .ne 11, 3) := by decide +kernel
theorem dX1_expect_7 : decode cX1_expect 7 = .ok (.aload_n 0, 1) := by decide +kernel
theorem dX1_expect_8 : decode cX1_expect 8 = .ok (.getfield 19, 3) := by decide +kernel
theorem dX1_expect_11 : decode cX1_expect 11 = .ok (.iload_n 1, 1) := by decide +kernel
theorem dX1_expect_12 : decode cX1_expect 12 = .ok (.if_icmp .eq 10, 3) := by decide +kernel
theorem dX1_expect_15 : decode cX1_expect 15 = .ok (.aload_n 0, 1) := by decide +kernel
theorem dX1_expect_16 : decode cX1_expect 16 = .ok (.invokevirtual 70, 3) := by decide +kernel
theorem dX1_expect_19 : decode cX1_expect 19 = .ok (.goto 7, 3) := by decide +kernel
theorem dX1_expect_22 : decode cX1_expect 22 = .ok (.aload_n 0, 1) := by decide +kernel
theorem dX1_expect_23 : decode cX1_expect 23 = .ok (.invokevirtual 52, 3) := by decide +kernel
theorem dX1_expect_26 : decode cX1_expect 26 = .ok (.return_, 1) := by decide +kernel
theorem dX1_fail_0 : decode cX1_fail 0 = .ok (.aload_n 0, 1) := by decide +kernel
theorem dX1_fail_1 : decode cX1_fail 1 = .ok (.getfield 22, 3) := by decide +kernel
theorem dX1_fail_4 : decode cX1_fail 4 = .ok (.iconst (-1), 1) := by decide +kernel
theorem dX1_fail_5 : decode cX1_fail 5 = .ok (.if_icmp .ne 19, 3) := by decide +kernel
theorem dX1_fail_8 : decode cX1_fail 8 = .ok (.aload_n 0, 1) := by decide +kernel
theorem dX1_fail_9 : decode cX1_fail 9 = .ok (.aload_n 0, 1) := by decide +kernel
theorem dX1_fail_10 : decode cX1_fail 10 = .ok (.getfield 9, 3) := by decide +kernel
theorem dX1_fail_13 : decode cX1_fail 13 = .ok (.getfield 93, 3) := by decide +kernel
theorem dX1_fail_16 : decode cX1_fail 16 = .ok (.aload_n 0, 1) := by decide +kernel
theorem dX1_fail_17 : decode cX1_fail 17 = .ok (.getfield 15, 3) := by decide +kernel
theorem dX1_fail_20 : decode cX1_fail 20 = .ok (.iaload, 1) := by decide +kernel
theorem dX1_fail_21 : decode cX1_fail 21 = .ok (.putfield 22, 3) := by decide +kernel
theorem dX1_fail_24 : decode cX1_fail 24 = .ok (.return_, 1) := by decide +kernel
set_option maxRecDepth 20000 in
theorem ggX1_begin_X2_findTokens : GoodIn wsX1_begin wsX2_findTokens := goodIn_r _ [9, 10, 11, 12, 13, 14, 15, 8, 16, 17, 18, 19, 20, 21, 22, 23, 24, 25, 26, 27, 28, 29, 30, 31, 32, 33, 34, 35, 40, 41, 42, 43] (by decide +kernel) (by decide +kernel)
set_option maxRecDepth 20000 in
theorem gX1_begin_X2_findTokens : GoodIn wsX1_begin (wsV RX1 99 RX2 yX2_findTokens wsX2_findTokens) := goodIn_app (goodIn_of _ (by decide +kernel)) ggX1_begin_X2_findTokens
theorem dX1_begin_0 : decode cX1_begin 0 = .ok (.aload_n 0, 1) := by decide +kernel
theorem dX1_begin_1 : decode cX1_begin 1 = .ok (.getfield 9, 3) := by decide +kernel
theorem dX1_begin_4 : decode cX1_begin 4 = .ok (.invokevirtual 99, 3) := by decide +kernel
theorem dX1_begin_7 : decode cX1_begin 7 = .ok (.aload_n 0, 1) := by decide +kernel
theorem dX1_begin_8 : decode cX1_begin 8 = .ok (.iconst 0, 1) := by decide +kernel
theorem dX1_begin_9 : decode cX1_begin 9 = .ok (.putfield 15, 3) := by decide +kernel
theorem dX1_begin_12 : decode cX1_begin 12 = .ok (.aload_n 0, 1) := by decide +kernel
theorem dX1_begin_13 : decode cX1_begin 13 = .ok (.aload_n 0, 1) := by decide +kernel
theorem dX1_begin_14 : decode cX1_begin 14 = .ok (.getfield 9, 3) := by decide +kernel
theorem dX1_begin_17 : decode cX1_begin 17 = .ok (.getfield 102, 3) := by decide +kernel
theorem dX1_begin_20 : decode cX1_begin 20 = .ok (.iconst 0, 1) := by decide +kernel
theorem dX1_begin_21 : decode cX1_begin 21 = .ok (.iaload, 1) := by decide +kernel
theorem dX1_begin_22 : decode cX1_begin 22 = .ok (.putfield 19, 3) := by decide +kernel
theorem dX1_begin_25 : decode cX1_begin 25 = .ok (.aload_n 0, 1) := by decide +kernel
theorem dX1_begin_26 : decode cX1_begin 26 = .ok (.iconst (-1), 1) := by decide +kernel
theorem dX1_begin_27 : decode cX1_begin 27 = .ok (.putfield 22, 3) := by decide +kernel
theorem dX1_begin_30 : decode cX1_begin 30 = .ok (.return_, 1) := by decide +kernel
theorem dX1_advance_0 : decode cX1_advance 0 = .ok (.aload_n 0, 1) := by decide +kernel
theorem dX1_advance_1 : decode cX1_advance 1 = .ok (.getfield 19, 3) := by decide +kernel
theorem dX1_advance_4 : decode cX1_advance 4 = .ok (.sipush 258, 3) := by decide +kernel
theorem dX1_advance_7 : decode cX1_advance 7 = .ok (.if_icmp .eq 39, 3) := by decide +kernel
theorem dX1_advance_10 : decode cX1_advance 10 = .ok (.aload_n 0, 1) := by decide +kernel
theorem dX1_advance_11 : decode cX1_advance 11 = .ok (.getfield 15, 3) := by decide +kernel
theorem dX1_advance_14 : decode cX1_advance 14 = .ok (.sipush 300, 3) := by decide +kernel
theorem dX1_advance_17 : decode cX1_advance 17 = .ok (.if_icmp .ge 29, 3) := by decide +kernel
theorem dX1_advance_20 : decode cX1_advance 20 = .ok (.aload_n 0, 1) := by decide +kernel
theorem dX1_advance_21 : decode cX1_advance 21 = .ok (.dup, 1) := by decide +kernel
theorem dX1_advance_22 : decode cX1_advance 22 = .ok (.getfield 15, 3) := by decide +kernel
theorem dX1_advance_25 : decode cX1_advance 25 = .ok (.iconst 1, 1) := by decide +kernel
theorem dX1_advance_26 : decode cX1_advance 26 = .ok (.iadd, 1) := by decide +kernel
theorem dX1_advance_27 : decode cX1_advance 27 = .ok (.putfield 15, 3) := by decide +kernel
theorem dX1_advance_30 : decode cX1_advance 30 = .ok (.aload_n 0, 1) := by decide +kernel
theorem dX1_advance_31 : decode cX1_advance 31 = .ok (.aload_n 0, 1) := by decide +kernel
theorem dX1_advance_32 : decode cX1_advance 32 = .ok (.getfield 9, 3) := by decide +kernel
theorem dX1_advance_35 : decode cX1_advance 35 = .ok (.getfield 102, 3) := by decide +kernel
theorem dX1_advance_38 : decode cX1_advance 38 = .ok (.aload_n 0, 1) := by decide +kernel
theorem dX1_advance_39 : decode cX1_advance 39 = .ok (.getfield 15, 3) := by decide +kernel
theorem dX1_advance_42 : decode cX1_advance 42 = .ok (.iaload, 1) := by decide +kernel
theorem dX1_advance_43 : decode cX1_advance 43 = .ok (.putfield 19, 3) := by decide +kernel
theorem dX1_advance_46 : decode cX1_advance 46 = .ok (.return_, 1) := by decide +kernel
theorem dX2_init_0 : decode cX2_init 0 = .ok (.aload_n 0, 1) := by decide +kernel
theorem dX2_init_1 : decode cX2_init 1 = .ok (.invokespecial 3, 3) := by decide +kernel
theorem dX2_init_4 : decode cX2_init 4 = .ok (.aload_n 0, 1) := by decide +kernel
theorem dX2_init_5 : decode cX2_init 5 = .ok (.sipush 300, 3) := by decide +kernel
theorem dX2_init_8 : decode cX2_init 8 = .ok (.newarray .int, 2) := by decide +kernel
theorem dX2_init_10 : decode cX2_init 10 = .ok (.putfield 9, 3) := by decide +kernel
theorem dX2_init_13 : decode cX2_init 13 = .ok (.aload_n 0, 1) := by decide +kernel
theorem dX2_init_14 : decode cX2_init 14 = .ok (.iconst 0, 1) := by decide +kernel
theorem dX2_init_15 : decode cX2_init 15 = .ok (.putfield 15, 3) := by decide +kernel
theorem dX2_init_18 : decode cX2_init 18 = .ok (.aload_n 0, 1) := by decide +kernel
theorem dX2_init_19 : decode cX2_init 19 = .ok (.sipush 301, 3) := by decide +kernel
theorem dX2_init_22 : decode cX2_init 22 = .ok (.newarray .int, 2) := by decide +kernel
theorem dX2_init_24 : decode cX2_init 24 = .ok (.putfield 19, 3) := by decide +kernel
theorem dX2_init_27 : decode cX2_init 27 = .ok (.aload_n 0, 1) := by decide +kernel
theorem dX2_init_28 : decode cX2_init 28 = .ok (.sipush 301, 3) := by decide +kernel
theorem dX2_init_31 : decode cX2_init 31 = .ok (.newarray .int, 2) := by decide +kernel
theorem dX2_init_33 : decode cX2_init 33 = .ok (.putfield 22, 3) := by decide +kernel
theorem dX2_init_36 : decode cX2_init 36 = .ok (.return_, 1) := by decide +kernel
theorem dX2_append_0 : decode cX2_append 0 = .ok (.aload_n 0, 1) := by decide +kernel
theorem dX2_append_1 : decode cX2_append 1 = .ok (.getfield 15, 3) := by decide +kernel
theorem dX2_append_4 : decode cX2_append 4 = .ok (.sipush 300, 3) := by decide +kernel
theorem dX2_append_7 : decode cX2_append 7 = .ok (.if_icmp .ge 23, 3) := by decide +kernel
theorem dX2_append_10 : decode cX2_append 10 = .ok (.aload_n 0, 1) := by decide +kernel
theorem dX2_append_11 : decode cX2_append 11 = .ok (.getfield 9, 3) := by decide +kernel
theorem dX2_append_14 : decode cX2_append 14 = .ok (.aload_n 0, 1) := by decide +kernel
theorem dX2_append_15 : decode cX2_append 15 = .ok (.getfield 15, 3) := by decide +kernel
theorem dX2_append_18 : decode cX2_append 18 = .ok (.iload_n 1, 1) := by decide +kernel
theorem dX2_append_19 : decode cX2_append 19 = .ok (.iastore, 1) := by decide +kernel
theorem dX2_append_20 : decode cX2_append 20 = .ok (.aload_n 0, 1) := by decide +kernel
theorem dX2_append_21 : decode cX2_append 21 = .ok (.dup, 1) := by decide +kernel
theorem dX2_append_22 : decode cX2_append 22 = .ok (.getfield 15, 3) := by decide +kernel
theorem dX2_append_25 : decode cX2_append 25 = .ok (.iconst 1, 1) := by decide +kernel
theorem dX2_append_26 : decode cX2_append 26 = .ok (.iadd, 1) := by decide +kernel
theorem dX2_append_27 : decode cX2_append 27 = .ok (.putfield 15, 3) := by decide +kernel
theorem dX2_append_30 : decode cX2_append 30 = .ok (.return_, 1) := by decide +kernel
set_option maxRecDepth 20000 in
theorem ggX2_findTokens_X2_beginsToken : GoodIn wsX2_findTokens wsX2_beginsToken := goodIn_r _ [8, 9, 10, 11, 12, 7, 13, 1, 28, 29, 30, 31] (by decide +kernel) (by decide +kernel)
set_option maxRecDepth 20000 in
theorem gX2_findTokens_X2_beginsToken : GoodIn wsX2_findTokens (wsV RX2 25 RX2 yX2_beginsToken wsX2_beginsToken) := goodIn_app (goodIn_of _ (by decide +kernel)) ggX2_findTokens_X2_beginsToken
set_option maxRecDepth 20000 in
theorem ggX2_findTokens_X2_tokenAt : GoodIn wsX2_findTokens wsX2_tokenAt := goodIn_r _ [17, 9, 10, 11, 12, 7, 13, 1, 18, 19, 20, 21, 22, 23, 24, 25, 26, 27, 28, 29, 30, 31] (by decide +kernel) (by decide +kernel)
set_option maxRecDepth 20000 in
theorem gX2_findTokens_X2_tokenAt : GoodIn wsX2_findTokens (wsV RX2 29 RX2 yX2_tokenAt wsX2_tokenAt) := goodIn_app (goodIn_of _ (by decide +kernel)) ggX2_findTokens_X2_tokenAt
theorem dX2_findTokens_0 : decode cX2_findTokens 0 = .ok (.iconst 0, 1) := by decide +kernel
theorem dX2_findTokens_1 : decode cX2_findTokens 1 = .ok (.istore_n 1, 1) := by decide +kernel
theorem dX2_findTokens_2 : decode cX2_findTokens 2 = .ok (.iconst 0, 1) := by decide +kernel
theorem dX2_findTokens_3 : decode cX2_findTokens 3 = .ok (.istore_n 2, 1) := by decide +kernel
theorem dX2_findTokens_4 : decode cX2_findTokens 4 = .ok (.iload_n 2, 1) := by decide +kernel
theorem dX2_findTokens_5 : decode cX2_findTokens 5 = .ok (.aload_n 0, 1) := by decide +kernel
theorem dX2_findTokens_6 : decode cX2_findTokens 6 = .ok (.getfield 15, 3) := by decide +kernel
theorem dX2_findTokens_9 : decode cX2_findTokens 9 = .ok (.if_icmp .ge 38, 3) := by decide +kernel
theorem dX2_findTokens_12 : decode cX2_findTokens 12 = .ok (.aload_n 0, 1) := by decide +kernel
theorem dX2_findTokens_13 : decode cX2_findTokens 13 = .ok (.iload_n 2, 1) := by decide +kernel
theorem dX2_findTokens_14 : decode cX2_findTokens 14 = .ok (.invokevirtual 25, 3) := by decide +kernel
theorem dX2_findTokens_17 : decode cX2_findTokens 17 = .ok (.ifCond .eq 24, 3) := by decide +kernel
theorem dX2_findTokens_20 : decode cX2_findTokens 20 = .ok (.aload_n 0, 1) := by decide +kernel
theorem dX2_findTokens_21 : decode cX2_findTokens 21 = .ok (.getfield 19, 3) := by decide +kernel
theorem dX2_findTokens_24 : decode cX2_findTokens 24 = .ok (.iload_n 1, 1) := by decide +kernel
theorem dX2_findTokens_25 : decode cX2_findTokens 25 = .ok (.aload_n 0, 1) := by decide +kernel
theorem dX2_findTokens_26 : decode cX2_findTokens 26 = .ok (.iload_n 2, 1) := by decide +kernel
theorem dX2_findTokens_27 : decode cX2_findTokens 27 = .ok (.invokevirtual 29, 3) := by decide +kernel
theorem dX2_findTokens_30 : decode cX2_findTokens 30 = .ok (.iastore, 1) := by decide +kernel
theorem dX2_findTokens_31 : decode cX2_findTokens 31 = .ok (.aload_n 0, 1) := by decide +kernel
theorem dX2_findTokens_32 : decode cX2_findTokens 32 = .ok (.getfield 22, 3) := by decide +kernel
theorem dX2_findTokens_35 : decode cX2_findTokens 35 = .ok (.iload_n 1, 1) := by decide +kernel
theorem dX2_findTokens_36 : decode cX2_findTokens 36 = .ok (.iload_n 2, 1) := by decide +kernel
theorem dX2_findTokens_37 : decode cX2_findTokens 37 = .ok (.iastore, 1) := by decide +kernel
theorem dX2_findTokens_38 : decode cX2_findTokens 38 = .ok (.iinc 1 1, 3) := by decide +kernel
theorem dX2_findTokens_41 : decode cX2_findTokens 41 = .ok (.iinc 2 1, 3) := by decide +kernel
theorem dX2_findTokens_44 : decode cX2_findTokens 44 = .ok (.goto (-40), 3) := by decide +kernel
end
section
theorem dX2_findTokens_47 : decode cX2_findTokens 47 = .ok (.aload_n 0, 1) := by decide +kernel
theorem dX2_findTokens_48 : decode cX2_findTokens 48 = .ok (.getfield 19, 3) := by decide +kernel
theorem dX2_findTokens_51 : decode cX2_findTokens 51 = .ok (.iload_n 1, 1) := by decide +kernel
theorem dX2_findTokens_52 : decode cX2_findTokens 52 = .ok (.sipush 258, 3) := by decide +kernel
theorem dX2_findTokens_55 : decode cX2_findTokens 55 = .ok (.iastore, 1) := by decide +kernel
theorem dX2_findTokens_56 : decode cX2_findTokens 56 = .ok (.aload_n 0, 1) := by decide +kernel
theorem dX2_findTokens_57 : decode cX2_findTokens 57 = .ok (.getfield 22, 3) := by decide +kernel
theorem dX2_findTokens_60 : decode cX2_findTokens 60 = .ok (.iload_n 1, 1) := by decide +kernel
theorem dX2_findTokens_61 : decode cX2_findTokens 61 = .ok (.aload_n 0, 1) := by decide +kernel
theorem dX2_findTokens_62 : decode cX2_findTokens 62 = .ok (.getfield 15, 3) := by decide +kernel
theorem dX2_findTokens_65 : decode cX2_findTokens 65 = .ok (.iastore, 1) := by decide +kernel
theorem dX2_findTokens_66 : decode cX2_findTokens 66 = .ok (.return_, 1) := by decide +kernel
set_option maxRecDepth 20000 in
theorem ggX2_beginsToken_X2_isSmall : GoodIn wsX2_beginsToken wsX2_isSmall := goodIn_r _ [6, 7, 1, 8, 9, 10, 11] (by decide +kernel) (by decide +kernel)
set_option maxRecDepth 20000 in
theorem gX2_beginsToken_X2_isSmall : GoodIn wsX2_beginsToken (wsV RX2 33 RX2 yX2_isSmall wsX2_isSmall) := goodIn_app (goodIn_of _ (by decide +kernel)) ggX2_beginsToken_X2_isSmall
theorem dX2_beginsToken_0 : decode cX2_beginsToken 0 = .ok (.aload_n 0, 1) := by decide +kernel
theorem dX2_beginsToken_1 : decode cX2_beginsToken 1 = .ok (.iload_n 1, 1) := by decide +kernel
theorem dX2_beginsToken_2 : decode cX2_beginsToken 2 = .ok (.invokevirtual 33, 3) := by decide +kernel
theorem dX2_beginsToken_5 : decode cX2_beginsToken 5 = .ok (.ifCond .ne 20, 3) := by decide +kernel
theorem dX2_beginsToken_8 : decode cX2_beginsToken 8 = .ok (.aload_n 0, 1) := by decide +kernel
theorem dX2_beginsToken_9 : decode cX2_beginsToken 9 = .ok (.getfield 9, 3) := by decide +kernel
theorem dX2_beginsToken_12 : decode cX2_beginsToken 12 = .ok (.iload_n 1, 1) := by decide +kernel
theorem dX2_beginsToken_13 : decode cX2_beginsToken 13 = .ok (.iaload, 1) := by decide +kernel
theorem dX2_beginsToken_14 : decode cX2_beginsToken 14 = .ok (.bipush 32, 2) := by decide +kernel
theorem dX2_beginsToken_16 : decode cX2_beginsToken 16 = .ok (.if_icmp .eq 7, 3) := by decide +kernel
theorem dX2_beginsToken_19 : decode cX2_beginsToken 19 = .ok (.iconst 1, 1) := by decide +kernel
theorem dX2_beginsToken_20 : decode cX2_beginsToken 20 = .ok (.goto 4, 3) := by decide +kernel
theorem dX2_beginsToken_23 : decode cX2_beginsToken 23 = .ok (.iconst 0, 1) := by decide +kernel
theorem dX2_beginsToken_24 : decode cX2_beginsToken 24 = .ok (.ireturn, 1) := by decide +kernel
theorem dX2_beginsToken_25 : decode cX2_beginsToken 25 = .ok (.aload_n 0, 1) := by decide +kernel
theorem dX2_beginsToken_26 : decode cX2_beginsToken 26 = .ok (.iload_n 1, 1) := by decide +kernel
theorem dX2_beginsToken_27 : decode cX2_beginsToken 27 = .ok (.iconst 1, 1) := by decide +kernel
theorem dX2_beginsToken_28 : decode cX2_beginsToken 28 = .ok (.isub, 1) := by decide +kernel
theorem dX2_beginsToken_29 : decode cX2_beginsToken 29 = .ok (.invokevirtual 33, 3) := by decide +kernel
theorem dX2_beginsToken_32 : decode cX2_beginsToken 32 = .ok (.ifCond .ne 7, 3) := by decide +kernel
theorem dX2_beginsToken_35 : decode cX2_beginsToken 35 = .ok (.iconst 1, 1) := by decide +kernel
theorem dX2_beginsToken_36 : decode cX2_beginsToken 36 = .ok (.goto 4, 3) := by decide +kernel
theorem dX2_beginsToken_39 : decode cX2_beginsToken 39 = .ok (.iconst 0, 1) := by decide +kernel
theorem dX2_beginsToken_40 : decode cX2_beginsToken 40 = .ok (.ireturn, 1) := by decide +kernel
set_option maxRecDepth 20000 in
theorem ggX2_tokenAt_X2_isSmall : GoodIn wsX2_tokenAt wsX2_isSmall := goodIn_r _ [6, 7, 1, 18, 19, 20, 21] (by decide +kernel) (by decide +kernel)
set_option maxRecDepth 20000 in
theorem gX2_tokenAt_X2_isSmall : GoodIn wsX2_tokenAt (wsV RX2 33 RX2 yX2_isSmall wsX2_isSmall) := goodIn_app (goodIn_of _ (by decide +kernel)) ggX2_tokenAt_X2_isSmall
set_option maxRecDepth 20000 in
theorem ggX2_tokenAt_X2_wordAt : GoodIn wsX2_tokenAt wsX2_wordAt := goodIn_r _ [11, 7, 1, 2, 3, 4, 5, 6, 12, 13, 14, 18, 19, 20, 21] (by decide +kernel) (by decide +kernel)
set_option maxRecDepth 20000 in
theorem gX2_tokenAt_X2_wordAt : GoodIn wsX2_tokenAt (wsV RX2 36 RX2 yX2_wordAt wsX2_wordAt) := goodIn_app (goodIn_of _ (by decide +kernel)) ggX2_tokenAt_X2_wordAt
set_option maxRecDepth 20000 in
theorem ggX2_tokenAt_X2_isSign : GoodIn wsX2_tokenAt wsX2_isSign := goodIn_r _ [17] (by decide +kernel) (by decide +kernel)
set_option maxRecDepth 20000 in
theorem gX2_tokenAt_X2_isSign : GoodIn wsX2_tokenAt (va_wsS RX2 39 yX2_isSign wsX2_isSign) := goodIn_app (goodIn_of _ (by decide +kernel)) ggX2_tokenAt_X2_isSign
theorem dX2_tokenAt_0 : decode cX2_tokenAt 0 = .ok (.aload_n 0, 1) := by decide +kernel
theorem dX2_tokenAt_1 : decode cX2_tokenAt 1 = .ok (.iload_n 1, 1) := by decide +kernel
theorem dX2_tokenAt_2 : decode cX2_tokenAt 2 = .ok (.invokevirtual 33, 3) := by decide +kernel
theorem dX2_tokenAt_5 : decode cX2_tokenAt 5 = .ok (.ifCond .eq 9, 3) := by decide +kernel
theorem dX2_tokenAt_8 : decode cX2_tokenAt 8 = .ok (.aload_n 0, 1) := by decide +kernel
theorem dX2_tokenAt_9 : decode cX2_tokenAt 9 = .ok (.iload_n 1, 1) := by decide +kernel
theorem dX2_tokenAt_10 : decode cX2_tokenAt 10 = .ok (.invokevirtual 36, 3) := by decide +kernel
theorem dX2_tokenAt_13 : decode cX2_tokenAt 13 = .ok (.ireturn, 1) := by decide +kernel
theorem dX2_tokenAt_14 : decode cX2_tokenAt 14 = .ok (.aload_n 0, 1) := by decide +kernel
theorem dX2_tokenAt_15 : decode cX2_tokenAt 15 = .ok (.getfield 9, 3) := by decide +kernel
theorem dX2_tokenAt_18 : decode cX2_tokenAt 18 = .ok (.iload_n 1, 1) := by decide +kernel
theorem dX2_tokenAt_19 : decode cX2_tokenAt 19 = .ok (.iaload, 1) := by decide +kernel
theorem dX2_tokenAt_20 : decode cX2_tokenAt 20 = .ok (.invokestatic 39, 3) := by decide +kernel
theorem dX2_tokenAt_23 : decode cX2_tokenAt 23 = .ok (.ifCond .eq 12, 3) := by decide +kernel
theorem dX2_tokenAt_26 : decode cX2_tokenAt 26 = .ok (.aload_n 0, 1) := by decide +kernel
theorem dX2_tokenAt_27 : decode cX2_tokenAt 27 = .ok (.getfield 9, 3) := by decide +kernel
theorem dX2_tokenAt_30 : decode cX2_tokenAt 30 = .ok (.iload_n 1, 1) := by decide +kernel
theorem dX2_tokenAt_31 : decode cX2_tokenAt 31 = .ok (.iaload, 1) := by decide +kernel
theorem dX2_tokenAt_32 : decode cX2_tokenAt 32 = .ok (.goto 6, 3) := by decide +kernel
theorem dX2_tokenAt_35 : decode cX2_tokenAt 35 = .ok (.sipush 259, 3) := by decide +kernel
theorem dX2_tokenAt_38 : decode cX2_tokenAt 38 = .ok (.ireturn, 1) := by decide +kernel
set_option maxRecDepth 20000 in
theorem ggX2_wordAt_X2_isSmall : GoodIn wsX2_wordAt wsX2_isSmall := goodIn_r _ [7, 1, 2, 11, 12, 13, 14] (by decide +kernel) (by decide +kernel)
set_option maxRecDepth 20000 in
theorem gX2_wordAt_X2_isSmall : GoodIn wsX2_wordAt (wsV RX2 33 RX2 yX2_isSmall wsX2_isSmall) := goodIn_app (goodIn_of _ (by decide +kernel)) ggX2_wordAt_X2_isSmall
set_option maxRecDepth 20000 in
theorem ggX2_wordAt_X4_isLetter : GoodIn wsX2_wordAt wsX4_isLetter := goodIn_r _ [10] (by decide +kernel) (by decide +kernel)
set_option maxRecDepth 20000 in
theorem gX2_wordAt_X4_isLetter_n42 : GoodIn wsX2_wordAt (wsX4_isLetter) := ggX2_wordAt_X4_isLetter
theorem dX2_wordAt_0 : decode cX2_wordAt 0 = .ok (.iconst 1, 1) := by decide +kernel
theorem dX2_wordAt_1 : decode cX2_wordAt 1 = .ok (.istore_n 2, 1) := by decide +kernel
theorem dX2_wordAt_2 : decode cX2_wordAt 2 = .ok (.iload_n 1, 1) := by decide +kernel
theorem dX2_wordAt_3 : decode cX2_wordAt 3 = .ok (.iload_n 2, 1) := by decide +kernel
theorem dX2_wordAt_4 : decode cX2_wordAt 4 = .ok (.iadd, 1) := by decide +kernel
theorem dX2_wordAt_5 : decode cX2_wordAt 5 = .ok (.aload_n 0, 1) := by decide +kernel
theorem dX2_wordAt_6 : decode cX2_wordAt 6 = .ok (.getfield 15, 3) := by decide +kernel
theorem dX2_wordAt_9 : decode cX2_wordAt 9 = .ok (.if_icmp .ge 19, 3) := by decide +kernel
theorem dX2_wordAt_12 : decode cX2_wordAt 12 = .ok (.aload_n 0, 1) := by decide +kernel
theorem dX2_wordAt_13 : decode cX2_wordAt 13 = .ok (.iload_n 1, 1) := by decide +kernel
theorem dX2_wordAt_14 : decode cX2_wordAt 14 = .ok (.iload_n 2, 1) := by decide +kernel
theorem dX2_wordAt_15 : decode cX2_wordAt 15 = .ok (.iadd, 1) := by decide +kernel
theorem dX2_wordAt_16 : decode cX2_wordAt 16 = .ok (.invokevirtual 33, 3) := by decide +kernel
theorem dX2_wordAt_19 : decode cX2_wordAt 19 = .ok (.ifCond .eq 9, 3) := by decide +kernel
theorem dX2_wordAt_22 : decode cX2_wordAt 22 = .ok (.iinc 2 1, 3) := by decide +kernel
theorem dX2_wordAt_25 : decode cX2_wordAt 25 = .ok (.goto (-23), 3) := by decide +kernel
theorem dX2_wordAt_28 : decode cX2_wordAt 28 = .ok (.iload_n 2, 1) := by decide +kernel
theorem dX2_wordAt_29 : decode cX2_wordAt 29 = .ok (.iconst 1, 1) := by decide +kernel
theorem dX2_wordAt_30 : decode cX2_wordAt 30 = .ok (.if_icmp .ne 28, 3) := by decide +kernel
theorem dX2_wordAt_33 : decode cX2_wordAt 33 = .ok (.aload_n 0, 1) := by decide +kernel
theorem dX2_wordAt_34 : decode cX2_wordAt 34 = .ok (.getfield 9, 3) := by decide +kernel
theorem dX2_wordAt_37 : decode cX2_wordAt 37 = .ok (.iload_n 1, 1) := by decide +kernel
theorem dX2_wordAt_38 : decode cX2_wordAt 38 = .ok (.iaload, 1) := by decide +kernel
theorem dX2_wordAt_39 : decode cX2_wordAt 39 = .ok (.invokestatic 42, 3) := by decide +kernel
theorem dX2_wordAt_42 : decode cX2_wordAt 42 = .ok (.ifCond .eq 12, 3) := by decide +kernel
theorem dX2_wordAt_45 : decode cX2_wordAt 45 = .ok (.aload_n 0, 1) := by decide +kernel
theorem dX2_wordAt_46 : decode cX2_wordAt 46 = .ok (.getfield 9, 3) := by decide +kernel
theorem dX2_wordAt_49 : decode cX2_wordAt 49 = .ok (.iload_n 1, 1) := by decide +kernel
theorem dX2_wordAt_50 : decode cX2_wordAt 50 = .ok (.iaload, 1) := by decide +kernel
theorem dX2_wordAt_51 : decode cX2_wordAt 51 = .ok (.goto 6, 3) := by decide +kernel
theorem dX2_wordAt_54 : decode cX2_wordAt 54 = .ok (.sipush 259, 3) := by decide +kernel
theorem dX2_wordAt_57 : decode cX2_wordAt 57 = .ok (.ireturn, 1) := by decide +kernel
theorem dX2_wordAt_58 : decode cX2_wordAt 58 = .ok (.iload_n 2, 1) := by decide +kernel
theorem dX2_wordAt_59 : decode cX2_wordAt 59 = .ok (.iconst 3, 1) := by decide +kernel
theorem dX2_wordAt_60 : decode cX2_wordAt 60 = .ok (.if_icmp .ne 16, 3) := by decide +kernel
theorem dX2_wordAt_63 : decode cX2_wordAt 63 = .ok (.aload_n 0, 1) := by decide +kernel
theorem dX2_wordAt_64 : decode cX2_wordAt 64 = .ok (.getfield 9, 3) := by decide +kernel
theorem dX2_wordAt_67 : decode cX2_wordAt 67 = .ok (.iload_n 1, 1) := by decide +kernel
theorem dX2_wordAt_68 : decode cX2_wordAt 68 = .ok (.iconst 1, 1) := by decide +kernel
theorem dX2_wordAt_69 : decode cX2_wordAt 69 = .ok (.iadd, 1) := by decide +kernel
theorem dX2_wordAt_70 : decode cX2_wordAt 70 = .ok (.iaload, 1) := by decide +kernel
theorem dX2_wordAt_71 : decode cX2_wordAt 71 = .ok (.bipush 97, 2) := by decide +kernel
theorem dX2_wordAt_73 : decode cX2_wordAt 73 = .ok (.if_icmp .eq 7, 3) := by decide +kernel
theorem dX2_wordAt_76 : decode cX2_wordAt 76 = .ok (.sipush 259, 3) := by decide +kernel
theorem dX2_wordAt_79 : decode cX2_wordAt 79 = .ok (.ireturn, 1) := by decide +kernel
theorem dX2_wordAt_80 : decode cX2_wordAt 80 = .ok (.aload_n 0, 1) := by decide +kernel
theorem dX2_wordAt_81 : decode cX2_wordAt 81 = .ok (.getfield 9, 3) := by decide +kernel
theorem dX2_wordAt_84 : decode cX2_wordAt 84 = .ok (.iload_n 1, 1) := by decide +kernel
theorem dX2_wordAt_85 : decode cX2_wordAt 85 = .ok (.iaload, 1) := by decide +kernel
theorem dX2_wordAt_86 : decode cX2_wordAt 86 = .ok (.bipush 108, 2) := by decide +kernel
theorem dX2_wordAt_88 : decode cX2_wordAt 88 = .ok (.if_icmp .ne 20, 3) := by decide +kernel
theorem dX2_wordAt_91 : decode cX2_wordAt 91 = .ok (.aload_n 0, 1) := by decide +kernel
theorem dX2_wordAt_92 : decode cX2_wordAt 92 = .ok (.getfield 9, 3) := by decide +kernel
theorem dX2_wordAt_95 : decode cX2_wordAt 95 = .ok (.iload_n 1, 1) := by decide +kernel
theorem dX2_wordAt_96 : decode cX2_wordAt 96 = .ok (.iconst 2, 1) := by decide +kernel
theorem dX2_wordAt_97 : decode cX2_wordAt 97 = .ok (.iadd, 1) := by decide +kernel
theorem dX2_wordAt_98 : decode cX2_wordAt 98 = .ok (.iaload, 1) := by decide +kernel
theorem dX2_wordAt_99 : decode cX2_wordAt 99 = .ok (.bipush 119, 2) := by decide +kernel
theorem dX2_wordAt_101 : decode cX2_wordAt 101 = .ok (.if_icmp .ne 7, 3) := by decide +kernel
theorem dX2_wordAt_104 : decode cX2_wordAt 104 = .ok (.sipush 256, 3) := by decide +kernel
theorem dX2_wordAt_107 : decode cX2_wordAt 107 = .ok (.ireturn, 1) := by decide +kernel
theorem dX2_wordAt_108 : decode cX2_wordAt 108 = .ok (.aload_n 0, 1) := by decide +kernel
theorem dX2_wordAt_109 : decode cX2_wordAt 109 = .ok (.getfield 9, 3) := by decide +kernel
theorem dX2_wordAt_112 : decode cX2_wordAt 112 = .ok (.iload_n 1, 1) := by decide +kernel
theorem dX2_wordAt_113 : decode cX2_wordAt 113 = .ok (.iaload, 1) := by decide +kernel
theorem dX2_wordAt_114 : decode cX2_wordAt 114 = .ok (.bipush 115, 2) := by decide +kernel
theorem dX2_wordAt_116 : decode cX2_wordAt 116 = .ok (.if_icmp .ne 22, 3) := by decide +kernel
theorem dX2_wordAt_119 : decode cX2_wordAt 119 = .ok (.aload_n 0, 1) := by decide +kernel
theorem dX2_wordAt_120 : decode cX2_wordAt 120 = .ok (.getfield 9, 3) := by decide +kernel
theorem dX2_wordAt_123 : decode cX2_wordAt 123 = .ok (.iload_n 1, 1) := by decide +kernel
theorem dX2_wordAt_124 : decode cX2_wordAt 124 = .ok (.iconst 2, 1) := by decide +kernel
theorem dX2_wordAt_125 : decode cX2_wordAt 125 = .ok (.iadd, 1) := by decide +kernel
theorem dX2_wordAt_126 : decode cX2_wordAt 126 = .ok (.iaload, 1) := by decide +kernel
theorem dX2_wordAt_127 : decode cX2_wordAt 127 = .ok (.bipush 121, 2) := by decide +kernel
theorem dX2_wordAt_129 : decode cX2_wordAt 129 = .ok (.if_icmp .ne 9, 3) := by decide +kernel
theorem dX2_wordAt_132 : decode cX2_wordAt 132 = .ok (.sipush 257, 3) := by decide +kernel
theorem dX2_wordAt_135 : decode cX2_wordAt 135 = .ok (.goto 6, 3) := by decide +kernel
theorem dX2_wordAt_138 : decode cX2_wordAt 138 = .ok (.sipush 259, 3) := by decide +kernel
theorem dX2_wordAt_141 : decode cX2_wordAt 141 = .ok (.ireturn, 1) := by decide +kernel
theorem dX2_isSmall_0 : decode cX2_isSmall 0 = .ok (.iload_n 1, 1) := by decide +kernel
theorem dX2_isSmall_1 : decode cX2_isSmall 1 = .ok (.ifCond .lt 37, 3) := by decide +kernel
theorem dX2_isSmall_4 : decode cX2_isSmall 4 = .ok (.iload_n 1, 1) := by decide +kernel
theorem dX2_isSmall_5 : decode cX2_isSmall 5 = .ok (.aload_n 0, 1) := by decide +kernel
theorem dX2_isSmall_6 : decode cX2_isSmall 6 = .ok (.getfield 15, 3) := by decide +kernel
theorem dX2_isSmall_9 : decode cX2_isSmall 9 = .ok (.if_icmp .ge 29, 3) := by decide +kernel
theorem dX2_isSmall_12 : decode cX2_isSmall 12 = .ok (.aload_n 0, 1) := by decide +kernel
theorem dX2_isSmall_13 : decode cX2_isSmall 13 = .ok (.getfield 9, 3) := by decide +kernel
theorem dX2_isSmall_16 : decode cX2_isSmall 16 = .ok (.iload_n 1, 1) := by decide +kernel
theorem dX2_isSmall_17 : decode cX2_isSmall 17 = .ok (.iaload, 1) := by decide +kernel
theorem dX2_isSmall_18 : decode cX2_isSmall 18 = .ok (.bipush 97, 2) := by decide +kernel
theorem dX2_isSmall_20 : decode cX2_isSmall 20 = .ok (.if_icmp .lt 18, 3) := by decide +kernel
theorem dX2_isSmall_23 : decode cX2_isSmall 23 = .ok (.aload_n 0, 1) := by decide +kernel
theorem dX2_isSmall_24 : decode cX2_isSmall 24 = .ok (.getfield 9, 3) := by decide +kernel
theorem dX2_isSmall_27 : decode cX2_isSmall 27 = .ok (.iload_n 1, 1) := by decide +kernel
theorem dX2_isSmall_28 : decode cX2_isSmall 28 = .ok (.iaload, 1) := by decide +kernel
theorem dX2_isSmall_29 : decode cX2_isSmall 29 = .ok (.bipush 122, 2) := by decide +kernel
theorem dX2_isSmall_31 : decode cX2_isSmall 31 = .ok (.if_icmp .gt 7, 3) := by decide +kernel
theorem dX2_isSmall_34 : decode cX2_isSmall 34 = .ok (.iconst 1, 1) := by decide +kernel
theorem dX2_isSmall_35 : decode cX2_isSmall 35 = .ok (.goto 4, 3) := by decide +kernel
theorem dX2_isSmall_38 : decode cX2_isSmall 38 = .ok (.iconst 0, 1) := by decide +kernel
theorem dX2_isSmall_39 : decode cX2_isSmall 39 = .ok (.ireturn, 1) := by decide +kernel
theorem dX2_isSign_0 : decode cX2_isSign 0 = .ok (.iload_n 0, 1) := by decide +kernel
theorem dX2_isSign_1 : decode cX2_isSign 1 = .ok (.bipush 48, 2) := by decide +kernel
theorem dX2_isSign_3 : decode cX2_isSign 3 = .ok (.if_icmp .lt 9, 3) := by decide +kernel
theorem dX2_isSign_6 : decode cX2_isSign 6 = .ok (.iload_n 0, 1) := by decide +kernel
theorem dX2_isSign_7 : decode cX2_isSign 7 = .ok (.bipush 57, 2) := by decide +kernel
theorem dX2_isSign_9 : decode cX2_isSign 9 = .ok (.if_icmp .le 39, 3) := by decide +kernel
theorem dX2_isSign_12 : decode cX2_isSign 12 = .ok (.iload_n 0, 1) := by decide +kernel
theorem dX2_isSign_13 : decode cX2_isSign 13 = .ok (.bipush 59, 2) := by decide +kernel
theorem dX2_isSign_15 : decode cX2_isSign 15 = .ok (.if_icmp .eq 33, 3) := by decide +kernel
theorem dX2_isSign_18 : decode cX2_isSign 18 = .ok (.iload_n 0, 1) := by decide +kernel
theorem dX2_isSign_19 : decode cX2_isSign 19 = .ok (.bipush 124, 2) := by decide +kernel
theorem dX2_isSign_21 : decode cX2_isSign 21 = .ok (.if_icmp .eq 27, 3) := by decide +kernel
theorem dX2_isSign_24 : decode cX2_isSign 24 = .ok (.iload_n 0, 1) := by decide +kernel
theorem dX2_isSign_25 : decode cX2_isSign 25 = .ok (.bipush 38, 2) := by decide +kernel
theorem dX2_isSign_27 : decode cX2_isSign 27 = .ok (.if_icmp .eq 21, 3) := by decide +kernel
theorem dX2_isSign_30 : decode cX2_isSign 30 = .ok (.iload_n 0, 1) := by decide +kernel
theorem dX2_isSign_31 : decode cX2_isSign 31 = .ok (.bipush 33, 2) := by decide +kernel
theorem dX2_isSign_33 : decode cX2_isSign 33 = .ok (.if_icmp .eq 15, 3) := by decide +kernel
theorem dX2_isSign_36 : decode cX2_isSign 36 = .ok (.iload_n 0, 1) := by decide +kernel
theorem dX2_isSign_37 : decode cX2_isSign 37 = .ok (.bipush 40, 2) := by decide +kernel
theorem dX2_isSign_39 : decode cX2_isSign 39 = .ok (.if_icmp .eq 9, 3) := by decide +kernel
theorem dX2_isSign_42 : decode cX2_isSign 42 = .ok (.iload_n 0, 1) := by decide +kernel
theorem dX2_isSign_43 : decode cX2_isSign 43 = .ok (.bipush 41, 2) := by decide +kernel
theorem dX2_isSign_45 : decode cX2_isSign 45 = .ok (.if_icmp .ne 7, 3) := by decide +kernel
theorem dX2_isSign_48 : decode cX2_isSign 48 = .ok (.iconst 1, 1) := by decide +kernel
theorem dX2_isSign_49 : decode cX2_isSign 49 = .ok (.goto 4, 3) := by decide +kernel
theorem dX2_isSign_52 : decode cX2_isSign 52 = .ok (.iconst 0, 1) := by decide +kernel
theorem dX2_isSign_53 : decode cX2_isSign 53 = .ok (.ireturn, 1) := by decide +kernel
theorem dX3_init_0 : decode cX3_init 0 = .ok (.aload_n 0, 1) := by decide +kernel
theorem dX3_init_1 : decode cX3_init 1 = .ok (.invokespecial 3, 3) := by decide +kernel
theorem dX3_init_4 : decode cX3_init 4 = .ok (.aload_n 0, 1) := by decide +kernel
theorem dX3_init_5 : decode cX3_init 5 = .ok (.iconst 0, 1) := by decide +kernel
theorem dX3_init_6 : decode cX3_init 6 = .ok (.putfield 9, 3) := by decide +kernel
theorem dX3_init_9 : decode cX3_init 9 = .ok (.aload_n 0, 1) := by decide +kernel
theorem dX3_init_10 : decode cX3_init 10 = .ok (.ldc2_w 15, 3) := by decide +kernel
theorem dX3_init_13 : decode cX3_init 13 = .ok (.putfield 17, 3) := by decide +kernel
theorem dX3_init_16 : decode cX3_init 16 = .ok (.aload_n 0, 1) := by decide +kernel
theorem dX3_init_17 : decode cX3_init 17 = .ok (.iconst 0, 1) := by decide +kernel
theorem dX3_init_18 : decode cX3_init 18 = .ok (.putfield 21, 3) := by decide +kernel
theorem dX3_init_21 : decode cX3_init 21 = .ok (.aload_n 0, 1) := by decide +kernel
theorem dX3_init_22 : decode cX3_init 22 = .ok (.bipush 7, 2) := by decide +kernel
theorem dX3_init_24 : decode cX3_init 24 = .ok (.newarray .long, 2) := by decide +kernel
theorem dX3_init_26 : decode cX3_init 26 = .ok (.putfield 24, 3) := by decide +kernel
theorem dX3_init_29 : decode cX3_init 29 = .ok (.aload_n 0, 1) := by decide +kernel
theorem dX3_init_30 : decode cX3_init 30 = .ok (.bipush 7, 2) := by decide +kernel
theorem dX3_init_32 : decode cX3_init 32 = .ok (.newarray .int, 2) := by decide +kernel
theorem dX3_init_34 : decode cX3_init 34 = .ok (.putfield 28, 3) := by decide +kernel
theorem dX3_init_37 : decode cX3_init 37 = .ok (.return_, 1) := by decide +kernel
theorem dX3_empty_0 : decode cX3_empty 0 = .ok (.aload_n 0, 1) := by decide +kernel
theorem dX3_empty_1 : decode cX3_empty 1 = .ok (.iconst 0, 1) := by decide +kernel
theorem dX3_empty_2 : decode cX3_empty 2 = .ok (.putfield 9, 3) := by decide +kernel
theorem dX3_empty_5 : decode cX3_empty 5 = .ok (.aload_n 0, 1) := by decide +kernel
theorem dX3_empty_6 : decode cX3_empty 6 = .ok (.ldc2_w 15, 3) := by decide +kernel
theorem dX3_empty_9 : decode cX3_empty 9 = .ok (.putfield 17, 3) := by decide +kernel
theorem dX3_empty_12 : decode cX3_empty 12 = .ok (.aload_n 0, 1) := by decide +kernel
theorem dX3_empty_13 : decode cX3_empty 13 = .ok (.iconst 0, 1) := by decide +kernel
theorem dX3_empty_14 : decode cX3_empty 14 = .ok (.putfield 21, 3) := by decide +kernel
theorem dX3_empty_17 : decode cX3_empty 17 = .ok (.return_, 1) := by decide +kernel
theorem dX3_addLaw_0 : decode cX3_addLaw 0 = .ok (.aload_n 0, 1) := by decide +kernel
theorem dX3_addLaw_1 : decode cX3_addLaw 1 = .ok (.dup, 1) := by decide +kernel
theorem dX3_addLaw_2 : decode cX3_addLaw 2 = .ok (.getfield 9, 3) := by decide +kernel
theorem dX3_addLaw_5 : decode cX3_addLaw 5 = .ok (.iconst 1, 1) := by decide +kernel
theorem dX3_addLaw_6 : decode cX3_addLaw 6 = .ok (.iadd, 1) := by decide +kernel
theorem dX3_addLaw_7 : decode cX3_addLaw 7 = .ok (.putfield 9, 3) := by decide +kernel
theorem dX3_addLaw_10 : decode cX3_addLaw 10 = .ok (.aload_n 0, 1) := by decide +kernel
theorem dX3_addLaw_11 : decode cX3_addLaw 11 = .ok (.dup, 1) := by decide +kernel
theorem dX3_addLaw_12 : decode cX3_addLaw 12 = .ok (.getfield 17, 3) := by decide +kernel
theorem dX3_addLaw_15 : decode cX3_addLaw 15 = .ok (.lload_n 1, 1) := by decide +kernel
theorem dX3_addLaw_16 : decode cX3_addLaw 16 = .ok (.land, 1) := by decide +kernel
theorem dX3_addLaw_17 : decode cX3_addLaw 17 = .ok (.putfield 17, 3) := by decide +kernel
theorem dX3_addLaw_20 : decode cX3_addLaw 20 = .ok (.return_, 1) := by decide +kernel
theorem dX3_addSayer_0 : decode cX3_addSayer 0 = .ok (.aload_n 0, 1) := by decide +kernel
theorem dX3_addSayer_1 : decode cX3_addSayer 1 = .ok (.getfield 21, 3) := by decide +kernel
theorem dX3_addSayer_4 : decode cX3_addSayer 4 = .ok (.bipush 7, 2) := by decide +kernel
theorem dX3_addSayer_6 : decode cX3_addSayer 6 = .ok (.if_icmp .ge 33, 3) := by decide +kernel
theorem dX3_addSayer_9 : decode cX3_addSayer 9 = .ok (.aload_n 0, 1) := by decide +kernel
theorem dX3_addSayer_10 : decode cX3_addSayer 10 = .ok (.getfield 28, 3) := by decide +kernel
theorem dX3_addSayer_13 : decode cX3_addSayer 13 = .ok (.aload_n 0, 1) := by decide +kernel
theorem dX3_addSayer_14 : decode cX3_addSayer 14 = .ok (.getfield 21, 3) := by decide +kernel
theorem dX3_addSayer_17 : decode cX3_addSayer 17 = .ok (.iload_n 1, 1) := by decide +kernel
theorem dX3_addSayer_18 : decode cX3_addSayer 18 = .ok (.iastore, 1) := by decide +kernel
theorem dX3_addSayer_19 : decode cX3_addSayer 19 = .ok (.aload_n 0, 1) := by decide +kernel
theorem dX3_addSayer_20 : decode cX3_addSayer 20 = .ok (.getfield 24, 3) := by decide +kernel
theorem dX3_addSayer_23 : decode cX3_addSayer 23 = .ok (.aload_n 0, 1) := by decide +kernel
theorem dX3_addSayer_24 : decode cX3_addSayer 24 = .ok (.getfield 21, 3) := by decide +kernel
theorem dX3_addSayer_27 : decode cX3_addSayer 27 = .ok (.lload_n 2, 1) := by decide +kernel
theorem dX3_addSayer_28 : decode cX3_addSayer 28 = .ok (.lastore, 1) := by decide +kernel
theorem dX3_addSayer_29 : decode cX3_addSayer 29 = .ok (.aload_n 0, 1) := by decide +kernel
theorem dX3_addSayer_30 : decode cX3_addSayer 30 = .ok (.dup, 1) := by decide +kernel
theorem dX3_addSayer_31 : decode cX3_addSayer 31 = .ok (.getfield 21, 3) := by decide +kernel
theorem dX3_addSayer_34 : decode cX3_addSayer 34 = .ok (.iconst 1, 1) := by decide +kernel
theorem dX3_addSayer_35 : decode cX3_addSayer 35 = .ok (.iadd, 1) := by decide +kernel
theorem dX3_addSayer_36 : decode cX3_addSayer 36 = .ok (.putfield 21, 3) := by decide +kernel
theorem dX3_addSayer_39 : decode cX3_addSayer 39 = .ok (.return_, 1) := by decide +kernel
theorem dX3_allWeights_0 : decode cX3_allWeights 0 = .ok (.iconst 0, 1) := by decide +kernel
theorem dX3_allWeights_1 : decode cX3_allWeights 1 = .ok (.istore_n 1, 1) := by decide +kernel
theorem dX3_allWeights_2 : decode cX3_allWeights 2 = .ok (.iconst 0, 1) := by decide +kernel
theorem dX3_allWeights_3 : decode cX3_allWeights 3 = .ok (.istore_n 2, 1) := by decide +kernel
theorem dX3_allWeights_4 : decode cX3_allWeights 4 = .ok (.iload_n 2, 1) := by decide +kernel
theorem dX3_allWeights_5 : decode cX3_allWeights 5 = .ok (.aload_n 0, 1) := by decide +kernel
theorem dX3_allWeights_6 : decode cX3_allWeights 6 = .ok (.getfield 21, 3) := by decide +kernel
theorem dX3_allWeights_9 : decode cX3_allWeights 9 = .ok (.if_icmp .ge 18, 3) := by decide +kernel
theorem dX3_allWeights_12 : decode cX3_allWeights 12 = .ok (.iload_n 1, 1) := by decide +kernel
theorem dX3_allWeights_13 : decode cX3_allWeights 13 = .ok (.aload_n 0, 1) := by decide +kernel
theorem dX3_allWeights_14 : decode cX3_allWeights 14 = .ok (.getfield 28, 3) := by decide +kernel
theorem dX3_allWeights_17 : decode cX3_allWeights 17 = .ok (.iload_n 2, 1) := by decide +kernel
theorem dX3_allWeights_18 : decode cX3_allWeights 18 = .ok (.iaload, 1) := by decide +kernel
theorem dX3_allWeights_19 : decode cX3_allWeights 19 = .ok (.iadd, 1) := by decide +kernel
theorem dX3_allWeights_20 : decode cX3_allWeights 20 = .ok (.istore_n 1, 1) := by decide +kernel
theorem dX3_allWeights_21 : decode cX3_allWeights 21 = .ok (.iinc 2 1, 3) := by decide +kernel
theorem dX3_allWeights_24 : decode cX3_allWeights 24 = .ok (.goto (-20), 3) := by decide +kernel
theorem dX3_allWeights_27 : decode cX3_allWeights 27 = .ok (.iload_n 1, 1) := by decide +kernel
theorem dX3_allWeights_28 : decode cX3_allWeights 28 = .ok (.ireturn, 1) := by decide +kernel
theorem dX3_saidByOthers_0 : decode cX3_saidByOthers 0 = .ok (.lconst 0, 1) := by decide +kernel
theorem dX3_saidByOthers_1 : decode cX3_saidByOthers 1 = .ok (.lstore_n 2, 1) := by decide +kernel
theorem dX3_saidByOthers_2 : decode cX3_saidByOthers 2 = .ok (.iconst 0, 1) := by decide +kernel
theorem dX3_saidByOthers_3 : decode cX3_saidByOthers 3 = .ok (.istore 4, 2) := by decide +kernel
theorem dX3_saidByOthers_5 : decode cX3_saidByOthers 5 = .ok (.iload 4, 2) := by decide +kernel
theorem dX3_saidByOthers_7 : decode cX3_saidByOthers 7 = .ok (.aload_n 0, 1) := by decide +kernel
theorem dX3_saidByOthers_8 : decode cX3_saidByOthers 8 = .ok (.getfield 21, 3) := by decide +kernel
theorem dX3_saidByOthers_11 : decode cX3_saidByOthers 11 = .ok (.if_icmp .ge 25, 3) := by decide +kernel
theorem dX3_saidByOthers_14 : decode cX3_saidByOthers 14 = .ok (.iload 4, 2) := by decide +kernel
theorem dX3_saidByOthers_16 : decode cX3_saidByOthers 16 = .ok (.iload_n 1, 1) := by decide +kernel
theorem dX3_saidByOthers_17 : decode cX3_saidByOthers 17 = .ok (.if_icmp .eq 13, 3) := by decide +kernel
theorem dX3_saidByOthers_20 : decode cX3_saidByOthers 20 = .ok (.lload_n 2, 1) := by decide +kernel
theorem dX3_saidByOthers_21 : decode cX3_saidByOthers 21 = .ok (.aload_n 0, 1) := by decide +kernel
theorem dX3_saidByOthers_22 : decode cX3_saidByOthers 22 = .ok (.getfield 24, 3) := by decide +kernel
theorem dX3_saidByOthers_25 : decode cX3_saidByOthers 25 = .ok (.iload 4, 2) := by decide +kernel
theorem dX3_saidByOthers_27 : decode cX3_saidByOthers 27 = .ok (.laload, 1) := by decide +kernel
theorem dX3_saidByOthers_28 : decode cX3_saidByOthers 28 = .ok (.lor, 1) := by decide +kernel
theorem dX3_saidByOthers_29 : decode cX3_saidByOthers 29 = .ok (.lstore_n 2, 1) := by decide +kernel
theorem dX3_saidByOthers_30 : decode cX3_saidByOthers 30 = .ok (.iinc 4 1, 3) := by decide +kernel
theorem dX3_saidByOthers_33 : decode cX3_saidByOthers 33 = .ok (.goto (-28), 3) := by decide +kernel
theorem dX3_saidByOthers_36 : decode cX3_saidByOthers 36 = .ok (.lload_n 2, 1) := by decide +kernel
theorem dX3_saidByOthers_37 : decode cX3_saidByOthers 37 = .ok (.lreturn, 1) := by decide +kernel
set_option maxRecDepth 20000 in
theorem ggX4_init_X2_init : GoodIn wsX4_init wsX2_init := goodIn_r _ [32, 33, 2, 3, 34, 35, 36, 37, 38, 75, 76, 77, 78] (by decide +kernel) (by decide +kernel)
set_option maxRecDepth 20000 in
theorem gX4_init_X2_init : GoodIn wsX4_init (wsX2_init) := ggX4_init_X2_init
set_option maxRecDepth 20000 in
theorem ggX4_init_X1_init : GoodIn wsX4_init wsX1_init := goodIn_r _ [41, 42, 2, 3, 43, 44, 45, 46, 90, 91, 92, 93] (by decide +kernel) (by decide +kernel)
set_option maxRecDepth 20000 in
theorem gX4_init_X1_init : GoodIn wsX4_init (wsX1_init) := ggX4_init_X1_init
set_option maxRecDepth 20000 in
theorem ggX4_init_X3_init : GoodIn wsX4_init wsX3_init := goodIn_r _ [49, 50, 2, 3, 51, 52, 53, 54, 24, 55, 34, 56, 94, 95, 96, 97, 98] (by decide +kernel) (by decide +kernel)
set_option maxRecDepth 20000 in
theorem gX4_init_X3_init : GoodIn wsX4_init (wsX3_init) := ggX4_init_X3_init
set_option maxRecDepth 20000 in
theorem ggX4_init_X0_init : GoodIn wsX4_init wsX0_init := goodIn_r _ [59, 60, 2, 3, 34, 61, 62, 63, 64, 65, 66, 67, 68, 69, 70, 71, 72, 73, 74, 99, 100, 101] (by decide +kernel) (by decide +kernel)
set_option maxRecDepth 20000 in
theorem gX4_init_X0_init : GoodIn wsX4_init (wsX0_init) := ggX4_init_X0_init
theorem dX4_init_0 : decode cX4_init 0 = .ok (.aload_n 0, 1) := by decide +kernel
theorem dX4_init_1 : decode cX4_init 1 = .ok (.invokespecial 3, 3) := by decide +kernel
theorem dX4_init_4 : decode cX4_init 4 = .ok (.aload_n 0, 1) := by decide +kernel
theorem dX4_init_5 : decode cX4_init 5 = .ok (.new 9, 3) := by decide +kernel
theorem dX4_init_8 : decode cX4_init 8 = .ok (.dup, 1) := by decide +kernel
theorem dX4_init_9 : decode cX4_init 9 = .ok (.invokespecial 11, 3) := by decide +kernel
theorem dX4_init_12 : decode cX4_init 12 = .ok (.putfield 12, 3) := by decide +kernel
theorem dX4_init_15 : decode cX4_init 15 = .ok (.aload_n 0, 1) := by decide +kernel
theorem dX4_init_16 : decode cX4_init 16 = .ok (.new 16, 3) := by decide +kernel
theorem dX4_init_19 : decode cX4_init 19 = .ok (.dup, 1) := by decide +kernel
theorem dX4_init_20 : decode cX4_init 20 = .ok (.aload_n 0, 1) := by decide +kernel
theorem dX4_init_21 : decode cX4_init 21 = .ok (.getfield 12, 3) := by decide +kernel
theorem dX4_init_24 : decode cX4_init 24 = .ok (.invokespecial 18, 3) := by decide +kernel
theorem dX4_init_27 : decode cX4_init 27 = .ok (.putfield 21, 3) := by decide +kernel
theorem dX4_init_30 : decode cX4_init 30 = .ok (.aload_n 0, 1) := by decide +kernel
theorem dX4_init_31 : decode cX4_init 31 = .ok (.new 25, 3) := by decide +kernel
theorem dX4_init_34 : decode cX4_init 34 = .ok (.dup, 1) := by decide +kernel
theorem dX4_init_35 : decode cX4_init 35 = .ok (.invokespecial 27, 3) := by decide +kernel
theorem dX4_init_38 : decode cX4_init 38 = .ok (.putfield 28, 3) := by decide +kernel
theorem dX4_init_41 : decode cX4_init 41 = .ok (.aload_n 0, 1) := by decide +kernel
theorem dX4_init_42 : decode cX4_init 42 = .ok (.new 25, 3) := by decide +kernel
theorem dX4_init_45 : decode cX4_init 45 = .ok (.dup, 1) := by decide +kernel
theorem dX4_init_46 : decode cX4_init 46 = .ok (.invokespecial 27, 3) := by decide +kernel
theorem dX4_init_49 : decode cX4_init 49 = .ok (.putfield 32, 3) := by decide +kernel
theorem dX4_init_52 : decode cX4_init 52 = .ok (.aload_n 0, 1) := by decide +kernel
theorem dX4_init_53 : decode cX4_init 53 = .ok (.ldc2_w 35, 3) := by decide +kernel
theorem dX4_init_56 : decode cX4_init 56 = .ok (.putfield 37, 3) := by decide +kernel
theorem dX4_init_59 : decode cX4_init 59 = .ok (.aload_n 0, 1) := by decide +kernel
theorem dX4_init_60 : decode cX4_init 60 = .ok (.new 41, 3) := by decide +kernel
theorem dX4_init_63 : decode cX4_init 63 = .ok (.dup, 1) := by decide +kernel
theorem dX4_init_64 : decode cX4_init 64 = .ok (.invokespecial 43, 3) := by decide +kernel
theorem dX4_init_67 : decode cX4_init 67 = .ok (.putfield 44, 3) := by decide +kernel
theorem dX4_init_70 : decode cX4_init 70 = .ok (.aload_n 0, 1) := by decide +kernel
theorem dX4_init_71 : decode cX4_init 71 = .ok (.bipush 7, 2) := by decide +kernel
theorem dX4_init_73 : decode cX4_init 73 = .ok (.bipush 64, 2) := by decide +kernel
theorem dX4_init_75 : decode cX4_init 75 = .ok (.multianewarray 48 2, 4) := by decide +kernel
theorem dX4_init_79 : decode cX4_init 79 = .ok (.putfield 50, 3) := by decide +kernel
theorem dX4_init_82 : decode cX4_init 82 = .ok (.aload_n 0, 1) := by decide +kernel
theorem dX4_init_83 : decode cX4_init 83 = .ok (.sipush 128, 3) := by decide +kernel
theorem dX4_init_86 : decode cX4_init 86 = .ok (.newarray .long, 2) := by decide +kernel
theorem dX4_init_88 : decode cX4_init 88 = .ok (.putfield 53, 3) := by decide +kernel
theorem dX4_init_91 : decode cX4_init 91 = .ok (.aload_n 0, 1) := by decide +kernel
theorem dX4_init_92 : decode cX4_init 92 = .ok (.getfield 53, 3) := by decide +kernel
theorem dX4_init_95 : decode cX4_init 95 = .ok (.iconst 0, 1) := by decide +kernel
theorem dX4_init_96 : decode cX4_init 96 = .ok (.ldc2_w 35, 3) := by decide +kernel
theorem dX4_init_99 : decode cX4_init 99 = .ok (.lastore, 1) := by decide +kernel
theorem dX4_init_100 : decode cX4_init 100 = .ok (.aload_n 0, 1) := by decide +kernel
theorem dX4_init_101 : decode cX4_init 101 = .ok (.bipush 64, 2) := by decide +kernel
theorem dX4_init_103 : decode cX4_init 103 = .ok (.newarray .long, 2) := by decide +kernel
theorem dX4_init_105 : decode cX4_init 105 = .ok (.putfield 57, 3) := by decide +kernel
theorem dX4_init_108 : decode cX4_init 108 = .ok (.aload_n 0, 1) := by decide +kernel
theorem dX4_init_109 : decode cX4_init 109 = .ok (.bipush 64, 2) := by decide +kernel
theorem dX4_init_111 : decode cX4_init 111 = .ok (.newarray .long, 2) := by decide +kernel
theorem dX4_init_113 : decode cX4_init 113 = .ok (.putfield 60, 3) := by decide +kernel
theorem dX4_init_116 : decode cX4_init 116 = .ok (.aload_n 0, 1) := by decide +kernel
theorem dX4_init_117 : decode cX4_init 117 = .ok (.lconst 0, 1) := by decide +kernel
theorem dX4_init_118 : decode cX4_init 118 = .ok (.putfield 63, 3) := by decide +kernel
theorem dX4_init_121 : decode cX4_init 121 = .ok (.return_, 1) := by decide +kernel
set_option maxRecDepth 20000 in
theorem ggX4_type_X2_append : GoodIn wsX4_type wsX2_append := goodIn_r _ [6, 7, 8, 20, 21, 22, 23] (by decide +kernel) (by decide +kernel)
set_option maxRecDepth 20000 in
theorem gX4_type_X2_append : GoodIn wsX4_type (wsV RX4 70 RX2 yX2_append wsX2_append) := goodIn_app (goodIn_of _ (by decide +kernel)) ggX4_type_X2_append
theorem dX4_type_0 : decode cX4_type 0 = .ok (.iload_n 3, 1) := by decide +kernel
theorem dX4_type_1 : decode cX4_type 1 = .ok (.iconst 1, 1) := by decide +kernel
theorem dX4_type_2 : decode cX4_type 2 = .ok (.if_icmp .lt 9, 3) := by decide +kernel
theorem dX4_type_5 : decode cX4_type 5 = .ok (.iload_n 3, 1) := by decide +kernel
theorem dX4_type_6 : decode cX4_type 6 = .ok (.bipush 8, 2) := by decide +kernel
theorem dX4_type_8 : decode cX4_type 8 = .ok (.if_icmp .le 5, 3) := by decide +kernel
theorem dX4_type_11 : decode cX4_type 11 = .ok (.iconst (-1), 1) := by decide +kernel
theorem dX4_type_12 : decode cX4_type 12 = .ok (.ireturn, 1) := by decide +kernel
theorem dX4_type_13 : decode cX4_type 13 = .ok (.aload_n 0, 1) := by decide +kernel
theorem dX4_type_14 : decode cX4_type 14 = .ok (.getfield 12, 3) := by decide +kernel
theorem dX4_type_17 : decode cX4_type 17 = .ok (.getfield 66, 3) := by decide +kernel
theorem dX4_type_20 : decode cX4_type 20 = .ok (.iload_n 3, 1) := by decide +kernel
theorem dX4_type_21 : decode cX4_type 21 = .ok (.iadd, 1) := by decide +kernel
theorem dX4_type_22 : decode cX4_type 22 = .ok (.sipush 300, 3) := by decide +kernel
theorem dX4_type_25 : decode cX4_type 25 = .ok (.if_icmp .le 6, 3) := by decide +kernel
theorem dX4_type_28 : decode cX4_type 28 = .ok (.bipush (-3), 2) := by decide +kernel
theorem dX4_type_30 : decode cX4_type 30 = .ok (.ireturn, 1) := by decide +kernel
theorem dX4_type_31 : decode cX4_type 31 = .ok (.iload_n 3, 1) := by decide +kernel
theorem dX4_type_32 : decode cX4_type 32 = .ok (.iconst 1, 1) := by decide +kernel
theorem dX4_type_33 : decode cX4_type 33 = .ok (.isub, 1) := by decide +kernel
theorem dX4_type_34 : decode cX4_type 34 = .ok (.istore 4, 2) := by decide +kernel
theorem dX4_type_36 : decode cX4_type 36 = .ok (.iload 4, 2) := by decide +kernel
theorem dX4_type_38 : decode cX4_type 38 = .ok (.ifCond .lt 28, 3) := by decide +kernel
theorem dX4_type_41 : decode cX4_type 41 = .ok (.aload_n 0, 1) := by decide +kernel
theorem dX4_type_42 : decode cX4_type 42 = .ok (.getfield 12, 3) := by decide +kernel
theorem dX4_type_45 : decode cX4_type 45 = .ok (.lload_n 1, 1) := by decide +kernel
theorem dX4_type_46 : decode cX4_type 46 = .ok (.bipush 8, 2) := by decide +kernel
theorem dX4_type_48 : decode cX4_type 48 = .ok (.iload 4, 2) := by decide +kernel
theorem dX4_type_50 : decode cX4_type 50 = .ok (.imul, 1) := by decide +kernel
theorem dX4_type_51 : decode cX4_type 51 = .ok (.lushr, 1) := by decide +kernel
theorem dX4_type_52 : decode cX4_type 52 = .ok (.l2i, 1) := by decide +kernel
theorem dX4_type_53 : decode cX4_type 53 = .ok (.sipush 255, 3) := by decide +kernel
theorem dX4_type_56 : decode cX4_type 56 = .ok (.iand, 1) := by decide +kernel
theorem dX4_type_57 : decode cX4_type 57 = .ok (.invokevirtual 70, 3) := by decide +kernel
theorem dX4_type_60 : decode cX4_type 60 = .ok (.iinc 4 (-1), 3) := by decide +kernel
theorem dX4_type_63 : decode cX4_type 63 = .ok (.goto (-27), 3) := by decide +kernel
theorem dX4_type_66 : decode cX4_type 66 = .ok (.aload_n 0, 1) := by decide +kernel
theorem dX4_type_67 : decode cX4_type 67 = .ok (.getfield 12, 3) := by decide +kernel
theorem dX4_type_70 : decode cX4_type 70 = .ok (.getfield 66, 3) := by decide +kernel
theorem dX4_type_73 : decode cX4_type 73 = .ok (.ireturn, 1) := by decide +kernel
theorem dX4_clear_0 : decode cX4_clear 0 = .ok (.aload_n 0, 1) := by decide +kernel
theorem dX4_clear_1 : decode cX4_clear 1 = .ok (.getfield 12, 3) := by decide +kernel
theorem dX4_clear_4 : decode cX4_clear 4 = .ok (.getfield 66, 3) := by decide +kernel
theorem dX4_clear_7 : decode cX4_clear 7 = .ok (.istore_n 1, 1) := by decide +kernel
theorem dX4_clear_8 : decode cX4_clear 8 = .ok (.aload_n 0, 1) := by decide +kernel
theorem dX4_clear_9 : decode cX4_clear 9 = .ok (.getfield 12, 3) := by decide +kernel
theorem dX4_clear_12 : decode cX4_clear 12 = .ok (.iconst 0, 1) := by decide +kernel
theorem dX4_clear_13 : decode cX4_clear 13 = .ok (.putfield 66, 3) := by decide +kernel
theorem dX4_clear_16 : decode cX4_clear 16 = .ok (.iload_n 1, 1) := by decide +kernel
theorem dX4_clear_17 : decode cX4_clear 17 = .ok (.ireturn, 1) := by decide +kernel
set_option maxRecDepth 20000 in
theorem ggX4_tell_X1_readItems : GoodIn wsX4_tell wsX1_readItems := goodIn_r _ [9, 10, 11, 12, 13, 14, 15, 16, 17, 18, 19, 20, 21, 22, 8, 23, 24, 25, 26, 27, 28, 29, 30, 31, 32, 33, 34, 35, 36, 37, 38, 39, 40, 41, 42, 43, 44, 45, 46, 47, 48, 49, 50, 51, 52, 53, 54, 55, 56, 57, 58, 59, 60, 61, 62, 63, 64, 65, 66, 67, 68, 69, 70, 71, 72, 73, 74, 75, 76, 77, 78, 79, 80, 81, 82, 83, 84, 85, 86, 87, 88, 89, 90, 91, 92, 93, 94, 95, 96, 97, 98, 99, 100, 101, 102, 103, 104, 105, 106, 107, 167, 168, 169, 170, 175, 176, 177, 178, 179, 171, 172, 173, 174] (by decide +kernel) (by decide +kernel)
set_option maxRecDepth 20000 in
theorem gX4_tell_X1_readItems : GoodIn wsX4_tell (wsV RX4 74 RX1 yX1_readItems wsX1_readItems) := goodIn_app (goodIn_of _ (by decide +kernel)) ggX4_tell_X1_readItems
set_option maxRecDepth 20000 in
theorem ggX4_tell_X1_isFaulty : GoodIn wsX4_tell wsX1_isFaulty := goodIn_r _ [61, 26, 167, 168, 169, 170] (by decide +kernel) (by decide +kernel)
set_option maxRecDepth 20000 in
theorem gX4_tell_X1_isFaulty : GoodIn wsX4_tell (wsV RX4 78 RX1 yX1_isFaulty wsX1_isFaulty) := goodIn_app (goodIn_of _ (by decide +kernel)) ggX4_tell_X1_isFaulty
set_option maxRecDepth 20000 in
theorem ggX4_tell_X4_findCommon : GoodIn wsX4_tell wsX4_findCommon := goodIn_r _ [112, 113, 3, 114, 115, 116, 53, 117, 118, 119, 120, 121, 122, 156, 157, 158, 159, 160, 161, 162, 163, 164, 165, 166, 175, 176, 177, 178, 179] (by decide +kernel) (by decide +kernel)
set_option maxRecDepth 20000 in
theorem gX4_tell_X4_findCommon : GoodIn wsX4_tell (wsV RX4 85 RX4 yX4_findCommon wsX4_findCommon) := goodIn_app (goodIn_of _ (by decide +kernel)) ggX4_tell_X4_findCommon
set_option maxRecDepth 20000 in
theorem ggX4_tell_X4_findFars : GoodIn wsX4_tell wsX4_findFars := goodIn_r _ [126, 127, 3, 128, 129, 130, 131, 132, 133, 134, 135, 136, 137, 119, 120, 121, 122, 138, 139, 140, 141, 142, 143, 144, 145, 146, 147, 53, 148, 149, 150, 151, 152, 153, 154, 155, 156, 157, 158, 159, 160, 161, 162, 163, 164, 165, 166, 175, 176, 177, 178, 179, 180, 181, 182] (by decide +kernel) (by decide +kernel)
set_option maxRecDepth 20000 in
theorem gX4_tell_X4_findFars : GoodIn wsX4_tell (wsV RX4 88 RX4 yX4_findFars wsX4_findFars) := goodIn_app (goodIn_of _ (by decide +kernel)) ggX4_tell_X4_findFars
theorem dX4_tell_0 : decode cX4_tell 0 = .ok (.aload_n 0, 1) := by decide +kernel
theorem dX4_tell_1 : decode cX4_tell 1 = .ok (.getfield 21, 3) := by decide +kernel
theorem dX4_tell_4 : decode cX4_tell 4 = .ok (.aload_n 0, 1) := by decide +kernel
theorem dX4_tell_5 : decode cX4_tell 5 = .ok (.getfield 32, 3) := by decide +kernel
theorem dX4_tell_8 : decode cX4_tell 8 = .ok (.invokevirtual 74, 3) := by decide +kernel
theorem dX4_tell_11 : decode cX4_tell 11 = .ok (.aload_n 0, 1) := by decide +kernel
theorem dX4_tell_12 : decode cX4_tell 12 = .ok (.getfield 21, 3) := by decide +kernel
theorem dX4_tell_15 : decode cX4_tell 15 = .ok (.invokevirtual 78, 3) := by decide +kernel
theorem dX4_tell_18 : decode cX4_tell 18 = .ok (.ifCond .eq 14, 3) := by decide +kernel
theorem dX4_tell_21 : decode cX4_tell 21 = .ok (.bipush (-10), 2) := by decide +kernel
theorem dX4_tell_23 : decode cX4_tell 23 = .ok (.aload_n 0, 1) := by decide +kernel
theorem dX4_tell_24 : decode cX4_tell 24 = .ok (.getfield 21, 3) := by decide +kernel
theorem dX4_tell_27 : decode cX4_tell 27 = .ok (.getfield 82, 3) := by decide +kernel
theorem dX4_tell_30 : decode cX4_tell 30 = .ok (.isub, 1) := by decide +kernel
theorem dX4_tell_31 : decode cX4_tell 31 = .ok (.ireturn, 1) := by decide +kernel
theorem dX4_tell_32 : decode cX4_tell 32 = .ok (.aload_n 0, 1) := by decide +kernel
theorem dX4_tell_33 : decode cX4_tell 33 = .ok (.getfield 28, 3) := by decide +kernel
theorem dX4_tell_36 : decode cX4_tell 36 = .ok (.astore_n 1, 1) := by decide +kernel
theorem dX4_tell_37 : decode cX4_tell 37 = .ok (.aload_n 0, 1) := by decide +kernel
theorem dX4_tell_38 : decode cX4_tell 38 = .ok (.aload_n 0, 1) := by decide +kernel
theorem dX4_tell_39 : decode cX4_tell 39 = .ok (.getfield 32, 3) := by decide +kernel
theorem dX4_tell_42 : decode cX4_tell 42 = .ok (.putfield 28, 3) := by decide +kernel
theorem dX4_tell_45 : decode cX4_tell 45 = .ok (.aload_n 0, 1) := by decide +kernel
theorem dX4_tell_46 : decode cX4_tell 46 = .ok (.aload_n 1, 1) := by decide +kernel
theorem dX4_tell_47 : decode cX4_tell 47 = .ok (.putfield 32, 3) := by decide +kernel
theorem dX4_tell_50 : decode cX4_tell 50 = .ok (.aload_n 0, 1) := by decide +kernel
theorem dX4_tell_51 : decode cX4_tell 51 = .ok (.getfield 12, 3) := by decide +kernel
theorem dX4_tell_54 : decode cX4_tell 54 = .ok (.iconst 0, 1) := by decide +kernel
theorem dX4_tell_55 : decode cX4_tell 55 = .ok (.putfield 66, 3) := by decide +kernel
theorem dX4_tell_58 : decode cX4_tell 58 = .ok (.aload_n 0, 1) := by decide +kernel
theorem dX4_tell_59 : decode cX4_tell 59 = .ok (.invokevirtual 85, 3) := by decide +kernel
theorem dX4_tell_62 : decode cX4_tell 62 = .ok (.aload_n 0, 1) := by decide +kernel
theorem dX4_tell_63 : decode cX4_tell 63 = .ok (.invokevirtual 88, 3) := by decide +kernel
theorem dX4_tell_66 : decode cX4_tell 66 = .ok (.aload_n 0, 1) := by decide +kernel
theorem dX4_tell_67 : decode cX4_tell 67 = .ok (.getfield 28, 3) := by decide +kernel
theorem dX4_tell_70 : decode cX4_tell 70 = .ok (.getfield 91, 3) := by decide +kernel
theorem dX4_tell_73 : decode cX4_tell 73 = .ok (.aload_n 0, 1) := by decide +kernel
theorem dX4_tell_74 : decode cX4_tell 74 = .ok (.getfield 28, 3) := by decide +kernel
theorem dX4_tell_77 : decode cX4_tell 77 = .ok (.getfield 94, 3) := by decide +kernel
theorem dX4_tell_80 : decode cX4_tell 80 = .ok (.iadd, 1) := by decide +kernel
theorem dX4_tell_81 : decode cX4_tell 81 = .ok (.ireturn, 1) := by decide +kernel
set_option maxRecDepth 20000 in
theorem ggX4_question_X1_readQuestion : GoodIn wsX4_question wsX1_readQuestion := goodIn_r _ [8, 9, 10, 11, 7, 12, 13, 14, 15, 16, 17, 18, 19, 20, 21, 22, 23, 24, 25, 26, 27, 28, 29, 30, 31, 32, 33, 34, 35, 36, 37, 38, 39, 40, 41, 42, 43, 44, 45, 46, 47, 48, 49, 50, 51, 52, 53, 54, 55, 56, 57, 58, 59, 60, 61, 62, 63, 64, 65, 66, 67, 68, 69, 70, 71, 72, 73, 74, 75, 76, 77, 78, 79, 92, 93, 94, 95, 96, 97, 98, 99] (by decide +kernel) (by decide +kernel)
set_option maxRecDepth 20000 in
theorem gX4_question_X1_readQuestion : GoodIn wsX4_question (wsV RX4 97 RX1 yX1_readQuestion wsX1_readQuestion) := goodIn_app (goodIn_of _ (by decide +kernel)) ggX4_question_X1_readQuestion
set_option maxRecDepth 20000 in
theorem ggX4_question_X1_isFaulty : GoodIn wsX4_question wsX1_isFaulty := goodIn_r _ [58, 16, 92, 93, 94, 95] (by decide +kernel) (by decide +kernel)
set_option maxRecDepth 20000 in
theorem gX4_question_X1_isFaulty : GoodIn wsX4_question (wsV RX4 78 RX1 yX1_isFaulty wsX1_isFaulty) := goodIn_app (goodIn_of _ (by decide +kernel)) ggX4_question_X1_isFaulty
theorem dX4_question_0 : decode cX4_question 0 = .ok (.aload_n 0, 1) := by decide +kernel
theorem dX4_question_1 : decode cX4_question 1 = .ok (.getfield 21, 3) := by decide +kernel
theorem dX4_question_4 : decode cX4_question 4 = .ok (.invokevirtual 97, 3) := by decide +kernel
theorem dX4_question_7 : decode cX4_question 7 = .ok (.lstore_n 1, 1) := by decide +kernel
theorem dX4_question_8 : decode cX4_question 8 = .ok (.aload_n 0, 1) := by decide +kernel
theorem dX4_question_9 : decode cX4_question 9 = .ok (.getfield 21, 3) := by decide +kernel
theorem dX4_question_12 : decode cX4_question 12 = .ok (.invokevirtual 78, 3) := by decide +kernel
theorem dX4_question_15 : decode cX4_question 15 = .ok (.ifCond .eq 14, 3) := by decide +kernel
theorem dX4_question_18 : decode cX4_question 18 = .ok (.bipush (-10), 2) := by decide +kernel
theorem dX4_question_20 : decode cX4_question 20 = .ok (.aload_n 0, 1) := by decide +kernel
theorem dX4_question_21 : decode cX4_question 21 = .ok (.getfield 21, 3) := by decide +kernel
theorem dX4_question_24 : decode cX4_question 24 = .ok (.getfield 82, 3) := by decide +kernel
theorem dX4_question_27 : decode cX4_question 27 = .ok (.isub, 1) := by decide +kernel
theorem dX4_question_28 : decode cX4_question 28 = .ok (.ireturn, 1) := by decide +kernel
theorem dX4_question_29 : decode cX4_question 29 = .ok (.aload_n 0, 1) := by decide +kernel
theorem dX4_question_30 : decode cX4_question 30 = .ok (.lload_n 1, 1) := by decide +kernel
theorem dX4_question_31 : decode cX4_question 31 = .ok (.putfield 37, 3) := by decide +kernel
theorem dX4_question_34 : decode cX4_question 34 = .ok (.aload_n 0, 1) := by decide +kernel
theorem dX4_question_35 : decode cX4_question 35 = .ok (.getfield 12, 3) := by decide +kernel
theorem dX4_question_38 : decode cX4_question 38 = .ok (.iconst 0, 1) := by decide +kernel
theorem dX4_question_39 : decode cX4_question 39 = .ok (.putfield 66, 3) := by decide +kernel
theorem dX4_question_42 : decode cX4_question 42 = .ok (.iconst 1, 1) := by decide +kernel
theorem dX4_question_43 : decode cX4_question 43 = .ok (.ireturn, 1) := by decide +kernel
set_option maxRecDepth 20000 in
theorem ggX4_worlds_X4_isSayer : GoodIn wsX4_worlds wsX4_isSayer := goodIn_r _ [7, 1, 8, 9, 10, 11, 12, 13, 14, 15, 16, 17, 18, 19, 20, 21, 22, 23] (by decide +kernel) (by decide +kernel)
set_option maxRecDepth 20000 in
theorem gX4_worlds_X4_isSayer : GoodIn wsX4_worlds (wsV RX4 104 RX4 yX4_isSayer wsX4_isSayer) := goodIn_app (goodIn_of _ (by decide +kernel)) ggX4_worlds_X4_isSayer
theorem dX4_worlds_0 : decode cX4_worlds 0 = .ok (.iload_n 1, 1) := by decide +kernel
theorem dX4_worlds_1 : decode cX4_worlds 1 = .ok (.tableswitch 62 0 2 #[27, 35, 57], 27) := by decide +kernel
theorem dX4_worlds_28 : decode cX4_worlds 28 = .ok (.aload_n 0, 1) := by decide +kernel
theorem dX4_worlds_29 : decode cX4_worlds 29 = .ok (.getfield 28, 3) := by decide +kernel
theorem dX4_worlds_32 : decode cX4_worlds 32 = .ok (.getfield 101, 3) := by decide +kernel
theorem dX4_worlds_35 : decode cX4_worlds 35 = .ok (.lreturn, 1) := by decide +kernel
theorem dX4_worlds_36 : decode cX4_worlds 36 = .ok (.aload_n 0, 1) := by decide +kernel
theorem dX4_worlds_37 : decode cX4_worlds 37 = .ok (.iload_n 2, 1) := by decide +kernel
theorem dX4_worlds_38 : decode cX4_worlds 38 = .ok (.invokevirtual 104, 3) := by decide +kernel
theorem dX4_worlds_41 : decode cX4_worlds 41 = .ok (.ifCond .eq 15, 3) := by decide +kernel
theorem dX4_worlds_44 : decode cX4_worlds 44 = .ok (.aload_n 0, 1) := by decide +kernel
theorem dX4_worlds_45 : decode cX4_worlds 45 = .ok (.getfield 28, 3) := by decide +kernel
theorem dX4_worlds_48 : decode cX4_worlds 48 = .ok (.getfield 108, 3) := by decide +kernel
theorem dX4_worlds_51 : decode cX4_worlds 51 = .ok (.iload_n 2, 1) := by decide +kernel
theorem dX4_worlds_52 : decode cX4_worlds 52 = .ok (.laload, 1) := by decide +kernel
theorem dX4_worlds_53 : decode cX4_worlds 53 = .ok (.goto 4, 3) := by decide +kernel
theorem dX4_worlds_56 : decode cX4_worlds 56 = .ok (.lconst 0, 1) := by decide +kernel
theorem dX4_worlds_57 : decode cX4_worlds 57 = .ok (.lreturn, 1) := by decide +kernel
theorem dX4_worlds_58 : decode cX4_worlds 58 = .ok (.aload_n 0, 1) := by decide +kernel
theorem dX4_worlds_59 : decode cX4_worlds 59 = .ok (.getfield 37, 3) := by decide +kernel
theorem dX4_worlds_62 : decode cX4_worlds 62 = .ok (.lreturn, 1) := by decide +kernel
theorem dX4_worlds_63 : decode cX4_worlds 63 = .ok (.lconst 0, 1) := by decide +kernel
theorem dX4_worlds_64 : decode cX4_worlds 64 = .ok (.lreturn, 1) := by decide +kernel
set_option maxRecDepth 20000 in
theorem ggX4_cost_X4_findFars : GoodIn wsX4_cost wsX4_findFars := goodIn_r _ [6, 1, 7, 8, 9, 10, 11, 12, 13, 14, 15, 16, 17, 18, 19, 20, 21, 22, 23, 24, 25, 26, 27, 28, 29, 30, 31, 5, 32, 33, 34, 35, 36, 37, 38, 39, 40, 41, 42, 43, 44, 45, 46, 47, 48, 49, 50, 54, 55, 56, 57, 58, 51, 52, 53] (by decide +kernel) (by decide +kernel)
set_option maxRecDepth 20000 in
theorem gX4_cost_X4_findFars : GoodIn wsX4_cost (wsV RX4 88 RX4 yX4_findFars wsX4_findFars) := goodIn_app (goodIn_of _ (by decide +kernel)) ggX4_cost_X4_findFars
theorem dX4_cost_0 : decode cX4_cost 0 = .ok (.iload_n 1, 1) := by decide +kernel
theorem dX4_cost_1 : decode cX4_cost 1 = .ok (.ifCond .lt 19, 3) := by decide +kernel
theorem dX4_cost_4 : decode cX4_cost 4 = .ok (.iload_n 1, 1) := by decide +kernel
theorem dX4_cost_5 : decode cX4_cost 5 = .ok (.bipush 6, 2) := by decide +kernel
theorem dX4_cost_7 : decode cX4_cost 7 = .ok (.if_icmp .ge 13, 3) := by decide +kernel
theorem dX4_cost_10 : decode cX4_cost 10 = .ok (.iload_n 2, 1) := by decide +kernel
theorem dX4_cost_11 : decode cX4_cost 11 = .ok (.ifCond .lt 9, 3) := by decide +kernel
theorem dX4_cost_14 : decode cX4_cost 14 = .ok (.iload_n 2, 1) := by decide +kernel
theorem dX4_cost_15 : decode cX4_cost 15 = .ok (.bipush 9, 2) := by decide +kernel
theorem dX4_cost_17 : decode cX4_cost 17 = .ok (.if_icmp .le 5, 3) := by decide +kernel
theorem dX4_cost_20 : decode cX4_cost 20 = .ok (.iconst (-1), 1) := by decide +kernel
theorem dX4_cost_21 : decode cX4_cost 21 = .ok (.ireturn, 1) := by decide +kernel
theorem dX4_cost_22 : decode cX4_cost 22 = .ok (.aload_n 0, 1) := by decide +kernel
theorem dX4_cost_23 : decode cX4_cost 23 = .ok (.getfield 44, 3) := by decide +kernel
theorem dX4_cost_26 : decode cX4_cost 26 = .ok (.getfield 111, 3) := by decide +kernel
theorem dX4_cost_29 : decode cX4_cost 29 = .ok (.iload_n 1, 1) := by decide +kernel
theorem dX4_cost_30 : decode cX4_cost 30 = .ok (.iaload, 1) := by decide +kernel
theorem dX4_cost_31 : decode cX4_cost 31 = .ok (.istore_n 3, 1) := by decide +kernel
theorem dX4_cost_32 : decode cX4_cost 32 = .ok (.aload_n 0, 1) := by decide +kernel
theorem dX4_cost_33 : decode cX4_cost 33 = .ok (.getfield 44, 3) := by decide +kernel
theorem dX4_cost_36 : decode cX4_cost 36 = .ok (.getfield 111, 3) := by decide +kernel
theorem dX4_cost_39 : decode cX4_cost 39 = .ok (.iload_n 1, 1) := by decide +kernel
theorem dX4_cost_40 : decode cX4_cost 40 = .ok (.iload_n 2, 1) := by decide +kernel
theorem dX4_cost_41 : decode cX4_cost 41 = .ok (.iastore, 1) := by decide +kernel
theorem dX4_cost_42 : decode cX4_cost 42 = .ok (.aload_n 0, 1) := by decide +kernel
theorem dX4_cost_43 : decode cX4_cost 43 = .ok (.invokevirtual 88, 3) := by decide +kernel
theorem dX4_cost_46 : decode cX4_cost 46 = .ok (.iload_n 3, 1) := by decide +kernel
theorem dX4_cost_47 : decode cX4_cost 47 = .ok (.ireturn, 1) := by decide +kernel
set_option maxRecDepth 20000 in
theorem ggX4_measure_X4_findFars : GoodIn wsX4_measure wsX4_findFars := goodIn_r _ [6, 1, 7, 8, 9, 10, 11, 12, 13, 14, 15, 16, 17, 18, 19, 20, 21, 22, 23, 24, 25, 26, 27, 28, 29, 30, 31, 5, 32, 33, 34, 35, 36, 37, 38, 39, 40, 41, 42, 43, 44, 45, 46, 47, 48, 49, 50, 54, 55, 56, 57, 58, 51, 52, 53] (by decide +kernel) (by decide +kernel)
set_option maxRecDepth 20000 in
theorem gX4_measure_X4_findFars : GoodIn wsX4_measure (wsV RX4 88 RX4 yX4_findFars wsX4_findFars) := goodIn_app (goodIn_of _ (by decide +kernel)) ggX4_measure_X4_findFars
theorem dX4_measure_0 : decode cX4_measure 0 = .ok (.iload_n 1, 1) := by decide +kernel
theorem dX4_measure_1 : decode cX4_measure 1 = .ok (.ifCond .eq 10, 3) := by decide +kernel
theorem dX4_measure_4 : decode cX4_measure 4 = .ok (.iload_n 1, 1) := by decide +kernel
theorem dX4_measure_5 : decode cX4_measure 5 = .ok (.iconst 1, 1) := by decide +kernel
theorem dX4_measure_6 : decode cX4_measure 6 = .ok (.if_icmp .eq 5, 3) := by decide +kernel
theorem dX4_measure_9 : decode cX4_measure 9 = .ok (.iconst (-1), 1) := by decide +kernel
theorem dX4_measure_10 : decode cX4_measure 10 = .ok (.ireturn, 1) := by decide +kernel
theorem dX4_measure_11 : decode cX4_measure 11 = .ok (.aload_n 0, 1) := by decide +kernel
theorem dX4_measure_12 : decode cX4_measure 12 = .ok (.getfield 44, 3) := by decide +kernel
theorem dX4_measure_15 : decode cX4_measure 15 = .ok (.getfield 115, 3) := by decide +kernel
theorem dX4_measure_18 : decode cX4_measure 18 = .ok (.ifCond .eq 7, 3) := by decide +kernel
theorem dX4_measure_21 : decode cX4_measure 21 = .ok (.iconst 1, 1) := by decide +kernel
theorem dX4_measure_22 : decode cX4_measure 22 = .ok (.goto 4, 3) := by decide +kernel
theorem dX4_measure_25 : decode cX4_measure 25 = .ok (.iconst 0, 1) := by decide +kernel
theorem dX4_measure_26 : decode cX4_measure 26 = .ok (.istore_n 2, 1) := by decide +kernel
theorem dX4_measure_27 : decode cX4_measure 27 = .ok (.aload_n 0, 1) := by decide +kernel
theorem dX4_measure_28 : decode cX4_measure 28 = .ok (.getfield 44, 3) := by decide +kernel
theorem dX4_measure_31 : decode cX4_measure 31 = .ok (.iload_n 1, 1) := by decide +kernel
theorem dX4_measure_32 : decode cX4_measure 32 = .ok (.iconst 1, 1) := by decide +kernel
theorem dX4_measure_33 : decode cX4_measure 33 = .ok (.if_icmp .ne 7, 3) := by decide +kernel
theorem dX4_measure_36 : decode cX4_measure 36 = .ok (.iconst 1, 1) := by decide +kernel
theorem dX4_measure_37 : decode cX4_measure 37 = .ok (.goto 4, 3) := by decide +kernel
theorem dX4_measure_40 : decode cX4_measure 40 = .ok (.iconst 0, 1) := by decide +kernel
theorem dX4_measure_41 : decode cX4_measure 41 = .ok (.putfield 115, 3) := by decide +kernel
theorem dX4_measure_44 : decode cX4_measure 44 = .ok (.aload_n 0, 1) := by decide +kernel
theorem dX4_measure_45 : decode cX4_measure 45 = .ok (.invokevirtual 88, 3) := by decide +kernel
theorem dX4_measure_48 : decode cX4_measure 48 = .ok (.iload_n 2, 1) := by decide +kernel
theorem dX4_measure_49 : decode cX4_measure 49 = .ok (.ireturn, 1) := by decide +kernel
set_option maxRecDepth 20000 in
theorem ggX4_apart_X4_isWorld : GoodIn wsX4_apart wsX4_isWorld := goodIn_r _ [5] (by decide +kernel) (by decide +kernel)
set_option maxRecDepth 20000 in
theorem gX4_apart_X4_isWorld : GoodIn wsX4_apart (va_wsS RX4 119 yX4_isWorld wsX4_isWorld) := goodIn_app (goodIn_of _ (by decide +kernel)) ggX4_apart_X4_isWorld
theorem dX4_apart_0 : decode cX4_apart 0 = .ok (.iload_n 1, 1) := by decide +kernel
theorem dX4_apart_1 : decode cX4_apart 1 = .ok (.invokestatic 119, 3) := by decide +kernel
theorem dX4_apart_4 : decode cX4_apart 4 = .ok (.ifCond .eq 10, 3) := by decide +kernel
theorem dX4_apart_7 : decode cX4_apart 7 = .ok (.iload_n 2, 1) := by decide +kernel
theorem dX4_apart_8 : decode cX4_apart 8 = .ok (.invokestatic 119, 3) := by decide +kernel
theorem dX4_apart_11 : decode cX4_apart 11 = .ok (.ifCond .ne 5, 3) := by decide +kernel
theorem dX4_apart_14 : decode cX4_apart 14 = .ok (.iconst (-1), 1) := by decide +kernel
theorem dX4_apart_15 : decode cX4_apart 15 = .ok (.ireturn, 1) := by decide +kernel
theorem dX4_apart_16 : decode cX4_apart 16 = .ok (.aload_n 0, 1) := by decide +kernel
theorem dX4_apart_17 : decode cX4_apart 17 = .ok (.getfield 44, 3) := by decide +kernel
theorem dX4_apart_20 : decode cX4_apart 20 = .ok (.getfield 122, 3) := by decide +kernel
theorem dX4_apart_23 : decode cX4_apart 23 = .ok (.iload_n 1, 1) := by decide +kernel
theorem dX4_apart_24 : decode cX4_apart 24 = .ok (.iload_n 2, 1) := by decide +kernel
theorem dX4_apart_25 : decode cX4_apart 25 = .ok (.ixor, 1) := by decide +kernel
theorem dX4_apart_26 : decode cX4_apart 26 = .ok (.iaload, 1) := by decide +kernel
theorem dX4_apart_27 : decode cX4_apart 27 = .ok (.ireturn, 1) := by decide +kernel
set_option maxRecDepth 20000 in
theorem ggX4_burden_X4_isSayer : GoodIn wsX4_burden wsX4_isSayer := goodIn_r _ [5, 6, 15, 16, 17, 18, 19, 20, 21, 22, 23, 24, 25, 26, 27, 28, 29, 30] (by decide +kernel) (by decide +kernel)
set_option maxRecDepth 20000 in
theorem gX4_burden_X4_isSayer : GoodIn wsX4_burden (wsV RX4 104 RX4 yX4_isSayer wsX4_isSayer) := goodIn_app (goodIn_of _ (by decide +kernel)) ggX4_burden_X4_isSayer
set_option maxRecDepth 20000 in
theorem ggX4_burden_X4_isWorld : GoodIn wsX4_burden wsX4_isWorld := goodIn_r _ [9] (by decide +kernel) (by decide +kernel)
set_option maxRecDepth 20000 in
theorem gX4_burden_X4_isWorld : GoodIn wsX4_burden (va_wsS RX4 119 yX4_isWorld wsX4_isWorld) := goodIn_app (goodIn_of _ (by decide +kernel)) ggX4_burden_X4_isWorld
set_option maxRecDepth 20000 in
theorem ggX4_burden_X4_burdenOf : GoodIn wsX4_burden wsX4_burdenOf := goodIn_r _ [13, 6, 14, 15, 16, 17, 18, 19, 20, 21, 22, 23, 24, 25, 26, 27, 28, 29, 30] (by decide +kernel) (by decide +kernel)
set_option maxRecDepth 20000 in
theorem gX4_burden_X4_burdenOf : GoodIn wsX4_burden (wsV RX4 125 RX4 yX4_burdenOf wsX4_burdenOf) := goodIn_app (goodIn_of _ (by decide +kernel)) ggX4_burden_X4_burdenOf
theorem dX4_burden_0 : decode cX4_burden 0 = .ok (.aload_n 0, 1) := by decide +kernel
theorem dX4_burden_1 : decode cX4_burden 1 = .ok (.iload_n 1, 1) := by decide +kernel
theorem dX4_burden_2 : decode cX4_burden 2 = .ok (.invokevirtual 104, 3) := by decide +kernel
theorem dX4_burden_5 : decode cX4_burden 5 = .ok (.ifCond .eq 10, 3) := by decide +kernel
theorem dX4_burden_8 : decode cX4_burden 8 = .ok (.iload_n 2, 1) := by decide +kernel
theorem dX4_burden_9 : decode cX4_burden 9 = .ok (.invokestatic 119, 3) := by decide +kernel
theorem dX4_burden_12 : decode cX4_burden 12 = .ok (.ifCond .ne 5, 3) := by decide +kernel
theorem dX4_burden_15 : decode cX4_burden 15 = .ok (.iconst (-1), 1) := by decide +kernel
theorem dX4_burden_16 : decode cX4_burden 16 = .ok (.ireturn, 1) := by decide +kernel
theorem dX4_burden_17 : decode cX4_burden 17 = .ok (.aload_n 0, 1) := by decide +kernel
theorem dX4_burden_18 : decode cX4_burden 18 = .ok (.iload_n 1, 1) := by decide +kernel
end
section
theorem dX4_burden_19 : decode cX4_burden 19 = .ok (.iload_n 2, 1) := by decide +kernel
theorem dX4_burden_20 : decode cX4_burden 20 = .ok (.invokevirtual 125, 3) := by decide +kernel
theorem dX4_burden_23 : decode cX4_burden 23 = .ok (.l2i, 1) := by decide +kernel
theorem dX4_burden_24 : decode cX4_burden 24 = .ok (.ireturn, 1) := by decide +kernel
set_option maxRecDepth 20000 in
theorem ggX4_merged_X4_isWay : GoodIn wsX4_merged wsX4_isWay := goodIn_r _ [4] (by decide +kernel) (by decide +kernel)
set_option maxRecDepth 20000 in
theorem gX4_merged_X4_isWay : GoodIn wsX4_merged (va_wsS RX4 129 yX4_isWay wsX4_isWay) := goodIn_app (goodIn_of _ (by decide +kernel)) ggX4_merged_X4_isWay
set_option maxRecDepth 20000 in
theorem ggX4_merged_X4_mergedBy : GoodIn wsX4_merged wsX4_mergedBy := goodIn_r _ [8, 9, 10, 11, 12, 13, 3, 14, 15, 16, 17, 18, 19, 20, 21, 22, 23, 24, 25, 26, 27, 28, 29, 30, 31, 32, 33, 34, 35, 36, 37, 38, 39, 40, 41, 42, 43, 44, 45, 46, 47, 48, 49, 50, 51, 52, 53] (by decide +kernel) (by decide +kernel)
set_option maxRecDepth 20000 in
theorem gX4_merged_X4_mergedBy : GoodIn wsX4_merged (wsV RX4 132 RX4 yX4_mergedBy wsX4_mergedBy) := goodIn_app (goodIn_of _ (by decide +kernel)) ggX4_merged_X4_mergedBy
theorem dX4_merged_0 : decode cX4_merged 0 = .ok (.iload_n 1, 1) := by decide +kernel
theorem dX4_merged_1 : decode cX4_merged 1 = .ok (.invokestatic 129, 3) := by decide +kernel
theorem dX4_merged_4 : decode cX4_merged 4 = .ok (.ifCond .eq 11, 3) := by decide +kernel
theorem dX4_merged_7 : decode cX4_merged 7 = .ok (.aload_n 0, 1) := by decide +kernel
theorem dX4_merged_8 : decode cX4_merged 8 = .ok (.iload_n 1, 1) := by decide +kernel
theorem dX4_merged_9 : decode cX4_merged 9 = .ok (.invokevirtual 132, 3) := by decide +kernel
theorem dX4_merged_12 : decode cX4_merged 12 = .ok (.goto 4, 3) := by decide +kernel
theorem dX4_merged_15 : decode cX4_merged 15 = .ok (.lconst 0, 1) := by decide +kernel
theorem dX4_merged_16 : decode cX4_merged 16 = .ok (.lreturn, 1) := by decide +kernel
set_option maxRecDepth 20000 in
theorem ggX4_value_X4_isWorld : GoodIn wsX4_value wsX4_isWorld := goodIn_r _ [4] (by decide +kernel) (by decide +kernel)
set_option maxRecDepth 20000 in
theorem gX4_value_X4_isWorld : GoodIn wsX4_value (va_wsS RX4 119 yX4_isWorld wsX4_isWorld) := goodIn_app (goodIn_of _ (by decide +kernel)) ggX4_value_X4_isWorld
set_option maxRecDepth 20000 in
theorem ggX4_value_X4_weighed : GoodIn wsX4_value wsX4_weighed := goodIn_r _ [8, 9, 10, 11, 12, 3, 13, 14, 15, 16, 17, 18, 19, 20, 21, 22, 23, 24, 25, 26, 27, 28, 29, 30, 31, 32, 33, 34, 35, 36, 37, 38, 39, 40, 41] (by decide +kernel) (by decide +kernel)
set_option maxRecDepth 20000 in
theorem gX4_value_X4_weighed : GoodIn wsX4_value (wsV RX4 136 RX4 yX4_weighed wsX4_weighed) := goodIn_app (goodIn_of _ (by decide +kernel)) ggX4_value_X4_weighed
theorem dX4_value_0 : decode cX4_value 0 = .ok (.iload_n 1, 1) := by decide +kernel
theorem dX4_value_1 : decode cX4_value 1 = .ok (.ifCond .eq 8, 3) := by decide +kernel
theorem dX4_value_4 : decode cX4_value 4 = .ok (.iload_n 1, 1) := by decide +kernel
theorem dX4_value_5 : decode cX4_value 5 = .ok (.iconst 1, 1) := by decide +kernel
theorem dX4_value_6 : decode cX4_value 6 = .ok (.if_icmp .ne 10, 3) := by decide +kernel
theorem dX4_value_9 : decode cX4_value 9 = .ok (.iload_n 2, 1) := by decide +kernel
theorem dX4_value_10 : decode cX4_value 10 = .ok (.invokestatic 119, 3) := by decide +kernel
theorem dX4_value_13 : decode cX4_value 13 = .ok (.ifCond .ne 5, 3) := by decide +kernel
theorem dX4_value_16 : decode cX4_value 16 = .ok (.iconst (-1), 1) := by decide +kernel
theorem dX4_value_17 : decode cX4_value 17 = .ok (.ireturn, 1) := by decide +kernel
theorem dX4_value_18 : decode cX4_value 18 = .ok (.aload_n 0, 1) := by decide +kernel
theorem dX4_value_19 : decode cX4_value 19 = .ok (.iload_n 1, 1) := by decide +kernel
theorem dX4_value_20 : decode cX4_value 20 = .ok (.iload_n 2, 1) := by decide +kernel
theorem dX4_value_21 : decode cX4_value 21 = .ok (.iconst (-1), 1) := by decide +kernel
theorem dX4_value_22 : decode cX4_value 22 = .ok (.invokevirtual 136, 3) := by decide +kernel
theorem dX4_value_25 : decode cX4_value 25 = .ok (.l2i, 1) := by decide +kernel
theorem dX4_value_26 : decode cX4_value 26 = .ok (.ireturn, 1) := by decide +kernel
set_option maxRecDepth 20000 in
theorem ggX4_held_X4_isWay : GoodIn wsX4_held wsX4_isWay := goodIn_r _ [6] (by decide +kernel) (by decide +kernel)
set_option maxRecDepth 20000 in
theorem gX4_held_X4_isWay : GoodIn wsX4_held (va_wsS RX4 129 yX4_isWay wsX4_isWay) := goodIn_app (goodIn_of _ (by decide +kernel)) ggX4_held_X4_isWay
set_option maxRecDepth 20000 in
theorem ggX4_held_X4_mergedBy : GoodIn wsX4_held wsX4_mergedBy := goodIn_r _ [10, 11, 12, 13, 14, 15, 5, 16, 17, 18, 19, 20, 21, 22, 23, 24, 25, 26, 27, 28, 29, 30, 31, 32, 33, 34, 35, 36, 37, 38, 39, 40, 41, 42, 43, 44, 45, 46, 47, 48, 49, 50, 51, 52, 53, 54, 55] (by decide +kernel) (by decide +kernel)
set_option maxRecDepth 20000 in
theorem gX4_held_X4_mergedBy : GoodIn wsX4_held (wsV RX4 132 RX4 yX4_mergedBy wsX4_mergedBy) := goodIn_app (goodIn_of _ (by decide +kernel)) ggX4_held_X4_mergedBy
theorem dX4_held_0 : decode cX4_held 0 = .ok (.iload_n 1, 1) := by decide +kernel
theorem dX4_held_1 : decode cX4_held 1 = .ok (.invokestatic 129, 3) := by decide +kernel
theorem dX4_held_4 : decode cX4_held 4 = .ok (.ifCond .ne 5, 3) := by decide +kernel
theorem dX4_held_7 : decode cX4_held 7 = .ok (.iconst (-1), 1) := by decide +kernel
theorem dX4_held_8 : decode cX4_held 8 = .ok (.ireturn, 1) := by decide +kernel
theorem dX4_held_9 : decode cX4_held 9 = .ok (.aload_n 0, 1) := by decide +kernel
theorem dX4_held_10 : decode cX4_held 10 = .ok (.iload_n 1, 1) := by decide +kernel
theorem dX4_held_11 : decode cX4_held 11 = .ok (.invokevirtual 132, 3) := by decide +kernel
theorem dX4_held_14 : decode cX4_held 14 = .ok (.aload_n 0, 1) := by decide +kernel
theorem dX4_held_15 : decode cX4_held 15 = .ok (.getfield 37, 3) := by decide +kernel
theorem dX4_held_18 : decode cX4_held 18 = .ok (.ldc2_w 35, 3) := by decide +kernel
theorem dX4_held_21 : decode cX4_held 21 = .ok (.lxor, 1) := by decide +kernel
theorem dX4_held_22 : decode cX4_held 22 = .ok (.land, 1) := by decide +kernel
theorem dX4_held_23 : decode cX4_held 23 = .ok (.lconst 0, 1) := by decide +kernel
theorem dX4_held_24 : decode cX4_held 24 = .ok (.lcmp, 1) := by decide +kernel
theorem dX4_held_25 : decode cX4_held 25 = .ok (.ifCond .ne 7, 3) := by decide +kernel
theorem dX4_held_28 : decode cX4_held 28 = .ok (.iconst 1, 1) := by decide +kernel
theorem dX4_held_29 : decode cX4_held 29 = .ok (.goto 4, 3) := by decide +kernel
theorem dX4_held_32 : decode cX4_held 32 = .ok (.iconst 0, 1) := by decide +kernel
theorem dX4_held_33 : decode cX4_held 33 = .ok (.ireturn, 1) := by decide +kernel
set_option maxRecDepth 20000 in
theorem ggX4_changed_X4_isSayer : GoodIn wsX4_changed wsX4_isSayer := goodIn_r _ [9, 1, 23, 24, 25, 26, 27, 28, 29, 30, 31, 32, 33, 34, 35, 36, 37, 38] (by decide +kernel) (by decide +kernel)
set_option maxRecDepth 20000 in
theorem gX4_changed_X4_isSayer : GoodIn wsX4_changed (wsV RX4 104 RX4 yX4_isSayer wsX4_isSayer) := goodIn_app (goodIn_of _ (by decide +kernel)) ggX4_changed_X4_isSayer
set_option maxRecDepth 20000 in
theorem ggX4_changed_X4_least : GoodIn wsX4_changed wsX4_least := goodIn_r _ [12, 13, 14, 15, 8, 16] (by decide +kernel) (by decide +kernel)
set_option maxRecDepth 20000 in
theorem gX4_changed_X4_least : GoodIn wsX4_changed (va_wsS RX4 140 yX4_least wsX4_least) := goodIn_app (goodIn_of _ (by decide +kernel)) ggX4_changed_X4_least
set_option maxRecDepth 20000 in
theorem ggX4_changed_X4_goneAlong : GoodIn wsX4_changed wsX4_goneAlong := goodIn_r _ [20, 21, 22, 14, 15, 8, 16, 10, 11, 12, 13, 23, 24, 25, 26, 27, 28, 29, 30, 31, 32, 33, 39, 40, 41] (by decide +kernel) (by decide +kernel)
set_option maxRecDepth 20000 in
theorem gX4_changed_X4_goneAlong : GoodIn wsX4_changed (wsV RX4 144 RX4 yX4_goneAlong wsX4_goneAlong) := goodIn_app (goodIn_of _ (by decide +kernel)) ggX4_changed_X4_goneAlong
theorem dX4_changed_0 : decode cX4_changed 0 = .ok (.aload_n 0, 1) := by decide +kernel
theorem dX4_changed_1 : decode cX4_changed 1 = .ok (.iload_n 1, 1) := by decide +kernel
theorem dX4_changed_2 : decode cX4_changed 2 = .ok (.invokevirtual 104, 3) := by decide +kernel
theorem dX4_changed_5 : decode cX4_changed 5 = .ok (.ifCond .ne 5, 3) := by decide +kernel
theorem dX4_changed_8 : decode cX4_changed 8 = .ok (.lconst 0, 1) := by decide +kernel
theorem dX4_changed_9 : decode cX4_changed 9 = .ok (.lreturn, 1) := by decide +kernel
theorem dX4_changed_10 : decode cX4_changed 10 = .ok (.iload_n 2, 1) := by decide +kernel
theorem dX4_changed_11 : decode cX4_changed 11 = .ok (.tableswitch 117 0 2 #[25, 47, 73], 25) := by decide +kernel
theorem dX4_changed_36 : decode cX4_changed 36 = .ok (.aload_n 0, 1) := by decide +kernel
theorem dX4_changed_37 : decode cX4_changed 37 = .ok (.getfield 28, 3) := by decide +kernel
theorem dX4_changed_40 : decode cX4_changed 40 = .ok (.getfield 101, 3) := by decide +kernel
theorem dX4_changed_43 : decode cX4_changed 43 = .ok (.aload_n 0, 1) := by decide +kernel
theorem dX4_changed_44 : decode cX4_changed 44 = .ok (.getfield 37, 3) := by decide +kernel
theorem dX4_changed_47 : decode cX4_changed 47 = .ok (.land, 1) := by decide +kernel
theorem dX4_changed_48 : decode cX4_changed 48 = .ok (.aload_n 0, 1) := by decide +kernel
theorem dX4_changed_49 : decode cX4_changed 49 = .ok (.getfield 50, 3) := by decide +kernel
theorem dX4_changed_52 : decode cX4_changed 52 = .ok (.iload_n 1, 1) := by decide +kernel
theorem dX4_changed_53 : decode cX4_changed 53 = .ok (.aaload, 1) := by decide +kernel
theorem dX4_changed_54 : decode cX4_changed 54 = .ok (.invokestatic 140, 3) := by decide +kernel
theorem dX4_changed_57 : decode cX4_changed 57 = .ok (.lreturn, 1) := by decide +kernel
theorem dX4_changed_58 : decode cX4_changed 58 = .ok (.aload_n 0, 1) := by decide +kernel
theorem dX4_changed_59 : decode cX4_changed 59 = .ok (.aload_n 0, 1) := by decide +kernel
theorem dX4_changed_60 : decode cX4_changed 60 = .ok (.getfield 28, 3) := by decide +kernel
theorem dX4_changed_63 : decode cX4_changed 63 = .ok (.getfield 108, 3) := by decide +kernel
theorem dX4_changed_66 : decode cX4_changed 66 = .ok (.iload_n 1, 1) := by decide +kernel
theorem dX4_changed_67 : decode cX4_changed 67 = .ok (.laload, 1) := by decide +kernel
theorem dX4_changed_68 : decode cX4_changed 68 = .ok (.aload_n 0, 1) := by decide +kernel
theorem dX4_changed_69 : decode cX4_changed 69 = .ok (.getfield 28, 3) := by decide +kernel
theorem dX4_changed_72 : decode cX4_changed 72 = .ok (.getfield 101, 3) := by decide +kernel
theorem dX4_changed_75 : decode cX4_changed 75 = .ok (.aload_n 0, 1) := by decide +kernel
theorem dX4_changed_76 : decode cX4_changed 76 = .ok (.getfield 37, 3) := by decide +kernel
theorem dX4_changed_79 : decode cX4_changed 79 = .ok (.land, 1) := by decide +kernel
theorem dX4_changed_80 : decode cX4_changed 80 = .ok (.invokevirtual 144, 3) := by decide +kernel
theorem dX4_changed_83 : decode cX4_changed 83 = .ok (.lreturn, 1) := by decide +kernel
theorem dX4_changed_84 : decode cX4_changed 84 = .ok (.aload_n 0, 1) := by decide +kernel
theorem dX4_changed_85 : decode cX4_changed 85 = .ok (.getfield 28, 3) := by decide +kernel
theorem dX4_changed_88 : decode cX4_changed 88 = .ok (.getfield 101, 3) := by decide +kernel
theorem dX4_changed_91 : decode cX4_changed 91 = .ok (.aload_n 0, 1) := by decide +kernel
theorem dX4_changed_92 : decode cX4_changed 92 = .ok (.getfield 28, 3) := by decide +kernel
theorem dX4_changed_95 : decode cX4_changed 95 = .ok (.getfield 108, 3) := by decide +kernel
theorem dX4_changed_98 : decode cX4_changed 98 = .ok (.iload_n 1, 1) := by decide +kernel
theorem dX4_changed_99 : decode cX4_changed 99 = .ok (.laload, 1) := by decide +kernel
theorem dX4_changed_100 : decode cX4_changed 100 = .ok (.land, 1) := by decide +kernel
theorem dX4_changed_101 : decode cX4_changed 101 = .ok (.aload_n 0, 1) := by decide +kernel
theorem dX4_changed_102 : decode cX4_changed 102 = .ok (.getfield 28, 3) := by decide +kernel
theorem dX4_changed_105 : decode cX4_changed 105 = .ok (.getfield 101, 3) := by decide +kernel
theorem dX4_changed_108 : decode cX4_changed 108 = .ok (.aload_n 0, 1) := by decide +kernel
theorem dX4_changed_109 : decode cX4_changed 109 = .ok (.getfield 37, 3) := by decide +kernel
theorem dX4_changed_112 : decode cX4_changed 112 = .ok (.ldc2_w 35, 3) := by decide +kernel
theorem dX4_changed_115 : decode cX4_changed 115 = .ok (.lxor, 1) := by decide +kernel
theorem dX4_changed_116 : decode cX4_changed 116 = .ok (.land, 1) := by decide +kernel
theorem dX4_changed_117 : decode cX4_changed 117 = .ok (.aload_n 0, 1) := by decide +kernel
theorem dX4_changed_118 : decode cX4_changed 118 = .ok (.getfield 50, 3) := by decide +kernel
theorem dX4_changed_121 : decode cX4_changed 121 = .ok (.iload_n 1, 1) := by decide +kernel
theorem dX4_changed_122 : decode cX4_changed 122 = .ok (.aaload, 1) := by decide +kernel
theorem dX4_changed_123 : decode cX4_changed 123 = .ok (.invokestatic 140, 3) := by decide +kernel
theorem dX4_changed_126 : decode cX4_changed 126 = .ok (.lor, 1) := by decide +kernel
theorem dX4_changed_127 : decode cX4_changed 127 = .ok (.lreturn, 1) := by decide +kernel
theorem dX4_changed_128 : decode cX4_changed 128 = .ok (.lconst 0, 1) := by decide +kernel
theorem dX4_changed_129 : decode cX4_changed 129 = .ok (.lreturn, 1) := by decide +kernel
set_option maxRecDepth 20000 in
theorem ggX4_quarrels_X4_setsOfSayers : GoodIn wsX4_quarrels wsX4_setsOfSayers := goodIn_r _ [5, 6, 12, 13, 14, 15, 16, 17, 18, 19, 20, 21, 22, 23, 24, 25, 26, 27] (by decide +kernel) (by decide +kernel)
set_option maxRecDepth 20000 in
theorem gX4_quarrels_X4_setsOfSayers : GoodIn wsX4_quarrels (wsV RX4 148 RX4 yX4_setsOfSayers wsX4_setsOfSayers) := goodIn_app (goodIn_of _ (by decide +kernel)) ggX4_quarrels_X4_setsOfSayers
set_option maxRecDepth 20000 in
theorem ggX4_quarrels_X4_isQuarrel : GoodIn wsX4_quarrels wsX4_isQuarrel := goodIn_r _ [10, 11, 12, 13, 14, 15, 16, 17, 18, 19, 20, 21, 22] (by decide +kernel) (by decide +kernel)
set_option maxRecDepth 20000 in
theorem gX4_quarrels_X4_isQuarrel : GoodIn wsX4_quarrels (wsV RX4 152 RX4 yX4_isQuarrel wsX4_isQuarrel) := goodIn_app (goodIn_of _ (by decide +kernel)) ggX4_quarrels_X4_isQuarrel
theorem dX4_quarrels_0 : decode cX4_quarrels 0 = .ok (.iload_n 1, 1) := by decide +kernel
theorem dX4_quarrels_1 : decode cX4_quarrels 1 = .ok (.ifCond .lt 11, 3) := by decide +kernel
theorem dX4_quarrels_4 : decode cX4_quarrels 4 = .ok (.iload_n 1, 1) := by decide +kernel
theorem dX4_quarrels_5 : decode cX4_quarrels 5 = .ok (.aload_n 0, 1) := by decide +kernel
theorem dX4_quarrels_6 : decode cX4_quarrels 6 = .ok (.invokevirtual 148, 3) := by decide +kernel
theorem dX4_quarrels_9 : decode cX4_quarrels 9 = .ok (.if_icmp .lt 5, 3) := by decide +kernel
theorem dX4_quarrels_12 : decode cX4_quarrels 12 = .ok (.iconst (-1), 1) := by decide +kernel
theorem dX4_quarrels_13 : decode cX4_quarrels 13 = .ok (.ireturn, 1) := by decide +kernel
theorem dX4_quarrels_14 : decode cX4_quarrels 14 = .ok (.aload_n 0, 1) := by decide +kernel
theorem dX4_quarrels_15 : decode cX4_quarrels 15 = .ok (.iload_n 1, 1) := by decide +kernel
theorem dX4_quarrels_16 : decode cX4_quarrels 16 = .ok (.invokevirtual 152, 3) := by decide +kernel
theorem dX4_quarrels_19 : decode cX4_quarrels 19 = .ok (.ifCond .eq 7, 3) := by decide +kernel
theorem dX4_quarrels_22 : decode cX4_quarrels 22 = .ok (.iconst 1, 1) := by decide +kernel
theorem dX4_quarrels_23 : decode cX4_quarrels 23 = .ok (.goto 4, 3) := by decide +kernel
theorem dX4_quarrels_26 : decode cX4_quarrels 26 = .ok (.iconst 0, 1) := by decide +kernel
theorem dX4_quarrels_27 : decode cX4_quarrels 27 = .ok (.ireturn, 1) := by decide +kernel
set_option maxRecDepth 20000 in
theorem ggX4_sets_X4_setsOfSayers : GoodIn wsX4_sets wsX4_setsOfSayers := goodIn_r _ [6, 1, 31, 32, 33, 34, 35, 36, 37, 38, 39, 40, 41, 42, 43, 44, 45, 46] (by decide +kernel) (by decide +kernel)
set_option maxRecDepth 20000 in
theorem gX4_sets_X4_setsOfSayers : GoodIn wsX4_sets (wsV RX4 148 RX4 yX4_setsOfSayers wsX4_setsOfSayers) := goodIn_app (goodIn_of _ (by decide +kernel)) ggX4_sets_X4_setsOfSayers
set_option maxRecDepth 20000 in
theorem ggX4_sets_J6_bitCount_0f7a4 : GoodIn wsX4_sets wsJ6_bitCount_0f7a4 := goodIn_r _ [10, 11, 12, 13] (by decide +kernel) (by decide +kernel)
set_option maxRecDepth 20000 in
theorem gX4_sets_J6_bitCount_0f7a4 : GoodIn wsX4_sets (va_wsS RX4 155 yJ6_bitCount_0f7a4 wsJ6_bitCount_0f7a4) := goodIn_app (goodIn_of _ (by decide +kernel)) ggX4_sets_J6_bitCount_0f7a4
set_option maxRecDepth 20000 in
theorem ggX4_sets_X4_isListed : GoodIn wsX4_sets wsX4_isListed := goodIn_r _ [17, 18, 19, 20, 5, 21, 1, 22, 23, 24, 25, 26, 27, 28, 29, 30, 31, 32, 33, 34, 35, 36, 37, 38, 39, 40, 41, 42, 43, 44, 45, 46] (by decide +kernel) (by decide +kernel)
set_option maxRecDepth 20000 in
theorem gX4_sets_X4_isListed : GoodIn wsX4_sets (wsV RX4 161 RX4 yX4_isListed wsX4_isListed) := goodIn_app (goodIn_of _ (by decide +kernel)) ggX4_sets_X4_isListed
theorem dX4_sets_0 : decode cX4_sets 0 = .ok (.iload_n 1, 1) := by decide +kernel
theorem dX4_sets_1 : decode cX4_sets 1 = .ok (.ifCond .eq 8, 3) := by decide +kernel
theorem dX4_sets_4 : decode cX4_sets 4 = .ok (.iload_n 1, 1) := by decide +kernel
theorem dX4_sets_5 : decode cX4_sets 5 = .ok (.iconst 1, 1) := by decide +kernel
theorem dX4_sets_6 : decode cX4_sets 6 = .ok (.if_icmp .ne 8, 3) := by decide +kernel
theorem dX4_sets_9 : decode cX4_sets 9 = .ok (.iload_n 2, 1) := by decide +kernel
theorem dX4_sets_10 : decode cX4_sets 10 = .ok (.iconst (-1), 1) := by decide +kernel
theorem dX4_sets_11 : decode cX4_sets 11 = .ok (.if_icmp .ge 5, 3) := by decide +kernel
theorem dX4_sets_14 : decode cX4_sets 14 = .ok (.iconst (-1), 1) := by decide +kernel
theorem dX4_sets_15 : decode cX4_sets 15 = .ok (.ireturn, 1) := by decide +kernel
theorem dX4_sets_16 : decode cX4_sets 16 = .ok (.iconst 0, 1) := by decide +kernel
theorem dX4_sets_17 : decode cX4_sets 17 = .ok (.istore_n 3, 1) := by decide +kernel
theorem dX4_sets_18 : decode cX4_sets 18 = .ok (.iconst 0, 1) := by decide +kernel
theorem dX4_sets_19 : decode cX4_sets 19 = .ok (.istore 4, 2) := by decide +kernel
theorem dX4_sets_21 : decode cX4_sets 21 = .ok (.iload 4, 2) := by decide +kernel
theorem dX4_sets_23 : decode cX4_sets 23 = .ok (.aload_n 0, 1) := by decide +kernel
theorem dX4_sets_24 : decode cX4_sets 24 = .ok (.getfield 28, 3) := by decide +kernel
theorem dX4_sets_27 : decode cX4_sets 27 = .ok (.getfield 94, 3) := by decide +kernel
theorem dX4_sets_30 : decode cX4_sets 30 = .ok (.if_icmp .gt 79, 3) := by decide +kernel
theorem dX4_sets_33 : decode cX4_sets 33 = .ok (.iload_n 1, 1) := by decide +kernel
theorem dX4_sets_34 : decode cX4_sets 34 = .ok (.ifCond .ne 8, 3) := by decide +kernel
theorem dX4_sets_37 : decode cX4_sets 37 = .ok (.iload 4, 2) := by decide +kernel
theorem dX4_sets_39 : decode cX4_sets 39 = .ok (.goto 13, 3) := by decide +kernel
theorem dX4_sets_42 : decode cX4_sets 42 = .ok (.aload_n 0, 1) := by decide +kernel
theorem dX4_sets_43 : decode cX4_sets 43 = .ok (.getfield 28, 3) := by decide +kernel
theorem dX4_sets_46 : decode cX4_sets 46 = .ok (.getfield 94, 3) := by decide +kernel
theorem dX4_sets_49 : decode cX4_sets 49 = .ok (.iload 4, 2) := by decide +kernel
theorem dX4_sets_51 : decode cX4_sets 51 = .ok (.isub, 1) := by decide +kernel
theorem dX4_sets_52 : decode cX4_sets 52 = .ok (.istore 5, 2) := by decide +kernel
theorem dX4_sets_54 : decode cX4_sets 54 = .ok (.iconst 0, 1) := by decide +kernel
theorem dX4_sets_55 : decode cX4_sets 55 = .ok (.istore 6, 2) := by decide +kernel
theorem dX4_sets_57 : decode cX4_sets 57 = .ok (.iload 6, 2) := by decide +kernel
theorem dX4_sets_59 : decode cX4_sets 59 = .ok (.aload_n 0, 1) := by decide +kernel
theorem dX4_sets_60 : decode cX4_sets 60 = .ok (.invokevirtual 148, 3) := by decide +kernel
theorem dX4_sets_63 : decode cX4_sets 63 = .ok (.if_icmp .ge 40, 3) := by decide +kernel
theorem dX4_sets_66 : decode cX4_sets 66 = .ok (.iload 6, 2) := by decide +kernel
theorem dX4_sets_68 : decode cX4_sets 68 = .ok (.invokestatic 155, 3) := by decide +kernel
theorem dX4_sets_71 : decode cX4_sets 71 = .ok (.iload 5, 2) := by decide +kernel
theorem dX4_sets_73 : decode cX4_sets 73 = .ok (.if_icmp .ne 24, 3) := by decide +kernel
theorem dX4_sets_76 : decode cX4_sets 76 = .ok (.aload_n 0, 1) := by decide +kernel
theorem dX4_sets_77 : decode cX4_sets 77 = .ok (.iload_n 1, 1) := by decide +kernel
theorem dX4_sets_78 : decode cX4_sets 78 = .ok (.iload 6, 2) := by decide +kernel
theorem dX4_sets_80 : decode cX4_sets 80 = .ok (.invokevirtual 161, 3) := by decide +kernel
theorem dX4_sets_83 : decode cX4_sets 83 = .ok (.ifCond .eq 14, 3) := by decide +kernel
theorem dX4_sets_86 : decode cX4_sets 86 = .ok (.iload_n 3, 1) := by decide +kernel
theorem dX4_sets_87 : decode cX4_sets 87 = .ok (.iload_n 2, 1) := by decide +kernel
theorem dX4_sets_88 : decode cX4_sets 88 = .ok (.if_icmp .ne 6, 3) := by decide +kernel
theorem dX4_sets_91 : decode cX4_sets 91 = .ok (.iload 6, 2) := by decide +kernel
theorem dX4_sets_93 : decode cX4_sets 93 = .ok (.ireturn, 1) := by decide +kernel
theorem dX4_sets_94 : decode cX4_sets 94 = .ok (.iinc 3 1, 3) := by decide +kernel
theorem dX4_sets_97 : decode cX4_sets 97 = .ok (.iinc 6 1, 3) := by decide +kernel
theorem dX4_sets_100 : decode cX4_sets 100 = .ok (.goto (-43), 3) := by decide +kernel
theorem dX4_sets_103 : decode cX4_sets 103 = .ok (.iinc 4 1, 3) := by decide +kernel
theorem dX4_sets_106 : decode cX4_sets 106 = .ok (.goto (-85), 3) := by decide +kernel
theorem dX4_sets_109 : decode cX4_sets 109 = .ok (.iload_n 2, 1) := by decide +kernel
theorem dX4_sets_110 : decode cX4_sets 110 = .ok (.iconst (-1), 1) := by decide +kernel
theorem dX4_sets_111 : decode cX4_sets 111 = .ok (.if_icmp .ne 7, 3) := by decide +kernel
theorem dX4_sets_114 : decode cX4_sets 114 = .ok (.iload_n 3, 1) := by decide +kernel
theorem dX4_sets_115 : decode cX4_sets 115 = .ok (.goto 4, 3) := by decide +kernel
theorem dX4_sets_118 : decode cX4_sets 118 = .ok (.iconst (-1), 1) := by decide +kernel
theorem dX4_sets_119 : decode cX4_sets 119 = .ok (.ireturn, 1) := by decide +kernel
set_option maxRecDepth 20000 in
theorem ggX4_free_X4_setsOfSayers : GoodIn wsX4_free wsX4_setsOfSayers := goodIn_r _ [5, 6, 16, 17, 18, 19, 20, 21, 22, 23, 24, 25, 26, 27, 28, 29, 30, 31] (by decide +kernel) (by decide +kernel)
set_option maxRecDepth 20000 in
theorem gX4_free_X4_setsOfSayers : GoodIn wsX4_free (wsV RX4 148 RX4 yX4_setsOfSayers wsX4_setsOfSayers) := goodIn_app (goodIn_of _ (by decide +kernel)) ggX4_free_X4_setsOfSayers
set_option maxRecDepth 20000 in
theorem ggX4_free_X4_isLeastQuarrel : GoodIn wsX4_free wsX4_isLeastQuarrel := goodIn_r _ [10, 6, 11, 12, 13, 4, 14, 15, 16, 17, 18, 19, 20, 21, 22, 23, 24, 25, 26, 27, 28, 29, 30, 31] (by decide +kernel) (by decide +kernel)
set_option maxRecDepth 20000 in
theorem gX4_free_X4_isLeastQuarrel : GoodIn wsX4_free (wsV RX4 165 RX4 yX4_isLeastQuarrel wsX4_isLeastQuarrel) := goodIn_app (goodIn_of _ (by decide +kernel)) ggX4_free_X4_isLeastQuarrel
theorem dX4_free_0 : decode cX4_free 0 = .ok (.iconst 0, 1) := by decide +kernel
theorem dX4_free_1 : decode cX4_free 1 = .ok (.istore_n 1, 1) := by decide +kernel
theorem dX4_free_2 : decode cX4_free 2 = .ok (.iconst 0, 1) := by decide +kernel
theorem dX4_free_3 : decode cX4_free 3 = .ok (.istore_n 2, 1) := by decide +kernel
theorem dX4_free_4 : decode cX4_free 4 = .ok (.iload_n 2, 1) := by decide +kernel
theorem dX4_free_5 : decode cX4_free 5 = .ok (.aload_n 0, 1) := by decide +kernel
theorem dX4_free_6 : decode cX4_free 6 = .ok (.invokevirtual 148, 3) := by decide +kernel
theorem dX4_free_9 : decode cX4_free 9 = .ok (.if_icmp .ge 21, 3) := by decide +kernel
theorem dX4_free_12 : decode cX4_free 12 = .ok (.aload_n 0, 1) := by decide +kernel
theorem dX4_free_13 : decode cX4_free 13 = .ok (.iload_n 2, 1) := by decide +kernel
theorem dX4_free_14 : decode cX4_free 14 = .ok (.invokevirtual 165, 3) := by decide +kernel
theorem dX4_free_17 : decode cX4_free 17 = .ok (.ifCond .eq 7, 3) := by decide +kernel
theorem dX4_free_20 : decode cX4_free 20 = .ok (.iload_n 1, 1) := by decide +kernel
theorem dX4_free_21 : decode cX4_free 21 = .ok (.iload_n 2, 1) := by decide +kernel
theorem dX4_free_22 : decode cX4_free 22 = .ok (.ior, 1) := by decide +kernel
theorem dX4_free_23 : decode cX4_free 23 = .ok (.istore_n 1, 1) := by decide +kernel
theorem dX4_free_24 : decode cX4_free 24 = .ok (.iinc 2 1, 3) := by decide +kernel
theorem dX4_free_27 : decode cX4_free 27 = .ok (.goto (-23), 3) := by decide +kernel
theorem dX4_free_30 : decode cX4_free 30 = .ok (.aload_n 0, 1) := by decide +kernel
theorem dX4_free_31 : decode cX4_free 31 = .ok (.invokevirtual 148, 3) := by decide +kernel
theorem dX4_free_34 : decode cX4_free 34 = .ok (.iconst 1, 1) := by decide +kernel
theorem dX4_free_35 : decode cX4_free 35 = .ok (.isub, 1) := by decide +kernel
theorem dX4_free_36 : decode cX4_free 36 = .ok (.iload_n 1, 1) := by decide +kernel
theorem dX4_free_37 : decode cX4_free 37 = .ok (.iconst (-1), 1) := by decide +kernel
theorem dX4_free_38 : decode cX4_free 38 = .ok (.ixor, 1) := by decide +kernel
theorem dX4_free_39 : decode cX4_free 39 = .ok (.iand, 1) := by decide +kernel
theorem dX4_free_40 : decode cX4_free 40 = .ok (.ireturn, 1) := by decide +kernel
set_option maxRecDepth 20000 in
theorem ggX4_share_X4_isSayer : GoodIn wsX4_share wsX4_isSayer := goodIn_r _ [7, 2, 31, 32, 33, 34, 35, 36, 37, 38, 39, 40, 41, 42, 43, 44, 45, 46] (by decide +kernel) (by decide +kernel)
set_option maxRecDepth 20000 in
theorem gX4_share_X4_isSayer : GoodIn wsX4_share (wsV RX4 104 RX4 yX4_isSayer wsX4_isSayer) := goodIn_app (goodIn_of _ (by decide +kernel)) ggX4_share_X4_isSayer
set_option maxRecDepth 20000 in
theorem ggX4_share_X4_ordersTurnedBy : GoodIn wsX4_share wsX4_ordersTurnedBy := goodIn_r _ [11, 1, 2, 12, 13, 14, 6, 15, 16, 17, 18, 19, 20, 21, 22, 23, 24, 25, 26, 27, 31, 32, 33, 34, 35, 36, 37, 38, 39, 40, 41, 42, 43, 44, 45, 46] (by decide +kernel) (by decide +kernel)
set_option maxRecDepth 20000 in
theorem gX4_share_X4_ordersTurnedBy : GoodIn wsX4_share (wsV RX4 168 RX4 yX4_ordersTurnedBy wsX4_ordersTurnedBy) := goodIn_app (goodIn_of _ (by decide +kernel)) ggX4_share_X4_ordersTurnedBy
set_option maxRecDepth 20000 in
theorem ggX4_share_X4_commonDivisor : GoodIn wsX4_share wsX4_commonDivisor := goodIn_r _ [30] (by decide +kernel) (by decide +kernel)
set_option maxRecDepth 20000 in
theorem gX4_share_X4_commonDivisor : GoodIn wsX4_share (va_wsS RX4 174 yX4_commonDivisor wsX4_commonDivisor) := goodIn_app (goodIn_of _ (by decide +kernel)) ggX4_share_X4_commonDivisor
theorem dX4_share_0 : decode cX4_share 0 = .ok (.aload_n 0, 1) := by decide +kernel
theorem dX4_share_1 : decode cX4_share 1 = .ok (.iload_n 1, 1) := by decide +kernel
theorem dX4_share_2 : decode cX4_share 2 = .ok (.invokevirtual 104, 3) := by decide +kernel
theorem dX4_share_5 : decode cX4_share 5 = .ok (.ifCond .eq 12, 3) := by decide +kernel
theorem dX4_share_8 : decode cX4_share 8 = .ok (.iload_n 2, 1) := by decide +kernel
theorem dX4_share_9 : decode cX4_share 9 = .ok (.ifCond .eq 10, 3) := by decide +kernel
theorem dX4_share_12 : decode cX4_share 12 = .ok (.iload_n 2, 1) := by decide +kernel
theorem dX4_share_13 : decode cX4_share 13 = .ok (.iconst 1, 1) := by decide +kernel
theorem dX4_share_14 : decode cX4_share 14 = .ok (.if_icmp .eq 5, 3) := by decide +kernel
theorem dX4_share_17 : decode cX4_share 17 = .ok (.iconst (-1), 1) := by decide +kernel
theorem dX4_share_18 : decode cX4_share 18 = .ok (.ireturn, 1) := by decide +kernel
theorem dX4_share_19 : decode cX4_share 19 = .ok (.aload_n 0, 1) := by decide +kernel
theorem dX4_share_20 : decode cX4_share 20 = .ok (.iload_n 1, 1) := by decide +kernel
theorem dX4_share_21 : decode cX4_share 21 = .ok (.invokevirtual 168, 3) := by decide +kernel
theorem dX4_share_24 : decode cX4_share 24 = .ok (.istore_n 3, 1) := by decide +kernel
theorem dX4_share_25 : decode cX4_share 25 = .ok (.getstatic 171, 3) := by decide +kernel
theorem dX4_share_28 : decode cX4_share 28 = .ok (.aload_n 0, 1) := by decide +kernel
theorem dX4_share_29 : decode cX4_share 29 = .ok (.getfield 28, 3) := by decide +kernel
theorem dX4_share_32 : decode cX4_share 32 = .ok (.getfield 94, 3) := by decide +kernel
theorem dX4_share_35 : decode cX4_share 35 = .ok (.iaload, 1) := by decide +kernel
theorem dX4_share_36 : decode cX4_share 36 = .ok (.istore 4, 2) := by decide +kernel
theorem dX4_share_38 : decode cX4_share 38 = .ok (.iload_n 3, 1) := by decide +kernel
theorem dX4_share_39 : decode cX4_share 39 = .ok (.iload 4, 2) := by decide +kernel
theorem dX4_share_41 : decode cX4_share 41 = .ok (.invokestatic 174, 3) := by decide +kernel
theorem dX4_share_44 : decode cX4_share 44 = .ok (.istore 5, 2) := by decide +kernel
theorem dX4_share_46 : decode cX4_share 46 = .ok (.iload 5, 2) := by decide +kernel
theorem dX4_share_48 : decode cX4_share 48 = .ok (.iconst 1, 1) := by decide +kernel
theorem dX4_share_49 : decode cX4_share 49 = .ok (.if_icmp .ge 5, 3) := by decide +kernel
theorem dX4_share_52 : decode cX4_share 52 = .ok (.iconst (-1), 1) := by decide +kernel
theorem dX4_share_53 : decode cX4_share 53 = .ok (.ireturn, 1) := by decide +kernel
theorem dX4_share_54 : decode cX4_share 54 = .ok (.iload_n 2, 1) := by decide +kernel
theorem dX4_share_55 : decode cX4_share 55 = .ok (.ifCond .ne 7, 3) := by decide +kernel
theorem dX4_share_58 : decode cX4_share 58 = .ok (.iload_n 3, 1) := by decide +kernel
theorem dX4_share_59 : decode cX4_share 59 = .ok (.goto 5, 3) := by decide +kernel
theorem dX4_share_62 : decode cX4_share 62 = .ok (.iload 4, 2) := by decide +kernel
theorem dX4_share_64 : decode cX4_share 64 = .ok (.iload 5, 2) := by decide +kernel
theorem dX4_share_66 : decode cX4_share 66 = .ok (.idiv, 1) := by decide +kernel
theorem dX4_share_67 : decode cX4_share 67 = .ok (.ireturn, 1) := by decide +kernel
set_option maxRecDepth 20000 in
theorem ggX4_lie_X4_isSayer : GoodIn wsX4_lie wsX4_isSayer := goodIn_r _ [5, 6, 56, 57, 58, 59, 60, 61, 62, 63, 64, 65, 66, 67, 68, 69, 70, 71] (by decide +kernel) (by decide +kernel)
set_option maxRecDepth 20000 in
theorem gX4_lie_X4_isSayer : GoodIn wsX4_lie (wsV RX4 104 RX4 yX4_isSayer wsX4_isSayer) := goodIn_app (goodIn_of _ (by decide +kernel)) ggX4_lie_X4_isSayer
set_option maxRecDepth 20000 in
theorem ggX4_lie_X4_isWay : GoodIn wsX4_lie wsX4_isWay := goodIn_r _ [9] (by decide +kernel) (by decide +kernel)
set_option maxRecDepth 20000 in
theorem gX4_lie_X4_isWay : GoodIn wsX4_lie (va_wsS RX4 129 yX4_isWay wsX4_isWay) := goodIn_app (goodIn_of _ (by decide +kernel)) ggX4_lie_X4_isWay
set_option maxRecDepth 20000 in
theorem ggX4_lie_X4_mergedBy : GoodIn wsX4_lie wsX4_mergedBy := goodIn_r _ [13, 14, 6, 15, 16, 17, 4, 18, 19, 20, 21, 22, 23, 24, 25, 26, 27, 28, 29, 30, 31, 32, 33, 34, 35, 36, 37, 38, 39, 40, 41, 56, 57, 58, 59, 60, 61, 62, 63, 64, 65, 66, 67, 68, 69, 70, 71] (by decide +kernel) (by decide +kernel)
set_option maxRecDepth 20000 in
theorem gX4_lie_X4_mergedBy : GoodIn wsX4_lie (wsV RX4 132 RX4 yX4_mergedBy wsX4_mergedBy) := goodIn_app (goodIn_of _ (by decide +kernel)) ggX4_lie_X4_mergedBy
set_option maxRecDepth 20000 in
theorem ggX4_lie_X4_lossOf : GoodIn wsX4_lie wsX4_lossOf := goodIn_r _ [45, 23, 27, 28, 29, 30, 39, 40, 4, 41, 56, 57, 58, 59, 60, 61, 62, 63, 64, 65, 66] (by decide +kernel) (by decide +kernel)
set_option maxRecDepth 20000 in
theorem gX4_lie_X4_lossOf : GoodIn wsX4_lie (wsV RX4 178 RX4 yX4_lossOf wsX4_lossOf) := goodIn_app (goodIn_of _ (by decide +kernel)) ggX4_lie_X4_lossOf
set_option maxRecDepth 20000 in
theorem ggX4_lie_X4_bestLie : GoodIn wsX4_lie wsX4_bestLie := goodIn_r _ [49, 50, 6, 15, 16, 17, 4, 18, 19, 20, 21, 22, 23, 24, 25, 26, 27, 28, 29, 30, 31, 32, 33, 34, 51, 52, 53, 54, 14, 55, 35, 36, 37, 38, 39, 40, 41, 42, 43, 44, 45, 56, 57, 58, 59, 60, 61, 62, 63, 64, 65, 66, 67, 68, 69, 70, 71, 72, 73, 74] (by decide +kernel) (by decide +kernel)
set_option maxRecDepth 20000 in
theorem gX4_lie_X4_bestLie : GoodIn wsX4_lie (wsV RX4 182 RX4 yX4_bestLie wsX4_bestLie) := goodIn_app (goodIn_of _ (by decide +kernel)) ggX4_lie_X4_bestLie
theorem dX4_lie_0 : decode cX4_lie 0 = .ok (.aload_n 0, 1) := by decide +kernel
theorem dX4_lie_1 : decode cX4_lie 1 = .ok (.iload_n 1, 1) := by decide +kernel
theorem dX4_lie_2 : decode cX4_lie 2 = .ok (.invokevirtual 104, 3) := by decide +kernel
theorem dX4_lie_5 : decode cX4_lie 5 = .ok (.ifCond .eq 19, 3) := by decide +kernel
theorem dX4_lie_8 : decode cX4_lie 8 = .ok (.iload_n 2, 1) := by decide +kernel
theorem dX4_lie_9 : decode cX4_lie 9 = .ok (.invokestatic 129, 3) := by decide +kernel
theorem dX4_lie_12 : decode cX4_lie 12 = .ok (.ifCond .eq 12, 3) := by decide +kernel
theorem dX4_lie_15 : decode cX4_lie 15 = .ok (.iload_n 3, 1) := by decide +kernel
theorem dX4_lie_16 : decode cX4_lie 16 = .ok (.ifCond .lt 8, 3) := by decide +kernel
theorem dX4_lie_19 : decode cX4_lie 19 = .ok (.iload_n 3, 1) := by decide +kernel
theorem dX4_lie_20 : decode cX4_lie 20 = .ok (.iconst 2, 1) := by decide +kernel
theorem dX4_lie_21 : decode cX4_lie 21 = .ok (.if_icmp .le 5, 3) := by decide +kernel
theorem dX4_lie_24 : decode cX4_lie 24 = .ok (.iconst (-1), 1) := by decide +kernel
theorem dX4_lie_25 : decode cX4_lie 25 = .ok (.ireturn, 1) := by decide +kernel
theorem dX4_lie_26 : decode cX4_lie 26 = .ok (.aload_n 0, 1) := by decide +kernel
theorem dX4_lie_27 : decode cX4_lie 27 = .ok (.iload_n 1, 1) := by decide +kernel
theorem dX4_lie_28 : decode cX4_lie 28 = .ok (.aload_n 0, 1) := by decide +kernel
theorem dX4_lie_29 : decode cX4_lie 29 = .ok (.iload_n 2, 1) := by decide +kernel
theorem dX4_lie_30 : decode cX4_lie 30 = .ok (.invokevirtual 132, 3) := by decide +kernel
theorem dX4_lie_33 : decode cX4_lie 33 = .ok (.invokevirtual 178, 3) := by decide +kernel
theorem dX4_lie_36 : decode cX4_lie 36 = .ok (.lstore 4, 2) := by decide +kernel
theorem dX4_lie_38 : decode cX4_lie 38 = .ok (.iload_n 3, 1) := by decide +kernel
theorem dX4_lie_39 : decode cX4_lie 39 = .ok (.iconst 2, 1) := by decide +kernel
theorem dX4_lie_40 : decode cX4_lie 40 = .ok (.if_icmp .ne 7, 3) := by decide +kernel
theorem dX4_lie_43 : decode cX4_lie 43 = .ok (.lload 4, 2) := by decide +kernel
theorem dX4_lie_45 : decode cX4_lie 45 = .ok (.l2i, 1) := by decide +kernel
theorem dX4_lie_46 : decode cX4_lie 46 = .ok (.ireturn, 1) := by decide +kernel
theorem dX4_lie_47 : decode cX4_lie 47 = .ok (.aload_n 0, 1) := by decide +kernel
theorem dX4_lie_48 : decode cX4_lie 48 = .ok (.iload_n 1, 1) := by decide +kernel
theorem dX4_lie_49 : decode cX4_lie 49 = .ok (.iload_n 2, 1) := by decide +kernel
theorem dX4_lie_50 : decode cX4_lie 50 = .ok (.lload 4, 2) := by decide +kernel
theorem dX4_lie_52 : decode cX4_lie 52 = .ok (.iload_n 3, 1) := by decide +kernel
theorem dX4_lie_53 : decode cX4_lie 53 = .ok (.iconst 1, 1) := by decide +kernel
theorem dX4_lie_54 : decode cX4_lie 54 = .ok (.if_icmp .ne 7, 3) := by decide +kernel
theorem dX4_lie_57 : decode cX4_lie 57 = .ok (.iconst 1, 1) := by decide +kernel
theorem dX4_lie_58 : decode cX4_lie 58 = .ok (.goto 4, 3) := by decide +kernel
theorem dX4_lie_61 : decode cX4_lie 61 = .ok (.iconst 0, 1) := by decide +kernel
theorem dX4_lie_62 : decode cX4_lie 62 = .ok (.invokevirtual 182, 3) := by decide +kernel
theorem dX4_lie_65 : decode cX4_lie 65 = .ok (.ireturn, 1) := by decide +kernel
set_option maxRecDepth 20000 in
theorem ggX4_worth_X4_isSayer : GoodIn wsX4_worth wsX4_isSayer := goodIn_r _ [5, 6, 73, 74, 75, 76, 77, 78, 79, 80, 81, 82, 83, 84, 85, 86, 87, 88] (by decide +kernel) (by decide +kernel)
set_option maxRecDepth 20000 in
theorem gX4_worth_X4_isSayer : GoodIn wsX4_worth (wsV RX4 104 RX4 yX4_isSayer wsX4_isSayer) := goodIn_app (goodIn_of _ (by decide +kernel)) ggX4_worth_X4_isSayer
set_option maxRecDepth 20000 in
theorem ggX4_worth_X4_sayerWorth : GoodIn wsX4_worth wsX4_sayerWorth := goodIn_r _ [10, 11, 6, 12, 13, 14, 15, 16, 17, 18, 73, 74, 75, 76, 77, 78, 79, 80, 81, 82, 83, 84, 85, 86, 87, 88] (by decide +kernel) (by decide +kernel)
set_option maxRecDepth 20000 in
theorem gX4_worth_X4_sayerWorth : GoodIn wsX4_worth (wsV RX4 186 RX4 yX4_sayerWorth wsX4_sayerWorth) := goodIn_app (goodIn_of _ (by decide +kernel)) ggX4_worth_X4_sayerWorth
set_option maxRecDepth 20000 in
theorem ggX4_worth_X4_weightyWorth : GoodIn wsX4_worth wsX4_weightyWorth := goodIn_r _ [22, 11, 23, 6, 7, 8, 9, 4, 10, 12, 13, 14, 15, 16, 17, 18, 73, 74, 75, 76, 77, 78, 79, 80, 81, 82, 83, 84, 85, 86, 87, 88] (by decide +kernel) (by decide +kernel)
set_option maxRecDepth 20000 in
theorem gX4_worth_X4_weightyWorth : GoodIn wsX4_worth (wsV RX4 189 RX4 yX4_weightyWorth wsX4_weightyWorth) := goodIn_app (goodIn_of _ (by decide +kernel)) ggX4_worth_X4_weightyWorth
set_option maxRecDepth 20000 in
theorem ggX4_worth_X4_loneWorth : GoodIn wsX4_worth wsX4_loneWorth := goodIn_r _ [27, 11, 28, 6, 7, 8, 9, 4, 10, 12, 13, 14, 15, 16, 17, 18, 29, 30, 31, 32, 33, 34, 35, 73, 74, 75, 76, 77, 78, 79, 80, 81, 82, 83, 84, 85, 86, 87, 88] (by decide +kernel) (by decide +kernel)
set_option maxRecDepth 20000 in
theorem gX4_worth_X4_loneWorth : GoodIn wsX4_worth (wsV RX4 192 RX4 yX4_loneWorth wsX4_loneWorth) := goodIn_app (goodIn_of _ (by decide +kernel)) ggX4_worth_X4_loneWorth
set_option maxRecDepth 20000 in
theorem ggX4_worth_X4_firmWorth : GoodIn wsX4_worth wsX4_firmWorth := goodIn_r _ [39, 11, 40, 19, 20, 21, 4, 22, 23, 6, 7, 8, 9, 10, 12, 13, 14, 15, 16, 17, 18, 41, 42, 43, 44, 45, 46, 47, 48, 49, 50, 51, 52, 53, 54, 55, 56, 57, 58, 59, 60, 61, 62, 63, 64, 65, 66, 67, 68, 69, 70, 71, 72, 73, 74, 75, 76, 77, 78, 79, 80, 81, 82, 83, 84, 85, 86, 87, 88] (by decide +kernel) (by decide +kernel)
set_option maxRecDepth 20000 in
theorem gX4_worth_X4_firmWorth : GoodIn wsX4_worth (wsV RX4 195 RX4 yX4_firmWorth wsX4_firmWorth) := goodIn_app (goodIn_of _ (by decide +kernel)) ggX4_worth_X4_firmWorth
theorem dX4_worth_0 : decode cX4_worth 0 = .ok (.aload_n 0, 1) := by decide +kernel
theorem dX4_worth_1 : decode cX4_worth 1 = .ok (.iload_n 2, 1) := by decide +kernel
theorem dX4_worth_2 : decode cX4_worth 2 = .ok (.invokevirtual 104, 3) := by decide +kernel
theorem dX4_worth_5 : decode cX4_worth 5 = .ok (.ifCond .ne 5, 3) := by decide +kernel
theorem dX4_worth_8 : decode cX4_worth 8 = .ok (.iconst (-1), 1) := by decide +kernel
theorem dX4_worth_9 : decode cX4_worth 9 = .ok (.ireturn, 1) := by decide +kernel
theorem dX4_worth_10 : decode cX4_worth 10 = .ok (.iload_n 1, 1) := by decide +kernel
theorem dX4_worth_11 : decode cX4_worth 11 = .ok (.tableswitch 53 0 3 #[29, 35, 41, 47], 29) := by decide +kernel
theorem dX4_worth_40 : decode cX4_worth 40 = .ok (.aload_n 0, 1) := by decide +kernel
theorem dX4_worth_41 : decode cX4_worth 41 = .ok (.iload_n 2, 1) := by decide +kernel
theorem dX4_worth_42 : decode cX4_worth 42 = .ok (.invokevirtual 186, 3) := by decide +kernel
theorem dX4_worth_45 : decode cX4_worth 45 = .ok (.ireturn, 1) := by decide +kernel
theorem dX4_worth_46 : decode cX4_worth 46 = .ok (.aload_n 0, 1) := by decide +kernel
theorem dX4_worth_47 : decode cX4_worth 47 = .ok (.iload_n 2, 1) := by decide +kernel
theorem dX4_worth_48 : decode cX4_worth 48 = .ok (.invokevirtual 189, 3) := by decide +kernel
theorem dX4_worth_51 : decode cX4_worth 51 = .ok (.ireturn, 1) := by decide +kernel
theorem dX4_worth_52 : decode cX4_worth 52 = .ok (.aload_n 0, 1) := by decide +kernel
theorem dX4_worth_53 : decode cX4_worth 53 = .ok (.iload_n 2, 1) := by decide +kernel
theorem dX4_worth_54 : decode cX4_worth 54 = .ok (.invokevirtual 192, 3) := by decide +kernel
theorem dX4_worth_57 : decode cX4_worth 57 = .ok (.ireturn, 1) := by decide +kernel
theorem dX4_worth_58 : decode cX4_worth 58 = .ok (.aload_n 0, 1) := by decide +kernel
theorem dX4_worth_59 : decode cX4_worth 59 = .ok (.iload_n 2, 1) := by decide +kernel
theorem dX4_worth_60 : decode cX4_worth 60 = .ok (.invokevirtual 195, 3) := by decide +kernel
theorem dX4_worth_63 : decode cX4_worth 63 = .ok (.ireturn, 1) := by decide +kernel
theorem dX4_worth_64 : decode cX4_worth 64 = .ok (.iconst (-1), 1) := by decide +kernel
theorem dX4_worth_65 : decode cX4_worth 65 = .ok (.ireturn, 1) := by decide +kernel
set_option maxRecDepth 20000 in
theorem ggX4_count_X3_allWeights : GoodIn wsX4_count wsX3_allWeights := goodIn_r _ [7, 8, 9, 28, 29, 30, 31, 32] (by decide +kernel) (by decide +kernel)
set_option maxRecDepth 20000 in
theorem gX4_count_X3_allWeights : GoodIn wsX4_count (wsV RX4 198 RX3 yX3_allWeights wsX3_allWeights) := goodIn_app (goodIn_of _ (by decide +kernel)) ggX4_count_X3_allWeights
set_option maxRecDepth 20000 in
theorem ggX4_count_J13_bitCount_95d88 : GoodIn wsX4_count wsJ13_bitCount_95d88 := goodIn_r _ [13, 14, 15, 16] (by decide +kernel) (by decide +kernel)
set_option maxRecDepth 20000 in
theorem gX4_count_J13_bitCount_95d88 : GoodIn wsX4_count (va_wsS RX4 201 yJ13_bitCount_95d88 wsJ13_bitCount_95d88) := goodIn_app (goodIn_of _ (by decide +kernel)) ggX4_count_J13_bitCount_95d88
theorem dX4_count_0 : decode cX4_count 0 = .ok (.iload_n 1, 1) := by decide +kernel
theorem dX4_count_1 : decode cX4_count 1 = .ok (.tableswitch 78 0 4 #[35, 43, 51, 59, 67], 35) := by decide +kernel
theorem dX4_count_36 : decode cX4_count 36 = .ok (.aload_n 0, 1) := by decide +kernel
theorem dX4_count_37 : decode cX4_count 37 = .ok (.getfield 28, 3) := by decide +kernel
theorem dX4_count_40 : decode cX4_count 40 = .ok (.getfield 91, 3) := by decide +kernel
theorem dX4_count_43 : decode cX4_count 43 = .ok (.ireturn, 1) := by decide +kernel
theorem dX4_count_44 : decode cX4_count 44 = .ok (.aload_n 0, 1) := by decide +kernel
theorem dX4_count_45 : decode cX4_count 45 = .ok (.getfield 28, 3) := by decide +kernel
theorem dX4_count_48 : decode cX4_count 48 = .ok (.getfield 94, 3) := by decide +kernel
theorem dX4_count_51 : decode cX4_count 51 = .ok (.ireturn, 1) := by decide +kernel
theorem dX4_count_52 : decode cX4_count 52 = .ok (.aload_n 0, 1) := by decide +kernel
theorem dX4_count_53 : decode cX4_count 53 = .ok (.getfield 12, 3) := by decide +kernel
theorem dX4_count_56 : decode cX4_count 56 = .ok (.getfield 66, 3) := by decide +kernel
theorem dX4_count_59 : decode cX4_count 59 = .ok (.ireturn, 1) := by decide +kernel
theorem dX4_count_60 : decode cX4_count 60 = .ok (.aload_n 0, 1) := by decide +kernel
theorem dX4_count_61 : decode cX4_count 61 = .ok (.getfield 28, 3) := by decide +kernel
theorem dX4_count_64 : decode cX4_count 64 = .ok (.invokevirtual 198, 3) := by decide +kernel
theorem dX4_count_67 : decode cX4_count 67 = .ok (.ireturn, 1) := by decide +kernel
theorem dX4_count_68 : decode cX4_count 68 = .ok (.aload_n 0, 1) := by decide +kernel
theorem dX4_count_69 : decode cX4_count 69 = .ok (.getfield 28, 3) := by decide +kernel
theorem dX4_count_72 : decode cX4_count 72 = .ok (.getfield 101, 3) := by decide +kernel
theorem dX4_count_75 : decode cX4_count 75 = .ok (.invokestatic 201, 3) := by decide +kernel
theorem dX4_count_78 : decode cX4_count 78 = .ok (.ireturn, 1) := by decide +kernel
theorem dX4_count_79 : decode cX4_count 79 = .ok (.iconst (-1), 1) := by decide +kernel
theorem dX4_count_80 : decode cX4_count 80 = .ok (.ireturn, 1) := by decide +kernel
theorem dX4_trace_0 : decode cX4_trace 0 = .ok (.aload_n 0, 1) := by decide +kernel
theorem dX4_trace_1 : decode cX4_trace 1 = .ok (.getfield 63, 3) := by decide +kernel
theorem dX4_trace_4 : decode cX4_trace 4 = .ok (.lreturn, 1) := by decide +kernel
theorem dX4_isSayer_0 : decode cX4_isSayer 0 = .ok (.iload_n 1, 1) := by decide +kernel
theorem dX4_isSayer_1 : decode cX4_isSayer 1 = .ok (.ifCond .lt 18, 3) := by decide +kernel
theorem dX4_isSayer_4 : decode cX4_isSayer 4 = .ok (.iload_n 1, 1) := by decide +kernel
theorem dX4_isSayer_5 : decode cX4_isSayer 5 = .ok (.aload_n 0, 1) := by decide +kernel
theorem dX4_isSayer_6 : decode cX4_isSayer 6 = .ok (.getfield 28, 3) := by decide +kernel
theorem dX4_isSayer_9 : decode cX4_isSayer 9 = .ok (.getfield 94, 3) := by decide +kernel
theorem dX4_isSayer_12 : decode cX4_isSayer 12 = .ok (.if_icmp .ge 7, 3) := by decide +kernel
theorem dX4_isSayer_15 : decode cX4_isSayer 15 = .ok (.iconst 1, 1) := by decide +kernel
theorem dX4_isSayer_16 : decode cX4_isSayer 16 = .ok (.goto 4, 3) := by decide +kernel
theorem dX4_isSayer_19 : decode cX4_isSayer 19 = .ok (.iconst 0, 1) := by decide +kernel
theorem dX4_isSayer_20 : decode cX4_isSayer 20 = .ok (.ireturn, 1) := by decide +kernel
theorem dX4_isWorld_0 : decode cX4_isWorld 0 = .ok (.iload_n 0, 1) := by decide +kernel
theorem dX4_isWorld_1 : decode cX4_isWorld 1 = .ok (.ifCond .lt 13, 3) := by decide +kernel
theorem dX4_isWorld_4 : decode cX4_isWorld 4 = .ok (.iload_n 0, 1) := by decide +kernel
theorem dX4_isWorld_5 : decode cX4_isWorld 5 = .ok (.bipush 64, 2) := by decide +kernel
theorem dX4_isWorld_7 : decode cX4_isWorld 7 = .ok (.if_icmp .ge 7, 3) := by decide +kernel
theorem dX4_isWorld_10 : decode cX4_isWorld 10 = .ok (.iconst 1, 1) := by decide +kernel
theorem dX4_isWorld_11 : decode cX4_isWorld 11 = .ok (.goto 4, 3) := by decide +kernel
theorem dX4_isWorld_14 : decode cX4_isWorld 14 = .ok (.iconst 0, 1) := by decide +kernel
theorem dX4_isWorld_15 : decode cX4_isWorld 15 = .ok (.ireturn, 1) := by decide +kernel
theorem dX4_isWay_0 : decode cX4_isWay 0 = .ok (.iload_n 0, 1) := by decide +kernel
theorem dX4_isWay_1 : decode cX4_isWay 1 = .ok (.ifCond .lt 12, 3) := by decide +kernel
theorem dX4_isWay_4 : decode cX4_isWay 4 = .ok (.iload_n 0, 1) := by decide +kernel
theorem dX4_isWay_5 : decode cX4_isWay 5 = .ok (.iconst 2, 1) := by decide +kernel
theorem dX4_isWay_6 : decode cX4_isWay 6 = .ok (.if_icmp .gt 7, 3) := by decide +kernel
theorem dX4_isWay_9 : decode cX4_isWay 9 = .ok (.iconst 1, 1) := by decide +kernel
theorem dX4_isWay_10 : decode cX4_isWay 10 = .ok (.goto 4, 3) := by decide +kernel
theorem dX4_isWay_13 : decode cX4_isWay 13 = .ok (.iconst 0, 1) := by decide +kernel
theorem dX4_isWay_14 : decode cX4_isWay 14 = .ok (.ireturn, 1) := by decide +kernel
theorem dX4_isLetter_0 : decode cX4_isLetter 0 = .ok (.iload_n 0, 1) := by decide +kernel
theorem dX4_isLetter_1 : decode cX4_isLetter 1 = .ok (.bipush 97, 2) := by decide +kernel
theorem dX4_isLetter_3 : decode cX4_isLetter 3 = .ok (.if_icmp .lt 13, 3) := by decide +kernel
theorem dX4_isLetter_6 : decode cX4_isLetter 6 = .ok (.iload_n 0, 1) := by decide +kernel
theorem dX4_isLetter_7 : decode cX4_isLetter 7 = .ok (.bipush 103, 2) := by decide +kernel
theorem dX4_isLetter_9 : decode cX4_isLetter 9 = .ok (.if_icmp .ge 7, 3) := by decide +kernel
theorem dX4_isLetter_12 : decode cX4_isLetter 12 = .ok (.iconst 1, 1) := by decide +kernel
theorem dX4_isLetter_13 : decode cX4_isLetter 13 = .ok (.goto 4, 3) := by decide +kernel
theorem dX4_isLetter_16 : decode cX4_isLetter 16 = .ok (.iconst 0, 1) := by decide +kernel
theorem dX4_isLetter_17 : decode cX4_isLetter 17 = .ok (.ireturn, 1) := by decide +kernel
set_option maxRecDepth 20000 in
theorem ggX4_findFars_X0_findLengths : GoodIn wsX4_findFars wsX0_findLengths := goodIn_r _ [8, 9, 10, 11, 12, 13, 14, 15, 16, 52, 53, 54] (by decide +kernel) (by decide +kernel)
set_option maxRecDepth 20000 in
theorem gX4_findFars_X0_findLengths : GoodIn wsX4_findFars (wsV RX4 206 RX0 yX0_findLengths wsX0_findLengths) := goodIn_app (goodIn_of _ (by decide +kernel)) ggX4_findFars_X0_findLengths
set_option maxRecDepth 20000 in
theorem ggX4_findFars_X0_findFars : GoodIn wsX4_findFars wsX0_findFars := goodIn_r _ [20, 10, 21, 11, 22, 23, 24, 25, 26, 27, 28, 29, 30, 7, 31, 32, 33, 34, 35, 52, 53, 54] (by decide +kernel) (by decide +kernel)
set_option maxRecDepth 20000 in
theorem gX4_findFars_X0_findFars : GoodIn wsX4_findFars (wsV RX4 209 RX0 yX0_findFars wsX0_findFars) := goodIn_app (goodIn_of _ (by decide +kernel)) ggX4_findFars_X0_findFars
theorem dX4_findFars_0 : decode cX4_findFars 0 = .ok (.aload_n 0, 1) := by decide +kernel
theorem dX4_findFars_1 : decode cX4_findFars 1 = .ok (.getfield 44, 3) := by decide +kernel
theorem dX4_findFars_4 : decode cX4_findFars 4 = .ok (.invokevirtual 206, 3) := by decide +kernel
theorem dX4_findFars_7 : decode cX4_findFars 7 = .ok (.iconst 0, 1) := by decide +kernel
theorem dX4_findFars_8 : decode cX4_findFars 8 = .ok (.istore_n 1, 1) := by decide +kernel
theorem dX4_findFars_9 : decode cX4_findFars 9 = .ok (.iload_n 1, 1) := by decide +kernel
theorem dX4_findFars_10 : decode cX4_findFars 10 = .ok (.aload_n 0, 1) := by decide +kernel
theorem dX4_findFars_11 : decode cX4_findFars 11 = .ok (.getfield 28, 3) := by decide +kernel
theorem dX4_findFars_14 : decode cX4_findFars 14 = .ok (.getfield 94, 3) := by decide +kernel
theorem dX4_findFars_17 : decode cX4_findFars 17 = .ok (.if_icmp .ge 31, 3) := by decide +kernel
theorem dX4_findFars_20 : decode cX4_findFars 20 = .ok (.aload_n 0, 1) := by decide +kernel
theorem dX4_findFars_21 : decode cX4_findFars 21 = .ok (.getfield 44, 3) := by decide +kernel
theorem dX4_findFars_24 : decode cX4_findFars 24 = .ok (.aload_n 0, 1) := by decide +kernel
theorem dX4_findFars_25 : decode cX4_findFars 25 = .ok (.getfield 28, 3) := by decide +kernel
theorem dX4_findFars_28 : decode cX4_findFars 28 = .ok (.getfield 108, 3) := by decide +kernel
theorem dX4_findFars_31 : decode cX4_findFars 31 = .ok (.iload_n 1, 1) := by decide +kernel
theorem dX4_findFars_32 : decode cX4_findFars 32 = .ok (.laload, 1) := by decide +kernel
theorem dX4_findFars_33 : decode cX4_findFars 33 = .ok (.aload_n 0, 1) := by decide +kernel
theorem dX4_findFars_34 : decode cX4_findFars 34 = .ok (.getfield 50, 3) := by decide +kernel
theorem dX4_findFars_37 : decode cX4_findFars 37 = .ok (.iload_n 1, 1) := by decide +kernel
theorem dX4_findFars_38 : decode cX4_findFars 38 = .ok (.aaload, 1) := by decide +kernel
theorem dX4_findFars_39 : decode cX4_findFars 39 = .ok (.invokevirtual 209, 3) := by decide +kernel
theorem dX4_findFars_42 : decode cX4_findFars 42 = .ok (.iinc 1 1, 3) := by decide +kernel
theorem dX4_findFars_45 : decode cX4_findFars 45 = .ok (.goto (-36), 3) := by decide +kernel
theorem dX4_findFars_48 : decode cX4_findFars 48 = .ok (.return_, 1) := by decide +kernel
theorem dX4_burdenOf_0 : decode cX4_burdenOf 0 = .ok (.aload_n 0, 1) := by decide +kernel
theorem dX4_burdenOf_1 : decode cX4_burdenOf 1 = .ok (.getfield 28, 3) := by decide +kernel
theorem dX4_burdenOf_4 : decode cX4_burdenOf 4 = .ok (.getfield 212, 3) := by decide +kernel
theorem dX4_burdenOf_7 : decode cX4_burdenOf 7 = .ok (.iload_n 1, 1) := by decide +kernel
theorem dX4_burdenOf_8 : decode cX4_burdenOf 8 = .ok (.iaload, 1) := by decide +kernel
theorem dX4_burdenOf_9 : decode cX4_burdenOf 9 = .ok (.i2l, 1) := by decide +kernel
theorem dX4_burdenOf_10 : decode cX4_burdenOf 10 = .ok (.aload_n 0, 1) := by decide +kernel
theorem dX4_burdenOf_11 : decode cX4_burdenOf 11 = .ok (.getfield 50, 3) := by decide +kernel
theorem dX4_burdenOf_14 : decode cX4_burdenOf 14 = .ok (.iload_n 1, 1) := by decide +kernel
theorem dX4_burdenOf_15 : decode cX4_burdenOf 15 = .ok (.aaload, 1) := by decide +kernel
theorem dX4_burdenOf_16 : decode cX4_burdenOf 16 = .ok (.iload_n 2, 1) := by decide +kernel
theorem dX4_burdenOf_17 : decode cX4_burdenOf 17 = .ok (.laload, 1) := by decide +kernel
theorem dX4_burdenOf_18 : decode cX4_burdenOf 18 = .ok (.lmul, 1) := by decide +kernel
theorem dX4_burdenOf_19 : decode cX4_burdenOf 19 = .ok (.lreturn, 1) := by decide +kernel
set_option maxRecDepth 20000 in
theorem ggX4_least_X4_isIn : GoodIn wsX4_least wsX4_isIn := goodIn_r _ [5] (by decide +kernel) (by decide +kernel)
set_option maxRecDepth 20000 in
theorem gX4_least_X4_isIn : GoodIn wsX4_least (va_wsS RX4 217 yX4_isIn wsX4_isIn) := goodIn_app (goodIn_of _ (by decide +kernel)) ggX4_least_X4_isIn
theorem dX4_least_0 : decode cX4_least 0 = .ok (.ldc2_w 215, 3) := by decide +kernel
theorem dX4_least_3 : decode cX4_least 3 = .ok (.lstore_n 3, 1) := by decide +kernel
theorem dX4_least_4 : decode cX4_least 4 = .ok (.lconst 0, 1) := by decide +kernel
theorem dX4_least_5 : decode cX4_least 5 = .ok (.lstore 5, 2) := by decide +kernel
theorem dX4_least_7 : decode cX4_least 7 = .ok (.iconst 0, 1) := by decide +kernel
theorem dX4_least_8 : decode cX4_least 8 = .ok (.istore 7, 2) := by decide +kernel
theorem dX4_least_10 : decode cX4_least 10 = .ok (.iload 7, 2) := by decide +kernel
theorem dX4_least_12 : decode cX4_least 12 = .ok (.bipush 64, 2) := by decide +kernel
theorem dX4_least_14 : decode cX4_least 14 = .ok (.if_icmp .ge 53, 3) := by decide +kernel
theorem dX4_least_17 : decode cX4_least 17 = .ok (.lload_n 0, 1) := by decide +kernel
theorem dX4_least_18 : decode cX4_least 18 = .ok (.iload 7, 2) := by decide +kernel
theorem dX4_least_20 : decode cX4_least 20 = .ok (.invokestatic 217, 3) := by decide +kernel
theorem dX4_least_23 : decode cX4_least 23 = .ok (.ifCond .eq 38, 3) := by decide +kernel
theorem dX4_least_26 : decode cX4_least 26 = .ok (.aload_n 2, 1) := by decide +kernel
theorem dX4_least_27 : decode cX4_least 27 = .ok (.iload 7, 2) := by decide +kernel
theorem dX4_least_29 : decode cX4_least 29 = .ok (.laload, 1) := by decide +kernel
theorem dX4_least_30 : decode cX4_least 30 = .ok (.lload_n 3, 1) := by decide +kernel
theorem dX4_least_31 : decode cX4_least 31 = .ok (.lcmp, 1) := by decide +kernel
theorem dX4_least_32 : decode cX4_least 32 = .ok (.ifCond .gt 29, 3) := by decide +kernel
theorem dX4_least_35 : decode cX4_least 35 = .ok (.aload_n 2, 1) := by decide +kernel
theorem dX4_least_36 : decode cX4_least 36 = .ok (.iload 7, 2) := by decide +kernel
theorem dX4_least_38 : decode cX4_least 38 = .ok (.laload, 1) := by decide +kernel
theorem dX4_least_39 : decode cX4_least 39 = .ok (.lload_n 3, 1) := by decide +kernel
theorem dX4_least_40 : decode cX4_least 40 = .ok (.lcmp, 1) := by decide +kernel
theorem dX4_least_41 : decode cX4_least 41 = .ok (.ifCond .ge 11, 3) := by decide +kernel
theorem dX4_least_44 : decode cX4_least 44 = .ok (.aload_n 2, 1) := by decide +kernel
theorem dX4_least_45 : decode cX4_least 45 = .ok (.iload 7, 2) := by decide +kernel
theorem dX4_least_47 : decode cX4_least 47 = .ok (.laload, 1) := by decide +kernel
theorem dX4_least_48 : decode cX4_least 48 = .ok (.lstore_n 3, 1) := by decide +kernel
theorem dX4_least_49 : decode cX4_least 49 = .ok (.lconst 0, 1) := by decide +kernel
theorem dX4_least_50 : decode cX4_least 50 = .ok (.lstore 5, 2) := by decide +kernel
theorem dX4_least_52 : decode cX4_least 52 = .ok (.lload 5, 2) := by decide +kernel
theorem dX4_least_54 : decode cX4_least 54 = .ok (.lconst 1, 1) := by decide +kernel
theorem dX4_least_55 : decode cX4_least 55 = .ok (.iload 7, 2) := by decide +kernel
theorem dX4_least_57 : decode cX4_least 57 = .ok (.lshl, 1) := by decide +kernel
theorem dX4_least_58 : decode cX4_least 58 = .ok (.lor, 1) := by decide +kernel
theorem dX4_least_59 : decode cX4_least 59 = .ok (.lstore 5, 2) := by decide +kernel
theorem dX4_least_61 : decode cX4_least 61 = .ok (.iinc 7 1, 3) := by decide +kernel
theorem dX4_least_64 : decode cX4_least 64 = .ok (.goto (-54), 3) := by decide +kernel
theorem dX4_least_67 : decode cX4_least 67 = .ok (.lload 5, 2) := by decide +kernel
theorem dX4_least_69 : decode cX4_least 69 = .ok (.lreturn, 1) := by decide +kernel
theorem dX4_isIn_0 : decode cX4_isIn 0 = .ok (.lload_n 0, 1) := by decide +kernel
theorem dX4_isIn_1 : decode cX4_isIn 1 = .ok (.iload_n 2, 1) := by decide +kernel
theorem dX4_isIn_2 : decode cX4_isIn 2 = .ok (.lushr, 1) := by decide +kernel
theorem dX4_isIn_3 : decode cX4_isIn 3 = .ok (.lconst 1, 1) := by decide +kernel
theorem dX4_isIn_4 : decode cX4_isIn 4 = .ok (.land, 1) := by decide +kernel
theorem dX4_isIn_5 : decode cX4_isIn 5 = .ok (.lconst 0, 1) := by decide +kernel
theorem dX4_isIn_6 : decode cX4_isIn 6 = .ok (.lcmp, 1) := by decide +kernel
theorem dX4_isIn_7 : decode cX4_isIn 7 = .ok (.ifCond .eq 7, 3) := by decide +kernel
theorem dX4_isIn_10 : decode cX4_isIn 10 = .ok (.iconst 1, 1) := by decide +kernel
theorem dX4_isIn_11 : decode cX4_isIn 11 = .ok (.goto 4, 3) := by decide +kernel
theorem dX4_isIn_14 : decode cX4_isIn 14 = .ok (.iconst 0, 1) := by decide +kernel
theorem dX4_isIn_15 : decode cX4_isIn 15 = .ok (.ireturn, 1) := by decide +kernel
set_option maxRecDepth 20000 in
theorem ggX4_goneAlong_X4_isIn : GoodIn wsX4_goneAlong wsX4_isIn := goodIn_r _ [6] (by decide +kernel) (by decide +kernel)
set_option maxRecDepth 20000 in
theorem gX4_goneAlong_X4_isIn : GoodIn wsX4_goneAlong (va_wsS RX4 217 yX4_isIn wsX4_isIn) := goodIn_app (goodIn_of _ (by decide +kernel)) ggX4_goneAlong_X4_isIn
set_option maxRecDepth 20000 in
theorem ggX4_goneAlong_X4_least : GoodIn wsX4_goneAlong wsX4_least := goodIn_r _ [9, 10, 3, 4, 5, 6] (by decide +kernel) (by decide +kernel)
set_option maxRecDepth 20000 in
theorem gX4_goneAlong_X4_least : GoodIn wsX4_goneAlong (va_wsS RX4 140 yX4_least wsX4_least) := goodIn_app (goodIn_of _ (by decide +kernel)) ggX4_goneAlong_X4_least
theorem dX4_goneAlong_0 : decode cX4_goneAlong 0 = .ok (.lconst 0, 1) := by decide +kernel
theorem dX4_goneAlong_1 : decode cX4_goneAlong 1 = .ok (.lstore 5, 2) := by decide +kernel
theorem dX4_goneAlong_3 : decode cX4_goneAlong 3 = .ok (.iconst 0, 1) := by decide +kernel
theorem dX4_goneAlong_4 : decode cX4_goneAlong 4 = .ok (.istore 7, 2) := by decide +kernel
theorem dX4_goneAlong_6 : decode cX4_goneAlong 6 = .ok (.iload 7, 2) := by decide +kernel
theorem dX4_goneAlong_8 : decode cX4_goneAlong 8 = .ok (.bipush 64, 2) := by decide +kernel
theorem dX4_goneAlong_10 : decode cX4_goneAlong 10 = .ok (.if_icmp .ge 68, 3) := by decide +kernel
theorem dX4_goneAlong_13 : decode cX4_goneAlong 13 = .ok (.lload_n 1, 1) := by decide +kernel
theorem dX4_goneAlong_14 : decode cX4_goneAlong 14 = .ok (.iload 7, 2) := by decide +kernel
theorem dX4_goneAlong_16 : decode cX4_goneAlong 16 = .ok (.invokestatic 217, 3) := by decide +kernel
theorem dX4_goneAlong_19 : decode cX4_goneAlong 19 = .ok (.ifCond .eq 53, 3) := by decide +kernel
theorem dX4_goneAlong_22 : decode cX4_goneAlong 22 = .ok (.iconst 0, 1) := by decide +kernel
theorem dX4_goneAlong_23 : decode cX4_goneAlong 23 = .ok (.istore 8, 2) := by decide +kernel
theorem dX4_goneAlong_25 : decode cX4_goneAlong 25 = .ok (.iload 8, 2) := by decide +kernel
theorem dX4_goneAlong_27 : decode cX4_goneAlong 27 = .ok (.bipush 64, 2) := by decide +kernel
theorem dX4_goneAlong_29 : decode cX4_goneAlong 29 = .ok (.if_icmp .ge 30, 3) := by decide +kernel
theorem dX4_goneAlong_32 : decode cX4_goneAlong 32 = .ok (.aload_n 0, 1) := by decide +kernel
theorem dX4_goneAlong_33 : decode cX4_goneAlong 33 = .ok (.getfield 60, 3) := by decide +kernel
theorem dX4_goneAlong_36 : decode cX4_goneAlong 36 = .ok (.iload 8, 2) := by decide +kernel
theorem dX4_goneAlong_38 : decode cX4_goneAlong 38 = .ok (.aload_n 0, 1) := by decide +kernel
theorem dX4_goneAlong_39 : decode cX4_goneAlong 39 = .ok (.getfield 44, 3) := by decide +kernel
theorem dX4_goneAlong_42 : decode cX4_goneAlong 42 = .ok (.getfield 122, 3) := by decide +kernel
theorem dX4_goneAlong_45 : decode cX4_goneAlong 45 = .ok (.iload 7, 2) := by decide +kernel
theorem dX4_goneAlong_47 : decode cX4_goneAlong 47 = .ok (.iload 8, 2) := by decide +kernel
theorem dX4_goneAlong_49 : decode cX4_goneAlong 49 = .ok (.ixor, 1) := by decide +kernel
theorem dX4_goneAlong_50 : decode cX4_goneAlong 50 = .ok (.iaload, 1) := by decide +kernel
theorem dX4_goneAlong_51 : decode cX4_goneAlong 51 = .ok (.i2l, 1) := by decide +kernel
theorem dX4_goneAlong_52 : decode cX4_goneAlong 52 = .ok (.lastore, 1) := by decide +kernel
theorem dX4_goneAlong_53 : decode cX4_goneAlong 53 = .ok (.iinc 8 1, 3) := by decide +kernel
theorem dX4_goneAlong_56 : decode cX4_goneAlong 56 = .ok (.goto (-31), 3) := by decide +kernel
theorem dX4_goneAlong_59 : decode cX4_goneAlong 59 = .ok (.lload 5, 2) := by decide +kernel
theorem dX4_goneAlong_61 : decode cX4_goneAlong 61 = .ok (.lload_n 3, 1) := by decide +kernel
theorem dX4_goneAlong_62 : decode cX4_goneAlong 62 = .ok (.aload_n 0, 1) := by decide +kernel
theorem dX4_goneAlong_63 : decode cX4_goneAlong 63 = .ok (.getfield 60, 3) := by decide +kernel
theorem dX4_goneAlong_66 : decode cX4_goneAlong 66 = .ok (.invokestatic 140, 3) := by decide +kernel
theorem dX4_goneAlong_69 : decode cX4_goneAlong 69 = .ok (.lor, 1) := by decide +kernel
theorem dX4_goneAlong_70 : decode cX4_goneAlong 70 = .ok (.lstore 5, 2) := by decide +kernel
theorem dX4_goneAlong_72 : decode cX4_goneAlong 72 = .ok (.iinc 7 1, 3) := by decide +kernel
theorem dX4_goneAlong_75 : decode cX4_goneAlong 75 = .ok (.goto (-69), 3) := by decide +kernel
theorem dX4_goneAlong_78 : decode cX4_goneAlong 78 = .ok (.lload 5, 2) := by decide +kernel
theorem dX4_goneAlong_80 : decode cX4_goneAlong 80 = .ok (.lreturn, 1) := by decide +kernel
set_option maxRecDepth 20000 in
theorem ggX4_mergedBy_X4_weighed : GoodIn wsX4_mergedBy wsX4_weighed := goodIn_r _ [7, 2, 8, 9, 10, 6, 11, 12, 13, 14, 15, 16, 17, 18, 19, 20, 21, 22, 23, 31, 32, 33, 34, 35, 36, 37, 38, 39, 40, 41, 42, 43, 44, 45, 46] (by decide +kernel) (by decide +kernel)
set_option maxRecDepth 20000 in
theorem gX4_mergedBy_X4_weighed : GoodIn wsX4_mergedBy (wsV RX4 136 RX4 yX4_weighed wsX4_weighed) := goodIn_app (goodIn_of _ (by decide +kernel)) ggX4_mergedBy_X4_weighed
set_option maxRecDepth 20000 in
theorem ggX4_mergedBy_X4_least : GoodIn wsX4_mergedBy wsX4_least := goodIn_r _ [26, 27, 28, 29, 6, 30] (by decide +kernel) (by decide +kernel)
set_option maxRecDepth 20000 in
theorem gX4_mergedBy_X4_least : GoodIn wsX4_mergedBy (va_wsS RX4 140 yX4_least wsX4_least) := goodIn_app (goodIn_of _ (by decide +kernel)) ggX4_mergedBy_X4_least
theorem dX4_mergedBy_0 : decode cX4_mergedBy 0 = .ok (.iconst 0, 1) := by decide +kernel
theorem dX4_mergedBy_1 : decode cX4_mergedBy 1 = .ok (.istore_n 2, 1) := by decide +kernel
theorem dX4_mergedBy_2 : decode cX4_mergedBy 2 = .ok (.iload_n 2, 1) := by decide +kernel
theorem dX4_mergedBy_3 : decode cX4_mergedBy 3 = .ok (.bipush 64, 2) := by decide +kernel
theorem dX4_mergedBy_5 : decode cX4_mergedBy 5 = .ok (.if_icmp .ge 22, 3) := by decide +kernel
theorem dX4_mergedBy_8 : decode cX4_mergedBy 8 = .ok (.aload_n 0, 1) := by decide +kernel
theorem dX4_mergedBy_9 : decode cX4_mergedBy 9 = .ok (.getfield 60, 3) := by decide +kernel
theorem dX4_mergedBy_12 : decode cX4_mergedBy 12 = .ok (.iload_n 2, 1) := by decide +kernel
theorem dX4_mergedBy_13 : decode cX4_mergedBy 13 = .ok (.aload_n 0, 1) := by decide +kernel
theorem dX4_mergedBy_14 : decode cX4_mergedBy 14 = .ok (.iload_n 1, 1) := by decide +kernel
theorem dX4_mergedBy_15 : decode cX4_mergedBy 15 = .ok (.iload_n 2, 1) := by decide +kernel
theorem dX4_mergedBy_16 : decode cX4_mergedBy 16 = .ok (.iconst (-1), 1) := by decide +kernel
theorem dX4_mergedBy_17 : decode cX4_mergedBy 17 = .ok (.invokevirtual 136, 3) := by decide +kernel
theorem dX4_mergedBy_20 : decode cX4_mergedBy 20 = .ok (.lastore, 1) := by decide +kernel
theorem dX4_mergedBy_21 : decode cX4_mergedBy 21 = .ok (.iinc 2 1, 3) := by decide +kernel
theorem dX4_mergedBy_24 : decode cX4_mergedBy 24 = .ok (.goto (-22), 3) := by decide +kernel
theorem dX4_mergedBy_27 : decode cX4_mergedBy 27 = .ok (.aload_n 0, 1) := by decide +kernel
theorem dX4_mergedBy_28 : decode cX4_mergedBy 28 = .ok (.getfield 28, 3) := by decide +kernel
theorem dX4_mergedBy_31 : decode cX4_mergedBy 31 = .ok (.getfield 101, 3) := by decide +kernel
theorem dX4_mergedBy_34 : decode cX4_mergedBy 34 = .ok (.aload_n 0, 1) := by decide +kernel
theorem dX4_mergedBy_35 : decode cX4_mergedBy 35 = .ok (.getfield 60, 3) := by decide +kernel
theorem dX4_mergedBy_38 : decode cX4_mergedBy 38 = .ok (.invokestatic 140, 3) := by decide +kernel
theorem dX4_mergedBy_41 : decode cX4_mergedBy 41 = .ok (.lreturn, 1) := by decide +kernel
set_option maxRecDepth 20000 in
theorem ggX4_weighed_X4_burdenOf : GoodIn wsX4_weighed wsX4_burdenOf := goodIn_r _ [6, 1, 7, 19, 20, 21, 22, 23, 24, 25, 26, 27, 28, 29, 30, 31, 32, 33, 34] (by decide +kernel) (by decide +kernel)
set_option maxRecDepth 20000 in
theorem gX4_weighed_X4_burdenOf : GoodIn wsX4_weighed (wsV RX4 125 RX4 yX4_burdenOf wsX4_burdenOf) := goodIn_app (goodIn_of _ (by decide +kernel)) ggX4_weighed_X4_burdenOf
set_option maxRecDepth 20000 in
theorem ggX4_weighed_X4_joined : GoodIn wsX4_weighed wsX4_joined := goodIn_r _ [10, 11, 12, 13, 14, 15, 16, 5, 17, 18] (by decide +kernel) (by decide +kernel)
end
section
set_option maxRecDepth 20000 in
theorem gX4_weighed_X4_joined : GoodIn wsX4_weighed (va_wsS RX4 221 yX4_joined wsX4_joined) := goodIn_app (goodIn_of _ (by decide +kernel)) ggX4_weighed_X4_joined
theorem dX4_weighed_0 : decode cX4_weighed 0 = .ok (.lconst 0, 1) := by decide +kernel
theorem dX4_weighed_1 : decode cX4_weighed 1 = .ok (.lstore 4, 2) := by decide +kernel
theorem dX4_weighed_3 : decode cX4_weighed 3 = .ok (.iconst 0, 1) := by decide +kernel
theorem dX4_weighed_4 : decode cX4_weighed 4 = .ok (.istore 6, 2) := by decide +kernel
theorem dX4_weighed_6 : decode cX4_weighed 6 = .ok (.iload 6, 2) := by decide +kernel
theorem dX4_weighed_8 : decode cX4_weighed 8 = .ok (.aload_n 0, 1) := by decide +kernel
theorem dX4_weighed_9 : decode cX4_weighed 9 = .ok (.getfield 28, 3) := by decide +kernel
theorem dX4_weighed_12 : decode cX4_weighed 12 = .ok (.getfield 94, 3) := by decide +kernel
theorem dX4_weighed_15 : decode cX4_weighed 15 = .ok (.if_icmp .ge 30, 3) := by decide +kernel
theorem dX4_weighed_18 : decode cX4_weighed 18 = .ok (.iload 6, 2) := by decide +kernel
theorem dX4_weighed_20 : decode cX4_weighed 20 = .ok (.iload_n 3, 1) := by decide +kernel
theorem dX4_weighed_21 : decode cX4_weighed 21 = .ok (.if_icmp .eq 18, 3) := by decide +kernel
theorem dX4_weighed_24 : decode cX4_weighed 24 = .ok (.iload_n 1, 1) := by decide +kernel
theorem dX4_weighed_25 : decode cX4_weighed 25 = .ok (.lload 4, 2) := by decide +kernel
theorem dX4_weighed_27 : decode cX4_weighed 27 = .ok (.aload_n 0, 1) := by decide +kernel
theorem dX4_weighed_28 : decode cX4_weighed 28 = .ok (.iload 6, 2) := by decide +kernel
theorem dX4_weighed_30 : decode cX4_weighed 30 = .ok (.iload_n 2, 1) := by decide +kernel
theorem dX4_weighed_31 : decode cX4_weighed 31 = .ok (.invokevirtual 125, 3) := by decide +kernel
theorem dX4_weighed_34 : decode cX4_weighed 34 = .ok (.invokestatic 221, 3) := by decide +kernel
theorem dX4_weighed_37 : decode cX4_weighed 37 = .ok (.lstore 4, 2) := by decide +kernel
theorem dX4_weighed_39 : decode cX4_weighed 39 = .ok (.iinc 6 1, 3) := by decide +kernel
theorem dX4_weighed_42 : decode cX4_weighed 42 = .ok (.goto (-36), 3) := by decide +kernel
theorem dX4_weighed_45 : decode cX4_weighed 45 = .ok (.lload 4, 2) := by decide +kernel
theorem dX4_weighed_47 : decode cX4_weighed 47 = .ok (.lreturn, 1) := by decide +kernel
set_option maxRecDepth 20000 in
theorem ggX4_joined_X4_putIntoRow : GoodIn wsX4_joined wsX4_putIntoRow := goodIn_r _ [8, 9] (by decide +kernel) (by decide +kernel)
set_option maxRecDepth 20000 in
theorem gX4_joined_X4_putIntoRow : GoodIn wsX4_joined (va_wsS RX4 230 yX4_putIntoRow wsX4_putIntoRow) := goodIn_app (goodIn_of _ (by decide +kernel)) ggX4_joined_X4_putIntoRow
theorem dX4_joined_0 : decode cX4_joined 0 = .ok (.iload_n 0, 1) := by decide +kernel
theorem dX4_joined_1 : decode cX4_joined 1 = .ok (.ifCond .ne 7, 3) := by decide +kernel
theorem dX4_joined_4 : decode cX4_joined 4 = .ok (.lload_n 1, 1) := by decide +kernel
theorem dX4_joined_5 : decode cX4_joined 5 = .ok (.lload_n 3, 1) := by decide +kernel
theorem dX4_joined_6 : decode cX4_joined 6 = .ok (.ladd, 1) := by decide +kernel
theorem dX4_joined_7 : decode cX4_joined 7 = .ok (.lreturn, 1) := by decide +kernel
theorem dX4_joined_8 : decode cX4_joined 8 = .ok (.iload_n 0, 1) := by decide +kernel
theorem dX4_joined_9 : decode cX4_joined 9 = .ok (.iconst 1, 1) := by decide +kernel
theorem dX4_joined_10 : decode cX4_joined 10 = .ok (.if_icmp .ne 9, 3) := by decide +kernel
theorem dX4_joined_13 : decode cX4_joined 13 = .ok (.lload_n 1, 1) := by decide +kernel
theorem dX4_joined_14 : decode cX4_joined 14 = .ok (.lload_n 3, 1) := by decide +kernel
theorem dX4_joined_15 : decode cX4_joined 15 = .ok (.invokestatic 225, 3) := by decide +kernel
theorem dX4_joined_18 : decode cX4_joined 18 = .ok (.lreturn, 1) := by decide +kernel
theorem dX4_joined_19 : decode cX4_joined 19 = .ok (.lload_n 1, 1) := by decide +kernel
theorem dX4_joined_20 : decode cX4_joined 20 = .ok (.lload_n 3, 1) := by decide +kernel
theorem dX4_joined_21 : decode cX4_joined 21 = .ok (.invokestatic 230, 3) := by decide +kernel
theorem dX4_joined_24 : decode cX4_joined 24 = .ok (.lreturn, 1) := by decide +kernel
theorem dX4_putIntoRow_0 : decode cX4_putIntoRow 0 = .ok (.lload_n 2, 1) := by decide +kernel
theorem dX4_putIntoRow_1 : decode cX4_putIntoRow 1 = .ok (.lstore 4, 2) := by decide +kernel
theorem dX4_putIntoRow_3 : decode cX4_putIntoRow 3 = .ok (.bipush 54, 2) := by decide +kernel
theorem dX4_putIntoRow_5 : decode cX4_putIntoRow 5 = .ok (.istore 6, 2) := by decide +kernel
theorem dX4_putIntoRow_7 : decode cX4_putIntoRow 7 = .ok (.iload 6, 2) := by decide +kernel
theorem dX4_putIntoRow_9 : decode cX4_putIntoRow 9 = .ok (.ifCond .lt 49, 3) := by decide +kernel
theorem dX4_putIntoRow_12 : decode cX4_putIntoRow 12 = .ok (.lload 4, 2) := by decide +kernel
theorem dX4_putIntoRow_14 : decode cX4_putIntoRow 14 = .ok (.lconst 0, 1) := by decide +kernel
theorem dX4_putIntoRow_15 : decode cX4_putIntoRow 15 = .ok (.lcmp, 1) := by decide +kernel
theorem dX4_putIntoRow_16 : decode cX4_putIntoRow 16 = .ok (.ifCond .le 42, 3) := by decide +kernel
theorem dX4_putIntoRow_19 : decode cX4_putIntoRow 19 = .ok (.lload_n 0, 1) := by decide +kernel
theorem dX4_putIntoRow_20 : decode cX4_putIntoRow 20 = .ok (.iload 6, 2) := by decide +kernel
theorem dX4_putIntoRow_22 : decode cX4_putIntoRow 22 = .ok (.lushr, 1) := by decide +kernel
theorem dX4_putIntoRow_23 : decode cX4_putIntoRow 23 = .ok (.ldc2_w 233, 3) := by decide +kernel
theorem dX4_putIntoRow_26 : decode cX4_putIntoRow 26 = .ok (.land, 1) := by decide +kernel
theorem dX4_putIntoRow_27 : decode cX4_putIntoRow 27 = .ok (.lstore 7, 2) := by decide +kernel
theorem dX4_putIntoRow_29 : decode cX4_putIntoRow 29 = .ok (.lload 4, 2) := by decide +kernel
theorem dX4_putIntoRow_31 : decode cX4_putIntoRow 31 = .ok (.lload 7, 2) := by decide +kernel
theorem dX4_putIntoRow_33 : decode cX4_putIntoRow 33 = .ok (.lcmp, 1) := by decide +kernel
theorem dX4_putIntoRow_34 : decode cX4_putIntoRow 34 = .ok (.ifCond .le 18, 3) := by decide +kernel
theorem dX4_putIntoRow_37 : decode cX4_putIntoRow 37 = .ok (.lload_n 0, 1) := by decide +kernel
theorem dX4_putIntoRow_38 : decode cX4_putIntoRow 38 = .ok (.lload 4, 2) := by decide +kernel
theorem dX4_putIntoRow_40 : decode cX4_putIntoRow 40 = .ok (.lload 7, 2) := by decide +kernel
theorem dX4_putIntoRow_42 : decode cX4_putIntoRow 42 = .ok (.lsub, 1) := by decide +kernel
theorem dX4_putIntoRow_43 : decode cX4_putIntoRow 43 = .ok (.iload 6, 2) := by decide +kernel
theorem dX4_putIntoRow_45 : decode cX4_putIntoRow 45 = .ok (.lshl, 1) := by decide +kernel
theorem dX4_putIntoRow_46 : decode cX4_putIntoRow 46 = .ok (.ladd, 1) := by decide +kernel
theorem dX4_putIntoRow_47 : decode cX4_putIntoRow 47 = .ok (.lstore_n 0, 1) := by decide +kernel
theorem dX4_putIntoRow_48 : decode cX4_putIntoRow 48 = .ok (.lload 7, 2) := by decide +kernel
theorem dX4_putIntoRow_50 : decode cX4_putIntoRow 50 = .ok (.lstore 4, 2) := by decide +kernel
theorem dX4_putIntoRow_52 : decode cX4_putIntoRow 52 = .ok (.iinc 6 (-9), 3) := by decide +kernel
theorem dX4_putIntoRow_55 : decode cX4_putIntoRow 55 = .ok (.goto (-48), 3) := by decide +kernel
theorem dX4_putIntoRow_58 : decode cX4_putIntoRow 58 = .ok (.lload_n 0, 1) := by decide +kernel
theorem dX4_putIntoRow_59 : decode cX4_putIntoRow 59 = .ok (.lreturn, 1) := by decide +kernel
set_option maxRecDepth 20000 in
theorem ggX4_lossOf_X4_isIn : GoodIn wsX4_lossOf wsX4_isIn := goodIn_r _ [9] (by decide +kernel) (by decide +kernel)
set_option maxRecDepth 20000 in
theorem gX4_lossOf_X4_isIn : GoodIn wsX4_lossOf (va_wsS RX4 217 yX4_isIn wsX4_isIn) := goodIn_app (goodIn_of _ (by decide +kernel)) ggX4_lossOf_X4_isIn
theorem dX4_lossOf_0 : decode cX4_lossOf 0 = .ok (.lconst 0, 1) := by decide +kernel
theorem dX4_lossOf_1 : decode cX4_lossOf 1 = .ok (.lstore 4, 2) := by decide +kernel
theorem dX4_lossOf_3 : decode cX4_lossOf 3 = .ok (.iconst 0, 1) := by decide +kernel
theorem dX4_lossOf_4 : decode cX4_lossOf 4 = .ok (.istore 6, 2) := by decide +kernel
theorem dX4_lossOf_6 : decode cX4_lossOf 6 = .ok (.iload 6, 2) := by decide +kernel
theorem dX4_lossOf_8 : decode cX4_lossOf 8 = .ok (.bipush 64, 2) := by decide +kernel
theorem dX4_lossOf_10 : decode cX4_lossOf 10 = .ok (.if_icmp .ge 34, 3) := by decide +kernel
theorem dX4_lossOf_13 : decode cX4_lossOf 13 = .ok (.lload_n 2, 1) := by decide +kernel
theorem dX4_lossOf_14 : decode cX4_lossOf 14 = .ok (.iload 6, 2) := by decide +kernel
theorem dX4_lossOf_16 : decode cX4_lossOf 16 = .ok (.invokestatic 217, 3) := by decide +kernel
theorem dX4_lossOf_19 : decode cX4_lossOf 19 = .ok (.ifCond .eq 19, 3) := by decide +kernel
theorem dX4_lossOf_22 : decode cX4_lossOf 22 = .ok (.lload 4, 2) := by decide +kernel
theorem dX4_lossOf_24 : decode cX4_lossOf 24 = .ok (.aload_n 0, 1) := by decide +kernel
theorem dX4_lossOf_25 : decode cX4_lossOf 25 = .ok (.getfield 50, 3) := by decide +kernel
theorem dX4_lossOf_28 : decode cX4_lossOf 28 = .ok (.iload_n 1, 1) := by decide +kernel
theorem dX4_lossOf_29 : decode cX4_lossOf 29 = .ok (.aaload, 1) := by decide +kernel
theorem dX4_lossOf_30 : decode cX4_lossOf 30 = .ok (.iload 6, 2) := by decide +kernel
theorem dX4_lossOf_32 : decode cX4_lossOf 32 = .ok (.laload, 1) := by decide +kernel
theorem dX4_lossOf_33 : decode cX4_lossOf 33 = .ok (.invokestatic 225, 3) := by decide +kernel
theorem dX4_lossOf_36 : decode cX4_lossOf 36 = .ok (.lstore 4, 2) := by decide +kernel
theorem dX4_lossOf_38 : decode cX4_lossOf 38 = .ok (.iinc 6 1, 3) := by decide +kernel
theorem dX4_lossOf_41 : decode cX4_lossOf 41 = .ok (.goto (-35), 3) := by decide +kernel
theorem dX4_lossOf_44 : decode cX4_lossOf 44 = .ok (.lload 4, 2) := by decide +kernel
theorem dX4_lossOf_46 : decode cX4_lossOf 46 = .ok (.lreturn, 1) := by decide +kernel
set_option maxRecDepth 20000 in
theorem ggX4_bestLie_X4_weighed : GoodIn wsX4_bestLie wsX4_weighed := goodIn_r _ [7, 2, 8, 9, 10, 6, 11, 12, 13, 14, 15, 16, 17, 18, 19, 20, 21, 22, 23, 41, 42, 43, 44, 45, 46, 47, 48, 49, 50, 51, 52, 53, 54, 55, 56] (by decide +kernel) (by decide +kernel)
set_option maxRecDepth 20000 in
theorem gX4_bestLie_X4_weighed : GoodIn wsX4_bestLie (wsV RX4 136 RX4 yX4_weighed wsX4_weighed) := goodIn_app (goodIn_of _ (by decide +kernel)) ggX4_bestLie_X4_weighed
set_option maxRecDepth 20000 in
theorem ggX4_bestLie_X4_mergedWithTerm : GoodIn wsX4_bestLie wsX4_mergedWithTerm := goodIn_r _ [27, 28, 1, 29, 2, 13, 14, 6, 15, 16, 17, 18, 19, 20, 21, 22, 23, 30, 31, 32, 33, 34, 35, 36, 41, 42, 43, 44, 45, 46, 47, 48, 49, 50, 51, 57, 58, 59, 52, 53, 54, 55, 56] (by decide +kernel) (by decide +kernel)
set_option maxRecDepth 20000 in
theorem gX4_bestLie_X4_mergedWithTerm : GoodIn wsX4_bestLie (wsV RX4 235 RX4 yX4_mergedWithTerm wsX4_mergedWithTerm) := goodIn_app (goodIn_of _ (by decide +kernel)) ggX4_bestLie_X4_mergedWithTerm
set_option maxRecDepth 20000 in
theorem ggX4_bestLie_X4_lossOf : GoodIn wsX4_bestLie wsX4_lossOf := goodIn_r _ [40, 12, 16, 17, 18, 19, 34, 35, 6, 36, 41, 42, 43, 44, 45, 46, 47, 48, 49, 50, 51] (by decide +kernel) (by decide +kernel)
set_option maxRecDepth 20000 in
theorem gX4_bestLie_X4_lossOf : GoodIn wsX4_bestLie (wsV RX4 178 RX4 yX4_lossOf wsX4_lossOf) := goodIn_app (goodIn_of _ (by decide +kernel)) ggX4_bestLie_X4_lossOf
theorem dX4_bestLie_0 : decode cX4_bestLie 0 = .ok (.iconst 0, 1) := by decide +kernel
theorem dX4_bestLie_1 : decode cX4_bestLie 1 = .ok (.istore 6, 2) := by decide +kernel
theorem dX4_bestLie_3 : decode cX4_bestLie 3 = .ok (.iload 6, 2) := by decide +kernel
theorem dX4_bestLie_5 : decode cX4_bestLie 5 = .ok (.bipush 64, 2) := by decide +kernel
theorem dX4_bestLie_7 : decode cX4_bestLie 7 = .ok (.if_icmp .ge 24, 3) := by decide +kernel
theorem dX4_bestLie_10 : decode cX4_bestLie 10 = .ok (.aload_n 0, 1) := by decide +kernel
theorem dX4_bestLie_11 : decode cX4_bestLie 11 = .ok (.getfield 57, 3) := by decide +kernel
theorem dX4_bestLie_14 : decode cX4_bestLie 14 = .ok (.iload 6, 2) := by decide +kernel
theorem dX4_bestLie_16 : decode cX4_bestLie 16 = .ok (.aload_n 0, 1) := by decide +kernel
theorem dX4_bestLie_17 : decode cX4_bestLie 17 = .ok (.iload_n 2, 1) := by decide +kernel
theorem dX4_bestLie_18 : decode cX4_bestLie 18 = .ok (.iload 6, 2) := by decide +kernel
theorem dX4_bestLie_20 : decode cX4_bestLie 20 = .ok (.iload_n 1, 1) := by decide +kernel
theorem dX4_bestLie_21 : decode cX4_bestLie 21 = .ok (.invokevirtual 136, 3) := by decide +kernel
theorem dX4_bestLie_24 : decode cX4_bestLie 24 = .ok (.lastore, 1) := by decide +kernel
theorem dX4_bestLie_25 : decode cX4_bestLie 25 = .ok (.iinc 6 1, 3) := by decide +kernel
theorem dX4_bestLie_28 : decode cX4_bestLie 28 = .ok (.goto (-25), 3) := by decide +kernel
theorem dX4_bestLie_31 : decode cX4_bestLie 31 = .ok (.lload_n 3, 1) := by decide +kernel
theorem dX4_bestLie_32 : decode cX4_bestLie 32 = .ok (.lstore 6, 2) := by decide +kernel
theorem dX4_bestLie_34 : decode cX4_bestLie 34 = .ok (.bipush (-9), 2) := by decide +kernel
theorem dX4_bestLie_36 : decode cX4_bestLie 36 = .ok (.istore 8, 2) := by decide +kernel
theorem dX4_bestLie_38 : decode cX4_bestLie 38 = .ok (.sipush 4096, 3) := by decide +kernel
theorem dX4_bestLie_41 : decode cX4_bestLie 41 = .ok (.istore 9, 2) := by decide +kernel
theorem dX4_bestLie_43 : decode cX4_bestLie 43 = .ok (.iconst 0, 1) := by decide +kernel
theorem dX4_bestLie_44 : decode cX4_bestLie 44 = .ok (.istore 10, 2) := by decide +kernel
theorem dX4_bestLie_46 : decode cX4_bestLie 46 = .ok (.iload 10, 2) := by decide +kernel
theorem dX4_bestLie_48 : decode cX4_bestLie 48 = .ok (.iload 9, 2) := by decide +kernel
theorem dX4_bestLie_50 : decode cX4_bestLie 50 = .ok (.if_icmp .ge 79, 3) := by decide +kernel
theorem dX4_bestLie_53 : decode cX4_bestLie 53 = .ok (.lload 6, 2) := by decide +kernel
theorem dX4_bestLie_55 : decode cX4_bestLie 55 = .ok (.lconst 0, 1) := by decide +kernel
theorem dX4_bestLie_56 : decode cX4_bestLie 56 = .ok (.lcmp, 1) := by decide +kernel
theorem dX4_bestLie_57 : decode cX4_bestLie 57 = .ok (.ifCond .le 72, 3) := by decide +kernel
theorem dX4_bestLie_60 : decode cX4_bestLie 60 = .ok (.iload 10, 2) := by decide +kernel
theorem dX4_bestLie_62 : decode cX4_bestLie 62 = .ok (.bipush 64, 2) := by decide +kernel
theorem dX4_bestLie_64 : decode cX4_bestLie 64 = .ok (.idiv, 1) := by decide +kernel
theorem dX4_bestLie_65 : decode cX4_bestLie 65 = .ok (.istore 11, 2) := by decide +kernel
theorem dX4_bestLie_67 : decode cX4_bestLie 67 = .ok (.iload 10, 2) := by decide +kernel
theorem dX4_bestLie_69 : decode cX4_bestLie 69 = .ok (.bipush 64, 2) := by decide +kernel
theorem dX4_bestLie_71 : decode cX4_bestLie 71 = .ok (.irem, 1) := by decide +kernel
theorem dX4_bestLie_72 : decode cX4_bestLie 72 = .ok (.istore 12, 2) := by decide +kernel
theorem dX4_bestLie_74 : decode cX4_bestLie 74 = .ok (.iload 11, 2) := by decide +kernel
theorem dX4_bestLie_76 : decode cX4_bestLie 76 = .ok (.iload 12, 2) := by decide +kernel
theorem dX4_bestLie_78 : decode cX4_bestLie 78 = .ok (.iand, 1) := by decide +kernel
theorem dX4_bestLie_79 : decode cX4_bestLie 79 = .ok (.ifCond .ne 44, 3) := by decide +kernel
theorem dX4_bestLie_82 : decode cX4_bestLie 82 = .ok (.aload_n 0, 1) := by decide +kernel
theorem dX4_bestLie_83 : decode cX4_bestLie 83 = .ok (.iload_n 1, 1) := by decide +kernel
theorem dX4_bestLie_84 : decode cX4_bestLie 84 = .ok (.aload_n 0, 1) := by decide +kernel
theorem dX4_bestLie_85 : decode cX4_bestLie 85 = .ok (.aload_n 0, 1) := by decide +kernel
theorem dX4_bestLie_86 : decode cX4_bestLie 86 = .ok (.getfield 28, 3) := by decide +kernel
theorem dX4_bestLie_89 : decode cX4_bestLie 89 = .ok (.getfield 212, 3) := by decide +kernel
theorem dX4_bestLie_92 : decode cX4_bestLie 92 = .ok (.iload_n 1, 1) := by decide +kernel
theorem dX4_bestLie_93 : decode cX4_bestLie 93 = .ok (.iaload, 1) := by decide +kernel
theorem dX4_bestLie_94 : decode cX4_bestLie 94 = .ok (.iload_n 2, 1) := by decide +kernel
theorem dX4_bestLie_95 : decode cX4_bestLie 95 = .ok (.iload 11, 2) := by decide +kernel
theorem dX4_bestLie_97 : decode cX4_bestLie 97 = .ok (.iload 12, 2) := by decide +kernel
theorem dX4_bestLie_99 : decode cX4_bestLie 99 = .ok (.invokevirtual 235, 3) := by decide +kernel
theorem dX4_bestLie_102 : decode cX4_bestLie 102 = .ok (.invokevirtual 178, 3) := by decide +kernel
theorem dX4_bestLie_105 : decode cX4_bestLie 105 = .ok (.lstore 13, 2) := by decide +kernel
theorem dX4_bestLie_107 : decode cX4_bestLie 107 = .ok (.lload 13, 2) := by decide +kernel
theorem dX4_bestLie_109 : decode cX4_bestLie 109 = .ok (.lload 6, 2) := by decide +kernel
theorem dX4_bestLie_111 : decode cX4_bestLie 111 = .ok (.lcmp, 1) := by decide +kernel
theorem dX4_bestLie_112 : decode cX4_bestLie 112 = .ok (.ifCond .ge 11, 3) := by decide +kernel
theorem dX4_bestLie_115 : decode cX4_bestLie 115 = .ok (.lload 13, 2) := by decide +kernel
theorem dX4_bestLie_117 : decode cX4_bestLie 117 = .ok (.lstore 6, 2) := by decide +kernel
theorem dX4_bestLie_119 : decode cX4_bestLie 119 = .ok (.iload 10, 2) := by decide +kernel
theorem dX4_bestLie_121 : decode cX4_bestLie 121 = .ok (.istore 8, 2) := by decide +kernel
theorem dX4_bestLie_123 : decode cX4_bestLie 123 = .ok (.iinc 10 1, 3) := by decide +kernel
theorem dX4_bestLie_126 : decode cX4_bestLie 126 = .ok (.goto (-80), 3) := by decide +kernel
theorem dX4_bestLie_129 : decode cX4_bestLie 129 = .ok (.iload 5, 2) := by decide +kernel
theorem dX4_bestLie_131 : decode cX4_bestLie 131 = .ok (.ifCond .eq 16, 3) := by decide +kernel
theorem dX4_bestLie_134 : decode cX4_bestLie 134 = .ok (.iload 8, 2) := by decide +kernel
theorem dX4_bestLie_136 : decode cX4_bestLie 136 = .ok (.bipush (-9), 2) := by decide +kernel
theorem dX4_bestLie_138 : decode cX4_bestLie 138 = .ok (.if_icmp .eq 9, 3) := by decide +kernel
theorem dX4_bestLie_141 : decode cX4_bestLie 141 = .ok (.lload 6, 2) := by decide +kernel
theorem dX4_bestLie_143 : decode cX4_bestLie 143 = .ok (.l2i, 1) := by decide +kernel
theorem dX4_bestLie_144 : decode cX4_bestLie 144 = .ok (.goto 5, 3) := by decide +kernel
theorem dX4_bestLie_147 : decode cX4_bestLie 147 = .ok (.iload 8, 2) := by decide +kernel
theorem dX4_bestLie_149 : decode cX4_bestLie 149 = .ok (.ireturn, 1) := by decide +kernel
set_option maxRecDepth 20000 in
theorem ggX4_mergedWithTerm_X4_joined : GoodIn wsX4_mergedWithTerm wsX4_joined := goodIn_r _ [8, 9, 10, 11, 12, 13, 14, 7, 15, 16] (by decide +kernel) (by decide +kernel)
set_option maxRecDepth 20000 in
theorem gX4_mergedWithTerm_X4_joined : GoodIn wsX4_mergedWithTerm (va_wsS RX4 221 yX4_joined wsX4_joined) := goodIn_app (goodIn_of _ (by decide +kernel)) ggX4_mergedWithTerm_X4_joined
set_option maxRecDepth 20000 in
theorem ggX4_mergedWithTerm_X4_least : GoodIn wsX4_mergedWithTerm wsX4_least := goodIn_r _ [19, 20, 21, 22, 7, 23] (by decide +kernel) (by decide +kernel)
set_option maxRecDepth 20000 in
theorem gX4_mergedWithTerm_X4_least : GoodIn wsX4_mergedWithTerm (va_wsS RX4 140 yX4_least wsX4_least) := goodIn_app (goodIn_of _ (by decide +kernel)) ggX4_mergedWithTerm_X4_least
theorem dX4_mergedWithTerm_0 : decode cX4_mergedWithTerm 0 = .ok (.iconst 0, 1) := by decide +kernel
theorem dX4_mergedWithTerm_1 : decode cX4_mergedWithTerm 1 = .ok (.istore 5, 2) := by decide +kernel
theorem dX4_mergedWithTerm_3 : decode cX4_mergedWithTerm 3 = .ok (.iload 5, 2) := by decide +kernel
theorem dX4_mergedWithTerm_5 : decode cX4_mergedWithTerm 5 = .ok (.bipush 64, 2) := by decide +kernel
theorem dX4_mergedWithTerm_7 : decode cX4_mergedWithTerm 7 = .ok (.if_icmp .ge 54, 3) := by decide +kernel
theorem dX4_mergedWithTerm_10 : decode cX4_mergedWithTerm 10 = .ok (.iload_n 3, 1) := by decide +kernel
theorem dX4_mergedWithTerm_11 : decode cX4_mergedWithTerm 11 = .ok (.iload 5, 2) := by decide +kernel
theorem dX4_mergedWithTerm_13 : decode cX4_mergedWithTerm 13 = .ok (.iconst (-1), 1) := by decide +kernel
theorem dX4_mergedWithTerm_14 : decode cX4_mergedWithTerm 14 = .ok (.ixor, 1) := by decide +kernel
theorem dX4_mergedWithTerm_15 : decode cX4_mergedWithTerm 15 = .ok (.iand, 1) := by decide +kernel
theorem dX4_mergedWithTerm_16 : decode cX4_mergedWithTerm 16 = .ok (.iload 4, 2) := by decide +kernel
theorem dX4_mergedWithTerm_18 : decode cX4_mergedWithTerm 18 = .ok (.iload 5, 2) := by decide +kernel
theorem dX4_mergedWithTerm_20 : decode cX4_mergedWithTerm 20 = .ok (.iand, 1) := by decide +kernel
theorem dX4_mergedWithTerm_21 : decode cX4_mergedWithTerm 21 = .ok (.ior, 1) := by decide +kernel
theorem dX4_mergedWithTerm_22 : decode cX4_mergedWithTerm 22 = .ok (.istore 6, 2) := by decide +kernel
theorem dX4_mergedWithTerm_24 : decode cX4_mergedWithTerm 24 = .ok (.aload_n 0, 1) := by decide +kernel
theorem dX4_mergedWithTerm_25 : decode cX4_mergedWithTerm 25 = .ok (.getfield 60, 3) := by decide +kernel
theorem dX4_mergedWithTerm_28 : decode cX4_mergedWithTerm 28 = .ok (.iload 5, 2) := by decide +kernel
theorem dX4_mergedWithTerm_30 : decode cX4_mergedWithTerm 30 = .ok (.iload_n 2, 1) := by decide +kernel
theorem dX4_mergedWithTerm_31 : decode cX4_mergedWithTerm 31 = .ok (.aload_n 0, 1) := by decide +kernel
theorem dX4_mergedWithTerm_32 : decode cX4_mergedWithTerm 32 = .ok (.getfield 57, 3) := by decide +kernel
theorem dX4_mergedWithTerm_35 : decode cX4_mergedWithTerm 35 = .ok (.iload 5, 2) := by decide +kernel
theorem dX4_mergedWithTerm_37 : decode cX4_mergedWithTerm 37 = .ok (.laload, 1) := by decide +kernel
theorem dX4_mergedWithTerm_38 : decode cX4_mergedWithTerm 38 = .ok (.iload_n 1, 1) := by decide +kernel
theorem dX4_mergedWithTerm_39 : decode cX4_mergedWithTerm 39 = .ok (.aload_n 0, 1) := by decide +kernel
theorem dX4_mergedWithTerm_40 : decode cX4_mergedWithTerm 40 = .ok (.getfield 44, 3) := by decide +kernel
theorem dX4_mergedWithTerm_43 : decode cX4_mergedWithTerm 43 = .ok (.getfield 122, 3) := by decide +kernel
theorem dX4_mergedWithTerm_46 : decode cX4_mergedWithTerm 46 = .ok (.iload 6, 2) := by decide +kernel
theorem dX4_mergedWithTerm_48 : decode cX4_mergedWithTerm 48 = .ok (.iaload, 1) := by decide +kernel
theorem dX4_mergedWithTerm_49 : decode cX4_mergedWithTerm 49 = .ok (.imul, 1) := by decide +kernel
theorem dX4_mergedWithTerm_50 : decode cX4_mergedWithTerm 50 = .ok (.i2l, 1) := by decide +kernel
theorem dX4_mergedWithTerm_51 : decode cX4_mergedWithTerm 51 = .ok (.invokestatic 221, 3) := by decide +kernel
theorem dX4_mergedWithTerm_54 : decode cX4_mergedWithTerm 54 = .ok (.lastore, 1) := by decide +kernel
theorem dX4_mergedWithTerm_55 : decode cX4_mergedWithTerm 55 = .ok (.iinc 5 1, 3) := by decide +kernel
theorem dX4_mergedWithTerm_58 : decode cX4_mergedWithTerm 58 = .ok (.goto (-55), 3) := by decide +kernel
theorem dX4_mergedWithTerm_61 : decode cX4_mergedWithTerm 61 = .ok (.aload_n 0, 1) := by decide +kernel
theorem dX4_mergedWithTerm_62 : decode cX4_mergedWithTerm 62 = .ok (.getfield 28, 3) := by decide +kernel
theorem dX4_mergedWithTerm_65 : decode cX4_mergedWithTerm 65 = .ok (.getfield 101, 3) := by decide +kernel
theorem dX4_mergedWithTerm_68 : decode cX4_mergedWithTerm 68 = .ok (.aload_n 0, 1) := by decide +kernel
theorem dX4_mergedWithTerm_69 : decode cX4_mergedWithTerm 69 = .ok (.getfield 60, 3) := by decide +kernel
theorem dX4_mergedWithTerm_72 : decode cX4_mergedWithTerm 72 = .ok (.invokestatic 140, 3) := by decide +kernel
theorem dX4_mergedWithTerm_75 : decode cX4_mergedWithTerm 75 = .ok (.lreturn, 1) := by decide +kernel
theorem dX4_setsOfSayers_0 : decode cX4_setsOfSayers 0 = .ok (.iconst 1, 1) := by decide +kernel
theorem dX4_setsOfSayers_1 : decode cX4_setsOfSayers 1 = .ok (.aload_n 0, 1) := by decide +kernel
theorem dX4_setsOfSayers_2 : decode cX4_setsOfSayers 2 = .ok (.getfield 28, 3) := by decide +kernel
theorem dX4_setsOfSayers_5 : decode cX4_setsOfSayers 5 = .ok (.getfield 94, 3) := by decide +kernel
theorem dX4_setsOfSayers_8 : decode cX4_setsOfSayers 8 = .ok (.ishl, 1) := by decide +kernel
theorem dX4_setsOfSayers_9 : decode cX4_setsOfSayers 9 = .ok (.ireturn, 1) := by decide +kernel
set_option maxRecDepth 20000 in
theorem ggX4_findCommon_X4_setsOfSayers : GoodIn wsX4_findCommon wsX4_setsOfSayers := goodIn_r _ [7, 2, 13, 14, 15, 16, 17, 18, 19, 20, 21, 22, 23, 24, 25, 26, 27, 28] (by decide +kernel) (by decide +kernel)
set_option maxRecDepth 20000 in
theorem gX4_findCommon_X4_setsOfSayers : GoodIn wsX4_findCommon (wsV RX4 148 RX4 yX4_setsOfSayers wsX4_setsOfSayers) := goodIn_app (goodIn_of _ (by decide +kernel)) ggX4_findCommon_X4_setsOfSayers
set_option maxRecDepth 20000 in
theorem ggX4_findCommon_J6_numberOfTrailingZeros_0f7a4 : GoodIn wsX4_findCommon wsJ6_numberOfTrailingZeros_0f7a4 := goodIn_r _ [11, 12] (by decide +kernel) (by decide +kernel)
set_option maxRecDepth 20000 in
theorem gX4_findCommon_J6_numberOfTrailingZeros_0f7a4 : GoodIn wsX4_findCommon (va_wsS RX4 239 yJ6_numberOfTrailingZeros_0f7a4 wsJ6_numberOfTrailingZeros_0f7a4) := goodIn_app (goodIn_of _ (by decide +kernel)) ggX4_findCommon_J6_numberOfTrailingZeros_0f7a4
theorem dX4_findCommon_0 : decode cX4_findCommon 0 = .ok (.aload_n 0, 1) := by decide +kernel
theorem dX4_findCommon_1 : decode cX4_findCommon 1 = .ok (.getfield 53, 3) := by decide +kernel
theorem dX4_findCommon_4 : decode cX4_findCommon 4 = .ok (.iconst 0, 1) := by decide +kernel
theorem dX4_findCommon_5 : decode cX4_findCommon 5 = .ok (.aload_n 0, 1) := by decide +kernel
theorem dX4_findCommon_6 : decode cX4_findCommon 6 = .ok (.getfield 28, 3) := by decide +kernel
theorem dX4_findCommon_9 : decode cX4_findCommon 9 = .ok (.getfield 101, 3) := by decide +kernel
theorem dX4_findCommon_12 : decode cX4_findCommon 12 = .ok (.lastore, 1) := by decide +kernel
theorem dX4_findCommon_13 : decode cX4_findCommon 13 = .ok (.iconst 1, 1) := by decide +kernel
theorem dX4_findCommon_14 : decode cX4_findCommon 14 = .ok (.istore_n 1, 1) := by decide +kernel
theorem dX4_findCommon_15 : decode cX4_findCommon 15 = .ok (.iload_n 1, 1) := by decide +kernel
theorem dX4_findCommon_16 : decode cX4_findCommon 16 = .ok (.aload_n 0, 1) := by decide +kernel
theorem dX4_findCommon_17 : decode cX4_findCommon 17 = .ok (.invokevirtual 148, 3) := by decide +kernel
theorem dX4_findCommon_20 : decode cX4_findCommon 20 = .ok (.if_icmp .ge 42, 3) := by decide +kernel
theorem dX4_findCommon_23 : decode cX4_findCommon 23 = .ok (.iload_n 1, 1) := by decide +kernel
theorem dX4_findCommon_24 : decode cX4_findCommon 24 = .ok (.invokestatic 239, 3) := by decide +kernel
theorem dX4_findCommon_27 : decode cX4_findCommon 27 = .ok (.istore_n 2, 1) := by decide +kernel
theorem dX4_findCommon_28 : decode cX4_findCommon 28 = .ok (.aload_n 0, 1) := by decide +kernel
theorem dX4_findCommon_29 : decode cX4_findCommon 29 = .ok (.getfield 53, 3) := by decide +kernel
theorem dX4_findCommon_32 : decode cX4_findCommon 32 = .ok (.iload_n 1, 1) := by decide +kernel
theorem dX4_findCommon_33 : decode cX4_findCommon 33 = .ok (.aload_n 0, 1) := by decide +kernel
theorem dX4_findCommon_34 : decode cX4_findCommon 34 = .ok (.getfield 53, 3) := by decide +kernel
theorem dX4_findCommon_37 : decode cX4_findCommon 37 = .ok (.iload_n 1, 1) := by decide +kernel
theorem dX4_findCommon_38 : decode cX4_findCommon 38 = .ok (.iconst 1, 1) := by decide +kernel
theorem dX4_findCommon_39 : decode cX4_findCommon 39 = .ok (.iload_n 2, 1) := by decide +kernel
theorem dX4_findCommon_40 : decode cX4_findCommon 40 = .ok (.ishl, 1) := by decide +kernel
theorem dX4_findCommon_41 : decode cX4_findCommon 41 = .ok (.iconst (-1), 1) := by decide +kernel
theorem dX4_findCommon_42 : decode cX4_findCommon 42 = .ok (.ixor, 1) := by decide +kernel
theorem dX4_findCommon_43 : decode cX4_findCommon 43 = .ok (.iand, 1) := by decide +kernel
theorem dX4_findCommon_44 : decode cX4_findCommon 44 = .ok (.laload, 1) := by decide +kernel
theorem dX4_findCommon_45 : decode cX4_findCommon 45 = .ok (.aload_n 0, 1) := by decide +kernel
theorem dX4_findCommon_46 : decode cX4_findCommon 46 = .ok (.getfield 28, 3) := by decide +kernel
theorem dX4_findCommon_49 : decode cX4_findCommon 49 = .ok (.getfield 108, 3) := by decide +kernel
theorem dX4_findCommon_52 : decode cX4_findCommon 52 = .ok (.iload_n 2, 1) := by decide +kernel
theorem dX4_findCommon_53 : decode cX4_findCommon 53 = .ok (.laload, 1) := by decide +kernel
theorem dX4_findCommon_54 : decode cX4_findCommon 54 = .ok (.land, 1) := by decide +kernel
theorem dX4_findCommon_55 : decode cX4_findCommon 55 = .ok (.lastore, 1) := by decide +kernel
theorem dX4_findCommon_56 : decode cX4_findCommon 56 = .ok (.iinc 1 1, 3) := by decide +kernel
theorem dX4_findCommon_59 : decode cX4_findCommon 59 = .ok (.goto (-44), 3) := by decide +kernel
theorem dX4_findCommon_62 : decode cX4_findCommon 62 = .ok (.return_, 1) := by decide +kernel
theorem dX4_isQuarrel_0 : decode cX4_isQuarrel 0 = .ok (.aload_n 0, 1) := by decide +kernel
theorem dX4_isQuarrel_1 : decode cX4_isQuarrel 1 = .ok (.getfield 53, 3) := by decide +kernel
theorem dX4_isQuarrel_4 : decode cX4_isQuarrel 4 = .ok (.iload_n 1, 1) := by decide +kernel
theorem dX4_isQuarrel_5 : decode cX4_isQuarrel 5 = .ok (.laload, 1) := by decide +kernel
theorem dX4_isQuarrel_6 : decode cX4_isQuarrel 6 = .ok (.lconst 0, 1) := by decide +kernel
theorem dX4_isQuarrel_7 : decode cX4_isQuarrel 7 = .ok (.lcmp, 1) := by decide +kernel
theorem dX4_isQuarrel_8 : decode cX4_isQuarrel 8 = .ok (.ifCond .ne 7, 3) := by decide +kernel
theorem dX4_isQuarrel_11 : decode cX4_isQuarrel 11 = .ok (.iconst 1, 1) := by decide +kernel
theorem dX4_isQuarrel_12 : decode cX4_isQuarrel 12 = .ok (.goto 4, 3) := by decide +kernel
theorem dX4_isQuarrel_15 : decode cX4_isQuarrel 15 = .ok (.iconst 0, 1) := by decide +kernel
theorem dX4_isQuarrel_16 : decode cX4_isQuarrel 16 = .ok (.ireturn, 1) := by decide +kernel
set_option maxRecDepth 20000 in
theorem ggX4_isListed_X4_isLeastQuarrel : GoodIn wsX4_isListed wsX4_isLeastQuarrel := goodIn_r _ [5, 6, 7, 8, 9, 4, 10, 11, 16, 17, 18, 19, 20, 21, 22, 23, 24, 25, 26, 27, 28, 29, 30, 31] (by decide +kernel) (by decide +kernel)
set_option maxRecDepth 20000 in
theorem gX4_isListed_X4_isLeastQuarrel : GoodIn wsX4_isListed (wsV RX4 165 RX4 yX4_isLeastQuarrel wsX4_isLeastQuarrel) := goodIn_app (goodIn_of _ (by decide +kernel)) ggX4_isListed_X4_isLeastQuarrel
set_option maxRecDepth 20000 in
theorem ggX4_isListed_X4_isGreatestAgreed : GoodIn wsX4_isListed wsX4_isGreatestAgreed := goodIn_r _ [15, 6, 7, 8, 9, 4, 10, 11, 16, 17, 18, 19, 20, 21, 22, 23, 24, 25, 26, 27, 28, 29, 30, 31] (by decide +kernel) (by decide +kernel)
set_option maxRecDepth 20000 in
theorem gX4_isListed_X4_isGreatestAgreed : GoodIn wsX4_isListed (wsV RX4 242 RX4 yX4_isGreatestAgreed wsX4_isGreatestAgreed) := goodIn_app (goodIn_of _ (by decide +kernel)) ggX4_isListed_X4_isGreatestAgreed
theorem dX4_isListed_0 : decode cX4_isListed 0 = .ok (.iload_n 1, 1) := by decide +kernel
theorem dX4_isListed_1 : decode cX4_isListed 1 = .ok (.ifCond .ne 11, 3) := by decide +kernel
theorem dX4_isListed_4 : decode cX4_isListed 4 = .ok (.aload_n 0, 1) := by decide +kernel
theorem dX4_isListed_5 : decode cX4_isListed 5 = .ok (.iload_n 2, 1) := by decide +kernel
theorem dX4_isListed_6 : decode cX4_isListed 6 = .ok (.invokevirtual 165, 3) := by decide +kernel
theorem dX4_isListed_9 : decode cX4_isListed 9 = .ok (.goto 8, 3) := by decide +kernel
theorem dX4_isListed_12 : decode cX4_isListed 12 = .ok (.aload_n 0, 1) := by decide +kernel
theorem dX4_isListed_13 : decode cX4_isListed 13 = .ok (.iload_n 2, 1) := by decide +kernel
theorem dX4_isListed_14 : decode cX4_isListed 14 = .ok (.invokevirtual 242, 3) := by decide +kernel
theorem dX4_isListed_17 : decode cX4_isListed 17 = .ok (.ireturn, 1) := by decide +kernel
set_option maxRecDepth 20000 in
theorem ggX4_isLeastQuarrel_X4_isQuarrel : GoodIn wsX4_isLeastQuarrel wsX4_isQuarrel := goodIn_r _ [6, 7, 8, 9, 10, 11, 12, 13, 14, 15, 16, 17, 18] (by decide +kernel) (by decide +kernel)
set_option maxRecDepth 20000 in
theorem gX4_isLeastQuarrel_X4_isQuarrel : GoodIn wsX4_isLeastQuarrel (wsV RX4 152 RX4 yX4_isQuarrel wsX4_isQuarrel) := goodIn_app (goodIn_of _ (by decide +kernel)) ggX4_isLeastQuarrel_X4_isQuarrel
theorem dX4_isLeastQuarrel_0 : decode cX4_isLeastQuarrel 0 = .ok (.aload_n 0, 1) := by decide +kernel
theorem dX4_isLeastQuarrel_1 : decode cX4_isLeastQuarrel 1 = .ok (.iload_n 1, 1) := by decide +kernel
theorem dX4_isLeastQuarrel_2 : decode cX4_isLeastQuarrel 2 = .ok (.invokevirtual 152, 3) := by decide +kernel
theorem dX4_isLeastQuarrel_5 : decode cX4_isLeastQuarrel 5 = .ok (.ifCond .ne 5, 3) := by decide +kernel
theorem dX4_isLeastQuarrel_8 : decode cX4_isLeastQuarrel 8 = .ok (.iconst 0, 1) := by decide +kernel
theorem dX4_isLeastQuarrel_9 : decode cX4_isLeastQuarrel 9 = .ok (.ireturn, 1) := by decide +kernel
theorem dX4_isLeastQuarrel_10 : decode cX4_isLeastQuarrel 10 = .ok (.iconst 0, 1) := by decide +kernel
theorem dX4_isLeastQuarrel_11 : decode cX4_isLeastQuarrel 11 = .ok (.istore_n 2, 1) := by decide +kernel
theorem dX4_isLeastQuarrel_12 : decode cX4_isLeastQuarrel 12 = .ok (.iload_n 2, 1) := by decide +kernel
theorem dX4_isLeastQuarrel_13 : decode cX4_isLeastQuarrel 13 = .ok (.aload_n 0, 1) := by decide +kernel
theorem dX4_isLeastQuarrel_14 : decode cX4_isLeastQuarrel 14 = .ok (.getfield 28, 3) := by decide +kernel
theorem dX4_isLeastQuarrel_17 : decode cX4_isLeastQuarrel 17 = .ok (.getfield 94, 3) := by decide +kernel
theorem dX4_isLeastQuarrel_20 : decode cX4_isLeastQuarrel 20 = .ok (.if_icmp .ge 33, 3) := by decide +kernel
theorem dX4_isLeastQuarrel_23 : decode cX4_isLeastQuarrel 23 = .ok (.iload_n 1, 1) := by decide +kernel
theorem dX4_isLeastQuarrel_24 : decode cX4_isLeastQuarrel 24 = .ok (.iconst 1, 1) := by decide +kernel
theorem dX4_isLeastQuarrel_25 : decode cX4_isLeastQuarrel 25 = .ok (.iload_n 2, 1) := by decide +kernel
theorem dX4_isLeastQuarrel_26 : decode cX4_isLeastQuarrel 26 = .ok (.ishl, 1) := by decide +kernel
theorem dX4_isLeastQuarrel_27 : decode cX4_isLeastQuarrel 27 = .ok (.iand, 1) := by decide +kernel
theorem dX4_isLeastQuarrel_28 : decode cX4_isLeastQuarrel 28 = .ok (.ifCond .eq 19, 3) := by decide +kernel
theorem dX4_isLeastQuarrel_31 : decode cX4_isLeastQuarrel 31 = .ok (.aload_n 0, 1) := by decide +kernel
theorem dX4_isLeastQuarrel_32 : decode cX4_isLeastQuarrel 32 = .ok (.iload_n 1, 1) := by decide +kernel
theorem dX4_isLeastQuarrel_33 : decode cX4_isLeastQuarrel 33 = .ok (.iconst 1, 1) := by decide +kernel
theorem dX4_isLeastQuarrel_34 : decode cX4_isLeastQuarrel 34 = .ok (.iload_n 2, 1) := by decide +kernel
theorem dX4_isLeastQuarrel_35 : decode cX4_isLeastQuarrel 35 = .ok (.ishl, 1) := by decide +kernel
theorem dX4_isLeastQuarrel_36 : decode cX4_isLeastQuarrel 36 = .ok (.iconst (-1), 1) := by decide +kernel
theorem dX4_isLeastQuarrel_37 : decode cX4_isLeastQuarrel 37 = .ok (.ixor, 1) := by decide +kernel
theorem dX4_isLeastQuarrel_38 : decode cX4_isLeastQuarrel 38 = .ok (.iand, 1) := by decide +kernel
theorem dX4_isLeastQuarrel_39 : decode cX4_isLeastQuarrel 39 = .ok (.invokevirtual 152, 3) := by decide +kernel
theorem dX4_isLeastQuarrel_42 : decode cX4_isLeastQuarrel 42 = .ok (.ifCond .eq 5, 3) := by decide +kernel
theorem dX4_isLeastQuarrel_45 : decode cX4_isLeastQuarrel 45 = .ok (.iconst 0, 1) := by decide +kernel
theorem dX4_isLeastQuarrel_46 : decode cX4_isLeastQuarrel 46 = .ok (.ireturn, 1) := by decide +kernel
theorem dX4_isLeastQuarrel_47 : decode cX4_isLeastQuarrel 47 = .ok (.iinc 2 1, 3) := by decide +kernel
theorem dX4_isLeastQuarrel_50 : decode cX4_isLeastQuarrel 50 = .ok (.goto (-38), 3) := by decide +kernel
theorem dX4_isLeastQuarrel_53 : decode cX4_isLeastQuarrel 53 = .ok (.iconst 1, 1) := by decide +kernel
theorem dX4_isLeastQuarrel_54 : decode cX4_isLeastQuarrel 54 = .ok (.ireturn, 1) := by decide +kernel
set_option maxRecDepth 20000 in
theorem ggX4_isGreatestAgreed_X4_isQuarrel : GoodIn wsX4_isGreatestAgreed wsX4_isQuarrel := goodIn_r _ [6, 7, 8, 9, 10, 11, 12, 13, 14, 15, 16, 17, 18] (by decide +kernel) (by decide +kernel)
set_option maxRecDepth 20000 in
theorem gX4_isGreatestAgreed_X4_isQuarrel : GoodIn wsX4_isGreatestAgreed (wsV RX4 152 RX4 yX4_isQuarrel wsX4_isQuarrel) := goodIn_app (goodIn_of _ (by decide +kernel)) ggX4_isGreatestAgreed_X4_isQuarrel
theorem dX4_isGreatestAgreed_0 : decode cX4_isGreatestAgreed 0 = .ok (.aload_n 0, 1) := by decide +kernel
theorem dX4_isGreatestAgreed_1 : decode cX4_isGreatestAgreed 1 = .ok (.iload_n 1, 1) := by decide +kernel
theorem dX4_isGreatestAgreed_2 : decode cX4_isGreatestAgreed 2 = .ok (.invokevirtual 152, 3) := by decide +kernel
theorem dX4_isGreatestAgreed_5 : decode cX4_isGreatestAgreed 5 = .ok (.ifCond .eq 5, 3) := by decide +kernel
theorem dX4_isGreatestAgreed_8 : decode cX4_isGreatestAgreed 8 = .ok (.iconst 0, 1) := by decide +kernel
theorem dX4_isGreatestAgreed_9 : decode cX4_isGreatestAgreed 9 = .ok (.ireturn, 1) := by decide +kernel
theorem dX4_isGreatestAgreed_10 : decode cX4_isGreatestAgreed 10 = .ok (.iconst 0, 1) := by decide +kernel
theorem dX4_isGreatestAgreed_11 : decode cX4_isGreatestAgreed 11 = .ok (.istore_n 2, 1) := by decide +kernel
theorem dX4_isGreatestAgreed_12 : decode cX4_isGreatestAgreed 12 = .ok (.iload_n 2, 1) := by decide +kernel
theorem dX4_isGreatestAgreed_13 : decode cX4_isGreatestAgreed 13 = .ok (.aload_n 0, 1) := by decide +kernel
theorem dX4_isGreatestAgreed_14 : decode cX4_isGreatestAgreed 14 = .ok (.getfield 28, 3) := by decide +kernel
theorem dX4_isGreatestAgreed_17 : decode cX4_isGreatestAgreed 17 = .ok (.getfield 94, 3) := by decide +kernel
theorem dX4_isGreatestAgreed_20 : decode cX4_isGreatestAgreed 20 = .ok (.if_icmp .ge 31, 3) := by decide +kernel
theorem dX4_isGreatestAgreed_23 : decode cX4_isGreatestAgreed 23 = .ok (.iload_n 1, 1) := by decide +kernel
theorem dX4_isGreatestAgreed_24 : decode cX4_isGreatestAgreed 24 = .ok (.iconst 1, 1) := by decide +kernel
theorem dX4_isGreatestAgreed_25 : decode cX4_isGreatestAgreed 25 = .ok (.iload_n 2, 1) := by decide +kernel
theorem dX4_isGreatestAgreed_26 : decode cX4_isGreatestAgreed 26 = .ok (.ishl, 1) := by decide +kernel
theorem dX4_isGreatestAgreed_27 : decode cX4_isGreatestAgreed 27 = .ok (.iand, 1) := by decide +kernel
theorem dX4_isGreatestAgreed_28 : decode cX4_isGreatestAgreed 28 = .ok (.ifCond .ne 17, 3) := by decide +kernel
theorem dX4_isGreatestAgreed_31 : decode cX4_isGreatestAgreed 31 = .ok (.aload_n 0, 1) := by decide +kernel
theorem dX4_isGreatestAgreed_32 : decode cX4_isGreatestAgreed 32 = .ok (.iload_n 1, 1) := by decide +kernel
theorem dX4_isGreatestAgreed_33 : decode cX4_isGreatestAgreed 33 = .ok (.iconst 1, 1) := by decide +kernel
theorem dX4_isGreatestAgreed_34 : decode cX4_isGreatestAgreed 34 = .ok (.iload_n 2, 1) := by decide +kernel
theorem dX4_isGreatestAgreed_35 : decode cX4_isGreatestAgreed 35 = .ok (.ishl, 1) := by decide +kernel
theorem dX4_isGreatestAgreed_36 : decode cX4_isGreatestAgreed 36 = .ok (.ior, 1) := by decide +kernel
theorem dX4_isGreatestAgreed_37 : decode cX4_isGreatestAgreed 37 = .ok (.invokevirtual 152, 3) := by decide +kernel
theorem dX4_isGreatestAgreed_40 : decode cX4_isGreatestAgreed 40 = .ok (.ifCond .ne 5, 3) := by decide +kernel
theorem dX4_isGreatestAgreed_43 : decode cX4_isGreatestAgreed 43 = .ok (.iconst 0, 1) := by decide +kernel
theorem dX4_isGreatestAgreed_44 : decode cX4_isGreatestAgreed 44 = .ok (.ireturn, 1) := by decide +kernel
theorem dX4_isGreatestAgreed_45 : decode cX4_isGreatestAgreed 45 = .ok (.iinc 2 1, 3) := by decide +kernel
theorem dX4_isGreatestAgreed_48 : decode cX4_isGreatestAgreed 48 = .ok (.goto (-36), 3) := by decide +kernel
theorem dX4_isGreatestAgreed_51 : decode cX4_isGreatestAgreed 51 = .ok (.iconst 1, 1) := by decide +kernel
theorem dX4_isGreatestAgreed_52 : decode cX4_isGreatestAgreed 52 = .ok (.ireturn, 1) := by decide +kernel
set_option maxRecDepth 20000 in
theorem ggX4_ordersTurnedBy_X4_setsOfSayers : GoodIn wsX4_ordersTurnedBy wsX4_setsOfSayers := goodIn_r _ [7, 2, 20, 21, 22, 23, 24, 25, 26, 27, 28, 29, 30, 31, 32, 33, 34, 35] (by decide +kernel) (by decide +kernel)
set_option maxRecDepth 20000 in
theorem gX4_ordersTurnedBy_X4_setsOfSayers : GoodIn wsX4_ordersTurnedBy (wsV RX4 148 RX4 yX4_setsOfSayers wsX4_setsOfSayers) := goodIn_app (goodIn_of _ (by decide +kernel)) ggX4_ordersTurnedBy_X4_setsOfSayers
set_option maxRecDepth 20000 in
theorem ggX4_ordersTurnedBy_X4_isQuarrel : GoodIn wsX4_ordersTurnedBy wsX4_isQuarrel := goodIn_r _ [11, 12, 20, 21, 22, 23, 24, 25, 26, 27, 28, 29, 30] (by decide +kernel) (by decide +kernel)
set_option maxRecDepth 20000 in
theorem gX4_ordersTurnedBy_X4_isQuarrel : GoodIn wsX4_ordersTurnedBy (wsV RX4 152 RX4 yX4_isQuarrel wsX4_isQuarrel) := goodIn_app (goodIn_of _ (by decide +kernel)) ggX4_ordersTurnedBy_X4_isQuarrel
set_option maxRecDepth 20000 in
theorem ggX4_ordersTurnedBy_J6_bitCount_0f7a4 : GoodIn wsX4_ordersTurnedBy wsJ6_bitCount_0f7a4 := goodIn_r _ [16, 17, 18, 19] (by decide +kernel) (by decide +kernel)
set_option maxRecDepth 20000 in
theorem gX4_ordersTurnedBy_J6_bitCount_0f7a4 : GoodIn wsX4_ordersTurnedBy (va_wsS RX4 155 yJ6_bitCount_0f7a4 wsJ6_bitCount_0f7a4) := goodIn_app (goodIn_of _ (by decide +kernel)) ggX4_ordersTurnedBy_J6_bitCount_0f7a4
theorem dX4_ordersTurnedBy_0 : decode cX4_ordersTurnedBy 0 = .ok (.iconst 0, 1) := by decide +kernel
theorem dX4_ordersTurnedBy_1 : decode cX4_ordersTurnedBy 1 = .ok (.istore_n 2, 1) := by decide +kernel
theorem dX4_ordersTurnedBy_2 : decode cX4_ordersTurnedBy 2 = .ok (.iconst 0, 1) := by decide +kernel
theorem dX4_ordersTurnedBy_3 : decode cX4_ordersTurnedBy 3 = .ok (.istore_n 3, 1) := by decide +kernel
theorem dX4_ordersTurnedBy_4 : decode cX4_ordersTurnedBy 4 = .ok (.iload_n 3, 1) := by decide +kernel
theorem dX4_ordersTurnedBy_5 : decode cX4_ordersTurnedBy 5 = .ok (.aload_n 0, 1) := by decide +kernel
theorem dX4_ordersTurnedBy_6 : decode cX4_ordersTurnedBy 6 = .ok (.invokevirtual 148, 3) := by decide +kernel
theorem dX4_ordersTurnedBy_9 : decode cX4_ordersTurnedBy 9 = .ok (.if_icmp .ge 69, 3) := by decide +kernel
theorem dX4_ordersTurnedBy_12 : decode cX4_ordersTurnedBy 12 = .ok (.iload_n 3, 1) := by decide +kernel
theorem dX4_ordersTurnedBy_13 : decode cX4_ordersTurnedBy 13 = .ok (.iconst 1, 1) := by decide +kernel
theorem dX4_ordersTurnedBy_14 : decode cX4_ordersTurnedBy 14 = .ok (.iload_n 1, 1) := by decide +kernel
theorem dX4_ordersTurnedBy_15 : decode cX4_ordersTurnedBy 15 = .ok (.ishl, 1) := by decide +kernel
theorem dX4_ordersTurnedBy_16 : decode cX4_ordersTurnedBy 16 = .ok (.iand, 1) := by decide +kernel
theorem dX4_ordersTurnedBy_17 : decode cX4_ordersTurnedBy 17 = .ok (.ifCond .ne 55, 3) := by decide +kernel
theorem dX4_ordersTurnedBy_20 : decode cX4_ordersTurnedBy 20 = .ok (.aload_n 0, 1) := by decide +kernel
theorem dX4_ordersTurnedBy_21 : decode cX4_ordersTurnedBy 21 = .ok (.iload_n 3, 1) := by decide +kernel
theorem dX4_ordersTurnedBy_22 : decode cX4_ordersTurnedBy 22 = .ok (.invokevirtual 152, 3) := by decide +kernel
theorem dX4_ordersTurnedBy_25 : decode cX4_ordersTurnedBy 25 = .ok (.ifCond .ne 47, 3) := by decide +kernel
theorem dX4_ordersTurnedBy_28 : decode cX4_ordersTurnedBy 28 = .ok (.aload_n 0, 1) := by decide +kernel
theorem dX4_ordersTurnedBy_29 : decode cX4_ordersTurnedBy 29 = .ok (.iload_n 3, 1) := by decide +kernel
theorem dX4_ordersTurnedBy_30 : decode cX4_ordersTurnedBy 30 = .ok (.iconst 1, 1) := by decide +kernel
theorem dX4_ordersTurnedBy_31 : decode cX4_ordersTurnedBy 31 = .ok (.iload_n 1, 1) := by decide +kernel
theorem dX4_ordersTurnedBy_32 : decode cX4_ordersTurnedBy 32 = .ok (.ishl, 1) := by decide +kernel
theorem dX4_ordersTurnedBy_33 : decode cX4_ordersTurnedBy 33 = .ok (.ior, 1) := by decide +kernel
theorem dX4_ordersTurnedBy_34 : decode cX4_ordersTurnedBy 34 = .ok (.invokevirtual 152, 3) := by decide +kernel
theorem dX4_ordersTurnedBy_37 : decode cX4_ordersTurnedBy 37 = .ok (.ifCond .eq 35, 3) := by decide +kernel
theorem dX4_ordersTurnedBy_40 : decode cX4_ordersTurnedBy 40 = .ok (.iload_n 3, 1) := by decide +kernel
theorem dX4_ordersTurnedBy_41 : decode cX4_ordersTurnedBy 41 = .ok (.invokestatic 155, 3) := by decide +kernel
theorem dX4_ordersTurnedBy_44 : decode cX4_ordersTurnedBy 44 = .ok (.istore 4, 2) := by decide +kernel
theorem dX4_ordersTurnedBy_46 : decode cX4_ordersTurnedBy 46 = .ok (.iload_n 2, 1) := by decide +kernel
theorem dX4_ordersTurnedBy_47 : decode cX4_ordersTurnedBy 47 = .ok (.getstatic 171, 3) := by decide +kernel
theorem dX4_ordersTurnedBy_50 : decode cX4_ordersTurnedBy 50 = .ok (.iload 4, 2) := by decide +kernel
theorem dX4_ordersTurnedBy_52 : decode cX4_ordersTurnedBy 52 = .ok (.iaload, 1) := by decide +kernel
theorem dX4_ordersTurnedBy_53 : decode cX4_ordersTurnedBy 53 = .ok (.getstatic 171, 3) := by decide +kernel
theorem dX4_ordersTurnedBy_56 : decode cX4_ordersTurnedBy 56 = .ok (.aload_n 0, 1) := by decide +kernel
theorem dX4_ordersTurnedBy_57 : decode cX4_ordersTurnedBy 57 = .ok (.getfield 28, 3) := by decide +kernel
theorem dX4_ordersTurnedBy_60 : decode cX4_ordersTurnedBy 60 = .ok (.getfield 94, 3) := by decide +kernel
theorem dX4_ordersTurnedBy_63 : decode cX4_ordersTurnedBy 63 = .ok (.iconst 1, 1) := by decide +kernel
theorem dX4_ordersTurnedBy_64 : decode cX4_ordersTurnedBy 64 = .ok (.isub, 1) := by decide +kernel
theorem dX4_ordersTurnedBy_65 : decode cX4_ordersTurnedBy 65 = .ok (.iload 4, 2) := by decide +kernel
theorem dX4_ordersTurnedBy_67 : decode cX4_ordersTurnedBy 67 = .ok (.isub, 1) := by decide +kernel
theorem dX4_ordersTurnedBy_68 : decode cX4_ordersTurnedBy 68 = .ok (.iaload, 1) := by decide +kernel
theorem dX4_ordersTurnedBy_69 : decode cX4_ordersTurnedBy 69 = .ok (.imul, 1) := by decide +kernel
theorem dX4_ordersTurnedBy_70 : decode cX4_ordersTurnedBy 70 = .ok (.iadd, 1) := by decide +kernel
theorem dX4_ordersTurnedBy_71 : decode cX4_ordersTurnedBy 71 = .ok (.istore_n 2, 1) := by decide +kernel
theorem dX4_ordersTurnedBy_72 : decode cX4_ordersTurnedBy 72 = .ok (.iinc 3 1, 3) := by decide +kernel
theorem dX4_ordersTurnedBy_75 : decode cX4_ordersTurnedBy 75 = .ok (.goto (-71), 3) := by decide +kernel
theorem dX4_ordersTurnedBy_78 : decode cX4_ordersTurnedBy 78 = .ok (.iload_n 2, 1) := by decide +kernel
theorem dX4_ordersTurnedBy_79 : decode cX4_ordersTurnedBy 79 = .ok (.ireturn, 1) := by decide +kernel
theorem dX4_commonDivisor_0 : decode cX4_commonDivisor 0 = .ok (.iload_n 0, 1) := by decide +kernel
theorem dX4_commonDivisor_1 : decode cX4_commonDivisor 1 = .ok (.istore_n 2, 1) := by decide +kernel
theorem dX4_commonDivisor_2 : decode cX4_commonDivisor 2 = .ok (.iload_n 1, 1) := by decide +kernel
theorem dX4_commonDivisor_3 : decode cX4_commonDivisor 3 = .ok (.istore_n 3, 1) := by decide +kernel
theorem dX4_commonDivisor_4 : decode cX4_commonDivisor 4 = .ok (.iconst 0, 1) := by decide +kernel
theorem dX4_commonDivisor_5 : decode cX4_commonDivisor 5 = .ok (.istore 4, 2) := by decide +kernel
theorem dX4_commonDivisor_7 : decode cX4_commonDivisor 7 = .ok (.iload 4, 2) := by decide +kernel
theorem dX4_commonDivisor_9 : decode cX4_commonDivisor 9 = .ok (.bipush 64, 2) := by decide +kernel
theorem dX4_commonDivisor_11 : decode cX4_commonDivisor 11 = .ok (.if_icmp .ge 23, 3) := by decide +kernel
theorem dX4_commonDivisor_14 : decode cX4_commonDivisor 14 = .ok (.iload_n 3, 1) := by decide +kernel
theorem dX4_commonDivisor_15 : decode cX4_commonDivisor 15 = .ok (.ifCond .eq 19, 3) := by decide +kernel
theorem dX4_commonDivisor_18 : decode cX4_commonDivisor 18 = .ok (.iload_n 2, 1) := by decide +kernel
theorem dX4_commonDivisor_19 : decode cX4_commonDivisor 19 = .ok (.iload_n 3, 1) := by decide +kernel
theorem dX4_commonDivisor_20 : decode cX4_commonDivisor 20 = .ok (.irem, 1) := by decide +kernel
theorem dX4_commonDivisor_21 : decode cX4_commonDivisor 21 = .ok (.istore 5, 2) := by decide +kernel
theorem dX4_commonDivisor_23 : decode cX4_commonDivisor 23 = .ok (.iload_n 3, 1) := by decide +kernel
theorem dX4_commonDivisor_24 : decode cX4_commonDivisor 24 = .ok (.istore_n 2, 1) := by decide +kernel
theorem dX4_commonDivisor_25 : decode cX4_commonDivisor 25 = .ok (.iload 5, 2) := by decide +kernel
theorem dX4_commonDivisor_27 : decode cX4_commonDivisor 27 = .ok (.istore_n 3, 1) := by decide +kernel
theorem dX4_commonDivisor_28 : decode cX4_commonDivisor 28 = .ok (.iinc 4 1, 3) := by decide +kernel
theorem dX4_commonDivisor_31 : decode cX4_commonDivisor 31 = .ok (.goto (-24), 3) := by decide +kernel
theorem dX4_commonDivisor_34 : decode cX4_commonDivisor 34 = .ok (.iload_n 2, 1) := by decide +kernel
theorem dX4_commonDivisor_35 : decode cX4_commonDivisor 35 = .ok (.ireturn, 1) := by decide +kernel
set_option maxRecDepth 20000 in
theorem ggX4_sayerWorth_J13_bitCount_95d88 : GoodIn wsX4_sayerWorth wsJ13_bitCount_95d88 := goodIn_r _ [6, 7, 8, 9] (by decide +kernel) (by decide +kernel)
set_option maxRecDepth 20000 in
theorem gX4_sayerWorth_J13_bitCount_95d88 : GoodIn wsX4_sayerWorth (va_wsS RX4 201 yJ13_bitCount_95d88 wsJ13_bitCount_95d88) := goodIn_app (goodIn_of _ (by decide +kernel)) ggX4_sayerWorth_J13_bitCount_95d88
theorem dX4_sayerWorth_0 : decode cX4_sayerWorth 0 = .ok (.aload_n 0, 1) := by decide +kernel
theorem dX4_sayerWorth_1 : decode cX4_sayerWorth 1 = .ok (.dup, 1) := by decide +kernel
theorem dX4_sayerWorth_2 : decode cX4_sayerWorth 2 = .ok (.getfield 63, 3) := by decide +kernel
theorem dX4_sayerWorth_5 : decode cX4_sayerWorth 5 = .ok (.lconst 1, 1) := by decide +kernel
theorem dX4_sayerWorth_6 : decode cX4_sayerWorth 6 = .ok (.ladd, 1) := by decide +kernel
theorem dX4_sayerWorth_7 : decode cX4_sayerWorth 7 = .ok (.putfield 63, 3) := by decide +kernel
theorem dX4_sayerWorth_10 : decode cX4_sayerWorth 10 = .ok (.aload_n 0, 1) := by decide +kernel
theorem dX4_sayerWorth_11 : decode cX4_sayerWorth 11 = .ok (.getfield 28, 3) := by decide +kernel
theorem dX4_sayerWorth_14 : decode cX4_sayerWorth 14 = .ok (.getfield 101, 3) := by decide +kernel
theorem dX4_sayerWorth_17 : decode cX4_sayerWorth 17 = .ok (.aload_n 0, 1) := by decide +kernel
theorem dX4_sayerWorth_18 : decode cX4_sayerWorth 18 = .ok (.getfield 28, 3) := by decide +kernel
theorem dX4_sayerWorth_21 : decode cX4_sayerWorth 21 = .ok (.getfield 108, 3) := by decide +kernel
theorem dX4_sayerWorth_24 : decode cX4_sayerWorth 24 = .ok (.iload_n 1, 1) := by decide +kernel
theorem dX4_sayerWorth_25 : decode cX4_sayerWorth 25 = .ok (.laload, 1) := by decide +kernel
theorem dX4_sayerWorth_26 : decode cX4_sayerWorth 26 = .ok (.land, 1) := by decide +kernel
theorem dX4_sayerWorth_27 : decode cX4_sayerWorth 27 = .ok (.invokestatic 201, 3) := by decide +kernel
theorem dX4_sayerWorth_30 : decode cX4_sayerWorth 30 = .ok (.ireturn, 1) := by decide +kernel
set_option maxRecDepth 20000 in
theorem ggX4_weightyWorth_X4_sayerWorth : GoodIn wsX4_weightyWorth wsX4_sayerWorth := goodIn_r _ [8, 1, 3, 9, 10, 11, 12, 13, 14, 15, 16, 17, 18, 19, 20, 21, 22, 23, 24, 25, 26, 27, 28, 29, 30, 31] (by decide +kernel) (by decide +kernel)
set_option maxRecDepth 20000 in
theorem gX4_weightyWorth_X4_sayerWorth : GoodIn wsX4_weightyWorth (wsV RX4 186 RX4 yX4_sayerWorth wsX4_sayerWorth) := goodIn_app (goodIn_of _ (by decide +kernel)) ggX4_weightyWorth_X4_sayerWorth
theorem dX4_weightyWorth_0 : decode cX4_weightyWorth 0 = .ok (.aload_n 0, 1) := by decide +kernel
theorem dX4_weightyWorth_1 : decode cX4_weightyWorth 1 = .ok (.dup, 1) := by decide +kernel
theorem dX4_weightyWorth_2 : decode cX4_weightyWorth 2 = .ok (.getfield 63, 3) := by decide +kernel
theorem dX4_weightyWorth_5 : decode cX4_weightyWorth 5 = .ok (.ldc2_w 245, 3) := by decide +kernel
theorem dX4_weightyWorth_8 : decode cX4_weightyWorth 8 = .ok (.ladd, 1) := by decide +kernel
theorem dX4_weightyWorth_9 : decode cX4_weightyWorth 9 = .ok (.putfield 63, 3) := by decide +kernel
theorem dX4_weightyWorth_12 : decode cX4_weightyWorth 12 = .ok (.aload_n 0, 1) := by decide +kernel
theorem dX4_weightyWorth_13 : decode cX4_weightyWorth 13 = .ok (.iload_n 1, 1) := by decide +kernel
theorem dX4_weightyWorth_14 : decode cX4_weightyWorth 14 = .ok (.invokevirtual 186, 3) := by decide +kernel
theorem dX4_weightyWorth_17 : decode cX4_weightyWorth 17 = .ok (.aload_n 0, 1) := by decide +kernel
theorem dX4_weightyWorth_18 : decode cX4_weightyWorth 18 = .ok (.getfield 28, 3) := by decide +kernel
theorem dX4_weightyWorth_21 : decode cX4_weightyWorth 21 = .ok (.getfield 212, 3) := by decide +kernel
theorem dX4_weightyWorth_24 : decode cX4_weightyWorth 24 = .ok (.iload_n 1, 1) := by decide +kernel
theorem dX4_weightyWorth_25 : decode cX4_weightyWorth 25 = .ok (.iaload, 1) := by decide +kernel
theorem dX4_weightyWorth_26 : decode cX4_weightyWorth 26 = .ok (.imul, 1) := by decide +kernel
theorem dX4_weightyWorth_27 : decode cX4_weightyWorth 27 = .ok (.ireturn, 1) := by decide +kernel
set_option maxRecDepth 20000 in
theorem ggX4_loneWorth_X4_sayerWorth : GoodIn wsX4_loneWorth wsX4_sayerWorth := goodIn_r _ [8, 1, 3, 9, 10, 11, 12, 13, 14, 15, 23, 24, 25, 26, 27, 28, 29, 30, 31, 32, 33, 34, 35, 36, 37, 38] (by decide +kernel) (by decide +kernel)
set_option maxRecDepth 20000 in
theorem gX4_loneWorth_X4_sayerWorth : GoodIn wsX4_loneWorth (wsV RX4 186 RX4 yX4_sayerWorth wsX4_sayerWorth) := goodIn_app (goodIn_of _ (by decide +kernel)) ggX4_loneWorth_X4_sayerWorth
set_option maxRecDepth 20000 in
theorem ggX4_loneWorth_X3_saidByOthers : GoodIn wsX4_loneWorth wsX3_saidByOthers := goodIn_r _ [20, 21, 22, 34, 35, 36, 37, 38] (by decide +kernel) (by decide +kernel)
set_option maxRecDepth 20000 in
theorem gX4_loneWorth_X3_saidByOthers : GoodIn wsX4_loneWorth (wsV RX4 249 RX3 yX3_saidByOthers wsX3_saidByOthers) := goodIn_app (goodIn_of _ (by decide +kernel)) ggX4_loneWorth_X3_saidByOthers
set_option maxRecDepth 20000 in
theorem ggX4_loneWorth_J13_bitCount_95d88 : GoodIn wsX4_loneWorth wsJ13_bitCount_95d88 := goodIn_r _ [12, 13, 14, 15] (by decide +kernel) (by decide +kernel)
set_option maxRecDepth 20000 in
theorem gX4_loneWorth_J13_bitCount_95d88 : GoodIn wsX4_loneWorth (va_wsS RX4 201 yJ13_bitCount_95d88 wsJ13_bitCount_95d88) := goodIn_app (goodIn_of _ (by decide +kernel)) ggX4_loneWorth_J13_bitCount_95d88
theorem dX4_loneWorth_0 : decode cX4_loneWorth 0 = .ok (.aload_n 0, 1) := by decide +kernel
theorem dX4_loneWorth_1 : decode cX4_loneWorth 1 = .ok (.dup, 1) := by decide +kernel
theorem dX4_loneWorth_2 : decode cX4_loneWorth 2 = .ok (.getfield 63, 3) := by decide +kernel
theorem dX4_loneWorth_5 : decode cX4_loneWorth 5 = .ok (.ldc2_w 247, 3) := by decide +kernel
theorem dX4_loneWorth_8 : decode cX4_loneWorth 8 = .ok (.ladd, 1) := by decide +kernel
theorem dX4_loneWorth_9 : decode cX4_loneWorth 9 = .ok (.putfield 63, 3) := by decide +kernel
theorem dX4_loneWorth_12 : decode cX4_loneWorth 12 = .ok (.aload_n 0, 1) := by decide +kernel
theorem dX4_loneWorth_13 : decode cX4_loneWorth 13 = .ok (.iload_n 1, 1) := by decide +kernel
theorem dX4_loneWorth_14 : decode cX4_loneWorth 14 = .ok (.invokevirtual 186, 3) := by decide +kernel
theorem dX4_loneWorth_17 : decode cX4_loneWorth 17 = .ok (.aload_n 0, 1) := by decide +kernel
theorem dX4_loneWorth_18 : decode cX4_loneWorth 18 = .ok (.getfield 28, 3) := by decide +kernel
theorem dX4_loneWorth_21 : decode cX4_loneWorth 21 = .ok (.getfield 101, 3) := by decide +kernel
theorem dX4_loneWorth_24 : decode cX4_loneWorth 24 = .ok (.aload_n 0, 1) := by decide +kernel
theorem dX4_loneWorth_25 : decode cX4_loneWorth 25 = .ok (.getfield 28, 3) := by decide +kernel
theorem dX4_loneWorth_28 : decode cX4_loneWorth 28 = .ok (.getfield 108, 3) := by decide +kernel
theorem dX4_loneWorth_31 : decode cX4_loneWorth 31 = .ok (.iload_n 1, 1) := by decide +kernel
theorem dX4_loneWorth_32 : decode cX4_loneWorth 32 = .ok (.laload, 1) := by decide +kernel
theorem dX4_loneWorth_33 : decode cX4_loneWorth 33 = .ok (.land, 1) := by decide +kernel
theorem dX4_loneWorth_34 : decode cX4_loneWorth 34 = .ok (.aload_n 0, 1) := by decide +kernel
theorem dX4_loneWorth_35 : decode cX4_loneWorth 35 = .ok (.getfield 28, 3) := by decide +kernel
theorem dX4_loneWorth_38 : decode cX4_loneWorth 38 = .ok (.iload_n 1, 1) := by decide +kernel
theorem dX4_loneWorth_39 : decode cX4_loneWorth 39 = .ok (.invokevirtual 249, 3) := by decide +kernel
theorem dX4_loneWorth_42 : decode cX4_loneWorth 42 = .ok (.land, 1) := by decide +kernel
theorem dX4_loneWorth_43 : decode cX4_loneWorth 43 = .ok (.invokestatic 201, 3) := by decide +kernel
theorem dX4_loneWorth_46 : decode cX4_loneWorth 46 = .ok (.isub, 1) := by decide +kernel
theorem dX4_loneWorth_47 : decode cX4_loneWorth 47 = .ok (.ireturn, 1) := by decide +kernel
set_option maxRecDepth 20000 in
theorem ggX4_firmWorth_X4_weightyWorth : GoodIn wsX4_firmWorth wsX4_weightyWorth := goodIn_r _ [7, 1, 8, 9, 10, 11, 12, 6, 13, 14, 15, 16, 17, 18, 19, 20, 53, 54, 55, 56, 57, 58, 59, 60, 61, 62, 63, 64, 65, 66, 67, 68] (by decide +kernel) (by decide +kernel)
set_option maxRecDepth 20000 in
theorem gX4_firmWorth_X4_weightyWorth : GoodIn wsX4_firmWorth (wsV RX4 189 RX4 yX4_weightyWorth wsX4_weightyWorth) := goodIn_app (goodIn_of _ (by decide +kernel)) ggX4_firmWorth_X4_weightyWorth
set_option maxRecDepth 20000 in
theorem ggX4_firmWorth_X4_mergedBy : GoodIn wsX4_firmWorth wsX4_mergedBy := goodIn_r _ [24, 25, 9, 26, 27, 28, 6, 29, 30, 31, 32, 33, 34, 35, 36, 37, 38, 39, 40, 41, 42, 43, 44, 45, 46, 47, 48, 49, 50, 51, 52, 53, 54, 55, 56, 57, 58, 59, 60, 61, 62, 63, 64, 65, 66, 67, 68] (by decide +kernel) (by decide +kernel)
set_option maxRecDepth 20000 in
theorem gX4_firmWorth_X4_mergedBy : GoodIn wsX4_firmWorth (wsV RX4 132 RX4 yX4_mergedBy wsX4_mergedBy) := goodIn_app (goodIn_of _ (by decide +kernel)) ggX4_firmWorth_X4_mergedBy
set_option maxRecDepth 20000 in
theorem ggX4_firmWorth_J13_bitCount_95d88 : GoodIn wsX4_firmWorth wsJ13_bitCount_95d88 := goodIn_r _ [17, 18, 19, 20] (by decide +kernel) (by decide +kernel)
set_option maxRecDepth 20000 in
theorem gX4_firmWorth_J13_bitCount_95d88 : GoodIn wsX4_firmWorth (va_wsS RX4 201 yJ13_bitCount_95d88 wsJ13_bitCount_95d88) := goodIn_app (goodIn_of _ (by decide +kernel)) ggX4_firmWorth_J13_bitCount_95d88
theorem dX4_firmWorth_0 : decode cX4_firmWorth 0 = .ok (.aload_n 0, 1) := by decide +kernel
theorem dX4_firmWorth_1 : decode cX4_firmWorth 1 = .ok (.dup, 1) := by decide +kernel
theorem dX4_firmWorth_2 : decode cX4_firmWorth 2 = .ok (.getfield 63, 3) := by decide +kernel
theorem dX4_firmWorth_5 : decode cX4_firmWorth 5 = .ok (.ldc2_w 252, 3) := by decide +kernel
theorem dX4_firmWorth_8 : decode cX4_firmWorth 8 = .ok (.ladd, 1) := by decide +kernel
theorem dX4_firmWorth_9 : decode cX4_firmWorth 9 = .ok (.putfield 63, 3) := by decide +kernel
theorem dX4_firmWorth_12 : decode cX4_firmWorth 12 = .ok (.aload_n 0, 1) := by decide +kernel
theorem dX4_firmWorth_13 : decode cX4_firmWorth 13 = .ok (.iload_n 1, 1) := by decide +kernel
theorem dX4_firmWorth_14 : decode cX4_firmWorth 14 = .ok (.invokevirtual 189, 3) := by decide +kernel
theorem dX4_firmWorth_17 : decode cX4_firmWorth 17 = .ok (.aload_n 0, 1) := by decide +kernel
theorem dX4_firmWorth_18 : decode cX4_firmWorth 18 = .ok (.iconst 0, 1) := by decide +kernel
theorem dX4_firmWorth_19 : decode cX4_firmWorth 19 = .ok (.invokevirtual 132, 3) := by decide +kernel
theorem dX4_firmWorth_22 : decode cX4_firmWorth 22 = .ok (.invokestatic 201, 3) := by decide +kernel
theorem dX4_firmWorth_25 : decode cX4_firmWorth 25 = .ok (.iadd, 1) := by decide +kernel
theorem dX4_firmWorth_26 : decode cX4_firmWorth 26 = .ok (.ireturn, 1) := by decide +kernel
theorem dX5_init_0 : decode cX5_init 0 = .ok (.aload_n 0, 1) := by decide +kernel
theorem dX5_init_1 : decode cX5_init 1 = .ok (.invokespecial 1, 3) := by decide +kernel
theorem dX5_init_4 : decode cX5_init 4 = .ok (.aload_n 0, 1) := by decide +kernel
theorem dX5_init_5 : decode cX5_init 5 = .ok (.sipush 300, 3) := by decide +kernel
theorem dX5_init_8 : decode cX5_init 8 = .ok (.newarray .byte, 2) := by decide +kernel
theorem dX5_init_10 : decode cX5_init 10 = .ok (.putfield 7, 3) := by decide +kernel
theorem dX5_init_13 : decode cX5_init 13 = .ok (.aload_n 0, 1) := by decide +kernel
theorem dX5_init_14 : decode cX5_init 14 = .ok (.ldc2_w 13, 3) := by decide +kernel
theorem dX5_init_17 : decode cX5_init 17 = .ok (.putfield 15, 3) := by decide +kernel
theorem dX5_init_20 : decode cX5_init 20 = .ok (.aload_n 0, 1) := by decide +kernel
theorem dX5_init_21 : decode cX5_init 21 = .ok (.ldc2_w 13, 3) := by decide +kernel
theorem dX5_init_24 : decode cX5_init 24 = .ok (.putfield 19, 3) := by decide +kernel
theorem dX5_init_27 : decode cX5_init 27 = .ok (.aload_n 0, 1) := by decide +kernel
theorem dX5_init_28 : decode cX5_init 28 = .ok (.bipush 7, 2) := by decide +kernel
theorem dX5_init_30 : decode cX5_init 30 = .ok (.newarray .int, 2) := by decide +kernel
theorem dX5_init_32 : decode cX5_init 32 = .ok (.putfield 22, 3) := by decide +kernel
theorem dX5_init_35 : decode cX5_init 35 = .ok (.aload_n 0, 1) := by decide +kernel
theorem dX5_init_36 : decode cX5_init 36 = .ok (.bipush 7, 2) := by decide +kernel
theorem dX5_init_38 : decode cX5_init 38 = .ok (.newarray .long, 2) := by decide +kernel
theorem dX5_init_40 : decode cX5_init 40 = .ok (.putfield 26, 3) := by decide +kernel
theorem dX5_init_43 : decode cX5_init 43 = .ok (.aload_n 0, 1) := by decide +kernel
theorem dX5_init_44 : decode cX5_init 44 = .ok (.bipush 6, 2) := by decide +kernel
theorem dX5_init_46 : decode cX5_init 46 = .ok (.newarray .int, 2) := by decide +kernel
theorem dX5_init_48 : decode cX5_init 48 = .ok (.dup, 1) := by decide +kernel
theorem dX5_init_49 : decode cX5_init 49 = .ok (.iconst 0, 1) := by decide +kernel
theorem dX5_init_50 : decode cX5_init 50 = .ok (.iconst 1, 1) := by decide +kernel
theorem dX5_init_51 : decode cX5_init 51 = .ok (.iastore, 1) := by decide +kernel
theorem dX5_init_52 : decode cX5_init 52 = .ok (.dup, 1) := by decide +kernel
theorem dX5_init_53 : decode cX5_init 53 = .ok (.iconst 1, 1) := by decide +kernel
theorem dX5_init_54 : decode cX5_init 54 = .ok (.iconst 1, 1) := by decide +kernel
theorem dX5_init_55 : decode cX5_init 55 = .ok (.iastore, 1) := by decide +kernel
theorem dX5_init_56 : decode cX5_init 56 = .ok (.dup, 1) := by decide +kernel
theorem dX5_init_57 : decode cX5_init 57 = .ok (.iconst 2, 1) := by decide +kernel
theorem dX5_init_58 : decode cX5_init 58 = .ok (.iconst 1, 1) := by decide +kernel
theorem dX5_init_59 : decode cX5_init 59 = .ok (.iastore, 1) := by decide +kernel
theorem dX5_init_60 : decode cX5_init 60 = .ok (.dup, 1) := by decide +kernel
theorem dX5_init_61 : decode cX5_init 61 = .ok (.iconst 3, 1) := by decide +kernel
theorem dX5_init_62 : decode cX5_init 62 = .ok (.iconst 1, 1) := by decide +kernel
theorem dX5_init_63 : decode cX5_init 63 = .ok (.iastore, 1) := by decide +kernel
theorem dX5_init_64 : decode cX5_init 64 = .ok (.dup, 1) := by decide +kernel
theorem dX5_init_65 : decode cX5_init 65 = .ok (.iconst 4, 1) := by decide +kernel
theorem dX5_init_66 : decode cX5_init 66 = .ok (.iconst 1, 1) := by decide +kernel
theorem dX5_init_67 : decode cX5_init 67 = .ok (.iastore, 1) := by decide +kernel
theorem dX5_init_68 : decode cX5_init 68 = .ok (.dup, 1) := by decide +kernel
theorem dX5_init_69 : decode cX5_init 69 = .ok (.iconst 5, 1) := by decide +kernel
theorem dX5_init_70 : decode cX5_init 70 = .ok (.iconst 1, 1) := by decide +kernel
theorem dX5_init_71 : decode cX5_init 71 = .ok (.iastore, 1) := by decide +kernel
theorem dX5_init_72 : decode cX5_init 72 = .ok (.putfield 30, 3) := by decide +kernel
theorem dX5_init_75 : decode cX5_init 75 = .ok (.aload_n 0, 1) := by decide +kernel
theorem dX5_init_76 : decode cX5_init 76 = .ok (.bipush 7, 2) := by decide +kernel
theorem dX5_init_78 : decode cX5_init 78 = .ok (.newarray .int, 2) := by decide +kernel
theorem dX5_init_80 : decode cX5_init 80 = .ok (.putfield 33, 3) := by decide +kernel
theorem dX5_init_83 : decode cX5_init 83 = .ok (.aload_n 0, 1) := by decide +kernel
theorem dX5_init_84 : decode cX5_init 84 = .ok (.bipush 7, 2) := by decide +kernel
theorem dX5_init_86 : decode cX5_init 86 = .ok (.newarray .long, 2) := by decide +kernel
theorem dX5_init_88 : decode cX5_init 88 = .ok (.putfield 36, 3) := by decide +kernel
theorem dX5_init_91 : decode cX5_init 91 = .ok (.aload_n 0, 1) := by decide +kernel
theorem dX5_init_92 : decode cX5_init 92 = .ok (.bipush 9, 2) := by decide +kernel
theorem dX5_init_94 : decode cX5_init 94 = .ok (.newarray .int, 2) := by decide +kernel
theorem dX5_init_96 : decode cX5_init 96 = .ok (.putfield 39, 3) := by decide +kernel
theorem dX5_init_99 : decode cX5_init 99 = .ok (.aload_n 0, 1) := by decide +kernel
theorem dX5_init_100 : decode cX5_init 100 = .ok (.bipush 9, 2) := by decide +kernel
theorem dX5_init_102 : decode cX5_init 102 = .ok (.newarray .long, 2) := by decide +kernel
theorem dX5_init_104 : decode cX5_init 104 = .ok (.putfield 42, 3) := by decide +kernel
theorem dX5_init_107 : decode cX5_init 107 = .ok (.aload_n 0, 1) := by decide +kernel
theorem dX5_init_108 : decode cX5_init 108 = .ok (.bipush 9, 2) := by decide +kernel
theorem dX5_init_110 : decode cX5_init 110 = .ok (.newarray .long, 2) := by decide +kernel
theorem dX5_init_112 : decode cX5_init 112 = .ok (.putfield 45, 3) := by decide +kernel
theorem dX5_init_115 : decode cX5_init 115 = .ok (.aload_n 0, 1) := by decide +kernel
theorem dX5_init_116 : decode cX5_init 116 = .ok (.sipush 448, 3) := by decide +kernel
theorem dX5_init_119 : decode cX5_init 119 = .ok (.newarray .int, 2) := by decide +kernel
theorem dX5_init_121 : decode cX5_init 121 = .ok (.putfield 48, 3) := by decide +kernel
end
section
theorem dX5_init_124 : decode cX5_init 124 = .ok (.aload_n 0, 1) := by decide +kernel
theorem dX5_init_125 : decode cX5_init 125 = .ok (.bipush 7, 2) := by decide +kernel
theorem dX5_init_127 : decode cX5_init 127 = .ok (.newarray .int, 2) := by decide +kernel
theorem dX5_init_129 : decode cX5_init 129 = .ok (.putfield 51, 3) := by decide +kernel
theorem dX5_init_132 : decode cX5_init 132 = .ok (.aload_n 0, 1) := by decide +kernel
theorem dX5_init_133 : decode cX5_init 133 = .ok (.bipush 7, 2) := by decide +kernel
theorem dX5_init_135 : decode cX5_init 135 = .ok (.newarray .int, 2) := by decide +kernel
theorem dX5_init_137 : decode cX5_init 137 = .ok (.putfield 54, 3) := by decide +kernel
theorem dX5_init_140 : decode cX5_init 140 = .ok (.aload_n 0, 1) := by decide +kernel
theorem dX5_init_141 : decode cX5_init 141 = .ok (.bipush 64, 2) := by decide +kernel
theorem dX5_init_143 : decode cX5_init 143 = .ok (.newarray .int, 2) := by decide +kernel
theorem dX5_init_145 : decode cX5_init 145 = .ok (.putfield 57, 3) := by decide +kernel
theorem dX5_init_148 : decode cX5_init 148 = .ok (.return_, 1) := by decide +kernel
theorem dX5_in_0 : decode cX5_in 0 = .ok (.lload_n 0, 1) := by decide +kernel
theorem dX5_in_1 : decode cX5_in 1 = .ok (.lload_n 2, 1) := by decide +kernel
theorem dX5_in_2 : decode cX5_in 2 = .ok (.lcmp, 1) := by decide +kernel
theorem dX5_in_3 : decode cX5_in 3 = .ok (.ifCond .lt 14, 3) := by decide +kernel
theorem dX5_in_6 : decode cX5_in 6 = .ok (.lload_n 0, 1) := by decide +kernel
theorem dX5_in_7 : decode cX5_in 7 = .ok (.lload 4, 2) := by decide +kernel
theorem dX5_in_9 : decode cX5_in 9 = .ok (.lcmp, 1) := by decide +kernel
theorem dX5_in_10 : decode cX5_in 10 = .ok (.ifCond .gt 7, 3) := by decide +kernel
theorem dX5_in_13 : decode cX5_in 13 = .ok (.iconst 1, 1) := by decide +kernel
theorem dX5_in_14 : decode cX5_in 14 = .ok (.goto 4, 3) := by decide +kernel
theorem dX5_in_17 : decode cX5_in 17 = .ok (.iconst 0, 1) := by decide +kernel
theorem dX5_in_18 : decode cX5_in 18 = .ok (.ireturn, 1) := by decide +kernel
theorem dX5_has_0 : decode cX5_has 0 = .ok (.lload_n 0, 1) := by decide +kernel
theorem dX5_has_1 : decode cX5_has 1 = .ok (.iload_n 2, 1) := by decide +kernel
theorem dX5_has_2 : decode cX5_has 2 = .ok (.lshr, 1) := by decide +kernel
theorem dX5_has_3 : decode cX5_has 3 = .ok (.lconst 1, 1) := by decide +kernel
theorem dX5_has_4 : decode cX5_has 4 = .ok (.land, 1) := by decide +kernel
theorem dX5_has_5 : decode cX5_has 5 = .ok (.lconst 1, 1) := by decide +kernel
theorem dX5_has_6 : decode cX5_has 6 = .ok (.lcmp, 1) := by decide +kernel
theorem dX5_has_7 : decode cX5_has 7 = .ok (.ifCond .ne 7, 3) := by decide +kernel
theorem dX5_has_10 : decode cX5_has 10 = .ok (.iconst 1, 1) := by decide +kernel
theorem dX5_has_11 : decode cX5_has 11 = .ok (.goto 4, 3) := by decide +kernel
theorem dX5_has_14 : decode cX5_has 14 = .ok (.iconst 0, 1) := by decide +kernel
theorem dX5_has_15 : decode cX5_has 15 = .ok (.ireturn, 1) := by decide +kernel
set_option maxRecDepth 20000 in
theorem ggX5_many_X5_has : GoodIn wsX5_many wsX5_has := goodIn_r _ [4] (by decide +kernel) (by decide +kernel)
set_option maxRecDepth 20000 in
theorem gX5_many_X5_has : GoodIn wsX5_many (va_wsS RX5 60 yX5_has wsX5_has) := goodIn_app (goodIn_of _ (by decide +kernel)) ggX5_many_X5_has
theorem dX5_many_0 : decode cX5_many 0 = .ok (.iconst 0, 1) := by decide +kernel
theorem dX5_many_1 : decode cX5_many 1 = .ok (.istore_n 2, 1) := by decide +kernel
theorem dX5_many_2 : decode cX5_many 2 = .ok (.iconst 0, 1) := by decide +kernel
theorem dX5_many_3 : decode cX5_many 3 = .ok (.istore_n 3, 1) := by decide +kernel
theorem dX5_many_4 : decode cX5_many 4 = .ok (.iload_n 3, 1) := by decide +kernel
theorem dX5_many_5 : decode cX5_many 5 = .ok (.bipush 64, 2) := by decide +kernel
theorem dX5_many_7 : decode cX5_many 7 = .ok (.if_icmp .ge 25, 3) := by decide +kernel
theorem dX5_many_10 : decode cX5_many 10 = .ok (.iload_n 2, 1) := by decide +kernel
theorem dX5_many_11 : decode cX5_many 11 = .ok (.lload_n 0, 1) := by decide +kernel
theorem dX5_many_12 : decode cX5_many 12 = .ok (.iload_n 3, 1) := by decide +kernel
theorem dX5_many_13 : decode cX5_many 13 = .ok (.invokestatic 60, 3) := by decide +kernel
theorem dX5_many_16 : decode cX5_many 16 = .ok (.ifCond .eq 7, 3) := by decide +kernel
theorem dX5_many_19 : decode cX5_many 19 = .ok (.iconst 1, 1) := by decide +kernel
theorem dX5_many_20 : decode cX5_many 20 = .ok (.goto 4, 3) := by decide +kernel
theorem dX5_many_23 : decode cX5_many 23 = .ok (.iconst 0, 1) := by decide +kernel
theorem dX5_many_24 : decode cX5_many 24 = .ok (.iadd, 1) := by decide +kernel
theorem dX5_many_25 : decode cX5_many 25 = .ok (.istore_n 2, 1) := by decide +kernel
theorem dX5_many_26 : decode cX5_many 26 = .ok (.iinc 3 1, 3) := by decide +kernel
theorem dX5_many_29 : decode cX5_many 29 = .ok (.goto (-25), 3) := by decide +kernel
theorem dX5_many_32 : decode cX5_many 32 = .ok (.iload_n 2, 1) := by decide +kernel
theorem dX5_many_33 : decode cX5_many 33 = .ok (.ireturn, 1) := by decide +kernel
set_option maxRecDepth 20000 in
theorem ggX5_type_X5_in : GoodIn wsX5_type wsX5_in := goodIn_r _ [7] (by decide +kernel) (by decide +kernel)
set_option maxRecDepth 20000 in
theorem gX5_type_X5_in : GoodIn wsX5_type (va_wsS RX5 66 yX5_in wsX5_in) := goodIn_app (goodIn_of _ (by decide +kernel)) ggX5_type_X5_in
theorem dX5_type_0 : decode cX5_type 0 = .ok (.iload_n 3, 1) := by decide +kernel
theorem dX5_type_1 : decode cX5_type 1 = .ok (.i2l, 1) := by decide +kernel
theorem dX5_type_2 : decode cX5_type 2 = .ok (.lconst 1, 1) := by decide +kernel
theorem dX5_type_3 : decode cX5_type 3 = .ok (.ldc2_w 64, 3) := by decide +kernel
theorem dX5_type_6 : decode cX5_type 6 = .ok (.invokestatic 66, 3) := by decide +kernel
theorem dX5_type_9 : decode cX5_type 9 = .ok (.ifCond .ne 5, 3) := by decide +kernel
theorem dX5_type_12 : decode cX5_type 12 = .ok (.iconst (-1), 1) := by decide +kernel
theorem dX5_type_13 : decode cX5_type 13 = .ok (.ireturn, 1) := by decide +kernel
theorem dX5_type_14 : decode cX5_type 14 = .ok (.aload_n 0, 1) := by decide +kernel
theorem dX5_type_15 : decode cX5_type 15 = .ok (.getfield 70, 3) := by decide +kernel
theorem dX5_type_18 : decode cX5_type 18 = .ok (.iload_n 3, 1) := by decide +kernel
theorem dX5_type_19 : decode cX5_type 19 = .ok (.iadd, 1) := by decide +kernel
theorem dX5_type_20 : decode cX5_type 20 = .ok (.sipush 300, 3) := by decide +kernel
theorem dX5_type_23 : decode cX5_type 23 = .ok (.if_icmp .le 6, 3) := by decide +kernel
theorem dX5_type_26 : decode cX5_type 26 = .ok (.bipush (-3), 2) := by decide +kernel
theorem dX5_type_28 : decode cX5_type 28 = .ok (.ireturn, 1) := by decide +kernel
theorem dX5_type_29 : decode cX5_type 29 = .ok (.iload_n 3, 1) := by decide +kernel
theorem dX5_type_30 : decode cX5_type 30 = .ok (.iconst 1, 1) := by decide +kernel
theorem dX5_type_31 : decode cX5_type 31 = .ok (.isub, 1) := by decide +kernel
theorem dX5_type_32 : decode cX5_type 32 = .ok (.istore 4, 2) := by decide +kernel
theorem dX5_type_34 : decode cX5_type 34 = .ok (.iload 4, 2) := by decide +kernel
theorem dX5_type_36 : decode cX5_type 36 = .ok (.ifCond .lt 37, 3) := by decide +kernel
theorem dX5_type_39 : decode cX5_type 39 = .ok (.aload_n 0, 1) := by decide +kernel
theorem dX5_type_40 : decode cX5_type 40 = .ok (.getfield 7, 3) := by decide +kernel
theorem dX5_type_43 : decode cX5_type 43 = .ok (.aload_n 0, 1) := by decide +kernel
theorem dX5_type_44 : decode cX5_type 44 = .ok (.getfield 70, 3) := by decide +kernel
theorem dX5_type_47 : decode cX5_type 47 = .ok (.lload_n 1, 1) := by decide +kernel
theorem dX5_type_48 : decode cX5_type 48 = .ok (.bipush 8, 2) := by decide +kernel
theorem dX5_type_50 : decode cX5_type 50 = .ok (.iload 4, 2) := by decide +kernel
theorem dX5_type_52 : decode cX5_type 52 = .ok (.imul, 1) := by decide +kernel
theorem dX5_type_53 : decode cX5_type 53 = .ok (.lshr, 1) := by decide +kernel
theorem dX5_type_54 : decode cX5_type 54 = .ok (.l2i, 1) := by decide +kernel
theorem dX5_type_55 : decode cX5_type 55 = .ok (.i2b, 1) := by decide +kernel
theorem dX5_type_56 : decode cX5_type 56 = .ok (.bastore, 1) := by decide +kernel
theorem dX5_type_57 : decode cX5_type 57 = .ok (.aload_n 0, 1) := by decide +kernel
theorem dX5_type_58 : decode cX5_type 58 = .ok (.dup, 1) := by decide +kernel
theorem dX5_type_59 : decode cX5_type 59 = .ok (.getfield 70, 3) := by decide +kernel
theorem dX5_type_62 : decode cX5_type 62 = .ok (.iconst 1, 1) := by decide +kernel
theorem dX5_type_63 : decode cX5_type 63 = .ok (.iadd, 1) := by decide +kernel
theorem dX5_type_64 : decode cX5_type 64 = .ok (.putfield 70, 3) := by decide +kernel
theorem dX5_type_67 : decode cX5_type 67 = .ok (.iinc 4 (-1), 3) := by decide +kernel
theorem dX5_type_70 : decode cX5_type 70 = .ok (.goto (-36), 3) := by decide +kernel
theorem dX5_type_73 : decode cX5_type 73 = .ok (.aload_n 0, 1) := by decide +kernel
theorem dX5_type_74 : decode cX5_type 74 = .ok (.getfield 70, 3) := by decide +kernel
theorem dX5_type_77 : decode cX5_type 77 = .ok (.ireturn, 1) := by decide +kernel
theorem dX5_clear_0 : decode cX5_clear 0 = .ok (.aload_n 0, 1) := by decide +kernel
theorem dX5_clear_1 : decode cX5_clear 1 = .ok (.getfield 70, 3) := by decide +kernel
theorem dX5_clear_4 : decode cX5_clear 4 = .ok (.istore_n 1, 1) := by decide +kernel
theorem dX5_clear_5 : decode cX5_clear 5 = .ok (.aload_n 0, 1) := by decide +kernel
theorem dX5_clear_6 : decode cX5_clear 6 = .ok (.iconst 0, 1) := by decide +kernel
theorem dX5_clear_7 : decode cX5_clear 7 = .ok (.putfield 70, 3) := by decide +kernel
theorem dX5_clear_10 : decode cX5_clear 10 = .ok (.iload_n 1, 1) := by decide +kernel
theorem dX5_clear_11 : decode cX5_clear 11 = .ok (.ireturn, 1) := by decide +kernel
set_option maxRecDepth 20000 in
theorem ggX5_isLow_X5_in : GoodIn wsX5_isLow wsX5_in := goodIn_r _ [8] (by decide +kernel) (by decide +kernel)
set_option maxRecDepth 20000 in
theorem gX5_isLow_X5_in : GoodIn wsX5_isLow (va_wsS RX5 66 yX5_in wsX5_in) := goodIn_app (goodIn_of _ (by decide +kernel)) ggX5_isLow_X5_in
theorem dX5_isLow_0 : decode cX5_isLow 0 = .ok (.iload_n 1, 1) := by decide +kernel
theorem dX5_isLow_1 : decode cX5_isLow 1 = .ok (.aload_n 0, 1) := by decide +kernel
theorem dX5_isLow_2 : decode cX5_isLow 2 = .ok (.getfield 70, 3) := by decide +kernel
theorem dX5_isLow_5 : decode cX5_isLow 5 = .ok (.if_icmp .ge 26, 3) := by decide +kernel
theorem dX5_isLow_8 : decode cX5_isLow 8 = .ok (.aload_n 0, 1) := by decide +kernel
theorem dX5_isLow_9 : decode cX5_isLow 9 = .ok (.getfield 7, 3) := by decide +kernel
theorem dX5_isLow_12 : decode cX5_isLow 12 = .ok (.iload_n 1, 1) := by decide +kernel
theorem dX5_isLow_13 : decode cX5_isLow 13 = .ok (.baload, 1) := by decide +kernel
theorem dX5_isLow_14 : decode cX5_isLow 14 = .ok (.i2l, 1) := by decide +kernel
theorem dX5_isLow_15 : decode cX5_isLow 15 = .ok (.ldc2_w 74, 3) := by decide +kernel
theorem dX5_isLow_18 : decode cX5_isLow 18 = .ok (.ldc2_w 76, 3) := by decide +kernel
theorem dX5_isLow_21 : decode cX5_isLow 21 = .ok (.invokestatic 66, 3) := by decide +kernel
theorem dX5_isLow_24 : decode cX5_isLow 24 = .ok (.ifCond .eq 7, 3) := by decide +kernel
theorem dX5_isLow_27 : decode cX5_isLow 27 = .ok (.iconst 1, 1) := by decide +kernel
theorem dX5_isLow_28 : decode cX5_isLow 28 = .ok (.goto 4, 3) := by decide +kernel
theorem dX5_isLow_31 : decode cX5_isLow 31 = .ok (.iconst 0, 1) := by decide +kernel
theorem dX5_isLow_32 : decode cX5_isLow 32 = .ok (.ireturn, 1) := by decide +kernel
theorem dX5_isWord_0 : decode cX5_isWord 0 = .ok (.aload_n 0, 1) := by decide +kernel
theorem dX5_isWord_1 : decode cX5_isWord 1 = .ok (.getfield 78, 3) := by decide +kernel
theorem dX5_isWord_4 : decode cX5_isWord 4 = .ok (.aload_n 0, 1) := by decide +kernel
theorem dX5_isWord_5 : decode cX5_isWord 5 = .ok (.getfield 81, 3) := by decide +kernel
theorem dX5_isWord_8 : decode cX5_isWord 8 = .ok (.isub, 1) := by decide +kernel
theorem dX5_isWord_9 : decode cX5_isWord 9 = .ok (.iconst 3, 1) := by decide +kernel
theorem dX5_isWord_10 : decode cX5_isWord 10 = .ok (.if_icmp .ne 50, 3) := by decide +kernel
theorem dX5_isWord_13 : decode cX5_isWord 13 = .ok (.aload_n 0, 1) := by decide +kernel
theorem dX5_isWord_14 : decode cX5_isWord 14 = .ok (.getfield 7, 3) := by decide +kernel
theorem dX5_isWord_17 : decode cX5_isWord 17 = .ok (.aload_n 0, 1) := by decide +kernel
theorem dX5_isWord_18 : decode cX5_isWord 18 = .ok (.getfield 81, 3) := by decide +kernel
theorem dX5_isWord_21 : decode cX5_isWord 21 = .ok (.baload, 1) := by decide +kernel
theorem dX5_isWord_22 : decode cX5_isWord 22 = .ok (.iload_n 1, 1) := by decide +kernel
theorem dX5_isWord_23 : decode cX5_isWord 23 = .ok (.if_icmp .ne 37, 3) := by decide +kernel
theorem dX5_isWord_26 : decode cX5_isWord 26 = .ok (.aload_n 0, 1) := by decide +kernel
theorem dX5_isWord_27 : decode cX5_isWord 27 = .ok (.getfield 7, 3) := by decide +kernel
theorem dX5_isWord_30 : decode cX5_isWord 30 = .ok (.aload_n 0, 1) := by decide +kernel
theorem dX5_isWord_31 : decode cX5_isWord 31 = .ok (.getfield 81, 3) := by decide +kernel
theorem dX5_isWord_34 : decode cX5_isWord 34 = .ok (.iconst 1, 1) := by decide +kernel
theorem dX5_isWord_35 : decode cX5_isWord 35 = .ok (.iadd, 1) := by decide +kernel
theorem dX5_isWord_36 : decode cX5_isWord 36 = .ok (.baload, 1) := by decide +kernel
theorem dX5_isWord_37 : decode cX5_isWord 37 = .ok (.iload_n 2, 1) := by decide +kernel
theorem dX5_isWord_38 : decode cX5_isWord 38 = .ok (.if_icmp .ne 22, 3) := by decide +kernel
theorem dX5_isWord_41 : decode cX5_isWord 41 = .ok (.aload_n 0, 1) := by decide +kernel
theorem dX5_isWord_42 : decode cX5_isWord 42 = .ok (.getfield 7, 3) := by decide +kernel
theorem dX5_isWord_45 : decode cX5_isWord 45 = .ok (.aload_n 0, 1) := by decide +kernel
theorem dX5_isWord_46 : decode cX5_isWord 46 = .ok (.getfield 81, 3) := by decide +kernel
theorem dX5_isWord_49 : decode cX5_isWord 49 = .ok (.iconst 2, 1) := by decide +kernel
theorem dX5_isWord_50 : decode cX5_isWord 50 = .ok (.iadd, 1) := by decide +kernel
theorem dX5_isWord_51 : decode cX5_isWord 51 = .ok (.baload, 1) := by decide +kernel
theorem dX5_isWord_52 : decode cX5_isWord 52 = .ok (.iload_n 3, 1) := by decide +kernel
theorem dX5_isWord_53 : decode cX5_isWord 53 = .ok (.if_icmp .ne 7, 3) := by decide +kernel
theorem dX5_isWord_56 : decode cX5_isWord 56 = .ok (.iconst 1, 1) := by decide +kernel
theorem dX5_isWord_57 : decode cX5_isWord 57 = .ok (.goto 4, 3) := by decide +kernel
theorem dX5_isWord_60 : decode cX5_isWord 60 = .ok (.iconst 0, 1) := by decide +kernel
theorem dX5_isWord_61 : decode cX5_isWord 61 = .ok (.ireturn, 1) := by decide +kernel
set_option maxRecDepth 20000 in
theorem ggX5_token_X5_isLow : GoodIn wsX5_token wsX5_isLow := goodIn_r _ [12, 3, 4, 13, 14, 15, 16, 11, 17, 22, 23, 24, 25, 26, 27, 28, 29, 30, 31, 32, 33, 34, 35, 36, 37, 38, 39, 40, 41, 42, 43, 44, 45, 46, 47, 48, 49, 50] (by decide +kernel) (by decide +kernel)
set_option maxRecDepth 20000 in
theorem gX5_token_X5_isLow : GoodIn wsX5_token (wsV RX5 87 RX5 yX5_isLow wsX5_isLow) := goodIn_app (goodIn_of _ (by decide +kernel)) ggX5_token_X5_isLow
set_option maxRecDepth 20000 in
theorem ggX5_token_X5_isWord : GoodIn wsX5_token wsX5_isWord := goodIn_r _ [21, 1, 2, 4, 22, 23, 24, 25, 26, 27, 28, 29, 30, 31, 32, 33, 34, 35, 36, 37, 38, 39, 40, 41, 42, 43, 44, 45, 46, 47, 48, 49, 50] (by decide +kernel) (by decide +kernel)
set_option maxRecDepth 20000 in
theorem gX5_token_X5_isWord : GoodIn wsX5_token (wsV RX5 91 RX5 yX5_isWord wsX5_isWord) := goodIn_app (goodIn_of _ (by decide +kernel)) ggX5_token_X5_isWord
set_option maxRecDepth 20000 in
theorem ggX5_token_X5_in : GoodIn wsX5_token wsX5_in := goodIn_r _ [17] (by decide +kernel) (by decide +kernel)
set_option maxRecDepth 20000 in
theorem gX5_token_X5_in : GoodIn wsX5_token (va_wsS RX5 66 yX5_in wsX5_in) := goodIn_app (goodIn_of _ (by decide +kernel)) ggX5_token_X5_in
theorem dX5_token_0 : decode cX5_token 0 = .ok (.aload_n 0, 1) := by decide +kernel
theorem dX5_token_1 : decode cX5_token 1 = .ok (.aload_n 0, 1) := by decide +kernel
theorem dX5_token_2 : decode cX5_token 2 = .ok (.getfield 78, 3) := by decide +kernel
theorem dX5_token_5 : decode cX5_token 5 = .ok (.putfield 81, 3) := by decide +kernel
theorem dX5_token_8 : decode cX5_token 8 = .ok (.aload_n 0, 1) := by decide +kernel
theorem dX5_token_9 : decode cX5_token 9 = .ok (.getfield 81, 3) := by decide +kernel
theorem dX5_token_12 : decode cX5_token 12 = .ok (.aload_n 0, 1) := by decide +kernel
theorem dX5_token_13 : decode cX5_token 13 = .ok (.getfield 70, 3) := by decide +kernel
theorem dX5_token_16 : decode cX5_token 16 = .ok (.if_icmp .ge 30, 3) := by decide +kernel
theorem dX5_token_19 : decode cX5_token 19 = .ok (.aload_n 0, 1) := by decide +kernel
theorem dX5_token_20 : decode cX5_token 20 = .ok (.getfield 7, 3) := by decide +kernel
theorem dX5_token_23 : decode cX5_token 23 = .ok (.aload_n 0, 1) := by decide +kernel
theorem dX5_token_24 : decode cX5_token 24 = .ok (.getfield 81, 3) := by decide +kernel
theorem dX5_token_27 : decode cX5_token 27 = .ok (.baload, 1) := by decide +kernel
theorem dX5_token_28 : decode cX5_token 28 = .ok (.bipush 32, 2) := by decide +kernel
theorem dX5_token_30 : decode cX5_token 30 = .ok (.if_icmp .ne 16, 3) := by decide +kernel
theorem dX5_token_33 : decode cX5_token 33 = .ok (.aload_n 0, 1) := by decide +kernel
theorem dX5_token_34 : decode cX5_token 34 = .ok (.dup, 1) := by decide +kernel
theorem dX5_token_35 : decode cX5_token 35 = .ok (.getfield 81, 3) := by decide +kernel
theorem dX5_token_38 : decode cX5_token 38 = .ok (.iconst 1, 1) := by decide +kernel
theorem dX5_token_39 : decode cX5_token 39 = .ok (.iadd, 1) := by decide +kernel
theorem dX5_token_40 : decode cX5_token 40 = .ok (.putfield 81, 3) := by decide +kernel
theorem dX5_token_43 : decode cX5_token 43 = .ok (.goto (-35), 3) := by decide +kernel
theorem dX5_token_46 : decode cX5_token 46 = .ok (.aload_n 0, 1) := by decide +kernel
theorem dX5_token_47 : decode cX5_token 47 = .ok (.aload_n 0, 1) := by decide +kernel
theorem dX5_token_48 : decode cX5_token 48 = .ok (.getfield 81, 3) := by decide +kernel
theorem dX5_token_51 : decode cX5_token 51 = .ok (.putfield 78, 3) := by decide +kernel
theorem dX5_token_54 : decode cX5_token 54 = .ok (.aload_n 0, 1) := by decide +kernel
theorem dX5_token_55 : decode cX5_token 55 = .ok (.getfield 81, 3) := by decide +kernel
theorem dX5_token_58 : decode cX5_token 58 = .ok (.aload_n 0, 1) := by decide +kernel
theorem dX5_token_59 : decode cX5_token 59 = .ok (.getfield 70, 3) := by decide +kernel
theorem dX5_token_62 : decode cX5_token 62 = .ok (.if_icmp .ne 9, 3) := by decide +kernel
theorem dX5_token_65 : decode cX5_token 65 = .ok (.aload_n 0, 1) := by decide +kernel
theorem dX5_token_66 : decode cX5_token 66 = .ok (.iconst 0, 1) := by decide +kernel
theorem dX5_token_67 : decode cX5_token 67 = .ok (.putfield 84, 3) := by decide +kernel
theorem dX5_token_70 : decode cX5_token 70 = .ok (.return_, 1) := by decide +kernel
theorem dX5_token_71 : decode cX5_token 71 = .ok (.aload_n 0, 1) := by decide +kernel
theorem dX5_token_72 : decode cX5_token 72 = .ok (.getfield 7, 3) := by decide +kernel
theorem dX5_token_75 : decode cX5_token 75 = .ok (.aload_n 0, 1) := by decide +kernel
theorem dX5_token_76 : decode cX5_token 76 = .ok (.getfield 81, 3) := by decide +kernel
theorem dX5_token_79 : decode cX5_token 79 = .ok (.baload, 1) := by decide +kernel
theorem dX5_token_80 : decode cX5_token 80 = .ok (.istore_n 1, 1) := by decide +kernel
theorem dX5_token_81 : decode cX5_token 81 = .ok (.aload_n 0, 1) := by decide +kernel
theorem dX5_token_82 : decode cX5_token 82 = .ok (.aload_n 0, 1) := by decide +kernel
theorem dX5_token_83 : decode cX5_token 83 = .ok (.getfield 81, 3) := by decide +kernel
theorem dX5_token_86 : decode cX5_token 86 = .ok (.invokevirtual 87, 3) := by decide +kernel
theorem dX5_token_89 : decode cX5_token 89 = .ok (.ifCond .eq 94, 3) := by decide +kernel
theorem dX5_token_92 : decode cX5_token 92 = .ok (.aload_n 0, 1) := by decide +kernel
theorem dX5_token_93 : decode cX5_token 93 = .ok (.aload_n 0, 1) := by decide +kernel
theorem dX5_token_94 : decode cX5_token 94 = .ok (.getfield 78, 3) := by decide +kernel
theorem dX5_token_97 : decode cX5_token 97 = .ok (.invokevirtual 87, 3) := by decide +kernel
theorem dX5_token_100 : decode cX5_token 100 = .ok (.ifCond .eq 16, 3) := by decide +kernel
theorem dX5_token_103 : decode cX5_token 103 = .ok (.aload_n 0, 1) := by decide +kernel
theorem dX5_token_104 : decode cX5_token 104 = .ok (.dup, 1) := by decide +kernel
theorem dX5_token_105 : decode cX5_token 105 = .ok (.getfield 78, 3) := by decide +kernel
theorem dX5_token_108 : decode cX5_token 108 = .ok (.iconst 1, 1) := by decide +kernel
theorem dX5_token_109 : decode cX5_token 109 = .ok (.iadd, 1) := by decide +kernel
theorem dX5_token_110 : decode cX5_token 110 = .ok (.putfield 78, 3) := by decide +kernel
theorem dX5_token_113 : decode cX5_token 113 = .ok (.goto (-21), 3) := by decide +kernel
theorem dX5_token_116 : decode cX5_token 116 = .ok (.aload_n 0, 1) := by decide +kernel
theorem dX5_token_117 : decode cX5_token 117 = .ok (.aload_n 0, 1) := by decide +kernel
theorem dX5_token_118 : decode cX5_token 118 = .ok (.bipush 108, 2) := by decide +kernel
theorem dX5_token_120 : decode cX5_token 120 = .ok (.bipush 97, 2) := by decide +kernel
theorem dX5_token_122 : decode cX5_token 122 = .ok (.bipush 119, 2) := by decide +kernel
theorem dX5_token_124 : decode cX5_token 124 = .ok (.invokevirtual 91, 3) := by decide +kernel
theorem dX5_token_127 : decode cX5_token 127 = .ok (.ifCond .eq 8, 3) := by decide +kernel
theorem dX5_token_130 : decode cX5_token 130 = .ok (.bipush 76, 2) := by decide +kernel
theorem dX5_token_132 : decode cX5_token 132 = .ok (.goto 45, 3) := by decide +kernel
theorem dX5_token_135 : decode cX5_token 135 = .ok (.aload_n 0, 1) := by decide +kernel
theorem dX5_token_136 : decode cX5_token 136 = .ok (.bipush 115, 2) := by decide +kernel
theorem dX5_token_138 : decode cX5_token 138 = .ok (.bipush 97, 2) := by decide +kernel
theorem dX5_token_140 : decode cX5_token 140 = .ok (.bipush 121, 2) := by decide +kernel
theorem dX5_token_142 : decode cX5_token 142 = .ok (.invokevirtual 91, 3) := by decide +kernel
theorem dX5_token_145 : decode cX5_token 145 = .ok (.ifCond .eq 8, 3) := by decide +kernel
theorem dX5_token_148 : decode cX5_token 148 = .ok (.bipush 83, 2) := by decide +kernel
theorem dX5_token_150 : decode cX5_token 150 = .ok (.goto 27, 3) := by decide +kernel
theorem dX5_token_153 : decode cX5_token 153 = .ok (.aload_n 0, 1) := by decide +kernel
theorem dX5_token_154 : decode cX5_token 154 = .ok (.getfield 78, 3) := by decide +kernel
theorem dX5_token_157 : decode cX5_token 157 = .ok (.aload_n 0, 1) := by decide +kernel
theorem dX5_token_158 : decode cX5_token 158 = .ok (.getfield 81, 3) := by decide +kernel
theorem dX5_token_161 : decode cX5_token 161 = .ok (.isub, 1) := by decide +kernel
theorem dX5_token_162 : decode cX5_token 162 = .ok (.iconst 1, 1) := by decide +kernel
theorem dX5_token_163 : decode cX5_token 163 = .ok (.if_icmp .ne 13, 3) := by decide +kernel
theorem dX5_token_166 : decode cX5_token 166 = .ok (.iload_n 1, 1) := by decide +kernel
theorem dX5_token_167 : decode cX5_token 167 = .ok (.bipush 102, 2) := by decide +kernel
theorem dX5_token_169 : decode cX5_token 169 = .ok (.if_icmp .gt 7, 3) := by decide +kernel
theorem dX5_token_172 : decode cX5_token 172 = .ok (.iload_n 1, 1) := by decide +kernel
theorem dX5_token_173 : decode cX5_token 173 = .ok (.goto 4, 3) := by decide +kernel
theorem dX5_token_176 : decode cX5_token 176 = .ok (.iconst 1, 1) := by decide +kernel
theorem dX5_token_177 : decode cX5_token 177 = .ok (.putfield 84, 3) := by decide +kernel
theorem dX5_token_180 : decode cX5_token 180 = .ok (.goto 82, 3) := by decide +kernel
theorem dX5_token_183 : decode cX5_token 183 = .ok (.iload_n 1, 1) := by decide +kernel
theorem dX5_token_184 : decode cX5_token 184 = .ok (.i2l, 1) := by decide +kernel
theorem dX5_token_185 : decode cX5_token 185 = .ok (.ldc2_w 95, 3) := by decide +kernel
theorem dX5_token_188 : decode cX5_token 188 = .ok (.ldc2_w 97, 3) := by decide +kernel
theorem dX5_token_191 : decode cX5_token 191 = .ok (.invokestatic 66, 3) := by decide +kernel
theorem dX5_token_194 : decode cX5_token 194 = .ok (.ifCond .ne 39, 3) := by decide +kernel
theorem dX5_token_197 : decode cX5_token 197 = .ok (.iload_n 1, 1) := by decide +kernel
theorem dX5_token_198 : decode cX5_token 198 = .ok (.bipush 59, 2) := by decide +kernel
theorem dX5_token_200 : decode cX5_token 200 = .ok (.if_icmp .eq 33, 3) := by decide +kernel
theorem dX5_token_203 : decode cX5_token 203 = .ok (.iload_n 1, 1) := by decide +kernel
theorem dX5_token_204 : decode cX5_token 204 = .ok (.bipush 124, 2) := by decide +kernel
theorem dX5_token_206 : decode cX5_token 206 = .ok (.if_icmp .eq 27, 3) := by decide +kernel
theorem dX5_token_209 : decode cX5_token 209 = .ok (.iload_n 1, 1) := by decide +kernel
theorem dX5_token_210 : decode cX5_token 210 = .ok (.bipush 38, 2) := by decide +kernel
theorem dX5_token_212 : decode cX5_token 212 = .ok (.if_icmp .eq 21, 3) := by decide +kernel
theorem dX5_token_215 : decode cX5_token 215 = .ok (.iload_n 1, 1) := by decide +kernel
theorem dX5_token_216 : decode cX5_token 216 = .ok (.bipush 33, 2) := by decide +kernel
theorem dX5_token_218 : decode cX5_token 218 = .ok (.if_icmp .eq 15, 3) := by decide +kernel
theorem dX5_token_221 : decode cX5_token 221 = .ok (.iload_n 1, 1) := by decide +kernel
theorem dX5_token_222 : decode cX5_token 222 = .ok (.bipush 40, 2) := by decide +kernel
theorem dX5_token_224 : decode cX5_token 224 = .ok (.if_icmp .eq 9, 3) := by decide +kernel
theorem dX5_token_227 : decode cX5_token 227 = .ok (.iload_n 1, 1) := by decide +kernel
theorem dX5_token_228 : decode cX5_token 228 = .ok (.bipush 41, 2) := by decide +kernel
theorem dX5_token_230 : decode cX5_token 230 = .ok (.if_icmp .ne 7, 3) := by decide +kernel
theorem dX5_token_233 : decode cX5_token 233 = .ok (.iconst 1, 1) := by decide +kernel
theorem dX5_token_234 : decode cX5_token 234 = .ok (.goto 4, 3) := by decide +kernel
theorem dX5_token_237 : decode cX5_token 237 = .ok (.iconst 0, 1) := by decide +kernel
theorem dX5_token_238 : decode cX5_token 238 = .ok (.istore_n 2, 1) := by decide +kernel
theorem dX5_token_239 : decode cX5_token 239 = .ok (.aload_n 0, 1) := by decide +kernel
theorem dX5_token_240 : decode cX5_token 240 = .ok (.iload_n 2, 1) := by decide +kernel
theorem dX5_token_241 : decode cX5_token 241 = .ok (.ifCond .eq 7, 3) := by decide +kernel
theorem dX5_token_244 : decode cX5_token 244 = .ok (.iload_n 1, 1) := by decide +kernel
theorem dX5_token_245 : decode cX5_token 245 = .ok (.goto 4, 3) := by decide +kernel
theorem dX5_token_248 : decode cX5_token 248 = .ok (.iconst 1, 1) := by decide +kernel
theorem dX5_token_249 : decode cX5_token 249 = .ok (.putfield 84, 3) := by decide +kernel
theorem dX5_token_252 : decode cX5_token 252 = .ok (.aload_n 0, 1) := by decide +kernel
theorem dX5_token_253 : decode cX5_token 253 = .ok (.dup, 1) := by decide +kernel
theorem dX5_token_254 : decode cX5_token 254 = .ok (.getfield 78, 3) := by decide +kernel
theorem dX5_token_257 : decode cX5_token 257 = .ok (.iconst 1, 1) := by decide +kernel
theorem dX5_token_258 : decode cX5_token 258 = .ok (.iadd, 1) := by decide +kernel
theorem dX5_token_259 : decode cX5_token 259 = .ok (.putfield 78, 3) := by decide +kernel
theorem dX5_token_262 : decode cX5_token 262 = .ok (.return_, 1) := by decide +kernel
set_option maxRecDepth 20000 in
theorem ggX5_lettered_X5_has : GoodIn wsX5_lettered wsX5_has := goodIn_r _ [4] (by decide +kernel) (by decide +kernel)
set_option maxRecDepth 20000 in
theorem gX5_lettered_X5_has : GoodIn wsX5_lettered (va_wsS RX5 60 yX5_has wsX5_has) := goodIn_app (goodIn_of _ (by decide +kernel)) ggX5_lettered_X5_has
theorem dX5_lettered_0 : decode cX5_lettered 0 = .ok (.lconst 0, 1) := by decide +kernel
theorem dX5_lettered_1 : decode cX5_lettered 1 = .ok (.lstore_n 1, 1) := by decide +kernel
theorem dX5_lettered_2 : decode cX5_lettered 2 = .ok (.iconst 0, 1) := by decide +kernel
theorem dX5_lettered_3 : decode cX5_lettered 3 = .ok (.istore_n 3, 1) := by decide +kernel
theorem dX5_lettered_4 : decode cX5_lettered 4 = .ok (.iload_n 3, 1) := by decide +kernel
theorem dX5_lettered_5 : decode cX5_lettered 5 = .ok (.bipush 64, 2) := by decide +kernel
theorem dX5_lettered_7 : decode cX5_lettered 7 = .ok (.if_icmp .ge 28, 3) := by decide +kernel
theorem dX5_lettered_10 : decode cX5_lettered 10 = .ok (.lload_n 1, 1) := by decide +kernel
theorem dX5_lettered_11 : decode cX5_lettered 11 = .ok (.iload_n 3, 1) := by decide +kernel
theorem dX5_lettered_12 : decode cX5_lettered 12 = .ok (.i2l, 1) := by decide +kernel
theorem dX5_lettered_13 : decode cX5_lettered 13 = .ok (.iload_n 0, 1) := by decide +kernel
theorem dX5_lettered_14 : decode cX5_lettered 14 = .ok (.invokestatic 60, 3) := by decide +kernel
theorem dX5_lettered_17 : decode cX5_lettered 17 = .ok (.ifCond .eq 9, 3) := by decide +kernel
theorem dX5_lettered_20 : decode cX5_lettered 20 = .ok (.lconst 1, 1) := by decide +kernel
theorem dX5_lettered_21 : decode cX5_lettered 21 = .ok (.iload_n 3, 1) := by decide +kernel
theorem dX5_lettered_22 : decode cX5_lettered 22 = .ok (.lshl, 1) := by decide +kernel
theorem dX5_lettered_23 : decode cX5_lettered 23 = .ok (.goto 4, 3) := by decide +kernel
theorem dX5_lettered_26 : decode cX5_lettered 26 = .ok (.lconst 0, 1) := by decide +kernel
theorem dX5_lettered_27 : decode cX5_lettered 27 = .ok (.lor, 1) := by decide +kernel
theorem dX5_lettered_28 : decode cX5_lettered 28 = .ok (.lstore_n 1, 1) := by decide +kernel
theorem dX5_lettered_29 : decode cX5_lettered 29 = .ok (.iinc 3 1, 3) := by decide +kernel
theorem dX5_lettered_32 : decode cX5_lettered 32 = .ok (.goto (-28), 3) := by decide +kernel
theorem dX5_lettered_35 : decode cX5_lettered 35 = .ok (.lload_n 1, 1) := by decide +kernel
theorem dX5_lettered_36 : decode cX5_lettered 36 = .ok (.lreturn, 1) := by decide +kernel
set_option maxRecDepth 20000 in
theorem ggX5_saying_X5_in : GoodIn wsX5_saying wsX5_in := goodIn_r _ [15] (by decide +kernel) (by decide +kernel)
set_option maxRecDepth 20000 in
theorem gX5_saying_X5_in : GoodIn wsX5_saying (va_wsS RX5 66 yX5_in wsX5_in) := goodIn_app (goodIn_of _ (by decide +kernel)) ggX5_saying_X5_in
set_option maxRecDepth 20000 in
theorem ggX5_saying_X5_lettered : GoodIn wsX5_saying wsX5_lettered := goodIn_r _ [18, 19, 20, 14, 21] (by decide +kernel) (by decide +kernel)
set_option maxRecDepth 20000 in
theorem gX5_saying_X5_lettered : GoodIn wsX5_saying (va_wsS RX5 107 yX5_lettered wsX5_lettered) := goodIn_app (goodIn_of _ (by decide +kernel)) ggX5_saying_X5_lettered
set_option maxRecDepth 20000 in
theorem ggX5_saying_X5_ends : GoodIn wsX5_saying wsX5_ends := goodIn_r _ [25, 1, 10, 5, 4, 2, 44, 45, 46, 47, 48, 49, 50, 51, 52, 53, 54, 55, 56, 57, 58, 59, 60, 61, 62, 63, 64, 65, 66, 67, 68, 69, 70, 71, 72] (by decide +kernel) (by decide +kernel)
set_option maxRecDepth 20000 in
theorem gX5_saying_X5_ends : GoodIn wsX5_saying (wsV RX5 111 RX5 yX5_ends wsX5_ends) := goodIn_app (goodIn_of _ (by decide +kernel)) ggX5_saying_X5_ends
set_option maxRecDepth 20000 in
theorem ggX5_saying_X5_token : GoodIn wsX5_saying wsX5_token := goodIn_r _ [29, 30, 9, 31, 32, 6, 33, 34, 35, 36, 37, 14, 38, 7, 39, 12, 13, 15, 40, 41, 42, 43, 44, 45, 46, 47, 48, 49, 50, 51, 52, 53, 54, 55, 56, 57, 58, 59, 60, 61, 62, 63, 64, 65, 66, 67, 68, 69, 70, 71, 72] (by decide +kernel) (by decide +kernel)
set_option maxRecDepth 20000 in
theorem gX5_saying_X5_token : GoodIn wsX5_saying (wsV RX5 118 RX5 yX5_token wsX5_token) := goodIn_app (goodIn_of _ (by decide +kernel)) ggX5_saying_X5_token
theorem dX5_saying_0 : decode cX5_saying 0 = .ok (.aload_n 0, 1) := by decide +kernel
theorem dX5_saying_1 : decode cX5_saying 1 = .ok (.iconst 0, 1) := by decide +kernel
theorem dX5_saying_2 : decode cX5_saying 2 = .ok (.putfield 99, 3) := by decide +kernel
theorem dX5_saying_5 : decode cX5_saying 5 = .ok (.aload_n 0, 1) := by decide +kernel
theorem dX5_saying_6 : decode cX5_saying 6 = .ok (.iconst 0, 1) := by decide +kernel
theorem dX5_saying_7 : decode cX5_saying 7 = .ok (.putfield 102, 3) := by decide +kernel
theorem dX5_saying_10 : decode cX5_saying 10 = .ok (.aload_n 0, 1) := by decide +kernel
theorem dX5_saying_11 : decode cX5_saying 11 = .ok (.getfield 42, 3) := by decide +kernel
theorem dX5_saying_14 : decode cX5_saying 14 = .ok (.iconst 0, 1) := by decide +kernel
theorem dX5_saying_15 : decode cX5_saying 15 = .ok (.lconst 0, 1) := by decide +kernel
theorem dX5_saying_16 : decode cX5_saying 16 = .ok (.lastore, 1) := by decide +kernel
theorem dX5_saying_17 : decode cX5_saying 17 = .ok (.aload_n 0, 1) := by decide +kernel
theorem dX5_saying_18 : decode cX5_saying 18 = .ok (.getfield 45, 3) := by decide +kernel
theorem dX5_saying_21 : decode cX5_saying 21 = .ok (.iconst 0, 1) := by decide +kernel
theorem dX5_saying_22 : decode cX5_saying 22 = .ok (.ldc2_w 13, 3) := by decide +kernel
theorem dX5_saying_25 : decode cX5_saying 25 = .ok (.lastore, 1) := by decide +kernel
theorem dX5_saying_26 : decode cX5_saying 26 = .ok (.iconst 1, 1) := by decide +kernel
theorem dX5_saying_27 : decode cX5_saying 27 = .ok (.istore_n 1, 1) := by decide +kernel
theorem dX5_saying_28 : decode cX5_saying 28 = .ok (.iload_n 1, 1) := by decide +kernel
theorem dX5_saying_29 : decode cX5_saying 29 = .ok (.ifCond .eq 208, 3) := by decide +kernel
theorem dX5_saying_32 : decode cX5_saying 32 = .ok (.aload_n 0, 1) := by decide +kernel
theorem dX5_saying_33 : decode cX5_saying 33 = .ok (.getfield 84, 3) := by decide +kernel
theorem dX5_saying_36 : decode cX5_saying 36 = .ok (.bipush 33, 2) := by decide +kernel
theorem dX5_saying_38 : decode cX5_saying 38 = .ok (.if_icmp .eq 12, 3) := by decide +kernel
theorem dX5_saying_41 : decode cX5_saying 41 = .ok (.aload_n 0, 1) := by decide +kernel
theorem dX5_saying_42 : decode cX5_saying 42 = .ok (.getfield 84, 3) := by decide +kernel
theorem dX5_saying_45 : decode cX5_saying 45 = .ok (.bipush 40, 2) := by decide +kernel
theorem dX5_saying_47 : decode cX5_saying 47 = .ok (.if_icmp .ne 7, 3) := by decide +kernel
theorem dX5_saying_50 : decode cX5_saying 50 = .ok (.iconst 1, 1) := by decide +kernel
theorem dX5_saying_51 : decode cX5_saying 51 = .ok (.goto 4, 3) := by decide +kernel
theorem dX5_saying_54 : decode cX5_saying 54 = .ok (.iconst 0, 1) := by decide +kernel
theorem dX5_saying_55 : decode cX5_saying 55 = .ok (.istore_n 2, 1) := by decide +kernel
theorem dX5_saying_56 : decode cX5_saying 56 = .ok (.aload_n 0, 1) := by decide +kernel
theorem dX5_saying_57 : decode cX5_saying 57 = .ok (.getfield 84, 3) := by decide +kernel
theorem dX5_saying_60 : decode cX5_saying 60 = .ok (.i2l, 1) := by decide +kernel
theorem dX5_saying_61 : decode cX5_saying 61 = .ok (.ldc2_w 74, 3) := by decide +kernel
theorem dX5_saying_64 : decode cX5_saying 64 = .ok (.ldc2_w 105, 3) := by decide +kernel
theorem dX5_saying_67 : decode cX5_saying 67 = .ok (.invokestatic 66, 3) := by decide +kernel
theorem dX5_saying_70 : decode cX5_saying 70 = .ok (.ifCond .ne 34, 3) := by decide +kernel
theorem dX5_saying_73 : decode cX5_saying 73 = .ok (.aload_n 0, 1) := by decide +kernel
theorem dX5_saying_74 : decode cX5_saying 74 = .ok (.getfield 84, 3) := by decide +kernel
theorem dX5_saying_77 : decode cX5_saying 77 = .ok (.bipush 48, 2) := by decide +kernel
theorem dX5_saying_79 : decode cX5_saying 79 = .ok (.if_icmp .eq 25, 3) := by decide +kernel
theorem dX5_saying_82 : decode cX5_saying 82 = .ok (.aload_n 0, 1) := by decide +kernel
theorem dX5_saying_83 : decode cX5_saying 83 = .ok (.getfield 84, 3) := by decide +kernel
theorem dX5_saying_86 : decode cX5_saying 86 = .ok (.bipush 49, 2) := by decide +kernel
theorem dX5_saying_88 : decode cX5_saying 88 = .ok (.if_icmp .eq 16, 3) := by decide +kernel
theorem dX5_saying_91 : decode cX5_saying 91 = .ok (.iload_n 2, 1) := by decide +kernel
theorem dX5_saying_92 : decode cX5_saying 92 = .ok (.ifCond .eq 16, 3) := by decide +kernel
theorem dX5_saying_95 : decode cX5_saying 95 = .ok (.aload_n 0, 1) := by decide +kernel
theorem dX5_saying_96 : decode cX5_saying 96 = .ok (.getfield 99, 3) := by decide +kernel
theorem dX5_saying_99 : decode cX5_saying 99 = .ok (.bipush 8, 2) := by decide +kernel
theorem dX5_saying_101 : decode cX5_saying 101 = .ok (.if_icmp .ge 7, 3) := by decide +kernel
theorem dX5_saying_104 : decode cX5_saying 104 = .ok (.iconst 1, 1) := by decide +kernel
theorem dX5_saying_105 : decode cX5_saying 105 = .ok (.goto 4, 3) := by decide +kernel
theorem dX5_saying_108 : decode cX5_saying 108 = .ok (.iconst 0, 1) := by decide +kernel
theorem dX5_saying_109 : decode cX5_saying 109 = .ok (.istore_n 3, 1) := by decide +kernel
theorem dX5_saying_110 : decode cX5_saying 110 = .ok (.iload_n 3, 1) := by decide +kernel
theorem dX5_saying_111 : decode cX5_saying 111 = .ok (.ifCond .ne 8, 3) := by decide +kernel
theorem dX5_saying_114 : decode cX5_saying 114 = .ok (.aload_n 0, 1) := by decide +kernel
theorem dX5_saying_115 : decode cX5_saying 115 = .ok (.getfield 81, 3) := by decide +kernel
theorem dX5_saying_118 : decode cX5_saying 118 = .ok (.ireturn, 1) := by decide +kernel
theorem dX5_saying_119 : decode cX5_saying 119 = .ok (.iload_n 2, 1) := by decide +kernel
theorem dX5_saying_120 : decode cX5_saying 120 = .ok (.ifCond .eq 70, 3) := by decide +kernel
theorem dX5_saying_123 : decode cX5_saying 123 = .ok (.aload_n 0, 1) := by decide +kernel
theorem dX5_saying_124 : decode cX5_saying 124 = .ok (.getfield 39, 3) := by decide +kernel
theorem dX5_saying_127 : decode cX5_saying 127 = .ok (.aload_n 0, 1) := by decide +kernel
theorem dX5_saying_128 : decode cX5_saying 128 = .ok (.getfield 99, 3) := by decide +kernel
theorem dX5_saying_131 : decode cX5_saying 131 = .ok (.aload_n 0, 1) := by decide +kernel
theorem dX5_saying_132 : decode cX5_saying 132 = .ok (.getfield 84, 3) := by decide +kernel
theorem dX5_saying_135 : decode cX5_saying 135 = .ok (.iastore, 1) := by decide +kernel
theorem dX5_saying_136 : decode cX5_saying 136 = .ok (.aload_n 0, 1) := by decide +kernel
theorem dX5_saying_137 : decode cX5_saying 137 = .ok (.dup, 1) := by decide +kernel
theorem dX5_saying_138 : decode cX5_saying 138 = .ok (.getfield 99, 3) := by decide +kernel
theorem dX5_saying_141 : decode cX5_saying 141 = .ok (.iconst 1, 1) := by decide +kernel
theorem dX5_saying_142 : decode cX5_saying 142 = .ok (.iadd, 1) := by decide +kernel
theorem dX5_saying_143 : decode cX5_saying 143 = .ok (.putfield 99, 3) := by decide +kernel
theorem dX5_saying_146 : decode cX5_saying 146 = .ok (.aload_n 0, 1) := by decide +kernel
theorem dX5_saying_147 : decode cX5_saying 147 = .ok (.getfield 84, 3) := by decide +kernel
theorem dX5_saying_150 : decode cX5_saying 150 = .ok (.bipush 40, 2) := by decide +kernel
theorem dX5_saying_152 : decode cX5_saying 152 = .ok (.if_icmp .ne 82, 3) := by decide +kernel
theorem dX5_saying_155 : decode cX5_saying 155 = .ok (.aload_n 0, 1) := by decide +kernel
theorem dX5_saying_156 : decode cX5_saying 156 = .ok (.dup, 1) := by decide +kernel
theorem dX5_saying_157 : decode cX5_saying 157 = .ok (.getfield 102, 3) := by decide +kernel
theorem dX5_saying_160 : decode cX5_saying 160 = .ok (.iconst 1, 1) := by decide +kernel
theorem dX5_saying_161 : decode cX5_saying 161 = .ok (.iadd, 1) := by decide +kernel
theorem dX5_saying_162 : decode cX5_saying 162 = .ok (.putfield 102, 3) := by decide +kernel
theorem dX5_saying_165 : decode cX5_saying 165 = .ok (.aload_n 0, 1) := by decide +kernel
theorem dX5_saying_166 : decode cX5_saying 166 = .ok (.getfield 42, 3) := by decide +kernel
theorem dX5_saying_169 : decode cX5_saying 169 = .ok (.aload_n 0, 1) := by decide +kernel
theorem dX5_saying_170 : decode cX5_saying 170 = .ok (.getfield 102, 3) := by decide +kernel
theorem dX5_saying_173 : decode cX5_saying 173 = .ok (.lconst 0, 1) := by decide +kernel
theorem dX5_saying_174 : decode cX5_saying 174 = .ok (.lastore, 1) := by decide +kernel
theorem dX5_saying_175 : decode cX5_saying 175 = .ok (.aload_n 0, 1) := by decide +kernel
theorem dX5_saying_176 : decode cX5_saying 176 = .ok (.getfield 45, 3) := by decide +kernel
theorem dX5_saying_179 : decode cX5_saying 179 = .ok (.aload_n 0, 1) := by decide +kernel
theorem dX5_saying_180 : decode cX5_saying 180 = .ok (.getfield 102, 3) := by decide +kernel
theorem dX5_saying_183 : decode cX5_saying 183 = .ok (.ldc2_w 13, 3) := by decide +kernel
theorem dX5_saying_186 : decode cX5_saying 186 = .ok (.lastore, 1) := by decide +kernel
theorem dX5_saying_187 : decode cX5_saying 187 = .ok (.goto 47, 3) := by decide +kernel
theorem dX5_saying_190 : decode cX5_saying 190 = .ok (.aload_n 0, 1) := by decide +kernel
theorem dX5_saying_191 : decode cX5_saying 191 = .ok (.aload_n 0, 1) := by decide +kernel
theorem dX5_saying_192 : decode cX5_saying 192 = .ok (.getfield 84, 3) := by decide +kernel
theorem dX5_saying_195 : decode cX5_saying 195 = .ok (.bipush 48, 2) := by decide +kernel
theorem dX5_saying_197 : decode cX5_saying 197 = .ok (.if_icmp .ne 7, 3) := by decide +kernel
theorem dX5_saying_200 : decode cX5_saying 200 = .ok (.lconst 0, 1) := by decide +kernel
theorem dX5_saying_201 : decode cX5_saying 201 = .ok (.goto 28, 3) := by decide +kernel
theorem dX5_saying_204 : decode cX5_saying 204 = .ok (.aload_n 0, 1) := by decide +kernel
theorem dX5_saying_205 : decode cX5_saying 205 = .ok (.getfield 84, 3) := by decide +kernel
theorem dX5_saying_208 : decode cX5_saying 208 = .ok (.bipush 49, 2) := by decide +kernel
theorem dX5_saying_210 : decode cX5_saying 210 = .ok (.if_icmp .ne 9, 3) := by decide +kernel
theorem dX5_saying_213 : decode cX5_saying 213 = .ok (.ldc2_w 13, 3) := by decide +kernel
theorem dX5_saying_216 : decode cX5_saying 216 = .ok (.goto 13, 3) := by decide +kernel
theorem dX5_saying_219 : decode cX5_saying 219 = .ok (.aload_n 0, 1) := by decide +kernel
theorem dX5_saying_220 : decode cX5_saying 220 = .ok (.getfield 84, 3) := by decide +kernel
theorem dX5_saying_223 : decode cX5_saying 223 = .ok (.bipush 97, 2) := by decide +kernel
theorem dX5_saying_225 : decode cX5_saying 225 = .ok (.isub, 1) := by decide +kernel
theorem dX5_saying_226 : decode cX5_saying 226 = .ok (.invokestatic 107, 3) := by decide +kernel
theorem dX5_saying_229 : decode cX5_saying 229 = .ok (.invokevirtual 111, 3) := by decide +kernel
theorem dX5_saying_232 : decode cX5_saying 232 = .ok (.iconst 0, 1) := by decide +kernel
theorem dX5_saying_233 : decode cX5_saying 233 = .ok (.istore_n 1, 1) := by decide +kernel
theorem dX5_saying_234 : decode cX5_saying 234 = .ok (.goto 161, 3) := by decide +kernel
theorem dX5_saying_237 : decode cX5_saying 237 = .ok (.aload_n 0, 1) := by decide +kernel
theorem dX5_saying_238 : decode cX5_saying 238 = .ok (.getfield 84, 3) := by decide +kernel
theorem dX5_saying_241 : decode cX5_saying 241 = .ok (.bipush 38, 2) := by decide +kernel
theorem dX5_saying_243 : decode cX5_saying 243 = .ok (.if_icmp .ne 8, 3) := by decide +kernel
theorem dX5_saying_246 : decode cX5_saying 246 = .ok (.iconst 1, 1) := by decide +kernel
theorem dX5_saying_247 : decode cX5_saying 247 = .ok (.istore_n 1, 1) := by decide +kernel
theorem dX5_saying_248 : decode cX5_saying 248 = .ok (.goto 147, 3) := by decide +kernel
theorem dX5_saying_251 : decode cX5_saying 251 = .ok (.aload_n 0, 1) := by decide +kernel
theorem dX5_saying_252 : decode cX5_saying 252 = .ok (.getfield 84, 3) := by decide +kernel
theorem dX5_saying_255 : decode cX5_saying 255 = .ok (.bipush 124, 2) := by decide +kernel
theorem dX5_saying_257 : decode cX5_saying 257 = .ok (.if_icmp .ne 41, 3) := by decide +kernel
theorem dX5_saying_260 : decode cX5_saying 260 = .ok (.aload_n 0, 1) := by decide +kernel
theorem dX5_saying_261 : decode cX5_saying 261 = .ok (.getfield 42, 3) := by decide +kernel
theorem dX5_saying_264 : decode cX5_saying 264 = .ok (.aload_n 0, 1) := by decide +kernel
theorem dX5_saying_265 : decode cX5_saying 265 = .ok (.getfield 102, 3) := by decide +kernel
theorem dX5_saying_268 : decode cX5_saying 268 = .ok (.dup2, 1) := by decide +kernel
theorem dX5_saying_269 : decode cX5_saying 269 = .ok (.laload, 1) := by decide +kernel
theorem dX5_saying_270 : decode cX5_saying 270 = .ok (.aload_n 0, 1) := by decide +kernel
theorem dX5_saying_271 : decode cX5_saying 271 = .ok (.getfield 45, 3) := by decide +kernel
theorem dX5_saying_274 : decode cX5_saying 274 = .ok (.aload_n 0, 1) := by decide +kernel
theorem dX5_saying_275 : decode cX5_saying 275 = .ok (.getfield 102, 3) := by decide +kernel
theorem dX5_saying_278 : decode cX5_saying 278 = .ok (.laload, 1) := by decide +kernel
theorem dX5_saying_279 : decode cX5_saying 279 = .ok (.lor, 1) := by decide +kernel
theorem dX5_saying_280 : decode cX5_saying 280 = .ok (.lastore, 1) := by decide +kernel
theorem dX5_saying_281 : decode cX5_saying 281 = .ok (.aload_n 0, 1) := by decide +kernel
theorem dX5_saying_282 : decode cX5_saying 282 = .ok (.getfield 45, 3) := by decide +kernel
theorem dX5_saying_285 : decode cX5_saying 285 = .ok (.aload_n 0, 1) := by decide +kernel
theorem dX5_saying_286 : decode cX5_saying 286 = .ok (.getfield 102, 3) := by decide +kernel
theorem dX5_saying_289 : decode cX5_saying 289 = .ok (.ldc2_w 13, 3) := by decide +kernel
theorem dX5_saying_292 : decode cX5_saying 292 = .ok (.lastore, 1) := by decide +kernel
theorem dX5_saying_293 : decode cX5_saying 293 = .ok (.iconst 1, 1) := by decide +kernel
theorem dX5_saying_294 : decode cX5_saying 294 = .ok (.istore_n 1, 1) := by decide +kernel
theorem dX5_saying_295 : decode cX5_saying 295 = .ok (.goto 100, 3) := by decide +kernel
theorem dX5_saying_298 : decode cX5_saying 298 = .ok (.aload_n 0, 1) := by decide +kernel
theorem dX5_saying_299 : decode cX5_saying 299 = .ok (.getfield 84, 3) := by decide +kernel
theorem dX5_saying_302 : decode cX5_saying 302 = .ok (.bipush 41, 2) := by decide +kernel
theorem dX5_saying_304 : decode cX5_saying 304 = .ok (.if_icmp .ne 58, 3) := by decide +kernel
theorem dX5_saying_307 : decode cX5_saying 307 = .ok (.aload_n 0, 1) := by decide +kernel
theorem dX5_saying_308 : decode cX5_saying 308 = .ok (.getfield 102, 3) := by decide +kernel
theorem dX5_saying_311 : decode cX5_saying 311 = .ok (.ifCond .le 51, 3) := by decide +kernel
theorem dX5_saying_314 : decode cX5_saying 314 = .ok (.aload_n 0, 1) := by decide +kernel
theorem dX5_saying_315 : decode cX5_saying 315 = .ok (.getfield 42, 3) := by decide +kernel
theorem dX5_saying_318 : decode cX5_saying 318 = .ok (.aload_n 0, 1) := by decide +kernel
theorem dX5_saying_319 : decode cX5_saying 319 = .ok (.getfield 102, 3) := by decide +kernel
theorem dX5_saying_322 : decode cX5_saying 322 = .ok (.laload, 1) := by decide +kernel
theorem dX5_saying_323 : decode cX5_saying 323 = .ok (.aload_n 0, 1) := by decide +kernel
theorem dX5_saying_324 : decode cX5_saying 324 = .ok (.getfield 45, 3) := by decide +kernel
theorem dX5_saying_327 : decode cX5_saying 327 = .ok (.aload_n 0, 1) := by decide +kernel
theorem dX5_saying_328 : decode cX5_saying 328 = .ok (.getfield 102, 3) := by decide +kernel
theorem dX5_saying_331 : decode cX5_saying 331 = .ok (.laload, 1) := by decide +kernel
theorem dX5_saying_332 : decode cX5_saying 332 = .ok (.lor, 1) := by decide +kernel
theorem dX5_saying_333 : decode cX5_saying 333 = .ok (.lstore_n 2, 1) := by decide +kernel
theorem dX5_saying_334 : decode cX5_saying 334 = .ok (.aload_n 0, 1) := by decide +kernel
theorem dX5_saying_335 : decode cX5_saying 335 = .ok (.dup, 1) := by decide +kernel
theorem dX5_saying_336 : decode cX5_saying 336 = .ok (.getfield 102, 3) := by decide +kernel
theorem dX5_saying_339 : decode cX5_saying 339 = .ok (.iconst 1, 1) := by decide +kernel
theorem dX5_saying_340 : decode cX5_saying 340 = .ok (.isub, 1) := by decide +kernel
theorem dX5_saying_341 : decode cX5_saying 341 = .ok (.putfield 102, 3) := by decide +kernel
theorem dX5_saying_344 : decode cX5_saying 344 = .ok (.aload_n 0, 1) := by decide +kernel
theorem dX5_saying_345 : decode cX5_saying 345 = .ok (.dup, 1) := by decide +kernel
theorem dX5_saying_346 : decode cX5_saying 346 = .ok (.getfield 99, 3) := by decide +kernel
theorem dX5_saying_349 : decode cX5_saying 349 = .ok (.iconst 1, 1) := by decide +kernel
theorem dX5_saying_350 : decode cX5_saying 350 = .ok (.isub, 1) := by decide +kernel
theorem dX5_saying_351 : decode cX5_saying 351 = .ok (.putfield 99, 3) := by decide +kernel
theorem dX5_saying_354 : decode cX5_saying 354 = .ok (.aload_n 0, 1) := by decide +kernel
theorem dX5_saying_355 : decode cX5_saying 355 = .ok (.lload_n 2, 1) := by decide +kernel
theorem dX5_saying_356 : decode cX5_saying 356 = .ok (.invokevirtual 111, 3) := by decide +kernel
theorem dX5_saying_359 : decode cX5_saying 359 = .ok (.goto 36, 3) := by decide +kernel
theorem dX5_saying_362 : decode cX5_saying 362 = .ok (.aload_n 0, 1) := by decide +kernel
theorem dX5_saying_363 : decode cX5_saying 363 = .ok (.aload_n 0, 1) := by decide +kernel
theorem dX5_saying_364 : decode cX5_saying 364 = .ok (.getfield 42, 3) := by decide +kernel
theorem dX5_saying_367 : decode cX5_saying 367 = .ok (.iconst 0, 1) := by decide +kernel
theorem dX5_saying_368 : decode cX5_saying 368 = .ok (.laload, 1) := by decide +kernel
theorem dX5_saying_369 : decode cX5_saying 369 = .ok (.aload_n 0, 1) := by decide +kernel
theorem dX5_saying_370 : decode cX5_saying 370 = .ok (.getfield 45, 3) := by decide +kernel
theorem dX5_saying_373 : decode cX5_saying 373 = .ok (.iconst 0, 1) := by decide +kernel
theorem dX5_saying_374 : decode cX5_saying 374 = .ok (.laload, 1) := by decide +kernel
theorem dX5_saying_375 : decode cX5_saying 375 = .ok (.lor, 1) := by decide +kernel
theorem dX5_saying_376 : decode cX5_saying 376 = .ok (.putfield 115, 3) := by decide +kernel
theorem dX5_saying_379 : decode cX5_saying 379 = .ok (.aload_n 0, 1) := by decide +kernel
theorem dX5_saying_380 : decode cX5_saying 380 = .ok (.getfield 102, 3) := by decide +kernel
theorem dX5_saying_383 : decode cX5_saying 383 = .ok (.ifCond .le 10, 3) := by decide +kernel
theorem dX5_saying_386 : decode cX5_saying 386 = .ok (.aload_n 0, 1) := by decide +kernel
theorem dX5_saying_387 : decode cX5_saying 387 = .ok (.getfield 81, 3) := by decide +kernel
theorem dX5_saying_390 : decode cX5_saying 390 = .ok (.goto 4, 3) := by decide +kernel
theorem dX5_saying_393 : decode cX5_saying 393 = .ok (.iconst (-1), 1) := by decide +kernel
theorem dX5_saying_394 : decode cX5_saying 394 = .ok (.ireturn, 1) := by decide +kernel
theorem dX5_saying_395 : decode cX5_saying 395 = .ok (.aload_n 0, 1) := by decide +kernel
theorem dX5_saying_396 : decode cX5_saying 396 = .ok (.invokevirtual 118, 3) := by decide +kernel
theorem dX5_saying_399 : decode cX5_saying 399 = .ok (.goto (-371), 3) := by decide +kernel
theorem dX5_ends_0 : decode cX5_ends 0 = .ok (.lload_n 1, 1) := by decide +kernel
theorem dX5_ends_1 : decode cX5_ends 1 = .ok (.lstore_n 3, 1) := by decide +kernel
theorem dX5_ends_2 : decode cX5_ends 2 = .ok (.aload_n 0, 1) := by decide +kernel
theorem dX5_ends_3 : decode cX5_ends 3 = .ok (.getfield 99, 3) := by decide +kernel
theorem dX5_ends_6 : decode cX5_ends 6 = .ok (.ifCond .le 38, 3) := by decide +kernel
theorem dX5_ends_9 : decode cX5_ends 9 = .ok (.aload_n 0, 1) := by decide +kernel
theorem dX5_ends_10 : decode cX5_ends 10 = .ok (.getfield 39, 3) := by decide +kernel
theorem dX5_ends_13 : decode cX5_ends 13 = .ok (.aload_n 0, 1) := by decide +kernel
theorem dX5_ends_14 : decode cX5_ends 14 = .ok (.getfield 99, 3) := by decide +kernel
theorem dX5_ends_17 : decode cX5_ends 17 = .ok (.iconst 1, 1) := by decide +kernel
theorem dX5_ends_18 : decode cX5_ends 18 = .ok (.isub, 1) := by decide +kernel
theorem dX5_ends_19 : decode cX5_ends 19 = .ok (.iaload, 1) := by decide +kernel
theorem dX5_ends_20 : decode cX5_ends 20 = .ok (.bipush 33, 2) := by decide +kernel
theorem dX5_ends_22 : decode cX5_ends 22 = .ok (.if_icmp .ne 22, 3) := by decide +kernel
theorem dX5_ends_25 : decode cX5_ends 25 = .ok (.lload_n 3, 1) := by decide +kernel
theorem dX5_ends_26 : decode cX5_ends 26 = .ok (.ldc2_w 13, 3) := by decide +kernel
theorem dX5_ends_29 : decode cX5_ends 29 = .ok (.lxor, 1) := by decide +kernel
theorem dX5_ends_30 : decode cX5_ends 30 = .ok (.lstore_n 3, 1) := by decide +kernel
theorem dX5_ends_31 : decode cX5_ends 31 = .ok (.aload_n 0, 1) := by decide +kernel
theorem dX5_ends_32 : decode cX5_ends 32 = .ok (.dup, 1) := by decide +kernel
theorem dX5_ends_33 : decode cX5_ends 33 = .ok (.getfield 99, 3) := by decide +kernel
theorem dX5_ends_36 : decode cX5_ends 36 = .ok (.iconst 1, 1) := by decide +kernel
theorem dX5_ends_37 : decode cX5_ends 37 = .ok (.isub, 1) := by decide +kernel
theorem dX5_ends_38 : decode cX5_ends 38 = .ok (.putfield 99, 3) := by decide +kernel
theorem dX5_ends_41 : decode cX5_ends 41 = .ok (.goto (-39), 3) := by decide +kernel
theorem dX5_ends_44 : decode cX5_ends 44 = .ok (.aload_n 0, 1) := by decide +kernel
theorem dX5_ends_45 : decode cX5_ends 45 = .ok (.getfield 45, 3) := by decide +kernel
theorem dX5_ends_48 : decode cX5_ends 48 = .ok (.aload_n 0, 1) := by decide +kernel
theorem dX5_ends_49 : decode cX5_ends 49 = .ok (.getfield 102, 3) := by decide +kernel
theorem dX5_ends_52 : decode cX5_ends 52 = .ok (.dup2, 1) := by decide +kernel
theorem dX5_ends_53 : decode cX5_ends 53 = .ok (.laload, 1) := by decide +kernel
theorem dX5_ends_54 : decode cX5_ends 54 = .ok (.lload_n 3, 1) := by decide +kernel
theorem dX5_ends_55 : decode cX5_ends 55 = .ok (.land, 1) := by decide +kernel
theorem dX5_ends_56 : decode cX5_ends 56 = .ok (.lastore, 1) := by decide +kernel
theorem dX5_ends_57 : decode cX5_ends 57 = .ok (.return_, 1) := by decide +kernel
set_option maxRecDepth 20000 in
theorem ggX5_fault_X5_token : GoodIn wsX5_fault wsX5_token := goodIn_r _ [17, 5, 7, 18, 19, 6, 20, 9, 21, 22, 23, 16, 24, 25, 26, 27, 28, 29, 30, 31, 32, 33, 54, 55, 56, 57, 58, 59, 60, 61, 62, 63, 64, 65, 66, 67, 68, 69, 70, 71, 72, 73, 74, 75, 76, 77, 78, 79, 80, 81, 82] (by decide +kernel) (by decide +kernel)
set_option maxRecDepth 20000 in
theorem gX5_fault_X5_token : GoodIn wsX5_fault (wsV RX5 118 RX5 yX5_token wsX5_token) := goodIn_app (goodIn_of _ (by decide +kernel)) ggX5_fault_X5_token
set_option maxRecDepth 20000 in
theorem ggX5_fault_X5_in : GoodIn wsX5_fault wsX5_in := goodIn_r _ [29] (by decide +kernel) (by decide +kernel)
set_option maxRecDepth 20000 in
theorem gX5_fault_X5_in : GoodIn wsX5_fault (va_wsS RX5 66 yX5_in wsX5_in) := goodIn_app (goodIn_of _ (by decide +kernel)) ggX5_fault_X5_in
set_option maxRecDepth 20000 in
theorem ggX5_fault_X5_saying : GoodIn wsX5_fault wsX5_saying := goodIn_r _ [37, 38, 39, 40, 41, 3, 6, 25, 42, 7, 43, 11, 27, 28, 16, 29, 44, 45, 46, 47, 48, 49, 50, 51, 52, 53, 13, 14, 15, 17, 5, 18, 19, 20, 9, 21, 22, 23, 24, 26, 30, 31, 32, 33, 54, 55, 56, 57, 58, 59, 60, 61, 62, 63, 64, 65, 66, 67, 68, 69, 70, 71, 72, 73, 74, 75, 76, 77, 78, 79, 80, 81, 82] (by decide +kernel) (by decide +kernel)
set_option maxRecDepth 20000 in
theorem gX5_fault_X5_saying : GoodIn wsX5_fault (wsV RX5 132 RX5 yX5_saying wsX5_saying) := goodIn_app (goodIn_of _ (by decide +kernel)) ggX5_fault_X5_saying
theorem dX5_fault_0 : decode cX5_fault 0 = .ok (.aload_n 0, 1) := by decide +kernel
theorem dX5_fault_1 : decode cX5_fault 1 = .ok (.iconst 0, 1) := by decide +kernel
theorem dX5_fault_2 : decode cX5_fault 2 = .ok (.putfield 121, 3) := by decide +kernel
theorem dX5_fault_5 : decode cX5_fault 5 = .ok (.aload_n 0, 1) := by decide +kernel
theorem dX5_fault_6 : decode cX5_fault 6 = .ok (.iconst 0, 1) := by decide +kernel
theorem dX5_fault_7 : decode cX5_fault 7 = .ok (.putfield 124, 3) := by decide +kernel
theorem dX5_fault_10 : decode cX5_fault 10 = .ok (.aload_n 0, 1) := by decide +kernel
theorem dX5_fault_11 : decode cX5_fault 11 = .ok (.ldc2_w 13, 3) := by decide +kernel
theorem dX5_fault_14 : decode cX5_fault 14 = .ok (.putfield 127, 3) := by decide +kernel
theorem dX5_fault_17 : decode cX5_fault 17 = .ok (.aload_n 0, 1) := by decide +kernel
theorem dX5_fault_18 : decode cX5_fault 18 = .ok (.iconst 0, 1) := by decide +kernel
theorem dX5_fault_19 : decode cX5_fault 19 = .ok (.putfield 78, 3) := by decide +kernel
theorem dX5_fault_22 : decode cX5_fault 22 = .ok (.aload_n 0, 1) := by decide +kernel
theorem dX5_fault_23 : decode cX5_fault 23 = .ok (.invokevirtual 118, 3) := by decide +kernel
theorem dX5_fault_26 : decode cX5_fault 26 = .ok (.aload_n 0, 1) := by decide +kernel
theorem dX5_fault_27 : decode cX5_fault 27 = .ok (.getfield 84, 3) := by decide +kernel
theorem dX5_fault_30 : decode cX5_fault 30 = .ok (.ifCond .eq 189, 3) := by decide +kernel
theorem dX5_fault_33 : decode cX5_fault 33 = .ok (.aload_n 0, 1) := by decide +kernel
theorem dX5_fault_34 : decode cX5_fault 34 = .ok (.getfield 84, 3) := by decide +kernel
theorem dX5_fault_37 : decode cX5_fault 37 = .ok (.bipush 76, 2) := by decide +kernel
theorem dX5_fault_39 : decode cX5_fault 39 = .ok (.if_icmp .ne 7, 3) := by decide +kernel
theorem dX5_fault_42 : decode cX5_fault 42 = .ok (.iconst 1, 1) := by decide +kernel
theorem dX5_fault_43 : decode cX5_fault 43 = .ok (.goto 4, 3) := by decide +kernel
end
section
theorem dX5_fault_46 : decode cX5_fault 46 = .ok (.iconst 0, 1) := by decide +kernel
theorem dX5_fault_47 : decode cX5_fault 47 = .ok (.istore_n 1, 1) := by decide +kernel
theorem dX5_fault_48 : decode cX5_fault 48 = .ok (.iload_n 1, 1) := by decide +kernel
theorem dX5_fault_49 : decode cX5_fault 49 = .ok (.ifCond .eq 14, 3) := by decide +kernel
theorem dX5_fault_52 : decode cX5_fault 52 = .ok (.aload_n 0, 1) := by decide +kernel
theorem dX5_fault_53 : decode cX5_fault 53 = .ok (.getfield 121, 3) := by decide +kernel
theorem dX5_fault_56 : decode cX5_fault 56 = .ok (.iconst 3, 1) := by decide +kernel
theorem dX5_fault_57 : decode cX5_fault 57 = .ok (.if_icmp .ge 24, 3) := by decide +kernel
theorem dX5_fault_60 : decode cX5_fault 60 = .ok (.goto 26, 3) := by decide +kernel
theorem dX5_fault_63 : decode cX5_fault 63 = .ok (.aload_n 0, 1) := by decide +kernel
theorem dX5_fault_64 : decode cX5_fault 64 = .ok (.getfield 84, 3) := by decide +kernel
theorem dX5_fault_67 : decode cX5_fault 67 = .ok (.bipush 83, 2) := by decide +kernel
theorem dX5_fault_69 : decode cX5_fault 69 = .ok (.if_icmp .ne 12, 3) := by decide +kernel
theorem dX5_fault_72 : decode cX5_fault 72 = .ok (.aload_n 0, 1) := by decide +kernel
theorem dX5_fault_73 : decode cX5_fault 73 = .ok (.getfield 124, 3) := by decide +kernel
theorem dX5_fault_76 : decode cX5_fault 76 = .ok (.bipush 7, 2) := by decide +kernel
theorem dX5_fault_78 : decode cX5_fault 78 = .ok (.if_icmp .lt 8, 3) := by decide +kernel
theorem dX5_fault_81 : decode cX5_fault 81 = .ok (.aload_n 0, 1) := by decide +kernel
theorem dX5_fault_82 : decode cX5_fault 82 = .ok (.getfield 81, 3) := by decide +kernel
theorem dX5_fault_85 : decode cX5_fault 85 = .ok (.ireturn, 1) := by decide +kernel
theorem dX5_fault_86 : decode cX5_fault 86 = .ok (.aload_n 0, 1) := by decide +kernel
theorem dX5_fault_87 : decode cX5_fault 87 = .ok (.invokevirtual 118, 3) := by decide +kernel
theorem dX5_fault_90 : decode cX5_fault 90 = .ok (.iload_n 1, 1) := by decide +kernel
theorem dX5_fault_91 : decode cX5_fault 91 = .ok (.ifCond .ne 45, 3) := by decide +kernel
theorem dX5_fault_94 : decode cX5_fault 94 = .ok (.aload_n 0, 1) := by decide +kernel
theorem dX5_fault_95 : decode cX5_fault 95 = .ok (.getfield 84, 3) := by decide +kernel
theorem dX5_fault_98 : decode cX5_fault 98 = .ok (.i2l, 1) := by decide +kernel
theorem dX5_fault_99 : decode cX5_fault 99 = .ok (.ldc2_w 130, 3) := by decide +kernel
theorem dX5_fault_102 : decode cX5_fault 102 = .ok (.ldc2_w 97, 3) := by decide +kernel
theorem dX5_fault_105 : decode cX5_fault 105 = .ok (.invokestatic 66, 3) := by decide +kernel
theorem dX5_fault_108 : decode cX5_fault 108 = .ok (.ifCond .ne 8, 3) := by decide +kernel
theorem dX5_fault_111 : decode cX5_fault 111 = .ok (.aload_n 0, 1) := by decide +kernel
theorem dX5_fault_112 : decode cX5_fault 112 = .ok (.getfield 81, 3) := by decide +kernel
theorem dX5_fault_115 : decode cX5_fault 115 = .ok (.ireturn, 1) := by decide +kernel
theorem dX5_fault_116 : decode cX5_fault 116 = .ok (.aload_n 0, 1) := by decide +kernel
theorem dX5_fault_117 : decode cX5_fault 117 = .ok (.getfield 33, 3) := by decide +kernel
theorem dX5_fault_120 : decode cX5_fault 120 = .ok (.aload_n 0, 1) := by decide +kernel
theorem dX5_fault_121 : decode cX5_fault 121 = .ok (.getfield 124, 3) := by decide +kernel
theorem dX5_fault_124 : decode cX5_fault 124 = .ok (.aload_n 0, 1) := by decide +kernel
theorem dX5_fault_125 : decode cX5_fault 125 = .ok (.getfield 84, 3) := by decide +kernel
theorem dX5_fault_128 : decode cX5_fault 128 = .ok (.bipush 48, 2) := by decide +kernel
theorem dX5_fault_130 : decode cX5_fault 130 = .ok (.isub, 1) := by decide +kernel
theorem dX5_fault_131 : decode cX5_fault 131 = .ok (.iastore, 1) := by decide +kernel
theorem dX5_fault_132 : decode cX5_fault 132 = .ok (.aload_n 0, 1) := by decide +kernel
theorem dX5_fault_133 : decode cX5_fault 133 = .ok (.invokevirtual 118, 3) := by decide +kernel
theorem dX5_fault_136 : decode cX5_fault 136 = .ok (.aload_n 0, 1) := by decide +kernel
theorem dX5_fault_137 : decode cX5_fault 137 = .ok (.invokevirtual 132, 3) := by decide +kernel
theorem dX5_fault_140 : decode cX5_fault 140 = .ok (.istore_n 2, 1) := by decide +kernel
theorem dX5_fault_141 : decode cX5_fault 141 = .ok (.iload_n 2, 1) := by decide +kernel
theorem dX5_fault_142 : decode cX5_fault 142 = .ok (.ifCond .ge 12, 3) := by decide +kernel
theorem dX5_fault_145 : decode cX5_fault 145 = .ok (.aload_n 0, 1) := by decide +kernel
theorem dX5_fault_146 : decode cX5_fault 146 = .ok (.getfield 84, 3) := by decide +kernel
theorem dX5_fault_149 : decode cX5_fault 149 = .ok (.bipush 59, 2) := by decide +kernel
theorem dX5_fault_151 : decode cX5_fault 151 = .ok (.if_icmp .eq 8, 3) := by decide +kernel
theorem dX5_fault_154 : decode cX5_fault 154 = .ok (.aload_n 0, 1) := by decide +kernel
theorem dX5_fault_155 : decode cX5_fault 155 = .ok (.getfield 81, 3) := by decide +kernel
theorem dX5_fault_158 : decode cX5_fault 158 = .ok (.ireturn, 1) := by decide +kernel
theorem dX5_fault_159 : decode cX5_fault 159 = .ok (.iload_n 1, 1) := by decide +kernel
theorem dX5_fault_160 : decode cX5_fault 160 = .ok (.ifCond .eq 29, 3) := by decide +kernel
theorem dX5_fault_163 : decode cX5_fault 163 = .ok (.aload_n 0, 1) := by decide +kernel
theorem dX5_fault_164 : decode cX5_fault 164 = .ok (.dup, 1) := by decide +kernel
theorem dX5_fault_165 : decode cX5_fault 165 = .ok (.getfield 127, 3) := by decide +kernel
theorem dX5_fault_168 : decode cX5_fault 168 = .ok (.aload_n 0, 1) := by decide +kernel
theorem dX5_fault_169 : decode cX5_fault 169 = .ok (.getfield 115, 3) := by decide +kernel
theorem dX5_fault_172 : decode cX5_fault 172 = .ok (.land, 1) := by decide +kernel
theorem dX5_fault_173 : decode cX5_fault 173 = .ok (.putfield 127, 3) := by decide +kernel
theorem dX5_fault_176 : decode cX5_fault 176 = .ok (.aload_n 0, 1) := by decide +kernel
theorem dX5_fault_177 : decode cX5_fault 177 = .ok (.dup, 1) := by decide +kernel
theorem dX5_fault_178 : decode cX5_fault 178 = .ok (.getfield 121, 3) := by decide +kernel
theorem dX5_fault_181 : decode cX5_fault 181 = .ok (.iconst 1, 1) := by decide +kernel
theorem dX5_fault_182 : decode cX5_fault 182 = .ok (.iadd, 1) := by decide +kernel
theorem dX5_fault_183 : decode cX5_fault 183 = .ok (.putfield 121, 3) := by decide +kernel
theorem dX5_fault_186 : decode cX5_fault 186 = .ok (.goto 26, 3) := by decide +kernel
theorem dX5_fault_189 : decode cX5_fault 189 = .ok (.aload_n 0, 1) := by decide +kernel
theorem dX5_fault_190 : decode cX5_fault 190 = .ok (.getfield 36, 3) := by decide +kernel
theorem dX5_fault_193 : decode cX5_fault 193 = .ok (.aload_n 0, 1) := by decide +kernel
theorem dX5_fault_194 : decode cX5_fault 194 = .ok (.getfield 124, 3) := by decide +kernel
theorem dX5_fault_197 : decode cX5_fault 197 = .ok (.aload_n 0, 1) := by decide +kernel
theorem dX5_fault_198 : decode cX5_fault 198 = .ok (.getfield 115, 3) := by decide +kernel
theorem dX5_fault_201 : decode cX5_fault 201 = .ok (.lastore, 1) := by decide +kernel
theorem dX5_fault_202 : decode cX5_fault 202 = .ok (.aload_n 0, 1) := by decide +kernel
theorem dX5_fault_203 : decode cX5_fault 203 = .ok (.dup, 1) := by decide +kernel
theorem dX5_fault_204 : decode cX5_fault 204 = .ok (.getfield 124, 3) := by decide +kernel
theorem dX5_fault_207 : decode cX5_fault 207 = .ok (.iconst 1, 1) := by decide +kernel
theorem dX5_fault_208 : decode cX5_fault 208 = .ok (.iadd, 1) := by decide +kernel
theorem dX5_fault_209 : decode cX5_fault 209 = .ok (.putfield 124, 3) := by decide +kernel
theorem dX5_fault_212 : decode cX5_fault 212 = .ok (.aload_n 0, 1) := by decide +kernel
theorem dX5_fault_213 : decode cX5_fault 213 = .ok (.invokevirtual 118, 3) := by decide +kernel
theorem dX5_fault_216 : decode cX5_fault 216 = .ok (.goto (-190), 3) := by decide +kernel
theorem dX5_fault_219 : decode cX5_fault 219 = .ok (.iconst (-1), 1) := by decide +kernel
theorem dX5_fault_220 : decode cX5_fault 220 = .ok (.ireturn, 1) := by decide +kernel
set_option maxRecDepth 20000 in
theorem ggX5_tell_X5_fault : GoodIn wsX5_tell wsX5_fault := goodIn_r _ [16, 1, 3, 17, 5, 18, 19, 20, 21, 22, 8, 23, 10, 24, 25, 26, 15, 27, 11, 28, 29, 30, 31, 32, 33, 34, 35, 36, 37, 38, 39, 40, 41, 42, 43, 44, 45, 46, 47, 48, 49, 50, 51, 52, 53, 54, 55, 56, 57, 58, 59, 60, 61, 62, 63, 64, 65, 66, 67, 68, 69, 70, 71, 72, 73, 74, 75, 76, 77, 78, 79, 80, 81, 82, 83, 84, 85, 86, 87, 88, 89, 90, 91] (by decide +kernel) (by decide +kernel)
set_option maxRecDepth 20000 in
theorem gX5_tell_X5_fault : GoodIn wsX5_tell (wsV RX5 136 RX5 yX5_fault wsX5_fault) := goodIn_app (goodIn_of _ (by decide +kernel)) ggX5_tell_X5_fault
theorem dX5_tell_0 : decode cX5_tell 0 = .ok (.aload_n 0, 1) := by decide +kernel
theorem dX5_tell_1 : decode cX5_tell 1 = .ok (.invokevirtual 136, 3) := by decide +kernel
theorem dX5_tell_4 : decode cX5_tell 4 = .ok (.istore_n 1, 1) := by decide +kernel
theorem dX5_tell_5 : decode cX5_tell 5 = .ok (.iload_n 1, 1) := by decide +kernel
theorem dX5_tell_6 : decode cX5_tell 6 = .ok (.ifCond .lt 8, 3) := by decide +kernel
theorem dX5_tell_9 : decode cX5_tell 9 = .ok (.bipush (-10), 2) := by decide +kernel
theorem dX5_tell_11 : decode cX5_tell 11 = .ok (.iload_n 1, 1) := by decide +kernel
theorem dX5_tell_12 : decode cX5_tell 12 = .ok (.isub, 1) := by decide +kernel
theorem dX5_tell_13 : decode cX5_tell 13 = .ok (.ireturn, 1) := by decide +kernel
theorem dX5_tell_14 : decode cX5_tell 14 = .ok (.aload_n 0, 1) := by decide +kernel
theorem dX5_tell_15 : decode cX5_tell 15 = .ok (.aload_n 0, 1) := by decide +kernel
theorem dX5_tell_16 : decode cX5_tell 16 = .ok (.getfield 121, 3) := by decide +kernel
theorem dX5_tell_19 : decode cX5_tell 19 = .ok (.putfield 139, 3) := by decide +kernel
theorem dX5_tell_22 : decode cX5_tell 22 = .ok (.aload_n 0, 1) := by decide +kernel
theorem dX5_tell_23 : decode cX5_tell 23 = .ok (.aload_n 0, 1) := by decide +kernel
theorem dX5_tell_24 : decode cX5_tell 24 = .ok (.getfield 124, 3) := by decide +kernel
theorem dX5_tell_27 : decode cX5_tell 27 = .ok (.putfield 142, 3) := by decide +kernel
theorem dX5_tell_30 : decode cX5_tell 30 = .ok (.aload_n 0, 1) := by decide +kernel
theorem dX5_tell_31 : decode cX5_tell 31 = .ok (.aload_n 0, 1) := by decide +kernel
theorem dX5_tell_32 : decode cX5_tell 32 = .ok (.getfield 127, 3) := by decide +kernel
theorem dX5_tell_35 : decode cX5_tell 35 = .ok (.putfield 15, 3) := by decide +kernel
theorem dX5_tell_38 : decode cX5_tell 38 = .ok (.iconst 0, 1) := by decide +kernel
theorem dX5_tell_39 : decode cX5_tell 39 = .ok (.istore_n 2, 1) := by decide +kernel
theorem dX5_tell_40 : decode cX5_tell 40 = .ok (.iload_n 2, 1) := by decide +kernel
theorem dX5_tell_41 : decode cX5_tell 41 = .ok (.aload_n 0, 1) := by decide +kernel
theorem dX5_tell_42 : decode cX5_tell 42 = .ok (.getfield 142, 3) := by decide +kernel
theorem dX5_tell_45 : decode cX5_tell 45 = .ok (.if_icmp .ge 33, 3) := by decide +kernel
theorem dX5_tell_48 : decode cX5_tell 48 = .ok (.aload_n 0, 1) := by decide +kernel
theorem dX5_tell_49 : decode cX5_tell 49 = .ok (.getfield 22, 3) := by decide +kernel
theorem dX5_tell_52 : decode cX5_tell 52 = .ok (.iload_n 2, 1) := by decide +kernel
theorem dX5_tell_53 : decode cX5_tell 53 = .ok (.aload_n 0, 1) := by decide +kernel
theorem dX5_tell_54 : decode cX5_tell 54 = .ok (.getfield 33, 3) := by decide +kernel
theorem dX5_tell_57 : decode cX5_tell 57 = .ok (.iload_n 2, 1) := by decide +kernel
theorem dX5_tell_58 : decode cX5_tell 58 = .ok (.iaload, 1) := by decide +kernel
theorem dX5_tell_59 : decode cX5_tell 59 = .ok (.iastore, 1) := by decide +kernel
theorem dX5_tell_60 : decode cX5_tell 60 = .ok (.aload_n 0, 1) := by decide +kernel
theorem dX5_tell_61 : decode cX5_tell 61 = .ok (.getfield 26, 3) := by decide +kernel
theorem dX5_tell_64 : decode cX5_tell 64 = .ok (.iload_n 2, 1) := by decide +kernel
theorem dX5_tell_65 : decode cX5_tell 65 = .ok (.aload_n 0, 1) := by decide +kernel
theorem dX5_tell_66 : decode cX5_tell 66 = .ok (.getfield 36, 3) := by decide +kernel
theorem dX5_tell_69 : decode cX5_tell 69 = .ok (.iload_n 2, 1) := by decide +kernel
theorem dX5_tell_70 : decode cX5_tell 70 = .ok (.laload, 1) := by decide +kernel
theorem dX5_tell_71 : decode cX5_tell 71 = .ok (.lastore, 1) := by decide +kernel
theorem dX5_tell_72 : decode cX5_tell 72 = .ok (.iinc 2 1, 3) := by decide +kernel
theorem dX5_tell_75 : decode cX5_tell 75 = .ok (.goto (-35), 3) := by decide +kernel
theorem dX5_tell_78 : decode cX5_tell 78 = .ok (.aload_n 0, 1) := by decide +kernel
theorem dX5_tell_79 : decode cX5_tell 79 = .ok (.iconst 0, 1) := by decide +kernel
theorem dX5_tell_80 : decode cX5_tell 80 = .ok (.putfield 70, 3) := by decide +kernel
theorem dX5_tell_83 : decode cX5_tell 83 = .ok (.aload_n 0, 1) := by decide +kernel
theorem dX5_tell_84 : decode cX5_tell 84 = .ok (.getfield 139, 3) := by decide +kernel
theorem dX5_tell_87 : decode cX5_tell 87 = .ok (.aload_n 0, 1) := by decide +kernel
theorem dX5_tell_88 : decode cX5_tell 88 = .ok (.getfield 142, 3) := by decide +kernel
theorem dX5_tell_91 : decode cX5_tell 91 = .ok (.iadd, 1) := by decide +kernel
theorem dX5_tell_92 : decode cX5_tell 92 = .ok (.ireturn, 1) := by decide +kernel
set_option maxRecDepth 20000 in
theorem ggX5_question_X5_token : GoodIn wsX5_question wsX5_token := goodIn_r _ [11, 1, 3, 6, 12, 2, 13, 14, 15, 16, 17, 10, 18, 19, 20, 21, 22, 23, 24, 25, 26, 27, 49, 50, 51, 52, 53, 54, 55, 56, 57, 58, 59, 60, 61, 62, 63, 64, 65, 66, 67, 68, 69, 70, 71, 72, 73, 74, 75, 76, 77] (by decide +kernel) (by decide +kernel)
set_option maxRecDepth 20000 in
theorem gX5_question_X5_token : GoodIn wsX5_question (wsV RX5 118 RX5 yX5_token wsX5_token) := goodIn_app (goodIn_of _ (by decide +kernel)) ggX5_question_X5_token
set_option maxRecDepth 20000 in
theorem ggX5_question_X5_saying : GoodIn wsX5_question wsX5_saying := goodIn_r _ [31, 32, 33, 34, 35, 36, 2, 19, 37, 3, 38, 4, 21, 22, 10, 23, 39, 40, 41, 42, 43, 44, 45, 46, 47, 48, 7, 8, 9, 11, 1, 6, 12, 13, 14, 15, 16, 17, 18, 20, 24, 25, 26, 27, 49, 50, 51, 52, 53, 54, 55, 56, 57, 58, 59, 60, 61, 62, 63, 64, 65, 66, 67, 68, 69, 70, 71, 72, 73, 74, 75, 76, 77] (by decide +kernel) (by decide +kernel)
set_option maxRecDepth 20000 in
theorem gX5_question_X5_saying : GoodIn wsX5_question (wsV RX5 132 RX5 yX5_saying wsX5_saying) := goodIn_app (goodIn_of _ (by decide +kernel)) ggX5_question_X5_saying
theorem dX5_question_0 : decode cX5_question 0 = .ok (.aload_n 0, 1) := by decide +kernel
theorem dX5_question_1 : decode cX5_question 1 = .ok (.iconst 0, 1) := by decide +kernel
theorem dX5_question_2 : decode cX5_question 2 = .ok (.putfield 78, 3) := by decide +kernel
theorem dX5_question_5 : decode cX5_question 5 = .ok (.aload_n 0, 1) := by decide +kernel
theorem dX5_question_6 : decode cX5_question 6 = .ok (.invokevirtual 118, 3) := by decide +kernel
theorem dX5_question_9 : decode cX5_question 9 = .ok (.aload_n 0, 1) := by decide +kernel
theorem dX5_question_10 : decode cX5_question 10 = .ok (.invokevirtual 132, 3) := by decide +kernel
theorem dX5_question_13 : decode cX5_question 13 = .ok (.istore_n 1, 1) := by decide +kernel
theorem dX5_question_14 : decode cX5_question 14 = .ok (.iload_n 1, 1) := by decide +kernel
theorem dX5_question_15 : decode cX5_question 15 = .ok (.ifCond .ge 10, 3) := by decide +kernel
theorem dX5_question_18 : decode cX5_question 18 = .ok (.aload_n 0, 1) := by decide +kernel
theorem dX5_question_19 : decode cX5_question 19 = .ok (.getfield 84, 3) := by decide +kernel
theorem dX5_question_22 : decode cX5_question 22 = .ok (.ifCond .eq 11, 3) := by decide +kernel
theorem dX5_question_25 : decode cX5_question 25 = .ok (.bipush (-10), 2) := by decide +kernel
theorem dX5_question_27 : decode cX5_question 27 = .ok (.aload_n 0, 1) := by decide +kernel
theorem dX5_question_28 : decode cX5_question 28 = .ok (.getfield 81, 3) := by decide +kernel
theorem dX5_question_31 : decode cX5_question 31 = .ok (.isub, 1) := by decide +kernel
theorem dX5_question_32 : decode cX5_question 32 = .ok (.ireturn, 1) := by decide +kernel
theorem dX5_question_33 : decode cX5_question 33 = .ok (.aload_n 0, 1) := by decide +kernel
theorem dX5_question_34 : decode cX5_question 34 = .ok (.aload_n 0, 1) := by decide +kernel
theorem dX5_question_35 : decode cX5_question 35 = .ok (.getfield 115, 3) := by decide +kernel
theorem dX5_question_38 : decode cX5_question 38 = .ok (.putfield 19, 3) := by decide +kernel
theorem dX5_question_41 : decode cX5_question 41 = .ok (.aload_n 0, 1) := by decide +kernel
theorem dX5_question_42 : decode cX5_question 42 = .ok (.iconst 0, 1) := by decide +kernel
theorem dX5_question_43 : decode cX5_question 43 = .ok (.putfield 70, 3) := by decide +kernel
theorem dX5_question_46 : decode cX5_question 46 = .ok (.iconst 1, 1) := by decide +kernel
theorem dX5_question_47 : decode cX5_question 47 = .ok (.ireturn, 1) := by decide +kernel
set_option maxRecDepth 20000 in
theorem ggX5_isSayer_X5_in : GoodIn wsX5_isSayer wsX5_in := goodIn_r _ [5] (by decide +kernel) (by decide +kernel)
set_option maxRecDepth 20000 in
theorem gX5_isSayer_X5_in : GoodIn wsX5_isSayer (va_wsS RX5 66 yX5_in wsX5_in) := goodIn_app (goodIn_of _ (by decide +kernel)) ggX5_isSayer_X5_in
theorem dX5_isSayer_0 : decode cX5_isSayer 0 = .ok (.iload_n 1, 1) := by decide +kernel
theorem dX5_isSayer_1 : decode cX5_isSayer 1 = .ok (.i2l, 1) := by decide +kernel
theorem dX5_isSayer_2 : decode cX5_isSayer 2 = .ok (.lconst 0, 1) := by decide +kernel
theorem dX5_isSayer_3 : decode cX5_isSayer 3 = .ok (.aload_n 0, 1) := by decide +kernel
theorem dX5_isSayer_4 : decode cX5_isSayer 4 = .ok (.getfield 142, 3) := by decide +kernel
theorem dX5_isSayer_7 : decode cX5_isSayer 7 = .ok (.iconst 1, 1) := by decide +kernel
theorem dX5_isSayer_8 : decode cX5_isSayer 8 = .ok (.isub, 1) := by decide +kernel
theorem dX5_isSayer_9 : decode cX5_isSayer 9 = .ok (.i2l, 1) := by decide +kernel
theorem dX5_isSayer_10 : decode cX5_isSayer 10 = .ok (.invokestatic 66, 3) := by decide +kernel
theorem dX5_isSayer_13 : decode cX5_isSayer 13 = .ok (.ireturn, 1) := by decide +kernel
set_option maxRecDepth 20000 in
theorem ggX5_isWorld_X5_in : GoodIn wsX5_isWorld wsX5_in := goodIn_r _ [5] (by decide +kernel) (by decide +kernel)
set_option maxRecDepth 20000 in
theorem gX5_isWorld_X5_in : GoodIn wsX5_isWorld (va_wsS RX5 66 yX5_in wsX5_in) := goodIn_app (goodIn_of _ (by decide +kernel)) ggX5_isWorld_X5_in
theorem dX5_isWorld_0 : decode cX5_isWorld 0 = .ok (.iload_n 0, 1) := by decide +kernel
theorem dX5_isWorld_1 : decode cX5_isWorld 1 = .ok (.i2l, 1) := by decide +kernel
theorem dX5_isWorld_2 : decode cX5_isWorld 2 = .ok (.lconst 0, 1) := by decide +kernel
theorem dX5_isWorld_3 : decode cX5_isWorld 3 = .ok (.ldc2_w 145, 3) := by decide +kernel
theorem dX5_isWorld_6 : decode cX5_isWorld 6 = .ok (.invokestatic 66, 3) := by decide +kernel
theorem dX5_isWorld_9 : decode cX5_isWorld 9 = .ok (.ireturn, 1) := by decide +kernel
set_option maxRecDepth 20000 in
theorem ggX5_worlds_X5_isSayer : GoodIn wsX5_worlds wsX5_isSayer := goodIn_r _ [8, 9, 10, 11, 7, 12, 13, 14, 15, 16, 17, 18, 19, 20, 21, 22, 23, 24, 25, 26, 27, 28, 29, 30, 31, 32, 33, 34, 35, 36, 37, 38, 39, 40, 41] (by decide +kernel) (by decide +kernel)
set_option maxRecDepth 20000 in
theorem gX5_worlds_X5_isSayer : GoodIn wsX5_worlds (wsV RX5 147 RX5 yX5_isSayer wsX5_isSayer) := goodIn_app (goodIn_of _ (by decide +kernel)) ggX5_worlds_X5_isSayer
theorem dX5_worlds_0 : decode cX5_worlds 0 = .ok (.iload_n 1, 1) := by decide +kernel
theorem dX5_worlds_1 : decode cX5_worlds 1 = .ok (.ifCond .ne 10, 3) := by decide +kernel
theorem dX5_worlds_4 : decode cX5_worlds 4 = .ok (.aload_n 0, 1) := by decide +kernel
theorem dX5_worlds_5 : decode cX5_worlds 5 = .ok (.getfield 15, 3) := by decide +kernel
theorem dX5_worlds_8 : decode cX5_worlds 8 = .ok (.goto 38, 3) := by decide +kernel
theorem dX5_worlds_11 : decode cX5_worlds 11 = .ok (.iload_n 1, 1) := by decide +kernel
theorem dX5_worlds_12 : decode cX5_worlds 12 = .ok (.iconst 2, 1) := by decide +kernel
theorem dX5_worlds_13 : decode cX5_worlds 13 = .ok (.if_icmp .ne 10, 3) := by decide +kernel
theorem dX5_worlds_16 : decode cX5_worlds 16 = .ok (.aload_n 0, 1) := by decide +kernel
theorem dX5_worlds_17 : decode cX5_worlds 17 = .ok (.getfield 19, 3) := by decide +kernel
theorem dX5_worlds_20 : decode cX5_worlds 20 = .ok (.goto 26, 3) := by decide +kernel
theorem dX5_worlds_23 : decode cX5_worlds 23 = .ok (.iload_n 1, 1) := by decide +kernel
theorem dX5_worlds_24 : decode cX5_worlds 24 = .ok (.iconst 1, 1) := by decide +kernel
theorem dX5_worlds_25 : decode cX5_worlds 25 = .ok (.if_icmp .ne 20, 3) := by decide +kernel
theorem dX5_worlds_28 : decode cX5_worlds 28 = .ok (.aload_n 0, 1) := by decide +kernel
theorem dX5_worlds_29 : decode cX5_worlds 29 = .ok (.iload_n 2, 1) := by decide +kernel
theorem dX5_worlds_30 : decode cX5_worlds 30 = .ok (.invokevirtual 147, 3) := by decide +kernel
theorem dX5_worlds_33 : decode cX5_worlds 33 = .ok (.ifCond .eq 12, 3) := by decide +kernel
theorem dX5_worlds_36 : decode cX5_worlds 36 = .ok (.aload_n 0, 1) := by decide +kernel
theorem dX5_worlds_37 : decode cX5_worlds 37 = .ok (.getfield 26, 3) := by decide +kernel
theorem dX5_worlds_40 : decode cX5_worlds 40 = .ok (.iload_n 2, 1) := by decide +kernel
theorem dX5_worlds_41 : decode cX5_worlds 41 = .ok (.laload, 1) := by decide +kernel
theorem dX5_worlds_42 : decode cX5_worlds 42 = .ok (.goto 4, 3) := by decide +kernel
theorem dX5_worlds_45 : decode cX5_worlds 45 = .ok (.lconst 0, 1) := by decide +kernel
theorem dX5_worlds_46 : decode cX5_worlds 46 = .ok (.lreturn, 1) := by decide +kernel
set_option maxRecDepth 20000 in
theorem ggX5_cost_X5_in : GoodIn wsX5_cost wsX5_in := goodIn_r _ [7] (by decide +kernel) (by decide +kernel)
set_option maxRecDepth 20000 in
theorem gX5_cost_X5_in : GoodIn wsX5_cost (va_wsS RX5 66 yX5_in wsX5_in) := goodIn_app (goodIn_of _ (by decide +kernel)) ggX5_cost_X5_in
theorem dX5_cost_0 : decode cX5_cost 0 = .ok (.iload_n 1, 1) := by decide +kernel
theorem dX5_cost_1 : decode cX5_cost 1 = .ok (.i2l, 1) := by decide +kernel
theorem dX5_cost_2 : decode cX5_cost 2 = .ok (.lconst 0, 1) := by decide +kernel
theorem dX5_cost_3 : decode cX5_cost 3 = .ok (.ldc2_w 150, 3) := by decide +kernel
theorem dX5_cost_6 : decode cX5_cost 6 = .ok (.invokestatic 66, 3) := by decide +kernel
theorem dX5_cost_9 : decode cX5_cost 9 = .ok (.ifCond .eq 15, 3) := by decide +kernel
theorem dX5_cost_12 : decode cX5_cost 12 = .ok (.iload_n 2, 1) := by decide +kernel
theorem dX5_cost_13 : decode cX5_cost 13 = .ok (.i2l, 1) := by decide +kernel
theorem dX5_cost_14 : decode cX5_cost 14 = .ok (.lconst 0, 1) := by decide +kernel
theorem dX5_cost_15 : decode cX5_cost 15 = .ok (.ldc2_w 152, 3) := by decide +kernel
theorem dX5_cost_18 : decode cX5_cost 18 = .ok (.invokestatic 66, 3) := by decide +kernel
theorem dX5_cost_21 : decode cX5_cost 21 = .ok (.ifCond .ne 5, 3) := by decide +kernel
theorem dX5_cost_24 : decode cX5_cost 24 = .ok (.iconst (-1), 1) := by decide +kernel
theorem dX5_cost_25 : decode cX5_cost 25 = .ok (.ireturn, 1) := by decide +kernel
theorem dX5_cost_26 : decode cX5_cost 26 = .ok (.aload_n 0, 1) := by decide +kernel
theorem dX5_cost_27 : decode cX5_cost 27 = .ok (.getfield 30, 3) := by decide +kernel
theorem dX5_cost_30 : decode cX5_cost 30 = .ok (.iload_n 1, 1) := by decide +kernel
theorem dX5_cost_31 : decode cX5_cost 31 = .ok (.iaload, 1) := by decide +kernel
theorem dX5_cost_32 : decode cX5_cost 32 = .ok (.istore_n 3, 1) := by decide +kernel
theorem dX5_cost_33 : decode cX5_cost 33 = .ok (.aload_n 0, 1) := by decide +kernel
theorem dX5_cost_34 : decode cX5_cost 34 = .ok (.getfield 30, 3) := by decide +kernel
theorem dX5_cost_37 : decode cX5_cost 37 = .ok (.iload_n 1, 1) := by decide +kernel
theorem dX5_cost_38 : decode cX5_cost 38 = .ok (.iload_n 2, 1) := by decide +kernel
theorem dX5_cost_39 : decode cX5_cost 39 = .ok (.iastore, 1) := by decide +kernel
theorem dX5_cost_40 : decode cX5_cost 40 = .ok (.iload_n 3, 1) := by decide +kernel
theorem dX5_cost_41 : decode cX5_cost 41 = .ok (.ireturn, 1) := by decide +kernel
set_option maxRecDepth 20000 in
theorem ggX5_measure_X5_in : GoodIn wsX5_measure wsX5_in := goodIn_r _ [5] (by decide +kernel) (by decide +kernel)
set_option maxRecDepth 20000 in
theorem gX5_measure_X5_in : GoodIn wsX5_measure (va_wsS RX5 66 yX5_in wsX5_in) := goodIn_app (goodIn_of _ (by decide +kernel)) ggX5_measure_X5_in
theorem dX5_measure_0 : decode cX5_measure 0 = .ok (.iload_n 1, 1) := by decide +kernel
theorem dX5_measure_1 : decode cX5_measure 1 = .ok (.i2l, 1) := by decide +kernel
theorem dX5_measure_2 : decode cX5_measure 2 = .ok (.lconst 0, 1) := by decide +kernel
theorem dX5_measure_3 : decode cX5_measure 3 = .ok (.lconst 1, 1) := by decide +kernel
theorem dX5_measure_4 : decode cX5_measure 4 = .ok (.invokestatic 66, 3) := by decide +kernel
theorem dX5_measure_7 : decode cX5_measure 7 = .ok (.ifCond .ne 5, 3) := by decide +kernel
theorem dX5_measure_10 : decode cX5_measure 10 = .ok (.iconst (-1), 1) := by decide +kernel
theorem dX5_measure_11 : decode cX5_measure 11 = .ok (.ireturn, 1) := by decide +kernel
theorem dX5_measure_12 : decode cX5_measure 12 = .ok (.aload_n 0, 1) := by decide +kernel
theorem dX5_measure_13 : decode cX5_measure 13 = .ok (.getfield 154, 3) := by decide +kernel
theorem dX5_measure_16 : decode cX5_measure 16 = .ok (.istore_n 2, 1) := by decide +kernel
theorem dX5_measure_17 : decode cX5_measure 17 = .ok (.aload_n 0, 1) := by decide +kernel
theorem dX5_measure_18 : decode cX5_measure 18 = .ok (.iload_n 1, 1) := by decide +kernel
theorem dX5_measure_19 : decode cX5_measure 19 = .ok (.putfield 154, 3) := by decide +kernel
theorem dX5_measure_22 : decode cX5_measure 22 = .ok (.iload_n 2, 1) := by decide +kernel
theorem dX5_measure_23 : decode cX5_measure 23 = .ok (.ireturn, 1) := by decide +kernel
set_option maxRecDepth 20000 in
theorem ggX5_apartOf_X5_has : GoodIn wsX5_apartOf wsX5_has := goodIn_r _ [6] (by decide +kernel) (by decide +kernel)
set_option maxRecDepth 20000 in
theorem gX5_apartOf_X5_has : GoodIn wsX5_apartOf (va_wsS RX5 60 yX5_has wsX5_has) := goodIn_app (goodIn_of _ (by decide +kernel)) ggX5_apartOf_X5_has
theorem dX5_apartOf_0 : decode cX5_apartOf 0 = .ok (.iconst 0, 1) := by decide +kernel
theorem dX5_apartOf_1 : decode cX5_apartOf 1 = .ok (.istore_n 3, 1) := by decide +kernel
theorem dX5_apartOf_2 : decode cX5_apartOf 2 = .ok (.iconst 0, 1) := by decide +kernel
theorem dX5_apartOf_3 : decode cX5_apartOf 3 = .ok (.istore 4, 2) := by decide +kernel
theorem dX5_apartOf_5 : decode cX5_apartOf 5 = .ok (.iload 4, 2) := by decide +kernel
theorem dX5_apartOf_7 : decode cX5_apartOf 7 = .ok (.bipush 6, 2) := by decide +kernel
theorem dX5_apartOf_9 : decode cX5_apartOf 9 = .ok (.if_icmp .ge 35, 3) := by decide +kernel
theorem dX5_apartOf_12 : decode cX5_apartOf 12 = .ok (.iload_n 3, 1) := by decide +kernel
theorem dX5_apartOf_13 : decode cX5_apartOf 13 = .ok (.iload_n 1, 1) := by decide +kernel
theorem dX5_apartOf_14 : decode cX5_apartOf 14 = .ok (.iload_n 2, 1) := by decide +kernel
theorem dX5_apartOf_15 : decode cX5_apartOf 15 = .ok (.ixor, 1) := by decide +kernel
theorem dX5_apartOf_16 : decode cX5_apartOf 16 = .ok (.i2l, 1) := by decide +kernel
theorem dX5_apartOf_17 : decode cX5_apartOf 17 = .ok (.iload 4, 2) := by decide +kernel
theorem dX5_apartOf_19 : decode cX5_apartOf 19 = .ok (.invokestatic 60, 3) := by decide +kernel
theorem dX5_apartOf_22 : decode cX5_apartOf 22 = .ok (.ifCond .eq 13, 3) := by decide +kernel
theorem dX5_apartOf_25 : decode cX5_apartOf 25 = .ok (.aload_n 0, 1) := by decide +kernel
theorem dX5_apartOf_26 : decode cX5_apartOf 26 = .ok (.getfield 30, 3) := by decide +kernel
theorem dX5_apartOf_29 : decode cX5_apartOf 29 = .ok (.iload 4, 2) := by decide +kernel
theorem dX5_apartOf_31 : decode cX5_apartOf 31 = .ok (.iaload, 1) := by decide +kernel
theorem dX5_apartOf_32 : decode cX5_apartOf 32 = .ok (.goto 4, 3) := by decide +kernel
theorem dX5_apartOf_35 : decode cX5_apartOf 35 = .ok (.iconst 0, 1) := by decide +kernel
theorem dX5_apartOf_36 : decode cX5_apartOf 36 = .ok (.iadd, 1) := by decide +kernel
theorem dX5_apartOf_37 : decode cX5_apartOf 37 = .ok (.istore_n 3, 1) := by decide +kernel
theorem dX5_apartOf_38 : decode cX5_apartOf 38 = .ok (.iinc 4 1, 3) := by decide +kernel
theorem dX5_apartOf_41 : decode cX5_apartOf 41 = .ok (.goto (-36), 3) := by decide +kernel
theorem dX5_apartOf_44 : decode cX5_apartOf 44 = .ok (.aload_n 0, 1) := by decide +kernel
theorem dX5_apartOf_45 : decode cX5_apartOf 45 = .ok (.getfield 154, 3) := by decide +kernel
theorem dX5_apartOf_48 : decode cX5_apartOf 48 = .ok (.ifCond .ne 7, 3) := by decide +kernel
theorem dX5_apartOf_51 : decode cX5_apartOf 51 = .ok (.iload_n 3, 1) := by decide +kernel
theorem dX5_apartOf_52 : decode cX5_apartOf 52 = .ok (.goto 13, 3) := by decide +kernel
theorem dX5_apartOf_55 : decode cX5_apartOf 55 = .ok (.iload_n 1, 1) := by decide +kernel
theorem dX5_apartOf_56 : decode cX5_apartOf 56 = .ok (.iload_n 2, 1) := by decide +kernel
theorem dX5_apartOf_57 : decode cX5_apartOf 57 = .ok (.if_icmp .ne 7, 3) := by decide +kernel
theorem dX5_apartOf_60 : decode cX5_apartOf 60 = .ok (.iconst 0, 1) := by decide +kernel
theorem dX5_apartOf_61 : decode cX5_apartOf 61 = .ok (.goto 4, 3) := by decide +kernel
theorem dX5_apartOf_64 : decode cX5_apartOf 64 = .ok (.iconst 1, 1) := by decide +kernel
theorem dX5_apartOf_65 : decode cX5_apartOf 65 = .ok (.ireturn, 1) := by decide +kernel
set_option maxRecDepth 20000 in
theorem ggX5_apart_X5_isWorld : GoodIn wsX5_apart wsX5_isWorld := goodIn_r _ [4, 5, 6, 7, 3, 8] (by decide +kernel) (by decide +kernel)
set_option maxRecDepth 20000 in
theorem gX5_apart_X5_isWorld : GoodIn wsX5_apart (va_wsS RX5 157 yX5_isWorld wsX5_isWorld) := goodIn_app (goodIn_of _ (by decide +kernel)) ggX5_apart_X5_isWorld
set_option maxRecDepth 20000 in
theorem ggX5_apart_X5_apartOf : GoodIn wsX5_apart wsX5_apartOf := goodIn_r _ [12, 13, 14, 15, 16, 3, 17, 18, 19, 20, 21, 22, 23, 24, 25, 26, 27, 28, 29, 30, 31, 32, 33, 34, 35, 36, 37, 38, 39, 40, 41, 42, 43, 44, 45, 46] (by decide +kernel) (by decide +kernel)
set_option maxRecDepth 20000 in
theorem gX5_apart_X5_apartOf : GoodIn wsX5_apart (wsV RX5 160 RX5 yX5_apartOf wsX5_apartOf) := goodIn_app (goodIn_of _ (by decide +kernel)) ggX5_apart_X5_apartOf
theorem dX5_apart_0 : decode cX5_apart 0 = .ok (.iload_n 1, 1) := by decide +kernel
theorem dX5_apart_1 : decode cX5_apart 1 = .ok (.invokestatic 157, 3) := by decide +kernel
theorem dX5_apart_4 : decode cX5_apart 4 = .ok (.ifCond .eq 19, 3) := by decide +kernel
theorem dX5_apart_7 : decode cX5_apart 7 = .ok (.iload_n 2, 1) := by decide +kernel
theorem dX5_apart_8 : decode cX5_apart 8 = .ok (.invokestatic 157, 3) := by decide +kernel
theorem dX5_apart_11 : decode cX5_apart 11 = .ok (.ifCond .eq 12, 3) := by decide +kernel
theorem dX5_apart_14 : decode cX5_apart 14 = .ok (.aload_n 0, 1) := by decide +kernel
theorem dX5_apart_15 : decode cX5_apart 15 = .ok (.iload_n 1, 1) := by decide +kernel
theorem dX5_apart_16 : decode cX5_apart 16 = .ok (.iload_n 2, 1) := by decide +kernel
theorem dX5_apart_17 : decode cX5_apart 17 = .ok (.invokevirtual 160, 3) := by decide +kernel
theorem dX5_apart_20 : decode cX5_apart 20 = .ok (.goto 4, 3) := by decide +kernel
theorem dX5_apart_23 : decode cX5_apart 23 = .ok (.iconst (-1), 1) := by decide +kernel
theorem dX5_apart_24 : decode cX5_apart 24 = .ok (.ireturn, 1) := by decide +kernel
set_option maxRecDepth 20000 in
theorem ggX5_farOf_X5_has : GoodIn wsX5_farOf wsX5_has := goodIn_r _ [4] (by decide +kernel) (by decide +kernel)
set_option maxRecDepth 20000 in
theorem gX5_farOf_X5_has : GoodIn wsX5_farOf (va_wsS RX5 60 yX5_has wsX5_has) := goodIn_app (goodIn_of _ (by decide +kernel)) ggX5_farOf_X5_has
set_option maxRecDepth 20000 in
theorem ggX5_farOf_X5_apartOf : GoodIn wsX5_farOf wsX5_apartOf := goodIn_r _ [8, 9, 10, 1, 2, 3, 4, 11, 12, 13, 14, 15, 16, 17, 18, 19, 20, 21, 22, 23, 24, 25, 26, 27, 28, 29, 30, 31, 32, 33, 34, 35, 36, 37, 38, 39] (by decide +kernel) (by decide +kernel)
set_option maxRecDepth 20000 in
theorem gX5_farOf_X5_apartOf : GoodIn wsX5_farOf (wsV RX5 160 RX5 yX5_apartOf wsX5_apartOf) := goodIn_app (goodIn_of _ (by decide +kernel)) ggX5_farOf_X5_apartOf
theorem dX5_farOf_0 : decode cX5_farOf 0 = .ok (.iconst (-1), 1) := by decide +kernel
theorem dX5_farOf_1 : decode cX5_farOf 1 = .ok (.istore 4, 2) := by decide +kernel
theorem dX5_farOf_3 : decode cX5_farOf 3 = .ok (.iconst 0, 1) := by decide +kernel
theorem dX5_farOf_4 : decode cX5_farOf 4 = .ok (.istore 5, 2) := by decide +kernel
theorem dX5_farOf_6 : decode cX5_farOf 6 = .ok (.iload 5, 2) := by decide +kernel
theorem dX5_farOf_8 : decode cX5_farOf 8 = .ok (.bipush 64, 2) := by decide +kernel
theorem dX5_farOf_10 : decode cX5_farOf 10 = .ok (.if_icmp .ge 44, 3) := by decide +kernel
theorem dX5_farOf_13 : decode cX5_farOf 13 = .ok (.lload_n 2, 1) := by decide +kernel
theorem dX5_farOf_14 : decode cX5_farOf 14 = .ok (.iload 5, 2) := by decide +kernel
theorem dX5_farOf_16 : decode cX5_farOf 16 = .ok (.invokestatic 60, 3) := by decide +kernel
theorem dX5_farOf_19 : decode cX5_farOf 19 = .ok (.ifCond .eq 29, 3) := by decide +kernel
theorem dX5_farOf_22 : decode cX5_farOf 22 = .ok (.iload 4, 2) := by decide +kernel
theorem dX5_farOf_24 : decode cX5_farOf 24 = .ok (.ifCond .lt 15, 3) := by decide +kernel
theorem dX5_farOf_27 : decode cX5_farOf 27 = .ok (.aload_n 0, 1) := by decide +kernel
theorem dX5_farOf_28 : decode cX5_farOf 28 = .ok (.iload_n 1, 1) := by decide +kernel
theorem dX5_farOf_29 : decode cX5_farOf 29 = .ok (.iload 5, 2) := by decide +kernel
theorem dX5_farOf_31 : decode cX5_farOf 31 = .ok (.invokevirtual 160, 3) := by decide +kernel
theorem dX5_farOf_34 : decode cX5_farOf 34 = .ok (.iload 4, 2) := by decide +kernel
theorem dX5_farOf_36 : decode cX5_farOf 36 = .ok (.if_icmp .ge 12, 3) := by decide +kernel
theorem dX5_farOf_39 : decode cX5_farOf 39 = .ok (.aload_n 0, 1) := by decide +kernel
theorem dX5_farOf_40 : decode cX5_farOf 40 = .ok (.iload_n 1, 1) := by decide +kernel
theorem dX5_farOf_41 : decode cX5_farOf 41 = .ok (.iload 5, 2) := by decide +kernel
theorem dX5_farOf_43 : decode cX5_farOf 43 = .ok (.invokevirtual 160, 3) := by decide +kernel
theorem dX5_farOf_46 : decode cX5_farOf 46 = .ok (.istore 4, 2) := by decide +kernel
theorem dX5_farOf_48 : decode cX5_farOf 48 = .ok (.iinc 5 1, 3) := by decide +kernel
theorem dX5_farOf_51 : decode cX5_farOf 51 = .ok (.goto (-45), 3) := by decide +kernel
theorem dX5_farOf_54 : decode cX5_farOf 54 = .ok (.iload 4, 2) := by decide +kernel
theorem dX5_farOf_56 : decode cX5_farOf 56 = .ok (.ifCond .ge 7, 3) := by decide +kernel
theorem dX5_farOf_59 : decode cX5_farOf 59 = .ok (.iconst 0, 1) := by decide +kernel
theorem dX5_farOf_60 : decode cX5_farOf 60 = .ok (.goto 5, 3) := by decide +kernel
theorem dX5_farOf_63 : decode cX5_farOf 63 = .ok (.iload 4, 2) := by decide +kernel
theorem dX5_farOf_65 : decode cX5_farOf 65 = .ok (.ireturn, 1) := by decide +kernel
set_option maxRecDepth 20000 in
theorem ggX5_burden_X5_isSayer : GoodIn wsX5_burden wsX5_isSayer := goodIn_r _ [7, 8, 9, 10, 6, 11, 29, 30, 31, 32, 33, 34, 35, 36, 37, 38, 39, 40, 41, 42, 43, 44, 45, 46, 47, 48, 49, 50, 51, 52, 53, 54, 55, 56, 57] (by decide +kernel) (by decide +kernel)
set_option maxRecDepth 20000 in
theorem gX5_burden_X5_isSayer : GoodIn wsX5_burden (wsV RX5 147 RX5 yX5_isSayer wsX5_isSayer) := goodIn_app (goodIn_of _ (by decide +kernel)) ggX5_burden_X5_isSayer
set_option maxRecDepth 20000 in
theorem ggX5_burden_X5_isWorld : GoodIn wsX5_burden wsX5_isWorld := goodIn_r _ [14, 15, 9, 10, 6, 11] (by decide +kernel) (by decide +kernel)
set_option maxRecDepth 20000 in
theorem gX5_burden_X5_isWorld : GoodIn wsX5_burden (va_wsS RX5 157 yX5_isWorld wsX5_isWorld) := goodIn_app (goodIn_of _ (by decide +kernel)) ggX5_burden_X5_isWorld
set_option maxRecDepth 20000 in
theorem ggX5_burden_X5_farOf : GoodIn wsX5_burden wsX5_farOf := goodIn_r _ [19, 20, 21, 6, 22, 23, 24, 25, 26, 27, 28, 29, 30, 31, 32, 33, 34, 35, 36, 37, 38, 39, 40, 41, 42, 43, 44, 45, 46, 47, 48, 49, 50, 51, 52, 53, 54, 55, 56, 57] (by decide +kernel) (by decide +kernel)
set_option maxRecDepth 20000 in
theorem gX5_burden_X5_farOf : GoodIn wsX5_burden (wsV RX5 164 RX5 yX5_farOf wsX5_farOf) := goodIn_app (goodIn_of _ (by decide +kernel)) ggX5_burden_X5_farOf
theorem dX5_burden_0 : decode cX5_burden 0 = .ok (.aload_n 0, 1) := by decide +kernel
theorem dX5_burden_1 : decode cX5_burden 1 = .ok (.iload_n 1, 1) := by decide +kernel
theorem dX5_burden_2 : decode cX5_burden 2 = .ok (.invokevirtual 147, 3) := by decide +kernel
theorem dX5_burden_5 : decode cX5_burden 5 = .ok (.ifCond .eq 31, 3) := by decide +kernel
theorem dX5_burden_8 : decode cX5_burden 8 = .ok (.iload_n 2, 1) := by decide +kernel
theorem dX5_burden_9 : decode cX5_burden 9 = .ok (.invokestatic 157, 3) := by decide +kernel
theorem dX5_burden_12 : decode cX5_burden 12 = .ok (.ifCond .eq 24, 3) := by decide +kernel
theorem dX5_burden_15 : decode cX5_burden 15 = .ok (.aload_n 0, 1) := by decide +kernel
theorem dX5_burden_16 : decode cX5_burden 16 = .ok (.getfield 22, 3) := by decide +kernel
theorem dX5_burden_19 : decode cX5_burden 19 = .ok (.iload_n 1, 1) := by decide +kernel
theorem dX5_burden_20 : decode cX5_burden 20 = .ok (.iaload, 1) := by decide +kernel
theorem dX5_burden_21 : decode cX5_burden 21 = .ok (.aload_n 0, 1) := by decide +kernel
theorem dX5_burden_22 : decode cX5_burden 22 = .ok (.iload_n 2, 1) := by decide +kernel
theorem dX5_burden_23 : decode cX5_burden 23 = .ok (.aload_n 0, 1) := by decide +kernel
theorem dX5_burden_24 : decode cX5_burden 24 = .ok (.getfield 26, 3) := by decide +kernel
theorem dX5_burden_27 : decode cX5_burden 27 = .ok (.iload_n 1, 1) := by decide +kernel
theorem dX5_burden_28 : decode cX5_burden 28 = .ok (.laload, 1) := by decide +kernel
theorem dX5_burden_29 : decode cX5_burden 29 = .ok (.invokevirtual 164, 3) := by decide +kernel
theorem dX5_burden_32 : decode cX5_burden 32 = .ok (.imul, 1) := by decide +kernel
theorem dX5_burden_33 : decode cX5_burden 33 = .ok (.goto 4, 3) := by decide +kernel
theorem dX5_burden_36 : decode cX5_burden 36 = .ok (.iconst (-1), 1) := by decide +kernel
theorem dX5_burden_37 : decode cX5_burden 37 = .ok (.ireturn, 1) := by decide +kernel
set_option maxRecDepth 20000 in
theorem ggX5_lays_X5_farOf : GoodIn wsX5_lays wsX5_farOf := goodIn_r _ [7, 8, 9, 6, 10, 11, 12, 13, 14, 15, 16, 17, 18, 19, 20, 21, 22, 23, 24, 25, 26, 27, 28, 29, 30, 31, 32, 33, 34, 35, 36, 37, 38, 39, 40, 41, 42, 43, 44, 45] (by decide +kernel) (by decide +kernel)
set_option maxRecDepth 20000 in
theorem gX5_lays_X5_farOf : GoodIn wsX5_lays (wsV RX5 164 RX5 yX5_farOf wsX5_farOf) := goodIn_app (goodIn_of _ (by decide +kernel)) ggX5_lays_X5_farOf
theorem dX5_lays_0 : decode cX5_lays 0 = .ok (.iconst 0, 1) := by decide +kernel
theorem dX5_lays_1 : decode cX5_lays 1 = .ok (.istore 4, 2) := by decide +kernel
theorem dX5_lays_3 : decode cX5_lays 3 = .ok (.iload 4, 2) := by decide +kernel
theorem dX5_lays_5 : decode cX5_lays 5 = .ok (.bipush 64, 2) := by decide +kernel
theorem dX5_lays_7 : decode cX5_lays 7 = .ok (.if_icmp .ge 35, 3) := by decide +kernel
theorem dX5_lays_10 : decode cX5_lays 10 = .ok (.aload_n 0, 1) := by decide +kernel
theorem dX5_lays_11 : decode cX5_lays 11 = .ok (.getfield 48, 3) := by decide +kernel
theorem dX5_lays_14 : decode cX5_lays 14 = .ok (.bipush 64, 2) := by decide +kernel
theorem dX5_lays_16 : decode cX5_lays 16 = .ok (.iload_n 1, 1) := by decide +kernel
theorem dX5_lays_17 : decode cX5_lays 17 = .ok (.imul, 1) := by decide +kernel
theorem dX5_lays_18 : decode cX5_lays 18 = .ok (.iload 4, 2) := by decide +kernel
theorem dX5_lays_20 : decode cX5_lays 20 = .ok (.iadd, 1) := by decide +kernel
theorem dX5_lays_21 : decode cX5_lays 21 = .ok (.aload_n 0, 1) := by decide +kernel
theorem dX5_lays_22 : decode cX5_lays 22 = .ok (.getfield 22, 3) := by decide +kernel
theorem dX5_lays_25 : decode cX5_lays 25 = .ok (.iload_n 1, 1) := by decide +kernel
theorem dX5_lays_26 : decode cX5_lays 26 = .ok (.iaload, 1) := by decide +kernel
theorem dX5_lays_27 : decode cX5_lays 27 = .ok (.aload_n 0, 1) := by decide +kernel
theorem dX5_lays_28 : decode cX5_lays 28 = .ok (.iload 4, 2) := by decide +kernel
theorem dX5_lays_30 : decode cX5_lays 30 = .ok (.lload_n 2, 1) := by decide +kernel
theorem dX5_lays_31 : decode cX5_lays 31 = .ok (.invokevirtual 164, 3) := by decide +kernel
theorem dX5_lays_34 : decode cX5_lays 34 = .ok (.imul, 1) := by decide +kernel
theorem dX5_lays_35 : decode cX5_lays 35 = .ok (.iastore, 1) := by decide +kernel
theorem dX5_lays_36 : decode cX5_lays 36 = .ok (.iinc 4 1, 3) := by decide +kernel
theorem dX5_lays_39 : decode cX5_lays 39 = .ok (.goto (-36), 3) := by decide +kernel
theorem dX5_lays_42 : decode cX5_lays 42 = .ok (.return_, 1) := by decide +kernel
set_option maxRecDepth 20000 in
theorem ggX5_laysAll_X5_lays : GoodIn wsX5_laysAll wsX5_lays := goodIn_r _ [7, 8, 9, 10, 11, 12, 6, 13, 14, 15, 16, 17, 18, 19, 20, 21, 22, 23, 24, 25, 26, 27, 28, 29, 30, 31, 32, 33, 34, 35, 36, 37, 38, 39, 40, 41, 42, 43, 44, 45, 46, 47, 48, 49, 50, 51] (by decide +kernel) (by decide +kernel)
set_option maxRecDepth 20000 in
theorem gX5_laysAll_X5_lays : GoodIn wsX5_laysAll (wsV RX5 168 RX5 yX5_lays wsX5_lays) := goodIn_app (goodIn_of _ (by decide +kernel)) ggX5_laysAll_X5_lays
theorem dX5_laysAll_0 : decode cX5_laysAll 0 = .ok (.iconst 0, 1) := by decide +kernel
theorem dX5_laysAll_1 : decode cX5_laysAll 1 = .ok (.istore_n 1, 1) := by decide +kernel
theorem dX5_laysAll_2 : decode cX5_laysAll 2 = .ok (.iload_n 1, 1) := by decide +kernel
theorem dX5_laysAll_3 : decode cX5_laysAll 3 = .ok (.aload_n 0, 1) := by decide +kernel
theorem dX5_laysAll_4 : decode cX5_laysAll 4 = .ok (.getfield 142, 3) := by decide +kernel
theorem dX5_laysAll_7 : decode cX5_laysAll 7 = .ok (.if_icmp .ge 20, 3) := by decide +kernel
theorem dX5_laysAll_10 : decode cX5_laysAll 10 = .ok (.aload_n 0, 1) := by decide +kernel
theorem dX5_laysAll_11 : decode cX5_laysAll 11 = .ok (.iload_n 1, 1) := by decide +kernel
theorem dX5_laysAll_12 : decode cX5_laysAll 12 = .ok (.aload_n 0, 1) := by decide +kernel
theorem dX5_laysAll_13 : decode cX5_laysAll 13 = .ok (.getfield 26, 3) := by decide +kernel
theorem dX5_laysAll_16 : decode cX5_laysAll 16 = .ok (.iload_n 1, 1) := by decide +kernel
theorem dX5_laysAll_17 : decode cX5_laysAll 17 = .ok (.laload, 1) := by decide +kernel
theorem dX5_laysAll_18 : decode cX5_laysAll 18 = .ok (.invokevirtual 168, 3) := by decide +kernel
theorem dX5_laysAll_21 : decode cX5_laysAll 21 = .ok (.iinc 1 1, 3) := by decide +kernel
theorem dX5_laysAll_24 : decode cX5_laysAll 24 = .ok (.goto (-22), 3) := by decide +kernel
theorem dX5_laysAll_27 : decode cX5_laysAll 27 = .ok (.return_, 1) := by decide +kernel
theorem dX5_sumOf_0 : decode cX5_sumOf 0 = .ok (.iconst 0, 1) := by decide +kernel
theorem dX5_sumOf_1 : decode cX5_sumOf 1 = .ok (.istore_n 2, 1) := by decide +kernel
theorem dX5_sumOf_2 : decode cX5_sumOf 2 = .ok (.iconst 0, 1) := by decide +kernel
theorem dX5_sumOf_3 : decode cX5_sumOf 3 = .ok (.istore_n 3, 1) := by decide +kernel
theorem dX5_sumOf_4 : decode cX5_sumOf 4 = .ok (.iload_n 3, 1) := by decide +kernel
theorem dX5_sumOf_5 : decode cX5_sumOf 5 = .ok (.aload_n 0, 1) := by decide +kernel
theorem dX5_sumOf_6 : decode cX5_sumOf 6 = .ok (.getfield 142, 3) := by decide +kernel
theorem dX5_sumOf_9 : decode cX5_sumOf 9 = .ok (.if_icmp .ge 23, 3) := by decide +kernel
theorem dX5_sumOf_12 : decode cX5_sumOf 12 = .ok (.iload_n 2, 1) := by decide +kernel
theorem dX5_sumOf_13 : decode cX5_sumOf 13 = .ok (.aload_n 0, 1) := by decide +kernel
theorem dX5_sumOf_14 : decode cX5_sumOf 14 = .ok (.getfield 48, 3) := by decide +kernel
theorem dX5_sumOf_17 : decode cX5_sumOf 17 = .ok (.bipush 64, 2) := by decide +kernel
theorem dX5_sumOf_19 : decode cX5_sumOf 19 = .ok (.iload_n 3, 1) := by decide +kernel
theorem dX5_sumOf_20 : decode cX5_sumOf 20 = .ok (.imul, 1) := by decide +kernel
theorem dX5_sumOf_21 : decode cX5_sumOf 21 = .ok (.iload_n 1, 1) := by decide +kernel
theorem dX5_sumOf_22 : decode cX5_sumOf 22 = .ok (.iadd, 1) := by decide +kernel
theorem dX5_sumOf_23 : decode cX5_sumOf 23 = .ok (.iaload, 1) := by decide +kernel
theorem dX5_sumOf_24 : decode cX5_sumOf 24 = .ok (.iadd, 1) := by decide +kernel
theorem dX5_sumOf_25 : decode cX5_sumOf 25 = .ok (.istore_n 2, 1) := by decide +kernel
theorem dX5_sumOf_26 : decode cX5_sumOf 26 = .ok (.iinc 3 1, 3) := by decide +kernel
theorem dX5_sumOf_29 : decode cX5_sumOf 29 = .ok (.goto (-25), 3) := by decide +kernel
theorem dX5_sumOf_32 : decode cX5_sumOf 32 = .ok (.iload_n 2, 1) := by decide +kernel
theorem dX5_sumOf_33 : decode cX5_sumOf 33 = .ok (.ireturn, 1) := by decide +kernel
theorem dX5_worstOf_0 : decode cX5_worstOf 0 = .ok (.iconst 0, 1) := by decide +kernel
theorem dX5_worstOf_1 : decode cX5_worstOf 1 = .ok (.istore_n 2, 1) := by decide +kernel
theorem dX5_worstOf_2 : decode cX5_worstOf 2 = .ok (.iconst 0, 1) := by decide +kernel
theorem dX5_worstOf_3 : decode cX5_worstOf 3 = .ok (.istore_n 3, 1) := by decide +kernel
theorem dX5_worstOf_4 : decode cX5_worstOf 4 = .ok (.iload_n 3, 1) := by decide +kernel
theorem dX5_worstOf_5 : decode cX5_worstOf 5 = .ok (.aload_n 0, 1) := by decide +kernel
theorem dX5_worstOf_6 : decode cX5_worstOf 6 = .ok (.getfield 142, 3) := by decide +kernel
theorem dX5_worstOf_9 : decode cX5_worstOf 9 = .ok (.if_icmp .ge 40, 3) := by decide +kernel
theorem dX5_worstOf_12 : decode cX5_worstOf 12 = .ok (.aload_n 0, 1) := by decide +kernel
theorem dX5_worstOf_13 : decode cX5_worstOf 13 = .ok (.getfield 48, 3) := by decide +kernel
theorem dX5_worstOf_16 : decode cX5_worstOf 16 = .ok (.bipush 64, 2) := by decide +kernel
theorem dX5_worstOf_18 : decode cX5_worstOf 18 = .ok (.iload_n 3, 1) := by decide +kernel
theorem dX5_worstOf_19 : decode cX5_worstOf 19 = .ok (.imul, 1) := by decide +kernel
theorem dX5_worstOf_20 : decode cX5_worstOf 20 = .ok (.iload_n 1, 1) := by decide +kernel
theorem dX5_worstOf_21 : decode cX5_worstOf 21 = .ok (.iadd, 1) := by decide +kernel
theorem dX5_worstOf_22 : decode cX5_worstOf 22 = .ok (.iaload, 1) := by decide +kernel
theorem dX5_worstOf_23 : decode cX5_worstOf 23 = .ok (.iload_n 2, 1) := by decide +kernel
theorem dX5_worstOf_24 : decode cX5_worstOf 24 = .ok (.if_icmp .le 17, 3) := by decide +kernel
theorem dX5_worstOf_27 : decode cX5_worstOf 27 = .ok (.aload_n 0, 1) := by decide +kernel
theorem dX5_worstOf_28 : decode cX5_worstOf 28 = .ok (.getfield 48, 3) := by decide +kernel
theorem dX5_worstOf_31 : decode cX5_worstOf 31 = .ok (.bipush 64, 2) := by decide +kernel
theorem dX5_worstOf_33 : decode cX5_worstOf 33 = .ok (.iload_n 3, 1) := by decide +kernel
theorem dX5_worstOf_34 : decode cX5_worstOf 34 = .ok (.imul, 1) := by decide +kernel
theorem dX5_worstOf_35 : decode cX5_worstOf 35 = .ok (.iload_n 1, 1) := by decide +kernel
theorem dX5_worstOf_36 : decode cX5_worstOf 36 = .ok (.iadd, 1) := by decide +kernel
theorem dX5_worstOf_37 : decode cX5_worstOf 37 = .ok (.iaload, 1) := by decide +kernel
theorem dX5_worstOf_38 : decode cX5_worstOf 38 = .ok (.goto 4, 3) := by decide +kernel
theorem dX5_worstOf_41 : decode cX5_worstOf 41 = .ok (.iload_n 2, 1) := by decide +kernel
theorem dX5_worstOf_42 : decode cX5_worstOf 42 = .ok (.istore_n 2, 1) := by decide +kernel
theorem dX5_worstOf_43 : decode cX5_worstOf 43 = .ok (.iinc 3 1, 3) := by decide +kernel
theorem dX5_worstOf_46 : decode cX5_worstOf 46 = .ok (.goto (-42), 3) := by decide +kernel
theorem dX5_worstOf_49 : decode cX5_worstOf 49 = .ok (.iload_n 2, 1) := by decide +kernel
theorem dX5_worstOf_50 : decode cX5_worstOf 50 = .ok (.ireturn, 1) := by decide +kernel
set_option maxRecDepth 20000 in
theorem ggX5_rows_X5_sumOf : GoodIn wsX5_rows wsX5_sumOf := goodIn_r _ [8, 2, 3, 13, 14, 15, 16, 17, 18, 19, 20, 21, 22, 23, 24, 25, 26, 27, 28, 29, 30, 31, 32, 33, 34, 35, 36, 37, 38, 39, 40, 41] (by decide +kernel) (by decide +kernel)
set_option maxRecDepth 20000 in
theorem gX5_rows_X5_sumOf : GoodIn wsX5_rows (wsV RX5 172 RX5 yX5_sumOf wsX5_sumOf) := goodIn_app (goodIn_of _ (by decide +kernel)) ggX5_rows_X5_sumOf
set_option maxRecDepth 20000 in
theorem ggX5_rows_X5_worstOf : GoodIn wsX5_rows wsX5_worstOf := goodIn_r _ [12, 2, 3, 13, 14, 15, 16, 17, 18, 19, 20, 21, 22, 23, 24, 25, 26, 27, 28, 29, 30, 31, 32, 33, 34, 35, 36, 37, 38, 39, 40, 41] (by decide +kernel) (by decide +kernel)
set_option maxRecDepth 20000 in
theorem gX5_rows_X5_worstOf : GoodIn wsX5_rows (wsV RX5 176 RX5 yX5_worstOf wsX5_worstOf) := goodIn_app (goodIn_of _ (by decide +kernel)) ggX5_rows_X5_worstOf
theorem dX5_rows_0 : decode cX5_rows 0 = .ok (.iconst 0, 1) := by decide +kernel
theorem dX5_rows_1 : decode cX5_rows 1 = .ok (.istore_n 3, 1) := by decide +kernel
theorem dX5_rows_2 : decode cX5_rows 2 = .ok (.iload_n 3, 1) := by decide +kernel
theorem dX5_rows_3 : decode cX5_rows 3 = .ok (.bipush 7, 2) := by decide +kernel
theorem dX5_rows_5 : decode cX5_rows 5 = .ok (.if_icmp .ge 43, 3) := by decide +kernel
theorem dX5_rows_8 : decode cX5_rows 8 = .ok (.aload_n 0, 1) := by decide +kernel
theorem dX5_rows_9 : decode cX5_rows 9 = .ok (.getfield 54, 3) := by decide +kernel
theorem dX5_rows_12 : decode cX5_rows 12 = .ok (.iload_n 3, 1) := by decide +kernel
theorem dX5_rows_13 : decode cX5_rows 13 = .ok (.iload_n 1, 1) := by decide +kernel
theorem dX5_rows_14 : decode cX5_rows 14 = .ok (.iconst 2, 1) := by decide +kernel
theorem dX5_rows_15 : decode cX5_rows 15 = .ok (.if_icmp .ne 25, 3) := by decide +kernel
theorem dX5_rows_18 : decode cX5_rows 18 = .ok (.iload_n 3, 1) := by decide +kernel
theorem dX5_rows_19 : decode cX5_rows 19 = .ok (.aload_n 0, 1) := by decide +kernel
theorem dX5_rows_20 : decode cX5_rows 20 = .ok (.getfield 142, 3) := by decide +kernel
theorem dX5_rows_23 : decode cX5_rows 23 = .ok (.if_icmp .ge 17, 3) := by decide +kernel
theorem dX5_rows_26 : decode cX5_rows 26 = .ok (.aload_n 0, 1) := by decide +kernel
theorem dX5_rows_27 : decode cX5_rows 27 = .ok (.getfield 48, 3) := by decide +kernel
theorem dX5_rows_30 : decode cX5_rows 30 = .ok (.bipush 64, 2) := by decide +kernel
theorem dX5_rows_32 : decode cX5_rows 32 = .ok (.iload_n 3, 1) := by decide +kernel
theorem dX5_rows_33 : decode cX5_rows 33 = .ok (.imul, 1) := by decide +kernel
theorem dX5_rows_34 : decode cX5_rows 34 = .ok (.iload_n 2, 1) := by decide +kernel
theorem dX5_rows_35 : decode cX5_rows 35 = .ok (.iadd, 1) := by decide +kernel
theorem dX5_rows_36 : decode cX5_rows 36 = .ok (.iaload, 1) := by decide +kernel
theorem dX5_rows_37 : decode cX5_rows 37 = .ok (.goto 4, 3) := by decide +kernel
theorem dX5_rows_40 : decode cX5_rows 40 = .ok (.iconst 0, 1) := by decide +kernel
theorem dX5_rows_41 : decode cX5_rows 41 = .ok (.iastore, 1) := by decide +kernel
theorem dX5_rows_42 : decode cX5_rows 42 = .ok (.iinc 3 1, 3) := by decide +kernel
theorem dX5_rows_45 : decode cX5_rows 45 = .ok (.goto (-43), 3) := by decide +kernel
theorem dX5_rows_48 : decode cX5_rows 48 = .ok (.iload_n 1, 1) := by decide +kernel
theorem dX5_rows_49 : decode cX5_rows 49 = .ok (.iconst 2, 1) := by decide +kernel
theorem dX5_rows_50 : decode cX5_rows 50 = .ok (.if_icmp .ge 26, 3) := by decide +kernel
theorem dX5_rows_53 : decode cX5_rows 53 = .ok (.aload_n 0, 1) := by decide +kernel
theorem dX5_rows_54 : decode cX5_rows 54 = .ok (.getfield 54, 3) := by decide +kernel
theorem dX5_rows_57 : decode cX5_rows 57 = .ok (.iconst 0, 1) := by decide +kernel
theorem dX5_rows_58 : decode cX5_rows 58 = .ok (.iload_n 1, 1) := by decide +kernel
theorem dX5_rows_59 : decode cX5_rows 59 = .ok (.ifCond .ne 11, 3) := by decide +kernel
theorem dX5_rows_62 : decode cX5_rows 62 = .ok (.aload_n 0, 1) := by decide +kernel
theorem dX5_rows_63 : decode cX5_rows 63 = .ok (.iload_n 2, 1) := by decide +kernel
theorem dX5_rows_64 : decode cX5_rows 64 = .ok (.invokevirtual 172, 3) := by decide +kernel
theorem dX5_rows_67 : decode cX5_rows 67 = .ok (.goto 8, 3) := by decide +kernel
theorem dX5_rows_70 : decode cX5_rows 70 = .ok (.aload_n 0, 1) := by decide +kernel
theorem dX5_rows_71 : decode cX5_rows 71 = .ok (.iload_n 2, 1) := by decide +kernel
theorem dX5_rows_72 : decode cX5_rows 72 = .ok (.invokevirtual 176, 3) := by decide +kernel
theorem dX5_rows_75 : decode cX5_rows 75 = .ok (.iastore, 1) := by decide +kernel
theorem dX5_rows_76 : decode cX5_rows 76 = .ok (.iconst 1, 1) := by decide +kernel
theorem dX5_rows_77 : decode cX5_rows 77 = .ok (.istore_n 3, 1) := by decide +kernel
theorem dX5_rows_78 : decode cX5_rows 78 = .ok (.iload_n 3, 1) := by decide +kernel
theorem dX5_rows_79 : decode cX5_rows 79 = .ok (.bipush 7, 2) := by decide +kernel
theorem dX5_rows_81 : decode cX5_rows 81 = .ok (.if_icmp .ge 78, 3) := by decide +kernel
theorem dX5_rows_84 : decode cX5_rows 84 = .ok (.iload_n 3, 1) := by decide +kernel
theorem dX5_rows_85 : decode cX5_rows 85 = .ok (.istore 4, 2) := by decide +kernel
theorem dX5_rows_87 : decode cX5_rows 87 = .ok (.iload 4, 2) := by decide +kernel
theorem dX5_rows_89 : decode cX5_rows 89 = .ok (.ifCond .le 64, 3) := by decide +kernel
theorem dX5_rows_92 : decode cX5_rows 92 = .ok (.aload_n 0, 1) := by decide +kernel
theorem dX5_rows_93 : decode cX5_rows 93 = .ok (.getfield 54, 3) := by decide +kernel
theorem dX5_rows_96 : decode cX5_rows 96 = .ok (.iload 4, 2) := by decide +kernel
theorem dX5_rows_98 : decode cX5_rows 98 = .ok (.iaload, 1) := by decide +kernel
theorem dX5_rows_99 : decode cX5_rows 99 = .ok (.aload_n 0, 1) := by decide +kernel
theorem dX5_rows_100 : decode cX5_rows 100 = .ok (.getfield 54, 3) := by decide +kernel
theorem dX5_rows_103 : decode cX5_rows 103 = .ok (.iload 4, 2) := by decide +kernel
theorem dX5_rows_105 : decode cX5_rows 105 = .ok (.iconst 1, 1) := by decide +kernel
theorem dX5_rows_106 : decode cX5_rows 106 = .ok (.isub, 1) := by decide +kernel
theorem dX5_rows_107 : decode cX5_rows 107 = .ok (.iaload, 1) := by decide +kernel
theorem dX5_rows_108 : decode cX5_rows 108 = .ok (.if_icmp .le 45, 3) := by decide +kernel
theorem dX5_rows_111 : decode cX5_rows 111 = .ok (.aload_n 0, 1) := by decide +kernel
theorem dX5_rows_112 : decode cX5_rows 112 = .ok (.getfield 54, 3) := by decide +kernel
theorem dX5_rows_115 : decode cX5_rows 115 = .ok (.iload 4, 2) := by decide +kernel
theorem dX5_rows_117 : decode cX5_rows 117 = .ok (.iaload, 1) := by decide +kernel
theorem dX5_rows_118 : decode cX5_rows 118 = .ok (.istore 5, 2) := by decide +kernel
theorem dX5_rows_120 : decode cX5_rows 120 = .ok (.aload_n 0, 1) := by decide +kernel
theorem dX5_rows_121 : decode cX5_rows 121 = .ok (.getfield 54, 3) := by decide +kernel
theorem dX5_rows_124 : decode cX5_rows 124 = .ok (.iload 4, 2) := by decide +kernel
theorem dX5_rows_126 : decode cX5_rows 126 = .ok (.aload_n 0, 1) := by decide +kernel
theorem dX5_rows_127 : decode cX5_rows 127 = .ok (.getfield 54, 3) := by decide +kernel
theorem dX5_rows_130 : decode cX5_rows 130 = .ok (.iload 4, 2) := by decide +kernel
theorem dX5_rows_132 : decode cX5_rows 132 = .ok (.iconst 1, 1) := by decide +kernel
theorem dX5_rows_133 : decode cX5_rows 133 = .ok (.isub, 1) := by decide +kernel
theorem dX5_rows_134 : decode cX5_rows 134 = .ok (.iaload, 1) := by decide +kernel
theorem dX5_rows_135 : decode cX5_rows 135 = .ok (.iastore, 1) := by decide +kernel
theorem dX5_rows_136 : decode cX5_rows 136 = .ok (.aload_n 0, 1) := by decide +kernel
theorem dX5_rows_137 : decode cX5_rows 137 = .ok (.getfield 54, 3) := by decide +kernel
theorem dX5_rows_140 : decode cX5_rows 140 = .ok (.iload 4, 2) := by decide +kernel
theorem dX5_rows_142 : decode cX5_rows 142 = .ok (.iconst 1, 1) := by decide +kernel
theorem dX5_rows_143 : decode cX5_rows 143 = .ok (.isub, 1) := by decide +kernel
theorem dX5_rows_144 : decode cX5_rows 144 = .ok (.iload 5, 2) := by decide +kernel
theorem dX5_rows_146 : decode cX5_rows 146 = .ok (.iastore, 1) := by decide +kernel
theorem dX5_rows_147 : decode cX5_rows 147 = .ok (.iinc 4 (-1), 3) := by decide +kernel
theorem dX5_rows_150 : decode cX5_rows 150 = .ok (.goto (-63), 3) := by decide +kernel
theorem dX5_rows_153 : decode cX5_rows 153 = .ok (.iinc 3 1, 3) := by decide +kernel
theorem dX5_rows_156 : decode cX5_rows 156 = .ok (.goto (-78), 3) := by decide +kernel
theorem dX5_rows_159 : decode cX5_rows 159 = .ok (.return_, 1) := by decide +kernel
theorem dX5_against_0 : decode cX5_against 0 = .ok (.iconst 0, 1) := by decide +kernel
theorem dX5_against_1 : decode cX5_against 1 = .ok (.istore_n 1, 1) := by decide +kernel
theorem dX5_against_2 : decode cX5_against 2 = .ok (.iload_n 1, 1) := by decide +kernel
theorem dX5_against_3 : decode cX5_against 3 = .ok (.bipush 7, 2) := by decide +kernel
theorem dX5_against_5 : decode cX5_against 5 = .ok (.if_icmp .ge 45, 3) := by decide +kernel
theorem dX5_against_8 : decode cX5_against 8 = .ok (.aload_n 0, 1) := by decide +kernel
theorem dX5_against_9 : decode cX5_against 9 = .ok (.getfield 54, 3) := by decide +kernel
theorem dX5_against_12 : decode cX5_against 12 = .ok (.iload_n 1, 1) := by decide +kernel
theorem dX5_against_13 : decode cX5_against 13 = .ok (.iaload, 1) := by decide +kernel
theorem dX5_against_14 : decode cX5_against 14 = .ok (.aload_n 0, 1) := by decide +kernel
theorem dX5_against_15 : decode cX5_against 15 = .ok (.getfield 51, 3) := by decide +kernel
theorem dX5_against_18 : decode cX5_against 18 = .ok (.iload_n 1, 1) := by decide +kernel
theorem dX5_against_19 : decode cX5_against 19 = .ok (.iaload, 1) := by decide +kernel
theorem dX5_against_20 : decode cX5_against 20 = .ok (.if_icmp .eq 24, 3) := by decide +kernel
theorem dX5_against_23 : decode cX5_against 23 = .ok (.aload_n 0, 1) := by decide +kernel
theorem dX5_against_24 : decode cX5_against 24 = .ok (.getfield 54, 3) := by decide +kernel
theorem dX5_against_27 : decode cX5_against 27 = .ok (.iload_n 1, 1) := by decide +kernel
theorem dX5_against_28 : decode cX5_against 28 = .ok (.iaload, 1) := by decide +kernel
theorem dX5_against_29 : decode cX5_against 29 = .ok (.aload_n 0, 1) := by decide +kernel
theorem dX5_against_30 : decode cX5_against 30 = .ok (.getfield 51, 3) := by decide +kernel
theorem dX5_against_33 : decode cX5_against 33 = .ok (.iload_n 1, 1) := by decide +kernel
theorem dX5_against_34 : decode cX5_against 34 = .ok (.iaload, 1) := by decide +kernel
theorem dX5_against_35 : decode cX5_against 35 = .ok (.if_icmp .ge 7, 3) := by decide +kernel
theorem dX5_against_38 : decode cX5_against 38 = .ok (.iconst (-1), 1) := by decide +kernel
theorem dX5_against_39 : decode cX5_against 39 = .ok (.goto 4, 3) := by decide +kernel
theorem dX5_against_42 : decode cX5_against 42 = .ok (.iconst 1, 1) := by decide +kernel
theorem dX5_against_43 : decode cX5_against 43 = .ok (.ireturn, 1) := by decide +kernel
theorem dX5_against_44 : decode cX5_against 44 = .ok (.iinc 1 1, 3) := by decide +kernel
theorem dX5_against_47 : decode cX5_against 47 = .ok (.goto (-45), 3) := by decide +kernel
theorem dX5_against_50 : decode cX5_against 50 = .ok (.iconst 0, 1) := by decide +kernel
theorem dX5_against_51 : decode cX5_against 51 = .ok (.ireturn, 1) := by decide +kernel
set_option maxRecDepth 20000 in
theorem ggX5_mergedBy_X5_has : GoodIn wsX5_mergedBy wsX5_has := goodIn_r _ [7] (by decide +kernel) (by decide +kernel)
end
section
set_option maxRecDepth 20000 in
theorem gX5_mergedBy_X5_has : GoodIn wsX5_mergedBy (va_wsS RX5 60 yX5_has wsX5_has) := goodIn_app (goodIn_of _ (by decide +kernel)) ggX5_mergedBy_X5_has
set_option maxRecDepth 20000 in
theorem ggX5_mergedBy_X5_rows : GoodIn wsX5_mergedBy wsX5_rows := goodIn_r _ [11, 3, 12, 13, 14, 15, 16, 6, 17, 18, 19, 20, 21, 26, 27, 28, 29, 30, 31, 32, 33, 34, 35, 36, 37, 38, 39, 40, 41, 42, 43, 44, 45, 46, 47, 48, 49, 50, 51, 52, 53, 54] (by decide +kernel) (by decide +kernel)
set_option maxRecDepth 20000 in
theorem gX5_mergedBy_X5_rows : GoodIn wsX5_mergedBy (wsV RX5 179 RX5 yX5_rows wsX5_rows) := goodIn_app (goodIn_of _ (by decide +kernel)) ggX5_mergedBy_X5_rows
set_option maxRecDepth 20000 in
theorem ggX5_mergedBy_X5_against : GoodIn wsX5_mergedBy wsX5_against := goodIn_r _ [25, 3, 2, 26, 27, 28, 29, 30, 31, 32, 33, 34, 35, 36, 37, 38, 39, 40, 41, 42, 43, 44, 45, 46, 47, 48, 49, 50, 51, 52, 53, 54] (by decide +kernel) (by decide +kernel)
set_option maxRecDepth 20000 in
theorem gX5_mergedBy_X5_against : GoodIn wsX5_mergedBy (wsV RX5 183 RX5 yX5_against wsX5_against) := goodIn_app (goodIn_of _ (by decide +kernel)) ggX5_mergedBy_X5_against
theorem dX5_mergedBy_0 : decode cX5_mergedBy 0 = .ok (.lconst 0, 1) := by decide +kernel
theorem dX5_mergedBy_1 : decode cX5_mergedBy 1 = .ok (.lstore_n 2, 1) := by decide +kernel
theorem dX5_mergedBy_2 : decode cX5_mergedBy 2 = .ok (.iconst 0, 1) := by decide +kernel
theorem dX5_mergedBy_3 : decode cX5_mergedBy 3 = .ok (.istore 4, 2) := by decide +kernel
theorem dX5_mergedBy_5 : decode cX5_mergedBy 5 = .ok (.iload 4, 2) := by decide +kernel
theorem dX5_mergedBy_7 : decode cX5_mergedBy 7 = .ok (.bipush 64, 2) := by decide +kernel
theorem dX5_mergedBy_9 : decode cX5_mergedBy 9 = .ok (.if_icmp .ge 100, 3) := by decide +kernel
theorem dX5_mergedBy_12 : decode cX5_mergedBy 12 = .ok (.aload_n 0, 1) := by decide +kernel
theorem dX5_mergedBy_13 : decode cX5_mergedBy 13 = .ok (.getfield 15, 3) := by decide +kernel
theorem dX5_mergedBy_16 : decode cX5_mergedBy 16 = .ok (.iload 4, 2) := by decide +kernel
theorem dX5_mergedBy_18 : decode cX5_mergedBy 18 = .ok (.invokestatic 60, 3) := by decide +kernel
theorem dX5_mergedBy_21 : decode cX5_mergedBy 21 = .ok (.ifCond .ne 6, 3) := by decide +kernel
theorem dX5_mergedBy_24 : decode cX5_mergedBy 24 = .ok (.goto 79, 3) := by decide +kernel
theorem dX5_mergedBy_27 : decode cX5_mergedBy 27 = .ok (.aload_n 0, 1) := by decide +kernel
theorem dX5_mergedBy_28 : decode cX5_mergedBy 28 = .ok (.iload_n 1, 1) := by decide +kernel
theorem dX5_mergedBy_29 : decode cX5_mergedBy 29 = .ok (.iload 4, 2) := by decide +kernel
theorem dX5_mergedBy_31 : decode cX5_mergedBy 31 = .ok (.invokevirtual 179, 3) := by decide +kernel
theorem dX5_mergedBy_34 : decode cX5_mergedBy 34 = .ok (.lload_n 2, 1) := by decide +kernel
theorem dX5_mergedBy_35 : decode cX5_mergedBy 35 = .ok (.lconst 0, 1) := by decide +kernel
theorem dX5_mergedBy_36 : decode cX5_mergedBy 36 = .ok (.lcmp, 1) := by decide +kernel
theorem dX5_mergedBy_37 : decode cX5_mergedBy 37 = .ok (.ifCond .ne 7, 3) := by decide +kernel
theorem dX5_mergedBy_40 : decode cX5_mergedBy 40 = .ok (.iconst (-1), 1) := by decide +kernel
theorem dX5_mergedBy_41 : decode cX5_mergedBy 41 = .ok (.goto 7, 3) := by decide +kernel
theorem dX5_mergedBy_44 : decode cX5_mergedBy 44 = .ok (.aload_n 0, 1) := by decide +kernel
theorem dX5_mergedBy_45 : decode cX5_mergedBy 45 = .ok (.invokevirtual 183, 3) := by decide +kernel
theorem dX5_mergedBy_48 : decode cX5_mergedBy 48 = .ok (.istore 5, 2) := by decide +kernel
theorem dX5_mergedBy_50 : decode cX5_mergedBy 50 = .ok (.iload 5, 2) := by decide +kernel
theorem dX5_mergedBy_52 : decode cX5_mergedBy 52 = .ok (.ifCond .ge 35, 3) := by decide +kernel
theorem dX5_mergedBy_55 : decode cX5_mergedBy 55 = .ok (.lconst 0, 1) := by decide +kernel
theorem dX5_mergedBy_56 : decode cX5_mergedBy 56 = .ok (.lstore_n 2, 1) := by decide +kernel
theorem dX5_mergedBy_57 : decode cX5_mergedBy 57 = .ok (.iconst 0, 1) := by decide +kernel
theorem dX5_mergedBy_58 : decode cX5_mergedBy 58 = .ok (.istore 6, 2) := by decide +kernel
theorem dX5_mergedBy_60 : decode cX5_mergedBy 60 = .ok (.iload 6, 2) := by decide +kernel
theorem dX5_mergedBy_62 : decode cX5_mergedBy 62 = .ok (.bipush 7, 2) := by decide +kernel
theorem dX5_mergedBy_64 : decode cX5_mergedBy 64 = .ok (.if_icmp .ge 23, 3) := by decide +kernel
theorem dX5_mergedBy_67 : decode cX5_mergedBy 67 = .ok (.aload_n 0, 1) := by decide +kernel
theorem dX5_mergedBy_68 : decode cX5_mergedBy 68 = .ok (.getfield 51, 3) := by decide +kernel
theorem dX5_mergedBy_71 : decode cX5_mergedBy 71 = .ok (.iload 6, 2) := by decide +kernel
theorem dX5_mergedBy_73 : decode cX5_mergedBy 73 = .ok (.aload_n 0, 1) := by decide +kernel
theorem dX5_mergedBy_74 : decode cX5_mergedBy 74 = .ok (.getfield 54, 3) := by decide +kernel
theorem dX5_mergedBy_77 : decode cX5_mergedBy 77 = .ok (.iload 6, 2) := by decide +kernel
theorem dX5_mergedBy_79 : decode cX5_mergedBy 79 = .ok (.iaload, 1) := by decide +kernel
theorem dX5_mergedBy_80 : decode cX5_mergedBy 80 = .ok (.iastore, 1) := by decide +kernel
theorem dX5_mergedBy_81 : decode cX5_mergedBy 81 = .ok (.iinc 6 1, 3) := by decide +kernel
theorem dX5_mergedBy_84 : decode cX5_mergedBy 84 = .ok (.goto (-24), 3) := by decide +kernel
theorem dX5_mergedBy_87 : decode cX5_mergedBy 87 = .ok (.lload_n 2, 1) := by decide +kernel
theorem dX5_mergedBy_88 : decode cX5_mergedBy 88 = .ok (.iload 5, 2) := by decide +kernel
theorem dX5_mergedBy_90 : decode cX5_mergedBy 90 = .ok (.ifCond .gt 10, 3) := by decide +kernel
theorem dX5_mergedBy_93 : decode cX5_mergedBy 93 = .ok (.lconst 1, 1) := by decide +kernel
theorem dX5_mergedBy_94 : decode cX5_mergedBy 94 = .ok (.iload 4, 2) := by decide +kernel
theorem dX5_mergedBy_96 : decode cX5_mergedBy 96 = .ok (.lshl, 1) := by decide +kernel
theorem dX5_mergedBy_97 : decode cX5_mergedBy 97 = .ok (.goto 4, 3) := by decide +kernel
theorem dX5_mergedBy_100 : decode cX5_mergedBy 100 = .ok (.lconst 0, 1) := by decide +kernel
theorem dX5_mergedBy_101 : decode cX5_mergedBy 101 = .ok (.lor, 1) := by decide +kernel
theorem dX5_mergedBy_102 : decode cX5_mergedBy 102 = .ok (.lstore_n 2, 1) := by decide +kernel
theorem dX5_mergedBy_103 : decode cX5_mergedBy 103 = .ok (.iinc 4 1, 3) := by decide +kernel
theorem dX5_mergedBy_106 : decode cX5_mergedBy 106 = .ok (.goto (-101), 3) := by decide +kernel
theorem dX5_mergedBy_109 : decode cX5_mergedBy 109 = .ok (.lload_n 2, 1) := by decide +kernel
theorem dX5_mergedBy_110 : decode cX5_mergedBy 110 = .ok (.lreturn, 1) := by decide +kernel
set_option maxRecDepth 20000 in
theorem ggX5_merged_X5_in : GoodIn wsX5_merged wsX5_in := goodIn_r _ [5] (by decide +kernel) (by decide +kernel)
set_option maxRecDepth 20000 in
theorem gX5_merged_X5_in : GoodIn wsX5_merged (va_wsS RX5 66 yX5_in wsX5_in) := goodIn_app (goodIn_of _ (by decide +kernel)) ggX5_merged_X5_in
set_option maxRecDepth 20000 in
theorem ggX5_merged_X5_laysAll : GoodIn wsX5_merged wsX5_laysAll := goodIn_r _ [9, 10, 11, 12, 13, 14, 4, 15, 16, 17, 18, 19, 20, 21, 22, 23, 24, 25, 26, 27, 28, 29, 30, 54, 55, 56, 57, 58, 59, 60, 61, 62, 63, 64, 65, 66, 67, 68, 69, 70, 71, 72, 73, 74, 75, 76, 77, 78, 79, 80, 81, 82] (by decide +kernel) (by decide +kernel)
set_option maxRecDepth 20000 in
theorem gX5_merged_X5_laysAll : GoodIn wsX5_merged (wsV RX5 188 RX5 yX5_laysAll wsX5_laysAll) := goodIn_app (goodIn_of _ (by decide +kernel)) ggX5_merged_X5_laysAll
set_option maxRecDepth 20000 in
theorem ggX5_merged_X5_mergedBy : GoodIn wsX5_merged wsX5_mergedBy := goodIn_r _ [34, 35, 36, 37, 22, 23, 4, 24, 38, 39, 40, 41, 10, 16, 42, 43, 44, 45, 46, 47, 48, 49, 50, 51, 52, 53, 54, 55, 56, 57, 58, 59, 60, 61, 62, 63, 64, 65, 66, 67, 68, 69, 70, 71, 72, 73, 74, 75, 76, 77, 78, 79, 80, 81, 82] (by decide +kernel) (by decide +kernel)
set_option maxRecDepth 20000 in
theorem gX5_merged_X5_mergedBy : GoodIn wsX5_merged (wsV RX5 191 RX5 yX5_mergedBy wsX5_mergedBy) := goodIn_app (goodIn_of _ (by decide +kernel)) ggX5_merged_X5_mergedBy
theorem dX5_merged_0 : decode cX5_merged 0 = .ok (.iload_n 1, 1) := by decide +kernel
theorem dX5_merged_1 : decode cX5_merged 1 = .ok (.i2l, 1) := by decide +kernel
theorem dX5_merged_2 : decode cX5_merged 2 = .ok (.lconst 0, 1) := by decide +kernel
theorem dX5_merged_3 : decode cX5_merged 3 = .ok (.ldc2_w 186, 3) := by decide +kernel
theorem dX5_merged_6 : decode cX5_merged 6 = .ok (.invokestatic 66, 3) := by decide +kernel
theorem dX5_merged_9 : decode cX5_merged 9 = .ok (.ifCond .ne 5, 3) := by decide +kernel
theorem dX5_merged_12 : decode cX5_merged 12 = .ok (.lconst 0, 1) := by decide +kernel
theorem dX5_merged_13 : decode cX5_merged 13 = .ok (.lreturn, 1) := by decide +kernel
theorem dX5_merged_14 : decode cX5_merged 14 = .ok (.aload_n 0, 1) := by decide +kernel
theorem dX5_merged_15 : decode cX5_merged 15 = .ok (.invokevirtual 188, 3) := by decide +kernel
theorem dX5_merged_18 : decode cX5_merged 18 = .ok (.aload_n 0, 1) := by decide +kernel
theorem dX5_merged_19 : decode cX5_merged 19 = .ok (.iload_n 1, 1) := by decide +kernel
theorem dX5_merged_20 : decode cX5_merged 20 = .ok (.invokevirtual 191, 3) := by decide +kernel
theorem dX5_merged_23 : decode cX5_merged 23 = .ok (.lreturn, 1) := by decide +kernel
set_option maxRecDepth 20000 in
theorem ggX5_value_X5_in : GoodIn wsX5_value wsX5_in := goodIn_r _ [4] (by decide +kernel) (by decide +kernel)
set_option maxRecDepth 20000 in
theorem gX5_value_X5_in : GoodIn wsX5_value (va_wsS RX5 66 yX5_in wsX5_in) := goodIn_app (goodIn_of _ (by decide +kernel)) ggX5_value_X5_in
set_option maxRecDepth 20000 in
theorem ggX5_value_X5_isWorld : GoodIn wsX5_value wsX5_isWorld := goodIn_r _ [7, 8, 1, 2, 3, 4] (by decide +kernel) (by decide +kernel)
set_option maxRecDepth 20000 in
theorem gX5_value_X5_isWorld : GoodIn wsX5_value (va_wsS RX5 157 yX5_isWorld wsX5_isWorld) := goodIn_app (goodIn_of _ (by decide +kernel)) ggX5_value_X5_isWorld
set_option maxRecDepth 20000 in
theorem ggX5_value_X5_laysAll : GoodIn wsX5_value wsX5_laysAll := goodIn_r _ [12, 13, 14, 15, 16, 17, 3, 18, 19, 20, 21, 22, 23, 24, 25, 26, 27, 28, 29, 30, 31, 32, 33, 42, 43, 44, 45, 46, 47, 48, 49, 50, 51, 52, 53, 54, 55, 56, 57, 58, 59, 60, 61, 62, 63, 64, 65, 66, 67, 68, 69, 70] (by decide +kernel) (by decide +kernel)
set_option maxRecDepth 20000 in
theorem gX5_value_X5_laysAll : GoodIn wsX5_value (wsV RX5 188 RX5 yX5_laysAll wsX5_laysAll) := goodIn_app (goodIn_of _ (by decide +kernel)) ggX5_value_X5_laysAll
set_option maxRecDepth 20000 in
theorem ggX5_value_X5_sumOf : GoodIn wsX5_value wsX5_sumOf := goodIn_r _ [37, 13, 19, 42, 43, 44, 45, 46, 47, 48, 49, 50, 51, 52, 53, 54, 55, 56, 57, 58, 59, 60, 61, 62, 63, 64, 65, 66, 67, 68, 69, 70] (by decide +kernel) (by decide +kernel)
set_option maxRecDepth 20000 in
theorem gX5_value_X5_sumOf : GoodIn wsX5_value (wsV RX5 172 RX5 yX5_sumOf wsX5_sumOf) := goodIn_app (goodIn_of _ (by decide +kernel)) ggX5_value_X5_sumOf
set_option maxRecDepth 20000 in
theorem ggX5_value_X5_worstOf : GoodIn wsX5_value wsX5_worstOf := goodIn_r _ [41, 13, 19, 42, 43, 44, 45, 46, 47, 48, 49, 50, 51, 52, 53, 54, 55, 56, 57, 58, 59, 60, 61, 62, 63, 64, 65, 66, 67, 68, 69, 70] (by decide +kernel) (by decide +kernel)
set_option maxRecDepth 20000 in
theorem gX5_value_X5_worstOf : GoodIn wsX5_value (wsV RX5 176 RX5 yX5_worstOf wsX5_worstOf) := goodIn_app (goodIn_of _ (by decide +kernel)) ggX5_value_X5_worstOf
theorem dX5_value_0 : decode cX5_value 0 = .ok (.iload_n 1, 1) := by decide +kernel
theorem dX5_value_1 : decode cX5_value 1 = .ok (.i2l, 1) := by decide +kernel
theorem dX5_value_2 : decode cX5_value 2 = .ok (.lconst 0, 1) := by decide +kernel
theorem dX5_value_3 : decode cX5_value 3 = .ok (.lconst 1, 1) := by decide +kernel
theorem dX5_value_4 : decode cX5_value 4 = .ok (.invokestatic 66, 3) := by decide +kernel
theorem dX5_value_7 : decode cX5_value 7 = .ok (.ifCond .eq 10, 3) := by decide +kernel
theorem dX5_value_10 : decode cX5_value 10 = .ok (.iload_n 2, 1) := by decide +kernel
theorem dX5_value_11 : decode cX5_value 11 = .ok (.invokestatic 157, 3) := by decide +kernel
theorem dX5_value_14 : decode cX5_value 14 = .ok (.ifCond .ne 5, 3) := by decide +kernel
theorem dX5_value_17 : decode cX5_value 17 = .ok (.iconst (-1), 1) := by decide +kernel
theorem dX5_value_18 : decode cX5_value 18 = .ok (.ireturn, 1) := by decide +kernel
theorem dX5_value_19 : decode cX5_value 19 = .ok (.aload_n 0, 1) := by decide +kernel
theorem dX5_value_20 : decode cX5_value 20 = .ok (.invokevirtual 188, 3) := by decide +kernel
theorem dX5_value_23 : decode cX5_value 23 = .ok (.iload_n 1, 1) := by decide +kernel
theorem dX5_value_24 : decode cX5_value 24 = .ok (.ifCond .ne 11, 3) := by decide +kernel
theorem dX5_value_27 : decode cX5_value 27 = .ok (.aload_n 0, 1) := by decide +kernel
theorem dX5_value_28 : decode cX5_value 28 = .ok (.iload_n 2, 1) := by decide +kernel
theorem dX5_value_29 : decode cX5_value 29 = .ok (.invokevirtual 172, 3) := by decide +kernel
theorem dX5_value_32 : decode cX5_value 32 = .ok (.goto 8, 3) := by decide +kernel
theorem dX5_value_35 : decode cX5_value 35 = .ok (.aload_n 0, 1) := by decide +kernel
theorem dX5_value_36 : decode cX5_value 36 = .ok (.iload_n 2, 1) := by decide +kernel
theorem dX5_value_37 : decode cX5_value 37 = .ok (.invokevirtual 176, 3) := by decide +kernel
theorem dX5_value_40 : decode cX5_value 40 = .ok (.ireturn, 1) := by decide +kernel
set_option maxRecDepth 20000 in
theorem ggX5_held_X5_in : GoodIn wsX5_held wsX5_in := goodIn_r _ [7] (by decide +kernel) (by decide +kernel)
set_option maxRecDepth 20000 in
theorem gX5_held_X5_in : GoodIn wsX5_held (va_wsS RX5 66 yX5_in wsX5_in) := goodIn_app (goodIn_of _ (by decide +kernel)) ggX5_held_X5_in
set_option maxRecDepth 20000 in
theorem ggX5_held_X5_laysAll : GoodIn wsX5_held wsX5_laysAll := goodIn_r _ [11, 12, 13, 14, 15, 16, 6, 17, 18, 19, 20, 21, 22, 23, 24, 25, 26, 27, 28, 29, 30, 31, 32, 56, 57, 58, 59, 60, 61, 62, 63, 64, 65, 66, 67, 68, 69, 70, 71, 72, 73, 74, 75, 76, 77, 78, 79, 80, 81, 82, 83, 84] (by decide +kernel) (by decide +kernel)
set_option maxRecDepth 20000 in
theorem gX5_held_X5_laysAll : GoodIn wsX5_held (wsV RX5 188 RX5 yX5_laysAll wsX5_laysAll) := goodIn_app (goodIn_of _ (by decide +kernel)) ggX5_held_X5_laysAll
set_option maxRecDepth 20000 in
theorem ggX5_held_X5_mergedBy : GoodIn wsX5_held wsX5_mergedBy := goodIn_r _ [36, 37, 38, 39, 24, 25, 6, 26, 40, 41, 42, 43, 12, 18, 44, 45, 46, 47, 48, 49, 50, 51, 52, 53, 54, 55, 56, 57, 58, 59, 60, 61, 62, 63, 64, 65, 66, 67, 68, 69, 70, 71, 72, 73, 74, 75, 76, 77, 78, 79, 80, 81, 82, 83, 84] (by decide +kernel) (by decide +kernel)
set_option maxRecDepth 20000 in
theorem gX5_held_X5_mergedBy : GoodIn wsX5_held (wsV RX5 191 RX5 yX5_mergedBy wsX5_mergedBy) := goodIn_app (goodIn_of _ (by decide +kernel)) ggX5_held_X5_mergedBy
theorem dX5_held_0 : decode cX5_held 0 = .ok (.iload_n 1, 1) := by decide +kernel
theorem dX5_held_1 : decode cX5_held 1 = .ok (.i2l, 1) := by decide +kernel
theorem dX5_held_2 : decode cX5_held 2 = .ok (.lconst 0, 1) := by decide +kernel
theorem dX5_held_3 : decode cX5_held 3 = .ok (.ldc2_w 186, 3) := by decide +kernel
theorem dX5_held_6 : decode cX5_held 6 = .ok (.invokestatic 66, 3) := by decide +kernel
theorem dX5_held_9 : decode cX5_held 9 = .ok (.ifCond .ne 5, 3) := by decide +kernel
theorem dX5_held_12 : decode cX5_held 12 = .ok (.iconst (-1), 1) := by decide +kernel
theorem dX5_held_13 : decode cX5_held 13 = .ok (.ireturn, 1) := by decide +kernel
theorem dX5_held_14 : decode cX5_held 14 = .ok (.aload_n 0, 1) := by decide +kernel
theorem dX5_held_15 : decode cX5_held 15 = .ok (.invokevirtual 188, 3) := by decide +kernel
theorem dX5_held_18 : decode cX5_held 18 = .ok (.aload_n 0, 1) := by decide +kernel
theorem dX5_held_19 : decode cX5_held 19 = .ok (.iload_n 1, 1) := by decide +kernel
theorem dX5_held_20 : decode cX5_held 20 = .ok (.invokevirtual 191, 3) := by decide +kernel
theorem dX5_held_23 : decode cX5_held 23 = .ok (.aload_n 0, 1) := by decide +kernel
theorem dX5_held_24 : decode cX5_held 24 = .ok (.getfield 19, 3) := by decide +kernel
theorem dX5_held_27 : decode cX5_held 27 = .ok (.ldc2_w 13, 3) := by decide +kernel
theorem dX5_held_30 : decode cX5_held 30 = .ok (.lxor, 1) := by decide +kernel
theorem dX5_held_31 : decode cX5_held 31 = .ok (.land, 1) := by decide +kernel
theorem dX5_held_32 : decode cX5_held 32 = .ok (.lconst 0, 1) := by decide +kernel
theorem dX5_held_33 : decode cX5_held 33 = .ok (.lcmp, 1) := by decide +kernel
theorem dX5_held_34 : decode cX5_held 34 = .ok (.ifCond .ne 7, 3) := by decide +kernel
theorem dX5_held_37 : decode cX5_held 37 = .ok (.iconst 1, 1) := by decide +kernel
theorem dX5_held_38 : decode cX5_held 38 = .ok (.goto 4, 3) := by decide +kernel
theorem dX5_held_41 : decode cX5_held 41 = .ok (.iconst 0, 1) := by decide +kernel
theorem dX5_held_42 : decode cX5_held 42 = .ok (.ireturn, 1) := by decide +kernel
set_option maxRecDepth 20000 in
theorem ggX5_nearest_X5_has : GoodIn wsX5_nearest wsX5_has := goodIn_r _ [4] (by decide +kernel) (by decide +kernel)
set_option maxRecDepth 20000 in
theorem gX5_nearest_X5_has : GoodIn wsX5_nearest (va_wsS RX5 60 yX5_has wsX5_has) := goodIn_app (goodIn_of _ (by decide +kernel)) ggX5_nearest_X5_has
set_option maxRecDepth 20000 in
theorem ggX5_nearest_X5_farOf : GoodIn wsX5_nearest wsX5_farOf := goodIn_r _ [8, 1, 2, 3, 4, 9, 10, 11, 12, 13, 14, 15, 16, 17, 18, 19, 20, 21, 22, 23, 24, 25, 26, 27, 28, 29, 30, 31, 32, 33, 34, 35, 36, 37, 38, 39, 40, 41, 42, 43] (by decide +kernel) (by decide +kernel)
set_option maxRecDepth 20000 in
theorem gX5_nearest_X5_farOf : GoodIn wsX5_nearest (wsV RX5 164 RX5 yX5_farOf wsX5_farOf) := goodIn_app (goodIn_of _ (by decide +kernel)) ggX5_nearest_X5_farOf
theorem dX5_nearest_0 : decode cX5_nearest 0 = .ok (.lconst 0, 1) := by decide +kernel
theorem dX5_nearest_1 : decode cX5_nearest 1 = .ok (.lstore 5, 2) := by decide +kernel
theorem dX5_nearest_3 : decode cX5_nearest 3 = .ok (.iconst 0, 1) := by decide +kernel
theorem dX5_nearest_4 : decode cX5_nearest 4 = .ok (.istore 7, 2) := by decide +kernel
theorem dX5_nearest_6 : decode cX5_nearest 6 = .ok (.iconst 0, 1) := by decide +kernel
theorem dX5_nearest_7 : decode cX5_nearest 7 = .ok (.istore 8, 2) := by decide +kernel
theorem dX5_nearest_9 : decode cX5_nearest 9 = .ok (.iload 8, 2) := by decide +kernel
theorem dX5_nearest_11 : decode cX5_nearest 11 = .ok (.bipush 64, 2) := by decide +kernel
theorem dX5_nearest_13 : decode cX5_nearest 13 = .ok (.if_icmp .ge 71, 3) := by decide +kernel
theorem dX5_nearest_16 : decode cX5_nearest 16 = .ok (.lload_n 1, 1) := by decide +kernel
theorem dX5_nearest_17 : decode cX5_nearest 17 = .ok (.iload 8, 2) := by decide +kernel
theorem dX5_nearest_19 : decode cX5_nearest 19 = .ok (.invokestatic 60, 3) := by decide +kernel
theorem dX5_nearest_22 : decode cX5_nearest 22 = .ok (.ifCond .ne 6, 3) := by decide +kernel
theorem dX5_nearest_25 : decode cX5_nearest 25 = .ok (.goto 53, 3) := by decide +kernel
theorem dX5_nearest_28 : decode cX5_nearest 28 = .ok (.aload_n 0, 1) := by decide +kernel
theorem dX5_nearest_29 : decode cX5_nearest 29 = .ok (.iload 8, 2) := by decide +kernel
theorem dX5_nearest_31 : decode cX5_nearest 31 = .ok (.lload_n 3, 1) := by decide +kernel
theorem dX5_nearest_32 : decode cX5_nearest 32 = .ok (.invokevirtual 164, 3) := by decide +kernel
theorem dX5_nearest_35 : decode cX5_nearest 35 = .ok (.istore 9, 2) := by decide +kernel
theorem dX5_nearest_37 : decode cX5_nearest 37 = .ok (.lload 5, 2) := by decide +kernel
theorem dX5_nearest_39 : decode cX5_nearest 39 = .ok (.lconst 0, 1) := by decide +kernel
theorem dX5_nearest_40 : decode cX5_nearest 40 = .ok (.lcmp, 1) := by decide +kernel
theorem dX5_nearest_41 : decode cX5_nearest 41 = .ok (.ifCond .eq 10, 3) := by decide +kernel
theorem dX5_nearest_44 : decode cX5_nearest 44 = .ok (.iload 9, 2) := by decide +kernel
theorem dX5_nearest_46 : decode cX5_nearest 46 = .ok (.iload 7, 2) := by decide +kernel
theorem dX5_nearest_48 : decode cX5_nearest 48 = .ok (.if_icmp .ge 10, 3) := by decide +kernel
theorem dX5_nearest_51 : decode cX5_nearest 51 = .ok (.lconst 0, 1) := by decide +kernel
theorem dX5_nearest_52 : decode cX5_nearest 52 = .ok (.lstore 5, 2) := by decide +kernel
theorem dX5_nearest_54 : decode cX5_nearest 54 = .ok (.iload 9, 2) := by decide +kernel
theorem dX5_nearest_56 : decode cX5_nearest 56 = .ok (.istore 7, 2) := by decide +kernel
theorem dX5_nearest_58 : decode cX5_nearest 58 = .ok (.lload 5, 2) := by decide +kernel
theorem dX5_nearest_60 : decode cX5_nearest 60 = .ok (.iload 9, 2) := by decide +kernel
theorem dX5_nearest_62 : decode cX5_nearest 62 = .ok (.iload 7, 2) := by decide +kernel
theorem dX5_nearest_64 : decode cX5_nearest 64 = .ok (.if_icmp .ne 10, 3) := by decide +kernel
theorem dX5_nearest_67 : decode cX5_nearest 67 = .ok (.lconst 1, 1) := by decide +kernel
theorem dX5_nearest_68 : decode cX5_nearest 68 = .ok (.iload 8, 2) := by decide +kernel
theorem dX5_nearest_70 : decode cX5_nearest 70 = .ok (.lshl, 1) := by decide +kernel
theorem dX5_nearest_71 : decode cX5_nearest 71 = .ok (.goto 4, 3) := by decide +kernel
theorem dX5_nearest_74 : decode cX5_nearest 74 = .ok (.lconst 0, 1) := by decide +kernel
theorem dX5_nearest_75 : decode cX5_nearest 75 = .ok (.lor, 1) := by decide +kernel
theorem dX5_nearest_76 : decode cX5_nearest 76 = .ok (.lstore 5, 2) := by decide +kernel
theorem dX5_nearest_78 : decode cX5_nearest 78 = .ok (.iinc 8 1, 3) := by decide +kernel
theorem dX5_nearest_81 : decode cX5_nearest 81 = .ok (.goto (-72), 3) := by decide +kernel
theorem dX5_nearest_84 : decode cX5_nearest 84 = .ok (.lload 5, 2) := by decide +kernel
theorem dX5_nearest_86 : decode cX5_nearest 86 = .ok (.lreturn, 1) := by decide +kernel
set_option maxRecDepth 20000 in
theorem ggX5_changed_X5_isSayer : GoodIn wsX5_changed wsX5_isSayer := goodIn_r _ [10, 11, 12, 13, 9, 14, 32, 33, 34, 35, 36, 37, 38, 39, 40, 41, 42, 43, 44, 45, 46, 47, 48, 49, 50, 51, 52, 53, 54, 55, 56, 57, 58, 59, 60] (by decide +kernel) (by decide +kernel)
set_option maxRecDepth 20000 in
theorem gX5_changed_X5_isSayer : GoodIn wsX5_changed (wsV RX5 147 RX5 yX5_isSayer wsX5_isSayer) := goodIn_app (goodIn_of _ (by decide +kernel)) ggX5_changed_X5_isSayer
set_option maxRecDepth 20000 in
theorem ggX5_changed_X5_in : GoodIn wsX5_changed wsX5_in := goodIn_r _ [14] (by decide +kernel) (by decide +kernel)
set_option maxRecDepth 20000 in
theorem gX5_changed_X5_in : GoodIn wsX5_changed (va_wsS RX5 66 yX5_in wsX5_in) := goodIn_app (goodIn_of _ (by decide +kernel)) ggX5_changed_X5_in
set_option maxRecDepth 20000 in
theorem ggX5_changed_X5_nearest : GoodIn wsX5_changed wsX5_nearest := goodIn_r _ [18, 19, 20, 9, 21, 22, 23, 24, 25, 26, 27, 28, 29, 30, 31, 32, 33, 34, 35, 36, 37, 38, 39, 40, 41, 42, 43, 44, 45, 46, 47, 48, 49, 50, 51, 52, 53, 54, 55, 56, 57, 58, 59, 60] (by decide +kernel) (by decide +kernel)
set_option maxRecDepth 20000 in
theorem gX5_changed_X5_nearest : GoodIn wsX5_changed (wsV RX5 194 RX5 yX5_nearest wsX5_nearest) := goodIn_app (goodIn_of _ (by decide +kernel)) ggX5_changed_X5_nearest
set_option maxRecDepth 20000 in
theorem ggX5_changed_X5_has : GoodIn wsX5_changed wsX5_has := goodIn_r _ [21] (by decide +kernel) (by decide +kernel)
set_option maxRecDepth 20000 in
theorem gX5_changed_X5_has : GoodIn wsX5_changed (va_wsS RX5 60 yX5_has wsX5_has) := goodIn_app (goodIn_of _ (by decide +kernel)) ggX5_changed_X5_has
theorem dX5_changed_0 : decode cX5_changed 0 = .ok (.aload_n 0, 1) := by decide +kernel
theorem dX5_changed_1 : decode cX5_changed 1 = .ok (.iload_n 1, 1) := by decide +kernel
theorem dX5_changed_2 : decode cX5_changed 2 = .ok (.invokevirtual 147, 3) := by decide +kernel
theorem dX5_changed_5 : decode cX5_changed 5 = .ok (.ifCond .eq 15, 3) := by decide +kernel
theorem dX5_changed_8 : decode cX5_changed 8 = .ok (.iload_n 2, 1) := by decide +kernel
theorem dX5_changed_9 : decode cX5_changed 9 = .ok (.i2l, 1) := by decide +kernel
theorem dX5_changed_10 : decode cX5_changed 10 = .ok (.lconst 0, 1) := by decide +kernel
theorem dX5_changed_11 : decode cX5_changed 11 = .ok (.ldc2_w 186, 3) := by decide +kernel
theorem dX5_changed_14 : decode cX5_changed 14 = .ok (.invokestatic 66, 3) := by decide +kernel
theorem dX5_changed_17 : decode cX5_changed 17 = .ok (.ifCond .ne 5, 3) := by decide +kernel
theorem dX5_changed_20 : decode cX5_changed 20 = .ok (.lconst 0, 1) := by decide +kernel
theorem dX5_changed_21 : decode cX5_changed 21 = .ok (.lreturn, 1) := by decide +kernel
theorem dX5_changed_22 : decode cX5_changed 22 = .ok (.iload_n 2, 1) := by decide +kernel
theorem dX5_changed_23 : decode cX5_changed 23 = .ok (.ifCond .ne 23, 3) := by decide +kernel
theorem dX5_changed_26 : decode cX5_changed 26 = .ok (.aload_n 0, 1) := by decide +kernel
theorem dX5_changed_27 : decode cX5_changed 27 = .ok (.aload_n 0, 1) := by decide +kernel
theorem dX5_changed_28 : decode cX5_changed 28 = .ok (.getfield 15, 3) := by decide +kernel
theorem dX5_changed_31 : decode cX5_changed 31 = .ok (.aload_n 0, 1) := by decide +kernel
theorem dX5_changed_32 : decode cX5_changed 32 = .ok (.getfield 19, 3) := by decide +kernel
theorem dX5_changed_35 : decode cX5_changed 35 = .ok (.land, 1) := by decide +kernel
theorem dX5_changed_36 : decode cX5_changed 36 = .ok (.aload_n 0, 1) := by decide +kernel
theorem dX5_changed_37 : decode cX5_changed 37 = .ok (.getfield 26, 3) := by decide +kernel
theorem dX5_changed_40 : decode cX5_changed 40 = .ok (.iload_n 1, 1) := by decide +kernel
theorem dX5_changed_41 : decode cX5_changed 41 = .ok (.laload, 1) := by decide +kernel
theorem dX5_changed_42 : decode cX5_changed 42 = .ok (.invokevirtual 194, 3) := by decide +kernel
theorem dX5_changed_45 : decode cX5_changed 45 = .ok (.lreturn, 1) := by decide +kernel
theorem dX5_changed_46 : decode cX5_changed 46 = .ok (.iload_n 2, 1) := by decide +kernel
theorem dX5_changed_47 : decode cX5_changed 47 = .ok (.iconst 2, 1) := by decide +kernel
theorem dX5_changed_48 : decode cX5_changed 48 = .ok (.if_icmp .ne 39, 3) := by decide +kernel
theorem dX5_changed_51 : decode cX5_changed 51 = .ok (.aload_n 0, 1) := by decide +kernel
theorem dX5_changed_52 : decode cX5_changed 52 = .ok (.getfield 15, 3) := by decide +kernel
theorem dX5_changed_55 : decode cX5_changed 55 = .ok (.aload_n 0, 1) := by decide +kernel
theorem dX5_changed_56 : decode cX5_changed 56 = .ok (.getfield 26, 3) := by decide +kernel
theorem dX5_changed_59 : decode cX5_changed 59 = .ok (.iload_n 1, 1) := by decide +kernel
theorem dX5_changed_60 : decode cX5_changed 60 = .ok (.laload, 1) := by decide +kernel
theorem dX5_changed_61 : decode cX5_changed 61 = .ok (.land, 1) := by decide +kernel
theorem dX5_changed_62 : decode cX5_changed 62 = .ok (.aload_n 0, 1) := by decide +kernel
theorem dX5_changed_63 : decode cX5_changed 63 = .ok (.aload_n 0, 1) := by decide +kernel
theorem dX5_changed_64 : decode cX5_changed 64 = .ok (.getfield 15, 3) := by decide +kernel
theorem dX5_changed_67 : decode cX5_changed 67 = .ok (.aload_n 0, 1) := by decide +kernel
theorem dX5_changed_68 : decode cX5_changed 68 = .ok (.getfield 19, 3) := by decide +kernel
theorem dX5_changed_71 : decode cX5_changed 71 = .ok (.ldc2_w 13, 3) := by decide +kernel
theorem dX5_changed_74 : decode cX5_changed 74 = .ok (.lxor, 1) := by decide +kernel
theorem dX5_changed_75 : decode cX5_changed 75 = .ok (.land, 1) := by decide +kernel
theorem dX5_changed_76 : decode cX5_changed 76 = .ok (.aload_n 0, 1) := by decide +kernel
theorem dX5_changed_77 : decode cX5_changed 77 = .ok (.getfield 26, 3) := by decide +kernel
theorem dX5_changed_80 : decode cX5_changed 80 = .ok (.iload_n 1, 1) := by decide +kernel
theorem dX5_changed_81 : decode cX5_changed 81 = .ok (.laload, 1) := by decide +kernel
theorem dX5_changed_82 : decode cX5_changed 82 = .ok (.invokevirtual 194, 3) := by decide +kernel
theorem dX5_changed_85 : decode cX5_changed 85 = .ok (.lor, 1) := by decide +kernel
theorem dX5_changed_86 : decode cX5_changed 86 = .ok (.lreturn, 1) := by decide +kernel
theorem dX5_changed_87 : decode cX5_changed 87 = .ok (.lconst 0, 1) := by decide +kernel
theorem dX5_changed_88 : decode cX5_changed 88 = .ok (.lstore_n 3, 1) := by decide +kernel
theorem dX5_changed_89 : decode cX5_changed 89 = .ok (.iconst 0, 1) := by decide +kernel
theorem dX5_changed_90 : decode cX5_changed 90 = .ok (.istore 5, 2) := by decide +kernel
theorem dX5_changed_92 : decode cX5_changed 92 = .ok (.iload 5, 2) := by decide +kernel
theorem dX5_changed_94 : decode cX5_changed 94 = .ok (.bipush 64, 2) := by decide +kernel
theorem dX5_changed_96 : decode cX5_changed 96 = .ok (.if_icmp .ge 47, 3) := by decide +kernel
theorem dX5_changed_99 : decode cX5_changed 99 = .ok (.lload_n 3, 1) := by decide +kernel
theorem dX5_changed_100 : decode cX5_changed 100 = .ok (.aload_n 0, 1) := by decide +kernel
theorem dX5_changed_101 : decode cX5_changed 101 = .ok (.getfield 26, 3) := by decide +kernel
theorem dX5_changed_104 : decode cX5_changed 104 = .ok (.iload_n 1, 1) := by decide +kernel
theorem dX5_changed_105 : decode cX5_changed 105 = .ok (.laload, 1) := by decide +kernel
theorem dX5_changed_106 : decode cX5_changed 106 = .ok (.iload 5, 2) := by decide +kernel
theorem dX5_changed_108 : decode cX5_changed 108 = .ok (.invokestatic 60, 3) := by decide +kernel
theorem dX5_changed_111 : decode cX5_changed 111 = .ok (.ifCond .eq 23, 3) := by decide +kernel
theorem dX5_changed_114 : decode cX5_changed 114 = .ok (.aload_n 0, 1) := by decide +kernel
theorem dX5_changed_115 : decode cX5_changed 115 = .ok (.aload_n 0, 1) := by decide +kernel
theorem dX5_changed_116 : decode cX5_changed 116 = .ok (.getfield 15, 3) := by decide +kernel
theorem dX5_changed_119 : decode cX5_changed 119 = .ok (.aload_n 0, 1) := by decide +kernel
theorem dX5_changed_120 : decode cX5_changed 120 = .ok (.getfield 19, 3) := by decide +kernel
theorem dX5_changed_123 : decode cX5_changed 123 = .ok (.land, 1) := by decide +kernel
theorem dX5_changed_124 : decode cX5_changed 124 = .ok (.lconst 1, 1) := by decide +kernel
theorem dX5_changed_125 : decode cX5_changed 125 = .ok (.iload 5, 2) := by decide +kernel
theorem dX5_changed_127 : decode cX5_changed 127 = .ok (.lshl, 1) := by decide +kernel
theorem dX5_changed_128 : decode cX5_changed 128 = .ok (.invokevirtual 194, 3) := by decide +kernel
theorem dX5_changed_131 : decode cX5_changed 131 = .ok (.goto 4, 3) := by decide +kernel
theorem dX5_changed_134 : decode cX5_changed 134 = .ok (.lconst 0, 1) := by decide +kernel
theorem dX5_changed_135 : decode cX5_changed 135 = .ok (.lor, 1) := by decide +kernel
theorem dX5_changed_136 : decode cX5_changed 136 = .ok (.lstore_n 3, 1) := by decide +kernel
theorem dX5_changed_137 : decode cX5_changed 137 = .ok (.iinc 5 1, 3) := by decide +kernel
theorem dX5_changed_140 : decode cX5_changed 140 = .ok (.goto (-48), 3) := by decide +kernel
theorem dX5_changed_143 : decode cX5_changed 143 = .ok (.lload_n 3, 1) := by decide +kernel
theorem dX5_changed_144 : decode cX5_changed 144 = .ok (.lreturn, 1) := by decide +kernel
set_option maxRecDepth 20000 in
theorem ggX5_isQuarrel_X5_has : GoodIn wsX5_isQuarrel wsX5_has := goodIn_r _ [8] (by decide +kernel) (by decide +kernel)
set_option maxRecDepth 20000 in
theorem gX5_isQuarrel_X5_has : GoodIn wsX5_isQuarrel (va_wsS RX5 60 yX5_has wsX5_has) := goodIn_app (goodIn_of _ (by decide +kernel)) ggX5_isQuarrel_X5_has
theorem dX5_isQuarrel_0 : decode cX5_isQuarrel 0 = .ok (.aload_n 0, 1) := by decide +kernel
theorem dX5_isQuarrel_1 : decode cX5_isQuarrel 1 = .ok (.getfield 15, 3) := by decide +kernel
theorem dX5_isQuarrel_4 : decode cX5_isQuarrel 4 = .ok (.lstore_n 2, 1) := by decide +kernel
theorem dX5_isQuarrel_5 : decode cX5_isQuarrel 5 = .ok (.iconst 0, 1) := by decide +kernel
theorem dX5_isQuarrel_6 : decode cX5_isQuarrel 6 = .ok (.istore 4, 2) := by decide +kernel
theorem dX5_isQuarrel_8 : decode cX5_isQuarrel 8 = .ok (.iload 4, 2) := by decide +kernel
theorem dX5_isQuarrel_10 : decode cX5_isQuarrel 10 = .ok (.aload_n 0, 1) := by decide +kernel
theorem dX5_isQuarrel_11 : decode cX5_isQuarrel 11 = .ok (.getfield 142, 3) := by decide +kernel
theorem dX5_isQuarrel_14 : decode cX5_isQuarrel 14 = .ok (.if_icmp .ge 35, 3) := by decide +kernel
theorem dX5_isQuarrel_17 : decode cX5_isQuarrel 17 = .ok (.lload_n 2, 1) := by decide +kernel
theorem dX5_isQuarrel_18 : decode cX5_isQuarrel 18 = .ok (.iload_n 1, 1) := by decide +kernel
theorem dX5_isQuarrel_19 : decode cX5_isQuarrel 19 = .ok (.i2l, 1) := by decide +kernel
theorem dX5_isQuarrel_20 : decode cX5_isQuarrel 20 = .ok (.iload 4, 2) := by decide +kernel
theorem dX5_isQuarrel_22 : decode cX5_isQuarrel 22 = .ok (.invokestatic 60, 3) := by decide +kernel
theorem dX5_isQuarrel_25 : decode cX5_isQuarrel 25 = .ok (.ifCond .eq 13, 3) := by decide +kernel
theorem dX5_isQuarrel_28 : decode cX5_isQuarrel 28 = .ok (.aload_n 0, 1) := by decide +kernel
theorem dX5_isQuarrel_29 : decode cX5_isQuarrel 29 = .ok (.getfield 26, 3) := by decide +kernel
theorem dX5_isQuarrel_32 : decode cX5_isQuarrel 32 = .ok (.iload 4, 2) := by decide +kernel
theorem dX5_isQuarrel_34 : decode cX5_isQuarrel 34 = .ok (.laload, 1) := by decide +kernel
theorem dX5_isQuarrel_35 : decode cX5_isQuarrel 35 = .ok (.goto 6, 3) := by decide +kernel
theorem dX5_isQuarrel_38 : decode cX5_isQuarrel 38 = .ok (.ldc2_w 13, 3) := by decide +kernel
theorem dX5_isQuarrel_41 : decode cX5_isQuarrel 41 = .ok (.land, 1) := by decide +kernel
theorem dX5_isQuarrel_42 : decode cX5_isQuarrel 42 = .ok (.lstore_n 2, 1) := by decide +kernel
theorem dX5_isQuarrel_43 : decode cX5_isQuarrel 43 = .ok (.iinc 4 1, 3) := by decide +kernel
theorem dX5_isQuarrel_46 : decode cX5_isQuarrel 46 = .ok (.goto (-38), 3) := by decide +kernel
theorem dX5_isQuarrel_49 : decode cX5_isQuarrel 49 = .ok (.lload_n 2, 1) := by decide +kernel
theorem dX5_isQuarrel_50 : decode cX5_isQuarrel 50 = .ok (.lconst 0, 1) := by decide +kernel
theorem dX5_isQuarrel_51 : decode cX5_isQuarrel 51 = .ok (.lcmp, 1) := by decide +kernel
theorem dX5_isQuarrel_52 : decode cX5_isQuarrel 52 = .ok (.ifCond .ne 7, 3) := by decide +kernel
theorem dX5_isQuarrel_55 : decode cX5_isQuarrel 55 = .ok (.iconst 1, 1) := by decide +kernel
theorem dX5_isQuarrel_56 : decode cX5_isQuarrel 56 = .ok (.goto 4, 3) := by decide +kernel
theorem dX5_isQuarrel_59 : decode cX5_isQuarrel 59 = .ok (.iconst 0, 1) := by decide +kernel
theorem dX5_isQuarrel_60 : decode cX5_isQuarrel 60 = .ok (.ireturn, 1) := by decide +kernel
set_option maxRecDepth 20000 in
theorem ggX5_isSet_X5_in : GoodIn wsX5_isSet wsX5_in := goodIn_r _ [5] (by decide +kernel) (by decide +kernel)
set_option maxRecDepth 20000 in
theorem gX5_isSet_X5_in : GoodIn wsX5_isSet (va_wsS RX5 66 yX5_in wsX5_in) := goodIn_app (goodIn_of _ (by decide +kernel)) ggX5_isSet_X5_in
theorem dX5_isSet_0 : decode cX5_isSet 0 = .ok (.iload_n 1, 1) := by decide +kernel
theorem dX5_isSet_1 : decode cX5_isSet 1 = .ok (.i2l, 1) := by decide +kernel
theorem dX5_isSet_2 : decode cX5_isSet 2 = .ok (.lconst 0, 1) := by decide +kernel
theorem dX5_isSet_3 : decode cX5_isSet 3 = .ok (.iconst 1, 1) := by decide +kernel
theorem dX5_isSet_4 : decode cX5_isSet 4 = .ok (.aload_n 0, 1) := by decide +kernel
theorem dX5_isSet_5 : decode cX5_isSet 5 = .ok (.getfield 142, 3) := by decide +kernel
theorem dX5_isSet_8 : decode cX5_isSet 8 = .ok (.ishl, 1) := by decide +kernel
theorem dX5_isSet_9 : decode cX5_isSet 9 = .ok (.iconst 1, 1) := by decide +kernel
theorem dX5_isSet_10 : decode cX5_isSet 10 = .ok (.isub, 1) := by decide +kernel
theorem dX5_isSet_11 : decode cX5_isSet 11 = .ok (.i2l, 1) := by decide +kernel
theorem dX5_isSet_12 : decode cX5_isSet 12 = .ok (.invokestatic 66, 3) := by decide +kernel
theorem dX5_isSet_15 : decode cX5_isSet 15 = .ok (.ireturn, 1) := by decide +kernel
set_option maxRecDepth 20000 in
theorem ggX5_quarrels_X5_isSet : GoodIn wsX5_quarrels wsX5_isSet := goodIn_r _ [5, 6, 7, 8, 4, 9, 20, 21, 22, 23, 24, 25, 26, 27, 28, 29, 30, 31, 32, 33, 34, 35, 36, 37, 38, 39, 40, 41, 42, 43, 44, 45, 46, 47, 48] (by decide +kernel) (by decide +kernel)
set_option maxRecDepth 20000 in
theorem gX5_quarrels_X5_isSet : GoodIn wsX5_quarrels (wsV RX5 198 RX5 yX5_isSet wsX5_isSet) := goodIn_app (goodIn_of _ (by decide +kernel)) ggX5_quarrels_X5_isSet
set_option maxRecDepth 20000 in
theorem ggX5_quarrels_X5_isQuarrel : GoodIn wsX5_quarrels wsX5_isQuarrel := goodIn_r _ [13, 14, 6, 15, 16, 17, 18, 4, 19, 20, 21, 22, 23, 24, 25, 26, 27, 28, 29, 30, 31, 32, 33, 34, 35, 36, 37, 38, 39, 40, 41, 42, 43, 44, 45, 46, 47, 48] (by decide +kernel) (by decide +kernel)
set_option maxRecDepth 20000 in
theorem gX5_quarrels_X5_isQuarrel : GoodIn wsX5_quarrels (wsV RX5 201 RX5 yX5_isQuarrel wsX5_isQuarrel) := goodIn_app (goodIn_of _ (by decide +kernel)) ggX5_quarrels_X5_isQuarrel
theorem dX5_quarrels_0 : decode cX5_quarrels 0 = .ok (.aload_n 0, 1) := by decide +kernel
theorem dX5_quarrels_1 : decode cX5_quarrels 1 = .ok (.iload_n 1, 1) := by decide +kernel
theorem dX5_quarrels_2 : decode cX5_quarrels 2 = .ok (.invokevirtual 198, 3) := by decide +kernel
theorem dX5_quarrels_5 : decode cX5_quarrels 5 = .ok (.ifCond .ne 7, 3) := by decide +kernel
theorem dX5_quarrels_8 : decode cX5_quarrels 8 = .ok (.iconst (-1), 1) := by decide +kernel
theorem dX5_quarrels_9 : decode cX5_quarrels 9 = .ok (.goto 16, 3) := by decide +kernel
theorem dX5_quarrels_12 : decode cX5_quarrels 12 = .ok (.aload_n 0, 1) := by decide +kernel
theorem dX5_quarrels_13 : decode cX5_quarrels 13 = .ok (.iload_n 1, 1) := by decide +kernel
theorem dX5_quarrels_14 : decode cX5_quarrels 14 = .ok (.invokevirtual 201, 3) := by decide +kernel
theorem dX5_quarrels_17 : decode cX5_quarrels 17 = .ok (.ifCond .eq 7, 3) := by decide +kernel
theorem dX5_quarrels_20 : decode cX5_quarrels 20 = .ok (.iconst 1, 1) := by decide +kernel
theorem dX5_quarrels_21 : decode cX5_quarrels 21 = .ok (.goto 4, 3) := by decide +kernel
theorem dX5_quarrels_24 : decode cX5_quarrels 24 = .ok (.iconst 0, 1) := by decide +kernel
theorem dX5_quarrels_25 : decode cX5_quarrels 25 = .ok (.ireturn, 1) := by decide +kernel
set_option maxRecDepth 20000 in
theorem ggX5_isTold_X5_isQuarrel : GoodIn wsX5_isTold wsX5_isQuarrel := goodIn_r _ [6, 7, 1, 8, 9, 10, 11, 5, 12, 13, 14, 15, 16, 17, 18, 19, 20, 21, 22, 23, 24, 25, 26, 27, 28, 29, 30, 31, 32, 33, 34, 35, 36, 37, 38, 39, 40, 41] (by decide +kernel) (by decide +kernel)
set_option maxRecDepth 20000 in
theorem gX5_isTold_X5_isQuarrel : GoodIn wsX5_isTold (wsV RX5 201 RX5 yX5_isQuarrel wsX5_isQuarrel) := goodIn_app (goodIn_of _ (by decide +kernel)) ggX5_isTold_X5_isQuarrel
set_option maxRecDepth 20000 in
theorem ggX5_isTold_X5_has : GoodIn wsX5_isTold wsX5_has := goodIn_r _ [12] (by decide +kernel) (by decide +kernel)
set_option maxRecDepth 20000 in
theorem gX5_isTold_X5_has : GoodIn wsX5_isTold (va_wsS RX5 60 yX5_has wsX5_has) := goodIn_app (goodIn_of _ (by decide +kernel)) ggX5_isTold_X5_has
theorem dX5_isTold_0 : decode cX5_isTold 0 = .ok (.aload_n 0, 1) := by decide +kernel
theorem dX5_isTold_1 : decode cX5_isTold 1 = .ok (.iload_n 2, 1) := by decide +kernel
theorem dX5_isTold_2 : decode cX5_isTold 2 = .ok (.invokevirtual 201, 3) := by decide +kernel
theorem dX5_isTold_5 : decode cX5_isTold 5 = .ok (.iload_n 1, 1) := by decide +kernel
theorem dX5_isTold_6 : decode cX5_isTold 6 = .ok (.ifCond .ne 7, 3) := by decide +kernel
theorem dX5_isTold_9 : decode cX5_isTold 9 = .ok (.iconst 1, 1) := by decide +kernel
theorem dX5_isTold_10 : decode cX5_isTold 10 = .ok (.goto 4, 3) := by decide +kernel
theorem dX5_isTold_13 : decode cX5_isTold 13 = .ok (.iconst 0, 1) := by decide +kernel
theorem dX5_isTold_14 : decode cX5_isTold 14 = .ok (.if_icmp .ne 7, 3) := by decide +kernel
theorem dX5_isTold_17 : decode cX5_isTold 17 = .ok (.iconst 1, 1) := by decide +kernel
theorem dX5_isTold_18 : decode cX5_isTold 18 = .ok (.goto 4, 3) := by decide +kernel
theorem dX5_isTold_21 : decode cX5_isTold 21 = .ok (.iconst 0, 1) := by decide +kernel
theorem dX5_isTold_22 : decode cX5_isTold 22 = .ok (.istore_n 3, 1) := by decide +kernel
theorem dX5_isTold_23 : decode cX5_isTold 23 = .ok (.iconst 0, 1) := by decide +kernel
theorem dX5_isTold_24 : decode cX5_isTold 24 = .ok (.istore 4, 2) := by decide +kernel
theorem dX5_isTold_26 : decode cX5_isTold 26 = .ok (.iload 4, 2) := by decide +kernel
theorem dX5_isTold_28 : decode cX5_isTold 28 = .ok (.aload_n 0, 1) := by decide +kernel
theorem dX5_isTold_29 : decode cX5_isTold 29 = .ok (.getfield 142, 3) := by decide +kernel
theorem dX5_isTold_32 : decode cX5_isTold 32 = .ok (.if_icmp .ge 72, 3) := by decide +kernel
theorem dX5_isTold_35 : decode cX5_isTold 35 = .ok (.iload_n 2, 1) := by decide +kernel
theorem dX5_isTold_36 : decode cX5_isTold 36 = .ok (.i2l, 1) := by decide +kernel
theorem dX5_isTold_37 : decode cX5_isTold 37 = .ok (.iload 4, 2) := by decide +kernel
theorem dX5_isTold_39 : decode cX5_isTold 39 = .ok (.invokestatic 60, 3) := by decide +kernel
theorem dX5_isTold_42 : decode cX5_isTold 42 = .ok (.iload_n 1, 1) := by decide +kernel
theorem dX5_isTold_43 : decode cX5_isTold 43 = .ok (.ifCond .ne 7, 3) := by decide +kernel
theorem dX5_isTold_46 : decode cX5_isTold 46 = .ok (.iconst 1, 1) := by decide +kernel
theorem dX5_isTold_47 : decode cX5_isTold 47 = .ok (.goto 4, 3) := by decide +kernel
theorem dX5_isTold_50 : decode cX5_isTold 50 = .ok (.iconst 0, 1) := by decide +kernel
theorem dX5_isTold_51 : decode cX5_isTold 51 = .ok (.if_icmp .ne 7, 3) := by decide +kernel
theorem dX5_isTold_54 : decode cX5_isTold 54 = .ok (.iconst 1, 1) := by decide +kernel
theorem dX5_isTold_55 : decode cX5_isTold 55 = .ok (.goto 4, 3) := by decide +kernel
theorem dX5_isTold_58 : decode cX5_isTold 58 = .ok (.iconst 0, 1) := by decide +kernel
theorem dX5_isTold_59 : decode cX5_isTold 59 = .ok (.istore 5, 2) := by decide +kernel
theorem dX5_isTold_61 : decode cX5_isTold 61 = .ok (.iload_n 3, 1) := by decide +kernel
theorem dX5_isTold_62 : decode cX5_isTold 62 = .ok (.ifCond .eq 34, 3) := by decide +kernel
theorem dX5_isTold_65 : decode cX5_isTold 65 = .ok (.iload 5, 2) := by decide +kernel
theorem dX5_isTold_67 : decode cX5_isTold 67 = .ok (.ifCond .eq 25, 3) := by decide +kernel
theorem dX5_isTold_70 : decode cX5_isTold 70 = .ok (.aload_n 0, 1) := by decide +kernel
theorem dX5_isTold_71 : decode cX5_isTold 71 = .ok (.iload_n 2, 1) := by decide +kernel
theorem dX5_isTold_72 : decode cX5_isTold 72 = .ok (.iconst 1, 1) := by decide +kernel
theorem dX5_isTold_73 : decode cX5_isTold 73 = .ok (.iload 4, 2) := by decide +kernel
theorem dX5_isTold_75 : decode cX5_isTold 75 = .ok (.ishl, 1) := by decide +kernel
theorem dX5_isTold_76 : decode cX5_isTold 76 = .ok (.ixor, 1) := by decide +kernel
theorem dX5_isTold_77 : decode cX5_isTold 77 = .ok (.invokevirtual 201, 3) := by decide +kernel
theorem dX5_isTold_80 : decode cX5_isTold 80 = .ok (.iload_n 1, 1) := by decide +kernel
theorem dX5_isTold_81 : decode cX5_isTold 81 = .ok (.ifCond .ne 7, 3) := by decide +kernel
theorem dX5_isTold_84 : decode cX5_isTold 84 = .ok (.iconst 1, 1) := by decide +kernel
theorem dX5_isTold_85 : decode cX5_isTold 85 = .ok (.goto 4, 3) := by decide +kernel
theorem dX5_isTold_88 : decode cX5_isTold 88 = .ok (.iconst 0, 1) := by decide +kernel
theorem dX5_isTold_89 : decode cX5_isTold 89 = .ok (.if_icmp .eq 7, 3) := by decide +kernel
theorem dX5_isTold_92 : decode cX5_isTold 92 = .ok (.iconst 1, 1) := by decide +kernel
theorem dX5_isTold_93 : decode cX5_isTold 93 = .ok (.goto 4, 3) := by decide +kernel
theorem dX5_isTold_96 : decode cX5_isTold 96 = .ok (.iconst 0, 1) := by decide +kernel
theorem dX5_isTold_97 : decode cX5_isTold 97 = .ok (.istore_n 3, 1) := by decide +kernel
theorem dX5_isTold_98 : decode cX5_isTold 98 = .ok (.iinc 4 1, 3) := by decide +kernel
theorem dX5_isTold_101 : decode cX5_isTold 101 = .ok (.goto (-75), 3) := by decide +kernel
theorem dX5_isTold_104 : decode cX5_isTold 104 = .ok (.iload_n 3, 1) := by decide +kernel
theorem dX5_isTold_105 : decode cX5_isTold 105 = .ok (.ireturn, 1) := by decide +kernel
set_option maxRecDepth 20000 in
theorem ggX5_sets_X5_in : GoodIn wsX5_sets wsX5_in := goodIn_r _ [5] (by decide +kernel) (by decide +kernel)
set_option maxRecDepth 20000 in
theorem gX5_sets_X5_in : GoodIn wsX5_sets (va_wsS RX5 66 yX5_in wsX5_in) := goodIn_app (goodIn_of _ (by decide +kernel)) ggX5_sets_X5_in
set_option maxRecDepth 20000 in
theorem ggX5_sets_X5_many : GoodIn wsX5_sets wsX5_many := goodIn_r _ [8, 9, 10, 4, 11] (by decide +kernel) (by decide +kernel)
set_option maxRecDepth 20000 in
theorem gX5_sets_X5_many : GoodIn wsX5_sets (va_wsS RX5 204 yX5_many wsX5_many) := goodIn_app (goodIn_of _ (by decide +kernel)) ggX5_sets_X5_many
set_option maxRecDepth 20000 in
theorem ggX5_sets_X5_isTold : GoodIn wsX5_sets wsX5_isTold := goodIn_r _ [15, 1, 16, 17, 18, 4, 19, 20, 21, 22, 9, 10, 11, 23, 24, 25, 26, 27, 28, 29, 30, 31, 32, 33, 34, 35, 36, 37, 38, 39, 40, 41, 42, 43, 44, 45, 46, 47, 48, 49, 50, 51] (by decide +kernel) (by decide +kernel)
set_option maxRecDepth 20000 in
theorem gX5_sets_X5_isTold : GoodIn wsX5_sets (wsV RX5 208 RX5 yX5_isTold wsX5_isTold) := goodIn_app (goodIn_of _ (by decide +kernel)) ggX5_sets_X5_isTold
theorem dX5_sets_0 : decode cX5_sets 0 = .ok (.iload_n 1, 1) := by decide +kernel
theorem dX5_sets_1 : decode cX5_sets 1 = .ok (.i2l, 1) := by decide +kernel
theorem dX5_sets_2 : decode cX5_sets 2 = .ok (.lconst 0, 1) := by decide +kernel
theorem dX5_sets_3 : decode cX5_sets 3 = .ok (.lconst 1, 1) := by decide +kernel
theorem dX5_sets_4 : decode cX5_sets 4 = .ok (.invokestatic 66, 3) := by decide +kernel
theorem dX5_sets_7 : decode cX5_sets 7 = .ok (.ifCond .eq 8, 3) := by decide +kernel
theorem dX5_sets_10 : decode cX5_sets 10 = .ok (.iload_n 2, 1) := by decide +kernel
theorem dX5_sets_11 : decode cX5_sets 11 = .ok (.iconst (-1), 1) := by decide +kernel
theorem dX5_sets_12 : decode cX5_sets 12 = .ok (.if_icmp .ge 5, 3) := by decide +kernel
theorem dX5_sets_15 : decode cX5_sets 15 = .ok (.iconst (-1), 1) := by decide +kernel
theorem dX5_sets_16 : decode cX5_sets 16 = .ok (.ireturn, 1) := by decide +kernel
theorem dX5_sets_17 : decode cX5_sets 17 = .ok (.iconst 0, 1) := by decide +kernel
theorem dX5_sets_18 : decode cX5_sets 18 = .ok (.istore_n 3, 1) := by decide +kernel
theorem dX5_sets_19 : decode cX5_sets 19 = .ok (.iconst 0, 1) := by decide +kernel
theorem dX5_sets_20 : decode cX5_sets 20 = .ok (.istore 4, 2) := by decide +kernel
theorem dX5_sets_22 : decode cX5_sets 22 = .ok (.iload 4, 2) := by decide +kernel
theorem dX5_sets_24 : decode cX5_sets 24 = .ok (.aload_n 0, 1) := by decide +kernel
theorem dX5_sets_25 : decode cX5_sets 25 = .ok (.getfield 142, 3) := by decide +kernel
theorem dX5_sets_28 : decode cX5_sets 28 = .ok (.if_icmp .gt 79, 3) := by decide +kernel
theorem dX5_sets_31 : decode cX5_sets 31 = .ok (.iload_n 1, 1) := by decide +kernel
theorem dX5_sets_32 : decode cX5_sets 32 = .ok (.ifCond .ne 8, 3) := by decide +kernel
theorem dX5_sets_35 : decode cX5_sets 35 = .ok (.iload 4, 2) := by decide +kernel
theorem dX5_sets_37 : decode cX5_sets 37 = .ok (.goto 10, 3) := by decide +kernel
theorem dX5_sets_40 : decode cX5_sets 40 = .ok (.aload_n 0, 1) := by decide +kernel
theorem dX5_sets_41 : decode cX5_sets 41 = .ok (.getfield 142, 3) := by decide +kernel
theorem dX5_sets_44 : decode cX5_sets 44 = .ok (.iload 4, 2) := by decide +kernel
theorem dX5_sets_46 : decode cX5_sets 46 = .ok (.isub, 1) := by decide +kernel
theorem dX5_sets_47 : decode cX5_sets 47 = .ok (.istore 5, 2) := by decide +kernel
theorem dX5_sets_49 : decode cX5_sets 49 = .ok (.iconst 0, 1) := by decide +kernel
theorem dX5_sets_50 : decode cX5_sets 50 = .ok (.istore 6, 2) := by decide +kernel
theorem dX5_sets_52 : decode cX5_sets 52 = .ok (.iload 6, 2) := by decide +kernel
theorem dX5_sets_54 : decode cX5_sets 54 = .ok (.iconst 1, 1) := by decide +kernel
theorem dX5_sets_55 : decode cX5_sets 55 = .ok (.aload_n 0, 1) := by decide +kernel
theorem dX5_sets_56 : decode cX5_sets 56 = .ok (.getfield 142, 3) := by decide +kernel
theorem dX5_sets_59 : decode cX5_sets 59 = .ok (.ishl, 1) := by decide +kernel
theorem dX5_sets_60 : decode cX5_sets 60 = .ok (.if_icmp .ge 41, 3) := by decide +kernel
theorem dX5_sets_63 : decode cX5_sets 63 = .ok (.iload 6, 2) := by decide +kernel
theorem dX5_sets_65 : decode cX5_sets 65 = .ok (.i2l, 1) := by decide +kernel
theorem dX5_sets_66 : decode cX5_sets 66 = .ok (.invokestatic 204, 3) := by decide +kernel
theorem dX5_sets_69 : decode cX5_sets 69 = .ok (.iload 5, 2) := by decide +kernel
theorem dX5_sets_71 : decode cX5_sets 71 = .ok (.if_icmp .ne 24, 3) := by decide +kernel
theorem dX5_sets_74 : decode cX5_sets 74 = .ok (.aload_n 0, 1) := by decide +kernel
theorem dX5_sets_75 : decode cX5_sets 75 = .ok (.iload_n 1, 1) := by decide +kernel
theorem dX5_sets_76 : decode cX5_sets 76 = .ok (.iload 6, 2) := by decide +kernel
theorem dX5_sets_78 : decode cX5_sets 78 = .ok (.invokevirtual 208, 3) := by decide +kernel
theorem dX5_sets_81 : decode cX5_sets 81 = .ok (.ifCond .eq 14, 3) := by decide +kernel
theorem dX5_sets_84 : decode cX5_sets 84 = .ok (.iload_n 3, 1) := by decide +kernel
theorem dX5_sets_85 : decode cX5_sets 85 = .ok (.iload_n 2, 1) := by decide +kernel
theorem dX5_sets_86 : decode cX5_sets 86 = .ok (.if_icmp .ne 6, 3) := by decide +kernel
theorem dX5_sets_89 : decode cX5_sets 89 = .ok (.iload 6, 2) := by decide +kernel
theorem dX5_sets_91 : decode cX5_sets 91 = .ok (.ireturn, 1) := by decide +kernel
theorem dX5_sets_92 : decode cX5_sets 92 = .ok (.iinc 3 1, 3) := by decide +kernel
theorem dX5_sets_95 : decode cX5_sets 95 = .ok (.iinc 6 1, 3) := by decide +kernel
theorem dX5_sets_98 : decode cX5_sets 98 = .ok (.goto (-46), 3) := by decide +kernel
theorem dX5_sets_101 : decode cX5_sets 101 = .ok (.iinc 4 1, 3) := by decide +kernel
theorem dX5_sets_104 : decode cX5_sets 104 = .ok (.goto (-82), 3) := by decide +kernel
theorem dX5_sets_107 : decode cX5_sets 107 = .ok (.iload_n 2, 1) := by decide +kernel
theorem dX5_sets_108 : decode cX5_sets 108 = .ok (.ifCond .ge 7, 3) := by decide +kernel
theorem dX5_sets_111 : decode cX5_sets 111 = .ok (.iload_n 3, 1) := by decide +kernel
theorem dX5_sets_112 : decode cX5_sets 112 = .ok (.goto 4, 3) := by decide +kernel
theorem dX5_sets_115 : decode cX5_sets 115 = .ok (.iconst (-1), 1) := by decide +kernel
theorem dX5_sets_116 : decode cX5_sets 116 = .ok (.ireturn, 1) := by decide +kernel
set_option maxRecDepth 20000 in
theorem ggX5_free_X5_isTold : GoodIn wsX5_free wsX5_isTold := goodIn_r _ [6, 1, 7, 8, 9, 5, 10, 11, 12, 13, 14, 15, 16, 17, 18, 19, 20, 21, 22, 23, 24, 25, 26, 27, 28, 29, 30, 31, 32, 33, 34, 35, 36, 37, 38, 39, 40, 41, 42, 43, 44, 45] (by decide +kernel) (by decide +kernel)
set_option maxRecDepth 20000 in
theorem gX5_free_X5_isTold : GoodIn wsX5_free (wsV RX5 208 RX5 yX5_isTold wsX5_isTold) := goodIn_app (goodIn_of _ (by decide +kernel)) ggX5_free_X5_isTold
theorem dX5_free_0 : decode cX5_free 0 = .ok (.iconst 0, 1) := by decide +kernel
theorem dX5_free_1 : decode cX5_free 1 = .ok (.istore_n 1, 1) := by decide +kernel
theorem dX5_free_2 : decode cX5_free 2 = .ok (.iconst 0, 1) := by decide +kernel
theorem dX5_free_3 : decode cX5_free 3 = .ok (.istore_n 2, 1) := by decide +kernel
theorem dX5_free_4 : decode cX5_free 4 = .ok (.iload_n 2, 1) := by decide +kernel
theorem dX5_free_5 : decode cX5_free 5 = .ok (.iconst 1, 1) := by decide +kernel
theorem dX5_free_6 : decode cX5_free 6 = .ok (.aload_n 0, 1) := by decide +kernel
theorem dX5_free_7 : decode cX5_free 7 = .ok (.getfield 142, 3) := by decide +kernel
theorem dX5_free_10 : decode cX5_free 10 = .ok (.ishl, 1) := by decide +kernel
theorem dX5_free_11 : decode cX5_free 11 = .ok (.if_icmp .ge 26, 3) := by decide +kernel
theorem dX5_free_14 : decode cX5_free 14 = .ok (.iload_n 1, 1) := by decide +kernel
theorem dX5_free_15 : decode cX5_free 15 = .ok (.aload_n 0, 1) := by decide +kernel
theorem dX5_free_16 : decode cX5_free 16 = .ok (.iconst 0, 1) := by decide +kernel
theorem dX5_free_17 : decode cX5_free 17 = .ok (.iload_n 2, 1) := by decide +kernel
theorem dX5_free_18 : decode cX5_free 18 = .ok (.invokevirtual 208, 3) := by decide +kernel
theorem dX5_free_21 : decode cX5_free 21 = .ok (.ifCond .eq 7, 3) := by decide +kernel
theorem dX5_free_24 : decode cX5_free 24 = .ok (.iload_n 2, 1) := by decide +kernel
theorem dX5_free_25 : decode cX5_free 25 = .ok (.goto 4, 3) := by decide +kernel
theorem dX5_free_28 : decode cX5_free 28 = .ok (.iconst 0, 1) := by decide +kernel
theorem dX5_free_29 : decode cX5_free 29 = .ok (.ior, 1) := by decide +kernel
theorem dX5_free_30 : decode cX5_free 30 = .ok (.istore_n 1, 1) := by decide +kernel
theorem dX5_free_31 : decode cX5_free 31 = .ok (.iinc 2 1, 3) := by decide +kernel
theorem dX5_free_34 : decode cX5_free 34 = .ok (.goto (-30), 3) := by decide +kernel
theorem dX5_free_37 : decode cX5_free 37 = .ok (.iconst 1, 1) := by decide +kernel
theorem dX5_free_38 : decode cX5_free 38 = .ok (.aload_n 0, 1) := by decide +kernel
theorem dX5_free_39 : decode cX5_free 39 = .ok (.getfield 142, 3) := by decide +kernel
theorem dX5_free_42 : decode cX5_free 42 = .ok (.ishl, 1) := by decide +kernel
theorem dX5_free_43 : decode cX5_free 43 = .ok (.iconst 1, 1) := by decide +kernel
theorem dX5_free_44 : decode cX5_free 44 = .ok (.isub, 1) := by decide +kernel
theorem dX5_free_45 : decode cX5_free 45 = .ok (.iload_n 1, 1) := by decide +kernel
theorem dX5_free_46 : decode cX5_free 46 = .ok (.iconst (-1), 1) := by decide +kernel
theorem dX5_free_47 : decode cX5_free 47 = .ok (.ixor, 1) := by decide +kernel
theorem dX5_free_48 : decode cX5_free 48 = .ok (.iand, 1) := by decide +kernel
theorem dX5_free_49 : decode cX5_free 49 = .ok (.ireturn, 1) := by decide +kernel
theorem dX5_orders_0 : decode cX5_orders 0 = .ok (.iconst 1, 1) := by decide +kernel
theorem dX5_orders_1 : decode cX5_orders 1 = .ok (.istore_n 1, 1) := by decide +kernel
theorem dX5_orders_2 : decode cX5_orders 2 = .ok (.iconst 2, 1) := by decide +kernel
theorem dX5_orders_3 : decode cX5_orders 3 = .ok (.istore_n 2, 1) := by decide +kernel
theorem dX5_orders_4 : decode cX5_orders 4 = .ok (.iload_n 2, 1) := by decide +kernel
theorem dX5_orders_5 : decode cX5_orders 5 = .ok (.iload_n 0, 1) := by decide +kernel
theorem dX5_orders_6 : decode cX5_orders 6 = .ok (.if_icmp .gt 13, 3) := by decide +kernel
theorem dX5_orders_9 : decode cX5_orders 9 = .ok (.iload_n 1, 1) := by decide +kernel
theorem dX5_orders_10 : decode cX5_orders 10 = .ok (.iload_n 2, 1) := by decide +kernel
theorem dX5_orders_11 : decode cX5_orders 11 = .ok (.imul, 1) := by decide +kernel
theorem dX5_orders_12 : decode cX5_orders 12 = .ok (.istore_n 1, 1) := by decide +kernel
theorem dX5_orders_13 : decode cX5_orders 13 = .ok (.iinc 2 1, 3) := by decide +kernel
theorem dX5_orders_16 : decode cX5_orders 16 = .ok (.goto (-12), 3) := by decide +kernel
theorem dX5_orders_19 : decode cX5_orders 19 = .ok (.iload_n 1, 1) := by decide +kernel
theorem dX5_orders_20 : decode cX5_orders 20 = .ok (.ireturn, 1) := by decide +kernel
set_option maxRecDepth 20000 in
theorem ggX5_share_X5_isSayer : GoodIn wsX5_share wsX5_isSayer := goodIn_r _ [6, 1, 7, 8, 5, 9, 26, 27, 28, 29, 30, 31, 32, 33, 34, 35, 36, 37, 38, 39, 40, 41, 42, 43, 44, 45, 46, 47, 48, 49, 50, 51, 52, 53, 54] (by decide +kernel) (by decide +kernel)
set_option maxRecDepth 20000 in
theorem gX5_share_X5_isSayer : GoodIn wsX5_share (wsV RX5 147 RX5 yX5_isSayer wsX5_isSayer) := goodIn_app (goodIn_of _ (by decide +kernel)) ggX5_share_X5_isSayer
set_option maxRecDepth 20000 in
theorem ggX5_share_X5_in : GoodIn wsX5_share wsX5_in := goodIn_r _ [9] (by decide +kernel) (by decide +kernel)
set_option maxRecDepth 20000 in
theorem gX5_share_X5_in : GoodIn wsX5_share (va_wsS RX5 66 yX5_in wsX5_in) := goodIn_app (goodIn_of _ (by decide +kernel)) ggX5_share_X5_in
set_option maxRecDepth 20000 in
theorem ggX5_share_X5_has : GoodIn wsX5_share wsX5_has := goodIn_r _ [12] (by decide +kernel) (by decide +kernel)
set_option maxRecDepth 20000 in
theorem gX5_share_X5_has : GoodIn wsX5_share (va_wsS RX5 60 yX5_has wsX5_has) := goodIn_app (goodIn_of _ (by decide +kernel)) ggX5_share_X5_has
set_option maxRecDepth 20000 in
theorem ggX5_share_X5_isQuarrel : GoodIn wsX5_share wsX5_isQuarrel := goodIn_r _ [16, 17, 1, 18, 19, 10, 11, 5, 12, 26, 27, 28, 29, 30, 31, 32, 33, 34, 35, 36, 37, 38, 39, 40, 41, 42, 43, 44, 45, 46, 47, 48, 49, 50, 51, 52, 53, 54] (by decide +kernel) (by decide +kernel)
set_option maxRecDepth 20000 in
theorem gX5_share_X5_isQuarrel : GoodIn wsX5_share (wsV RX5 201 RX5 yX5_isQuarrel wsX5_isQuarrel) := goodIn_app (goodIn_of _ (by decide +kernel)) ggX5_share_X5_isQuarrel
set_option maxRecDepth 20000 in
theorem ggX5_share_X5_many : GoodIn wsX5_share wsX5_many := goodIn_r _ [22, 10, 11, 5, 12] (by decide +kernel) (by decide +kernel)
set_option maxRecDepth 20000 in
theorem gX5_share_X5_many : GoodIn wsX5_share (va_wsS RX5 204 yX5_many wsX5_many) := goodIn_app (goodIn_of _ (by decide +kernel)) ggX5_share_X5_many
set_option maxRecDepth 20000 in
theorem ggX5_share_X5_orders : GoodIn wsX5_share wsX5_orders := goodIn_r _ [25] (by decide +kernel) (by decide +kernel)
set_option maxRecDepth 20000 in
theorem gX5_share_X5_orders : GoodIn wsX5_share (va_wsS RX5 212 yX5_orders wsX5_orders) := goodIn_app (goodIn_of _ (by decide +kernel)) ggX5_share_X5_orders
theorem dX5_share_0 : decode cX5_share 0 = .ok (.aload_n 0, 1) := by decide +kernel
theorem dX5_share_1 : decode cX5_share 1 = .ok (.iload_n 1, 1) := by decide +kernel
theorem dX5_share_2 : decode cX5_share 2 = .ok (.invokevirtual 147, 3) := by decide +kernel
theorem dX5_share_5 : decode cX5_share 5 = .ok (.ifCond .eq 13, 3) := by decide +kernel
theorem dX5_share_8 : decode cX5_share 8 = .ok (.iload_n 2, 1) := by decide +kernel
theorem dX5_share_9 : decode cX5_share 9 = .ok (.i2l, 1) := by decide +kernel
theorem dX5_share_10 : decode cX5_share 10 = .ok (.lconst 0, 1) := by decide +kernel
theorem dX5_share_11 : decode cX5_share 11 = .ok (.lconst 1, 1) := by decide +kernel
theorem dX5_share_12 : decode cX5_share 12 = .ok (.invokestatic 66, 3) := by decide +kernel
theorem dX5_share_15 : decode cX5_share 15 = .ok (.ifCond .ne 5, 3) := by decide +kernel
theorem dX5_share_18 : decode cX5_share 18 = .ok (.iconst (-1), 1) := by decide +kernel
theorem dX5_share_19 : decode cX5_share 19 = .ok (.ireturn, 1) := by decide +kernel
theorem dX5_share_20 : decode cX5_share 20 = .ok (.iconst 0, 1) := by decide +kernel
theorem dX5_share_21 : decode cX5_share 21 = .ok (.istore_n 3, 1) := by decide +kernel
theorem dX5_share_22 : decode cX5_share 22 = .ok (.iconst 0, 1) := by decide +kernel
theorem dX5_share_23 : decode cX5_share 23 = .ok (.istore 4, 2) := by decide +kernel
theorem dX5_share_25 : decode cX5_share 25 = .ok (.iload 4, 2) := by decide +kernel
theorem dX5_share_27 : decode cX5_share 27 = .ok (.iconst 1, 1) := by decide +kernel
theorem dX5_share_28 : decode cX5_share 28 = .ok (.aload_n 0, 1) := by decide +kernel
theorem dX5_share_29 : decode cX5_share 29 = .ok (.getfield 142, 3) := by decide +kernel
theorem dX5_share_32 : decode cX5_share 32 = .ok (.ishl, 1) := by decide +kernel
theorem dX5_share_33 : decode cX5_share 33 = .ok (.if_icmp .ge 70, 3) := by decide +kernel
theorem dX5_share_36 : decode cX5_share 36 = .ok (.iload 4, 2) := by decide +kernel
theorem dX5_share_38 : decode cX5_share 38 = .ok (.i2l, 1) := by decide +kernel
theorem dX5_share_39 : decode cX5_share 39 = .ok (.iload_n 1, 1) := by decide +kernel
theorem dX5_share_40 : decode cX5_share 40 = .ok (.invokestatic 60, 3) := by decide +kernel
theorem dX5_share_43 : decode cX5_share 43 = .ok (.ifCond .ne 54, 3) := by decide +kernel
theorem dX5_share_46 : decode cX5_share 46 = .ok (.aload_n 0, 1) := by decide +kernel
theorem dX5_share_47 : decode cX5_share 47 = .ok (.iload 4, 2) := by decide +kernel
theorem dX5_share_49 : decode cX5_share 49 = .ok (.invokevirtual 201, 3) := by decide +kernel
theorem dX5_share_52 : decode cX5_share 52 = .ok (.ifCond .ne 45, 3) := by decide +kernel
theorem dX5_share_55 : decode cX5_share 55 = .ok (.aload_n 0, 1) := by decide +kernel
theorem dX5_share_56 : decode cX5_share 56 = .ok (.iload 4, 2) := by decide +kernel
theorem dX5_share_58 : decode cX5_share 58 = .ok (.iconst 1, 1) := by decide +kernel
theorem dX5_share_59 : decode cX5_share 59 = .ok (.iload_n 1, 1) := by decide +kernel
theorem dX5_share_60 : decode cX5_share 60 = .ok (.ishl, 1) := by decide +kernel
theorem dX5_share_61 : decode cX5_share 61 = .ok (.ior, 1) := by decide +kernel
theorem dX5_share_62 : decode cX5_share 62 = .ok (.invokevirtual 201, 3) := by decide +kernel
theorem dX5_share_65 : decode cX5_share 65 = .ok (.ifCond .eq 32, 3) := by decide +kernel
theorem dX5_share_68 : decode cX5_share 68 = .ok (.iload_n 3, 1) := by decide +kernel
theorem dX5_share_69 : decode cX5_share 69 = .ok (.iload 4, 2) := by decide +kernel
theorem dX5_share_71 : decode cX5_share 71 = .ok (.i2l, 1) := by decide +kernel
theorem dX5_share_72 : decode cX5_share 72 = .ok (.invokestatic 204, 3) := by decide +kernel
theorem dX5_share_75 : decode cX5_share 75 = .ok (.invokestatic 212, 3) := by decide +kernel
theorem dX5_share_78 : decode cX5_share 78 = .ok (.aload_n 0, 1) := by decide +kernel
theorem dX5_share_79 : decode cX5_share 79 = .ok (.getfield 142, 3) := by decide +kernel
theorem dX5_share_82 : decode cX5_share 82 = .ok (.iconst 1, 1) := by decide +kernel
theorem dX5_share_83 : decode cX5_share 83 = .ok (.isub, 1) := by decide +kernel
theorem dX5_share_84 : decode cX5_share 84 = .ok (.iload 4, 2) := by decide +kernel
theorem dX5_share_86 : decode cX5_share 86 = .ok (.i2l, 1) := by decide +kernel
theorem dX5_share_87 : decode cX5_share 87 = .ok (.invokestatic 204, 3) := by decide +kernel
theorem dX5_share_90 : decode cX5_share 90 = .ok (.isub, 1) := by decide +kernel
theorem dX5_share_91 : decode cX5_share 91 = .ok (.invokestatic 212, 3) := by decide +kernel
theorem dX5_share_94 : decode cX5_share 94 = .ok (.imul, 1) := by decide +kernel
theorem dX5_share_95 : decode cX5_share 95 = .ok (.iadd, 1) := by decide +kernel
theorem dX5_share_96 : decode cX5_share 96 = .ok (.istore_n 3, 1) := by decide +kernel
theorem dX5_share_97 : decode cX5_share 97 = .ok (.iinc 4 1, 3) := by decide +kernel
theorem dX5_share_100 : decode cX5_share 100 = .ok (.goto (-75), 3) := by decide +kernel
theorem dX5_share_103 : decode cX5_share 103 = .ok (.aload_n 0, 1) := by decide +kernel
theorem dX5_share_104 : decode cX5_share 104 = .ok (.getfield 142, 3) := by decide +kernel
theorem dX5_share_107 : decode cX5_share 107 = .ok (.invokestatic 212, 3) := by decide +kernel
theorem dX5_share_110 : decode cX5_share 110 = .ok (.istore 4, 2) := by decide +kernel
theorem dX5_share_112 : decode cX5_share 112 = .ok (.iload_n 3, 1) := by decide +kernel
theorem dX5_share_113 : decode cX5_share 113 = .ok (.istore 5, 2) := by decide +kernel
theorem dX5_share_115 : decode cX5_share 115 = .ok (.iload 4, 2) := by decide +kernel
theorem dX5_share_117 : decode cX5_share 117 = .ok (.istore 6, 2) := by decide +kernel
theorem dX5_share_119 : decode cX5_share 119 = .ok (.iload 6, 2) := by decide +kernel
theorem dX5_share_121 : decode cX5_share 121 = .ok (.ifCond .eq 21, 3) := by decide +kernel
theorem dX5_share_124 : decode cX5_share 124 = .ok (.iload 5, 2) := by decide +kernel
theorem dX5_share_126 : decode cX5_share 126 = .ok (.iload 6, 2) := by decide +kernel
end
section
theorem dX5_share_128 : decode cX5_share 128 = .ok (.irem, 1) := by decide +kernel
theorem dX5_share_129 : decode cX5_share 129 = .ok (.istore 7, 2) := by decide +kernel
theorem dX5_share_131 : decode cX5_share 131 = .ok (.iload 6, 2) := by decide +kernel
theorem dX5_share_133 : decode cX5_share 133 = .ok (.istore 5, 2) := by decide +kernel
theorem dX5_share_135 : decode cX5_share 135 = .ok (.iload 7, 2) := by decide +kernel
theorem dX5_share_137 : decode cX5_share 137 = .ok (.istore 6, 2) := by decide +kernel
theorem dX5_share_139 : decode cX5_share 139 = .ok (.goto (-20), 3) := by decide +kernel
theorem dX5_share_142 : decode cX5_share 142 = .ok (.iload_n 2, 1) := by decide +kernel
theorem dX5_share_143 : decode cX5_share 143 = .ok (.ifCond .ne 10, 3) := by decide +kernel
theorem dX5_share_146 : decode cX5_share 146 = .ok (.iload_n 3, 1) := by decide +kernel
theorem dX5_share_147 : decode cX5_share 147 = .ok (.iload 5, 2) := by decide +kernel
theorem dX5_share_149 : decode cX5_share 149 = .ok (.idiv, 1) := by decide +kernel
theorem dX5_share_150 : decode cX5_share 150 = .ok (.goto 8, 3) := by decide +kernel
theorem dX5_share_153 : decode cX5_share 153 = .ok (.iload 4, 2) := by decide +kernel
theorem dX5_share_155 : decode cX5_share 155 = .ok (.iload 5, 2) := by decide +kernel
theorem dX5_share_157 : decode cX5_share 157 = .ok (.idiv, 1) := by decide +kernel
theorem dX5_share_158 : decode cX5_share 158 = .ok (.ireturn, 1) := by decide +kernel
set_option maxRecDepth 20000 in
theorem ggX5_loss_X5_has : GoodIn wsX5_loss wsX5_has := goodIn_r _ [5] (by decide +kernel) (by decide +kernel)
set_option maxRecDepth 20000 in
theorem gX5_loss_X5_has : GoodIn wsX5_loss (va_wsS RX5 60 yX5_has wsX5_has) := goodIn_app (goodIn_of _ (by decide +kernel)) ggX5_loss_X5_has
theorem dX5_loss_0 : decode cX5_loss 0 = .ok (.iconst 0, 1) := by decide +kernel
theorem dX5_loss_1 : decode cX5_loss 1 = .ok (.istore_n 3, 1) := by decide +kernel
theorem dX5_loss_2 : decode cX5_loss 2 = .ok (.iconst 0, 1) := by decide +kernel
theorem dX5_loss_3 : decode cX5_loss 3 = .ok (.istore 4, 2) := by decide +kernel
theorem dX5_loss_5 : decode cX5_loss 5 = .ok (.iload 4, 2) := by decide +kernel
theorem dX5_loss_7 : decode cX5_loss 7 = .ok (.bipush 64, 2) := by decide +kernel
theorem dX5_loss_9 : decode cX5_loss 9 = .ok (.if_icmp .ge 41, 3) := by decide +kernel
theorem dX5_loss_12 : decode cX5_loss 12 = .ok (.lload_n 1, 1) := by decide +kernel
theorem dX5_loss_13 : decode cX5_loss 13 = .ok (.iload 4, 2) := by decide +kernel
theorem dX5_loss_15 : decode cX5_loss 15 = .ok (.invokestatic 60, 3) := by decide +kernel
theorem dX5_loss_18 : decode cX5_loss 18 = .ok (.ifCond .eq 24, 3) := by decide +kernel
theorem dX5_loss_21 : decode cX5_loss 21 = .ok (.aload_n 0, 1) := by decide +kernel
theorem dX5_loss_22 : decode cX5_loss 22 = .ok (.getfield 57, 3) := by decide +kernel
theorem dX5_loss_25 : decode cX5_loss 25 = .ok (.iload 4, 2) := by decide +kernel
theorem dX5_loss_27 : decode cX5_loss 27 = .ok (.iaload, 1) := by decide +kernel
theorem dX5_loss_28 : decode cX5_loss 28 = .ok (.iload_n 3, 1) := by decide +kernel
theorem dX5_loss_29 : decode cX5_loss 29 = .ok (.if_icmp .le 13, 3) := by decide +kernel
theorem dX5_loss_32 : decode cX5_loss 32 = .ok (.aload_n 0, 1) := by decide +kernel
theorem dX5_loss_33 : decode cX5_loss 33 = .ok (.getfield 57, 3) := by decide +kernel
theorem dX5_loss_36 : decode cX5_loss 36 = .ok (.iload 4, 2) := by decide +kernel
theorem dX5_loss_38 : decode cX5_loss 38 = .ok (.iaload, 1) := by decide +kernel
theorem dX5_loss_39 : decode cX5_loss 39 = .ok (.goto 4, 3) := by decide +kernel
theorem dX5_loss_42 : decode cX5_loss 42 = .ok (.iload_n 3, 1) := by decide +kernel
theorem dX5_loss_43 : decode cX5_loss 43 = .ok (.istore_n 3, 1) := by decide +kernel
theorem dX5_loss_44 : decode cX5_loss 44 = .ok (.iinc 4 1, 3) := by decide +kernel
theorem dX5_loss_47 : decode cX5_loss 47 = .ok (.goto (-42), 3) := by decide +kernel
theorem dX5_loss_50 : decode cX5_loss 50 = .ok (.iload_n 3, 1) := by decide +kernel
theorem dX5_loss_51 : decode cX5_loss 51 = .ok (.ireturn, 1) := by decide +kernel
set_option maxRecDepth 20000 in
theorem ggX5_laysTerm_X5_has : GoodIn wsX5_laysTerm wsX5_has := goodIn_r _ [8] (by decide +kernel) (by decide +kernel)
set_option maxRecDepth 20000 in
theorem gX5_laysTerm_X5_has : GoodIn wsX5_laysTerm (va_wsS RX5 60 yX5_has wsX5_has) := goodIn_app (goodIn_of _ (by decide +kernel)) ggX5_laysTerm_X5_has
theorem dX5_laysTerm_0 : decode cX5_laysTerm 0 = .ok (.iconst 0, 1) := by decide +kernel
theorem dX5_laysTerm_1 : decode cX5_laysTerm 1 = .ok (.istore 4, 2) := by decide +kernel
theorem dX5_laysTerm_3 : decode cX5_laysTerm 3 = .ok (.iload 4, 2) := by decide +kernel
theorem dX5_laysTerm_5 : decode cX5_laysTerm 5 = .ok (.bipush 64, 2) := by decide +kernel
theorem dX5_laysTerm_7 : decode cX5_laysTerm 7 = .ok (.if_icmp .ge 109, 3) := by decide +kernel
theorem dX5_laysTerm_10 : decode cX5_laysTerm 10 = .ok (.iload_n 2, 1) := by decide +kernel
theorem dX5_laysTerm_11 : decode cX5_laysTerm 11 = .ok (.iload 4, 2) := by decide +kernel
theorem dX5_laysTerm_13 : decode cX5_laysTerm 13 = .ok (.iconst (-1), 1) := by decide +kernel
theorem dX5_laysTerm_14 : decode cX5_laysTerm 14 = .ok (.ixor, 1) := by decide +kernel
theorem dX5_laysTerm_15 : decode cX5_laysTerm 15 = .ok (.iand, 1) := by decide +kernel
theorem dX5_laysTerm_16 : decode cX5_laysTerm 16 = .ok (.iload_n 3, 1) := by decide +kernel
theorem dX5_laysTerm_17 : decode cX5_laysTerm 17 = .ok (.iload 4, 2) := by decide +kernel
theorem dX5_laysTerm_19 : decode cX5_laysTerm 19 = .ok (.iand, 1) := by decide +kernel
theorem dX5_laysTerm_20 : decode cX5_laysTerm 20 = .ok (.ior, 1) := by decide +kernel
theorem dX5_laysTerm_21 : decode cX5_laysTerm 21 = .ok (.istore 5, 2) := by decide +kernel
theorem dX5_laysTerm_23 : decode cX5_laysTerm 23 = .ok (.iconst 0, 1) := by decide +kernel
theorem dX5_laysTerm_24 : decode cX5_laysTerm 24 = .ok (.istore 6, 2) := by decide +kernel
theorem dX5_laysTerm_26 : decode cX5_laysTerm 26 = .ok (.iconst 0, 1) := by decide +kernel
theorem dX5_laysTerm_27 : decode cX5_laysTerm 27 = .ok (.istore 7, 2) := by decide +kernel
theorem dX5_laysTerm_29 : decode cX5_laysTerm 29 = .ok (.iload 7, 2) := by decide +kernel
theorem dX5_laysTerm_31 : decode cX5_laysTerm 31 = .ok (.bipush 6, 2) := by decide +kernel
theorem dX5_laysTerm_33 : decode cX5_laysTerm 33 = .ok (.if_icmp .ge 36, 3) := by decide +kernel
theorem dX5_laysTerm_36 : decode cX5_laysTerm 36 = .ok (.iload 6, 2) := by decide +kernel
theorem dX5_laysTerm_38 : decode cX5_laysTerm 38 = .ok (.iload 5, 2) := by decide +kernel
theorem dX5_laysTerm_40 : decode cX5_laysTerm 40 = .ok (.i2l, 1) := by decide +kernel
theorem dX5_laysTerm_41 : decode cX5_laysTerm 41 = .ok (.iload 7, 2) := by decide +kernel
theorem dX5_laysTerm_43 : decode cX5_laysTerm 43 = .ok (.invokestatic 60, 3) := by decide +kernel
theorem dX5_laysTerm_46 : decode cX5_laysTerm 46 = .ok (.ifCond .eq 13, 3) := by decide +kernel
theorem dX5_laysTerm_49 : decode cX5_laysTerm 49 = .ok (.aload_n 0, 1) := by decide +kernel
theorem dX5_laysTerm_50 : decode cX5_laysTerm 50 = .ok (.getfield 30, 3) := by decide +kernel
theorem dX5_laysTerm_53 : decode cX5_laysTerm 53 = .ok (.iload 7, 2) := by decide +kernel
theorem dX5_laysTerm_55 : decode cX5_laysTerm 55 = .ok (.iaload, 1) := by decide +kernel
theorem dX5_laysTerm_56 : decode cX5_laysTerm 56 = .ok (.goto 4, 3) := by decide +kernel
theorem dX5_laysTerm_59 : decode cX5_laysTerm 59 = .ok (.iconst 0, 1) := by decide +kernel
theorem dX5_laysTerm_60 : decode cX5_laysTerm 60 = .ok (.iadd, 1) := by decide +kernel
theorem dX5_laysTerm_61 : decode cX5_laysTerm 61 = .ok (.istore 6, 2) := by decide +kernel
theorem dX5_laysTerm_63 : decode cX5_laysTerm 63 = .ok (.iinc 7 1, 3) := by decide +kernel
theorem dX5_laysTerm_66 : decode cX5_laysTerm 66 = .ok (.goto (-37), 3) := by decide +kernel
theorem dX5_laysTerm_69 : decode cX5_laysTerm 69 = .ok (.aload_n 0, 1) := by decide +kernel
theorem dX5_laysTerm_70 : decode cX5_laysTerm 70 = .ok (.getfield 48, 3) := by decide +kernel
theorem dX5_laysTerm_73 : decode cX5_laysTerm 73 = .ok (.bipush 64, 2) := by decide +kernel
theorem dX5_laysTerm_75 : decode cX5_laysTerm 75 = .ok (.iload_n 1, 1) := by decide +kernel
theorem dX5_laysTerm_76 : decode cX5_laysTerm 76 = .ok (.imul, 1) := by decide +kernel
theorem dX5_laysTerm_77 : decode cX5_laysTerm 77 = .ok (.iload 4, 2) := by decide +kernel
theorem dX5_laysTerm_79 : decode cX5_laysTerm 79 = .ok (.iadd, 1) := by decide +kernel
theorem dX5_laysTerm_80 : decode cX5_laysTerm 80 = .ok (.aload_n 0, 1) := by decide +kernel
theorem dX5_laysTerm_81 : decode cX5_laysTerm 81 = .ok (.getfield 22, 3) := by decide +kernel
theorem dX5_laysTerm_84 : decode cX5_laysTerm 84 = .ok (.iload_n 1, 1) := by decide +kernel
theorem dX5_laysTerm_85 : decode cX5_laysTerm 85 = .ok (.iaload, 1) := by decide +kernel
theorem dX5_laysTerm_86 : decode cX5_laysTerm 86 = .ok (.aload_n 0, 1) := by decide +kernel
theorem dX5_laysTerm_87 : decode cX5_laysTerm 87 = .ok (.getfield 154, 3) := by decide +kernel
theorem dX5_laysTerm_90 : decode cX5_laysTerm 90 = .ok (.ifCond .ne 8, 3) := by decide +kernel
theorem dX5_laysTerm_93 : decode cX5_laysTerm 93 = .ok (.iload 6, 2) := by decide +kernel
theorem dX5_laysTerm_95 : decode cX5_laysTerm 95 = .ok (.goto 13, 3) := by decide +kernel
theorem dX5_laysTerm_98 : decode cX5_laysTerm 98 = .ok (.iload 5, 2) := by decide +kernel
theorem dX5_laysTerm_100 : decode cX5_laysTerm 100 = .ok (.ifCond .ne 7, 3) := by decide +kernel
theorem dX5_laysTerm_103 : decode cX5_laysTerm 103 = .ok (.iconst 0, 1) := by decide +kernel
theorem dX5_laysTerm_104 : decode cX5_laysTerm 104 = .ok (.goto 4, 3) := by decide +kernel
theorem dX5_laysTerm_107 : decode cX5_laysTerm 107 = .ok (.iconst 1, 1) := by decide +kernel
theorem dX5_laysTerm_108 : decode cX5_laysTerm 108 = .ok (.imul, 1) := by decide +kernel
theorem dX5_laysTerm_109 : decode cX5_laysTerm 109 = .ok (.iastore, 1) := by decide +kernel
theorem dX5_laysTerm_110 : decode cX5_laysTerm 110 = .ok (.iinc 4 1, 3) := by decide +kernel
theorem dX5_laysTerm_113 : decode cX5_laysTerm 113 = .ok (.goto (-110), 3) := by decide +kernel
theorem dX5_laysTerm_116 : decode cX5_laysTerm 116 = .ok (.return_, 1) := by decide +kernel
set_option maxRecDepth 20000 in
theorem ggX5_lie_X5_isSayer : GoodIn wsX5_lie wsX5_isSayer := goodIn_r _ [8, 9, 10, 11, 7, 12, 67, 68, 69, 70, 71, 72, 73, 74, 75, 76, 77, 78, 79, 80, 81, 82, 83, 84, 85, 86, 87, 88, 89, 90, 91, 92, 93, 94, 95] (by decide +kernel) (by decide +kernel)
set_option maxRecDepth 20000 in
theorem gX5_lie_X5_isSayer : GoodIn wsX5_lie (wsV RX5 147 RX5 yX5_isSayer wsX5_isSayer) := goodIn_app (goodIn_of _ (by decide +kernel)) ggX5_lie_X5_isSayer
set_option maxRecDepth 20000 in
theorem ggX5_lie_X5_in : GoodIn wsX5_lie wsX5_in := goodIn_r _ [12] (by decide +kernel) (by decide +kernel)
set_option maxRecDepth 20000 in
theorem gX5_lie_X5_in : GoodIn wsX5_lie (va_wsS RX5 66 yX5_in wsX5_in) := goodIn_app (goodIn_of _ (by decide +kernel)) ggX5_lie_X5_in
set_option maxRecDepth 20000 in
theorem ggX5_lie_X5_laysAll : GoodIn wsX5_lie wsX5_laysAll := goodIn_r _ [16, 9, 3, 17, 18, 19, 7, 20, 21, 22, 23, 24, 25, 26, 27, 28, 29, 30, 31, 32, 33, 34, 35, 67, 68, 69, 70, 71, 72, 73, 74, 75, 76, 77, 78, 79, 80, 81, 82, 83, 84, 85, 86, 87, 88, 89, 90, 91, 92, 93, 94, 95] (by decide +kernel) (by decide +kernel)
set_option maxRecDepth 20000 in
theorem gX5_lie_X5_laysAll : GoodIn wsX5_lie (wsV RX5 188 RX5 yX5_laysAll wsX5_laysAll) := goodIn_app (goodIn_of _ (by decide +kernel)) ggX5_lie_X5_laysAll
set_option maxRecDepth 20000 in
theorem ggX5_lie_X5_farOf : GoodIn wsX5_lie wsX5_farOf := goodIn_r _ [26, 27, 28, 7, 29, 30, 31, 32, 33, 34, 35, 67, 68, 69, 70, 71, 72, 73, 74, 75, 76, 77, 78, 79, 80, 81, 82, 83, 84, 85, 86, 87, 88, 89, 90, 91, 92, 93, 94, 95] (by decide +kernel) (by decide +kernel)
set_option maxRecDepth 20000 in
theorem gX5_lie_X5_farOf : GoodIn wsX5_lie (wsV RX5 164 RX5 yX5_farOf wsX5_farOf) := goodIn_app (goodIn_of _ (by decide +kernel)) ggX5_lie_X5_farOf
set_option maxRecDepth 20000 in
theorem ggX5_lie_X5_mergedBy : GoodIn wsX5_lie wsX5_mergedBy := goodIn_r _ [39, 40, 41, 42, 27, 28, 7, 29, 43, 44, 45, 46, 9, 21, 47, 48, 49, 50, 51, 52, 53, 54, 55, 56, 57, 58, 67, 68, 69, 70, 71, 72, 73, 74, 75, 76, 77, 78, 79, 80, 81, 82, 83, 84, 85, 86, 87, 88, 89, 90, 91, 92, 93, 94, 95] (by decide +kernel) (by decide +kernel)
set_option maxRecDepth 20000 in
theorem gX5_lie_X5_mergedBy : GoodIn wsX5_lie (wsV RX5 191 RX5 yX5_mergedBy wsX5_mergedBy) := goodIn_app (goodIn_of _ (by decide +kernel)) ggX5_lie_X5_mergedBy
set_option maxRecDepth 20000 in
theorem ggX5_lie_X5_loss : GoodIn wsX5_lie wsX5_loss := goodIn_r _ [62, 2, 27, 28, 7, 29, 67, 68, 69, 70, 71, 72, 73, 74, 75, 76, 77, 78, 79, 80, 81, 82, 83, 84, 85, 86, 87, 88, 89, 90, 91, 92, 93, 94, 95] (by decide +kernel) (by decide +kernel)
set_option maxRecDepth 20000 in
theorem gX5_lie_X5_loss : GoodIn wsX5_lie (wsV RX5 215 RX5 yX5_loss wsX5_loss) := goodIn_app (goodIn_of _ (by decide +kernel)) ggX5_lie_X5_loss
set_option maxRecDepth 20000 in
theorem ggX5_lie_X5_laysTerm : GoodIn wsX5_lie wsX5_laysTerm := goodIn_r _ [66, 34, 21, 22, 35, 27, 28, 7, 29, 67, 68, 69, 70, 71, 72, 73, 74, 75, 76, 77, 78, 79, 80, 81, 82, 83, 84, 85, 86, 87, 88, 89, 90, 91, 92, 93, 94, 95] (by decide +kernel) (by decide +kernel)
set_option maxRecDepth 20000 in
theorem gX5_lie_X5_laysTerm : GoodIn wsX5_lie (wsV RX5 218 RX5 yX5_laysTerm wsX5_laysTerm) := goodIn_app (goodIn_of _ (by decide +kernel)) ggX5_lie_X5_laysTerm
theorem dX5_lie_0 : decode cX5_lie 0 = .ok (.aload_n 0, 1) := by decide +kernel
theorem dX5_lie_1 : decode cX5_lie 1 = .ok (.iload_n 1, 1) := by decide +kernel
theorem dX5_lie_2 : decode cX5_lie 2 = .ok (.invokevirtual 147, 3) := by decide +kernel
theorem dX5_lie_5 : decode cX5_lie 5 = .ok (.ifCond .eq 27, 3) := by decide +kernel
theorem dX5_lie_8 : decode cX5_lie 8 = .ok (.iload_n 2, 1) := by decide +kernel
theorem dX5_lie_9 : decode cX5_lie 9 = .ok (.i2l, 1) := by decide +kernel
theorem dX5_lie_10 : decode cX5_lie 10 = .ok (.lconst 0, 1) := by decide +kernel
theorem dX5_lie_11 : decode cX5_lie 11 = .ok (.ldc2_w 186, 3) := by decide +kernel
theorem dX5_lie_14 : decode cX5_lie 14 = .ok (.invokestatic 66, 3) := by decide +kernel
theorem dX5_lie_17 : decode cX5_lie 17 = .ok (.ifCond .eq 15, 3) := by decide +kernel
theorem dX5_lie_20 : decode cX5_lie 20 = .ok (.iload_n 3, 1) := by decide +kernel
theorem dX5_lie_21 : decode cX5_lie 21 = .ok (.i2l, 1) := by decide +kernel
theorem dX5_lie_22 : decode cX5_lie 22 = .ok (.lconst 0, 1) := by decide +kernel
theorem dX5_lie_23 : decode cX5_lie 23 = .ok (.ldc2_w 186, 3) := by decide +kernel
theorem dX5_lie_26 : decode cX5_lie 26 = .ok (.invokestatic 66, 3) := by decide +kernel
theorem dX5_lie_29 : decode cX5_lie 29 = .ok (.ifCond .ne 5, 3) := by decide +kernel
theorem dX5_lie_32 : decode cX5_lie 32 = .ok (.iconst (-1), 1) := by decide +kernel
theorem dX5_lie_33 : decode cX5_lie 33 = .ok (.ireturn, 1) := by decide +kernel
theorem dX5_lie_34 : decode cX5_lie 34 = .ok (.aload_n 0, 1) := by decide +kernel
theorem dX5_lie_35 : decode cX5_lie 35 = .ok (.invokevirtual 188, 3) := by decide +kernel
theorem dX5_lie_38 : decode cX5_lie 38 = .ok (.iconst 0, 1) := by decide +kernel
theorem dX5_lie_39 : decode cX5_lie 39 = .ok (.istore 4, 2) := by decide +kernel
theorem dX5_lie_41 : decode cX5_lie 41 = .ok (.iload 4, 2) := by decide +kernel
theorem dX5_lie_43 : decode cX5_lie 43 = .ok (.bipush 64, 2) := by decide +kernel
theorem dX5_lie_45 : decode cX5_lie 45 = .ok (.if_icmp .ge 28, 3) := by decide +kernel
theorem dX5_lie_48 : decode cX5_lie 48 = .ok (.aload_n 0, 1) := by decide +kernel
theorem dX5_lie_49 : decode cX5_lie 49 = .ok (.getfield 57, 3) := by decide +kernel
theorem dX5_lie_52 : decode cX5_lie 52 = .ok (.iload 4, 2) := by decide +kernel
theorem dX5_lie_54 : decode cX5_lie 54 = .ok (.aload_n 0, 1) := by decide +kernel
theorem dX5_lie_55 : decode cX5_lie 55 = .ok (.iload 4, 2) := by decide +kernel
theorem dX5_lie_57 : decode cX5_lie 57 = .ok (.aload_n 0, 1) := by decide +kernel
theorem dX5_lie_58 : decode cX5_lie 58 = .ok (.getfield 26, 3) := by decide +kernel
theorem dX5_lie_61 : decode cX5_lie 61 = .ok (.iload_n 1, 1) := by decide +kernel
theorem dX5_lie_62 : decode cX5_lie 62 = .ok (.laload, 1) := by decide +kernel
theorem dX5_lie_63 : decode cX5_lie 63 = .ok (.invokevirtual 164, 3) := by decide +kernel
theorem dX5_lie_66 : decode cX5_lie 66 = .ok (.iastore, 1) := by decide +kernel
theorem dX5_lie_67 : decode cX5_lie 67 = .ok (.iinc 4 1, 3) := by decide +kernel
theorem dX5_lie_70 : decode cX5_lie 70 = .ok (.goto (-29), 3) := by decide +kernel
theorem dX5_lie_73 : decode cX5_lie 73 = .ok (.aload_n 0, 1) := by decide +kernel
theorem dX5_lie_74 : decode cX5_lie 74 = .ok (.aload_n 0, 1) := by decide +kernel
theorem dX5_lie_75 : decode cX5_lie 75 = .ok (.iload_n 2, 1) := by decide +kernel
theorem dX5_lie_76 : decode cX5_lie 76 = .ok (.invokevirtual 191, 3) := by decide +kernel
theorem dX5_lie_79 : decode cX5_lie 79 = .ok (.invokevirtual 215, 3) := by decide +kernel
theorem dX5_lie_82 : decode cX5_lie 82 = .ok (.istore 4, 2) := by decide +kernel
theorem dX5_lie_84 : decode cX5_lie 84 = .ok (.iload 4, 2) := by decide +kernel
theorem dX5_lie_86 : decode cX5_lie 86 = .ok (.istore 5, 2) := by decide +kernel
theorem dX5_lie_88 : decode cX5_lie 88 = .ok (.bipush (-9), 2) := by decide +kernel
theorem dX5_lie_90 : decode cX5_lie 90 = .ok (.istore 6, 2) := by decide +kernel
theorem dX5_lie_92 : decode cX5_lie 92 = .ok (.iconst 0, 1) := by decide +kernel
theorem dX5_lie_93 : decode cX5_lie 93 = .ok (.istore 7, 2) := by decide +kernel
theorem dX5_lie_95 : decode cX5_lie 95 = .ok (.iload 7, 2) := by decide +kernel
theorem dX5_lie_97 : decode cX5_lie 97 = .ok (.sipush 4096, 3) := by decide +kernel
theorem dX5_lie_100 : decode cX5_lie 100 = .ok (.if_icmp .ge 72, 3) := by decide +kernel
theorem dX5_lie_103 : decode cX5_lie 103 = .ok (.iload_n 3, 1) := by decide +kernel
theorem dX5_lie_104 : decode cX5_lie 104 = .ok (.iconst 2, 1) := by decide +kernel
theorem dX5_lie_105 : decode cX5_lie 105 = .ok (.if_icmp .ge 67, 3) := by decide +kernel
theorem dX5_lie_108 : decode cX5_lie 108 = .ok (.iload 7, 2) := by decide +kernel
theorem dX5_lie_110 : decode cX5_lie 110 = .ok (.bipush 64, 2) := by decide +kernel
theorem dX5_lie_112 : decode cX5_lie 112 = .ok (.idiv, 1) := by decide +kernel
theorem dX5_lie_113 : decode cX5_lie 113 = .ok (.iload 7, 2) := by decide +kernel
theorem dX5_lie_115 : decode cX5_lie 115 = .ok (.bipush 64, 2) := by decide +kernel
theorem dX5_lie_117 : decode cX5_lie 117 = .ok (.irem, 1) := by decide +kernel
theorem dX5_lie_118 : decode cX5_lie 118 = .ok (.iand, 1) := by decide +kernel
theorem dX5_lie_119 : decode cX5_lie 119 = .ok (.ifCond .eq 6, 3) := by decide +kernel
theorem dX5_lie_122 : decode cX5_lie 122 = .ok (.goto 44, 3) := by decide +kernel
theorem dX5_lie_125 : decode cX5_lie 125 = .ok (.aload_n 0, 1) := by decide +kernel
theorem dX5_lie_126 : decode cX5_lie 126 = .ok (.iload_n 1, 1) := by decide +kernel
theorem dX5_lie_127 : decode cX5_lie 127 = .ok (.iload 7, 2) := by decide +kernel
theorem dX5_lie_129 : decode cX5_lie 129 = .ok (.bipush 64, 2) := by decide +kernel
theorem dX5_lie_131 : decode cX5_lie 131 = .ok (.idiv, 1) := by decide +kernel
theorem dX5_lie_132 : decode cX5_lie 132 = .ok (.iload 7, 2) := by decide +kernel
theorem dX5_lie_134 : decode cX5_lie 134 = .ok (.bipush 64, 2) := by decide +kernel
theorem dX5_lie_136 : decode cX5_lie 136 = .ok (.irem, 1) := by decide +kernel
theorem dX5_lie_137 : decode cX5_lie 137 = .ok (.invokevirtual 218, 3) := by decide +kernel
theorem dX5_lie_140 : decode cX5_lie 140 = .ok (.aload_n 0, 1) := by decide +kernel
theorem dX5_lie_141 : decode cX5_lie 141 = .ok (.aload_n 0, 1) := by decide +kernel
theorem dX5_lie_142 : decode cX5_lie 142 = .ok (.iload_n 2, 1) := by decide +kernel
theorem dX5_lie_143 : decode cX5_lie 143 = .ok (.invokevirtual 191, 3) := by decide +kernel
theorem dX5_lie_146 : decode cX5_lie 146 = .ok (.invokevirtual 215, 3) := by decide +kernel
theorem dX5_lie_149 : decode cX5_lie 149 = .ok (.istore 8, 2) := by decide +kernel
theorem dX5_lie_151 : decode cX5_lie 151 = .ok (.iload 8, 2) := by decide +kernel
theorem dX5_lie_153 : decode cX5_lie 153 = .ok (.iload 5, 2) := by decide +kernel
theorem dX5_lie_155 : decode cX5_lie 155 = .ok (.if_icmp .ge 11, 3) := by decide +kernel
theorem dX5_lie_158 : decode cX5_lie 158 = .ok (.iload 8, 2) := by decide +kernel
theorem dX5_lie_160 : decode cX5_lie 160 = .ok (.istore 5, 2) := by decide +kernel
theorem dX5_lie_162 : decode cX5_lie 162 = .ok (.iload 7, 2) := by decide +kernel
theorem dX5_lie_164 : decode cX5_lie 164 = .ok (.istore 6, 2) := by decide +kernel
theorem dX5_lie_166 : decode cX5_lie 166 = .ok (.iinc 7 1, 3) := by decide +kernel
theorem dX5_lie_169 : decode cX5_lie 169 = .ok (.goto (-74), 3) := by decide +kernel
theorem dX5_lie_172 : decode cX5_lie 172 = .ok (.iload_n 3, 1) := by decide +kernel
theorem dX5_lie_173 : decode cX5_lie 173 = .ok (.iconst 2, 1) := by decide +kernel
theorem dX5_lie_174 : decode cX5_lie 174 = .ok (.if_icmp .ne 8, 3) := by decide +kernel
theorem dX5_lie_177 : decode cX5_lie 177 = .ok (.iload 4, 2) := by decide +kernel
theorem dX5_lie_179 : decode cX5_lie 179 = .ok (.goto 26, 3) := by decide +kernel
theorem dX5_lie_182 : decode cX5_lie 182 = .ok (.iload 6, 2) := by decide +kernel
theorem dX5_lie_184 : decode cX5_lie 184 = .ok (.bipush (-9), 2) := by decide +kernel
theorem dX5_lie_186 : decode cX5_lie 186 = .ok (.if_icmp .ne 8, 3) := by decide +kernel
theorem dX5_lie_189 : decode cX5_lie 189 = .ok (.bipush (-9), 2) := by decide +kernel
theorem dX5_lie_191 : decode cX5_lie 191 = .ok (.goto 14, 3) := by decide +kernel
theorem dX5_lie_194 : decode cX5_lie 194 = .ok (.iload_n 3, 1) := by decide +kernel
theorem dX5_lie_195 : decode cX5_lie 195 = .ok (.ifCond .ne 8, 3) := by decide +kernel
theorem dX5_lie_198 : decode cX5_lie 198 = .ok (.iload 6, 2) := by decide +kernel
theorem dX5_lie_200 : decode cX5_lie 200 = .ok (.goto 5, 3) := by decide +kernel
theorem dX5_lie_203 : decode cX5_lie 203 = .ok (.iload 5, 2) := by decide +kernel
theorem dX5_lie_205 : decode cX5_lie 205 = .ok (.ireturn, 1) := by decide +kernel
set_option maxRecDepth 20000 in
theorem ggX5_plain_X5_many : GoodIn wsX5_plain wsX5_many := goodIn_r _ [7, 8, 9, 6, 10] (by decide +kernel) (by decide +kernel)
set_option maxRecDepth 20000 in
theorem gX5_plain_X5_many : GoodIn wsX5_plain (va_wsS RX5 204 yX5_many wsX5_many) := goodIn_app (goodIn_of _ (by decide +kernel)) ggX5_plain_X5_many
theorem dX5_plain_0 : decode cX5_plain 0 = .ok (.aload_n 0, 1) := by decide +kernel
theorem dX5_plain_1 : decode cX5_plain 1 = .ok (.dup, 1) := by decide +kernel
theorem dX5_plain_2 : decode cX5_plain 2 = .ok (.getfield 222, 3) := by decide +kernel
theorem dX5_plain_5 : decode cX5_plain 5 = .ok (.lconst 1, 1) := by decide +kernel
theorem dX5_plain_6 : decode cX5_plain 6 = .ok (.ladd, 1) := by decide +kernel
theorem dX5_plain_7 : decode cX5_plain 7 = .ok (.putfield 222, 3) := by decide +kernel
theorem dX5_plain_10 : decode cX5_plain 10 = .ok (.aload_n 0, 1) := by decide +kernel
theorem dX5_plain_11 : decode cX5_plain 11 = .ok (.getfield 15, 3) := by decide +kernel
theorem dX5_plain_14 : decode cX5_plain 14 = .ok (.aload_n 0, 1) := by decide +kernel
theorem dX5_plain_15 : decode cX5_plain 15 = .ok (.getfield 26, 3) := by decide +kernel
theorem dX5_plain_18 : decode cX5_plain 18 = .ok (.iload_n 1, 1) := by decide +kernel
theorem dX5_plain_19 : decode cX5_plain 19 = .ok (.laload, 1) := by decide +kernel
theorem dX5_plain_20 : decode cX5_plain 20 = .ok (.land, 1) := by decide +kernel
theorem dX5_plain_21 : decode cX5_plain 21 = .ok (.invokestatic 204, 3) := by decide +kernel
theorem dX5_plain_24 : decode cX5_plain 24 = .ok (.ireturn, 1) := by decide +kernel
set_option maxRecDepth 20000 in
theorem ggX5_weighty_X5_plain : GoodIn wsX5_weighty wsX5_plain := goodIn_r _ [8, 1, 9, 10, 11, 12, 7, 13, 14, 15, 16, 17, 18, 19, 20, 21, 22, 23, 24, 25, 26, 27, 28, 29, 30, 31, 32, 33, 34, 35, 36, 37, 38, 39, 40, 41, 42, 43, 44, 45] (by decide +kernel) (by decide +kernel)
set_option maxRecDepth 20000 in
theorem gX5_weighty_X5_plain : GoodIn wsX5_weighty (wsV RX5 227 RX5 yX5_plain wsX5_plain) := goodIn_app (goodIn_of _ (by decide +kernel)) ggX5_weighty_X5_plain
theorem dX5_weighty_0 : decode cX5_weighty 0 = .ok (.aload_n 0, 1) := by decide +kernel
theorem dX5_weighty_1 : decode cX5_weighty 1 = .ok (.dup, 1) := by decide +kernel
theorem dX5_weighty_2 : decode cX5_weighty 2 = .ok (.getfield 222, 3) := by decide +kernel
theorem dX5_weighty_5 : decode cX5_weighty 5 = .ok (.ldc2_w 225, 3) := by decide +kernel
theorem dX5_weighty_8 : decode cX5_weighty 8 = .ok (.ladd, 1) := by decide +kernel
theorem dX5_weighty_9 : decode cX5_weighty 9 = .ok (.putfield 222, 3) := by decide +kernel
theorem dX5_weighty_12 : decode cX5_weighty 12 = .ok (.aload_n 0, 1) := by decide +kernel
theorem dX5_weighty_13 : decode cX5_weighty 13 = .ok (.iload_n 1, 1) := by decide +kernel
theorem dX5_weighty_14 : decode cX5_weighty 14 = .ok (.invokevirtual 227, 3) := by decide +kernel
theorem dX5_weighty_17 : decode cX5_weighty 17 = .ok (.aload_n 0, 1) := by decide +kernel
theorem dX5_weighty_18 : decode cX5_weighty 18 = .ok (.getfield 22, 3) := by decide +kernel
theorem dX5_weighty_21 : decode cX5_weighty 21 = .ok (.iload_n 1, 1) := by decide +kernel
theorem dX5_weighty_22 : decode cX5_weighty 22 = .ok (.iaload, 1) := by decide +kernel
theorem dX5_weighty_23 : decode cX5_weighty 23 = .ok (.imul, 1) := by decide +kernel
theorem dX5_weighty_24 : decode cX5_weighty 24 = .ok (.ireturn, 1) := by decide +kernel
set_option maxRecDepth 20000 in
theorem ggX5_worth_X5_in : GoodIn wsX5_worth wsX5_in := goodIn_r _ [11] (by decide +kernel) (by decide +kernel)
set_option maxRecDepth 20000 in
theorem gX5_worth_X5_in : GoodIn wsX5_worth (va_wsS RX5 66 yX5_in wsX5_in) := goodIn_app (goodIn_of _ (by decide +kernel)) ggX5_worth_X5_in
set_option maxRecDepth 20000 in
theorem ggX5_worth_X5_isSayer : GoodIn wsX5_worth wsX5_isSayer := goodIn_r _ [15, 4, 8, 9, 10, 11, 73, 74, 75, 76, 77, 78, 79, 80, 81, 82, 83, 84, 85, 86, 87, 88, 89, 90, 91, 92, 93, 94, 95, 96, 97, 98, 99, 100, 101] (by decide +kernel) (by decide +kernel)
set_option maxRecDepth 20000 in
theorem gX5_worth_X5_isSayer : GoodIn wsX5_worth (wsV RX5 147 RX5 yX5_isSayer wsX5_isSayer) := goodIn_app (goodIn_of _ (by decide +kernel)) ggX5_worth_X5_isSayer
set_option maxRecDepth 20000 in
theorem ggX5_worth_X5_plain : GoodIn wsX5_worth wsX5_plain := goodIn_r _ [19, 2, 6, 5, 20, 21, 10, 22, 23, 24, 25, 73, 74, 75, 76, 77, 78, 79, 80, 81, 82, 83, 84, 85, 86, 87, 88, 89, 90, 91, 92, 93, 94, 95, 96, 97, 98, 99, 100, 101] (by decide +kernel) (by decide +kernel)
set_option maxRecDepth 20000 in
theorem gX5_worth_X5_plain : GoodIn wsX5_worth (wsV RX5 227 RX5 yX5_plain wsX5_plain) := goodIn_app (goodIn_of _ (by decide +kernel)) ggX5_worth_X5_plain
set_option maxRecDepth 20000 in
theorem ggX5_worth_X5_weighty : GoodIn wsX5_worth wsX5_weighty := goodIn_r _ [29, 2, 30, 31, 16, 17, 18, 10, 19, 6, 5, 20, 21, 22, 23, 24, 25, 73, 74, 75, 76, 77, 78, 79, 80, 81, 82, 83, 84, 85, 86, 87, 88, 89, 90, 91, 92, 93, 94, 95, 96, 97, 98, 99, 100, 101] (by decide +kernel) (by decide +kernel)
set_option maxRecDepth 20000 in
theorem gX5_worth_X5_weighty : GoodIn wsX5_worth (wsV RX5 232 RX5 yX5_weighty wsX5_weighty) := goodIn_app (goodIn_of _ (by decide +kernel)) ggX5_worth_X5_weighty
set_option maxRecDepth 20000 in
theorem ggX5_worth_X5_many : GoodIn wsX5_worth wsX5_many := goodIn_r _ [22, 23, 24, 10, 25] (by decide +kernel) (by decide +kernel)
set_option maxRecDepth 20000 in
theorem gX5_worth_X5_many : GoodIn wsX5_worth (va_wsS RX5 204 yX5_many wsX5_many) := goodIn_app (goodIn_of _ (by decide +kernel)) ggX5_worth_X5_many
set_option maxRecDepth 20000 in
theorem ggX5_worth_X5_laysAll : GoodIn wsX5_worth wsX5_laysAll := goodIn_r _ [35, 4, 5, 36, 37, 38, 10, 39, 40, 31, 41, 42, 43, 44, 23, 24, 25, 45, 46, 47, 48, 49, 50, 73, 74, 75, 76, 77, 78, 79, 80, 81, 82, 83, 84, 85, 86, 87, 88, 89, 90, 91, 92, 93, 94, 95, 96, 97, 98, 99, 100, 101] (by decide +kernel) (by decide +kernel)
set_option maxRecDepth 20000 in
theorem gX5_worth_X5_laysAll : GoodIn wsX5_worth (wsV RX5 188 RX5 yX5_laysAll wsX5_laysAll) := goodIn_app (goodIn_of _ (by decide +kernel)) ggX5_worth_X5_laysAll
set_option maxRecDepth 20000 in
theorem ggX5_worth_X5_mergedBy : GoodIn wsX5_worth wsX5_mergedBy := goodIn_r _ [54, 6, 55, 56, 23, 24, 10, 25, 57, 58, 59, 60, 4, 40, 61, 62, 63, 64, 65, 66, 67, 68, 69, 70, 71, 72, 73, 74, 75, 76, 77, 78, 79, 80, 81, 82, 83, 84, 85, 86, 87, 88, 89, 90, 91, 92, 93, 94, 95, 96, 97, 98, 99, 100, 101] (by decide +kernel) (by decide +kernel)
set_option maxRecDepth 20000 in
theorem gX5_worth_X5_mergedBy : GoodIn wsX5_worth (wsV RX5 191 RX5 yX5_mergedBy wsX5_mergedBy) := goodIn_app (goodIn_of _ (by decide +kernel)) ggX5_worth_X5_mergedBy
theorem dX5_worth_0 : decode cX5_worth 0 = .ok (.iload_n 1, 1) := by decide +kernel
theorem dX5_worth_1 : decode cX5_worth 1 = .ok (.i2l, 1) := by decide +kernel
theorem dX5_worth_2 : decode cX5_worth 2 = .ok (.lconst 0, 1) := by decide +kernel
theorem dX5_worth_3 : decode cX5_worth 3 = .ok (.ldc2_w 230, 3) := by decide +kernel
theorem dX5_worth_6 : decode cX5_worth 6 = .ok (.invokestatic 66, 3) := by decide +kernel
theorem dX5_worth_9 : decode cX5_worth 9 = .ok (.ifCond .eq 11, 3) := by decide +kernel
theorem dX5_worth_12 : decode cX5_worth 12 = .ok (.aload_n 0, 1) := by decide +kernel
theorem dX5_worth_13 : decode cX5_worth 13 = .ok (.iload_n 2, 1) := by decide +kernel
theorem dX5_worth_14 : decode cX5_worth 14 = .ok (.invokevirtual 147, 3) := by decide +kernel
theorem dX5_worth_17 : decode cX5_worth 17 = .ok (.ifCond .ne 5, 3) := by decide +kernel
theorem dX5_worth_20 : decode cX5_worth 20 = .ok (.iconst (-1), 1) := by decide +kernel
theorem dX5_worth_21 : decode cX5_worth 21 = .ok (.ireturn, 1) := by decide +kernel
theorem dX5_worth_22 : decode cX5_worth 22 = .ok (.iload_n 1, 1) := by decide +kernel
theorem dX5_worth_23 : decode cX5_worth 23 = .ok (.iconst 2, 1) := by decide +kernel
theorem dX5_worth_24 : decode cX5_worth 24 = .ok (.if_icmp .ge 21, 3) := by decide +kernel
theorem dX5_worth_27 : decode cX5_worth 27 = .ok (.iload_n 1, 1) := by decide +kernel
theorem dX5_worth_28 : decode cX5_worth 28 = .ok (.ifCond .ne 11, 3) := by decide +kernel
theorem dX5_worth_31 : decode cX5_worth 31 = .ok (.aload_n 0, 1) := by decide +kernel
theorem dX5_worth_32 : decode cX5_worth 32 = .ok (.iload_n 2, 1) := by decide +kernel
theorem dX5_worth_33 : decode cX5_worth 33 = .ok (.invokevirtual 227, 3) := by decide +kernel
theorem dX5_worth_36 : decode cX5_worth 36 = .ok (.goto 8, 3) := by decide +kernel
theorem dX5_worth_39 : decode cX5_worth 39 = .ok (.aload_n 0, 1) := by decide +kernel
theorem dX5_worth_40 : decode cX5_worth 40 = .ok (.iload_n 2, 1) := by decide +kernel
theorem dX5_worth_41 : decode cX5_worth 41 = .ok (.invokevirtual 232, 3) := by decide +kernel
theorem dX5_worth_44 : decode cX5_worth 44 = .ok (.ireturn, 1) := by decide +kernel
theorem dX5_worth_45 : decode cX5_worth 45 = .ok (.iload_n 1, 1) := by decide +kernel
theorem dX5_worth_46 : decode cX5_worth 46 = .ok (.iconst 2, 1) := by decide +kernel
theorem dX5_worth_47 : decode cX5_worth 47 = .ok (.if_icmp .ne 78, 3) := by decide +kernel
theorem dX5_worth_50 : decode cX5_worth 50 = .ok (.aload_n 0, 1) := by decide +kernel
theorem dX5_worth_51 : decode cX5_worth 51 = .ok (.dup, 1) := by decide +kernel
theorem dX5_worth_52 : decode cX5_worth 52 = .ok (.getfield 222, 3) := by decide +kernel
theorem dX5_worth_55 : decode cX5_worth 55 = .ok (.ldc2_w 235, 3) := by decide +kernel
theorem dX5_worth_58 : decode cX5_worth 58 = .ok (.ladd, 1) := by decide +kernel
theorem dX5_worth_59 : decode cX5_worth 59 = .ok (.putfield 222, 3) := by decide +kernel
theorem dX5_worth_62 : decode cX5_worth 62 = .ok (.lconst 0, 1) := by decide +kernel
theorem dX5_worth_63 : decode cX5_worth 63 = .ok (.lstore_n 3, 1) := by decide +kernel
theorem dX5_worth_64 : decode cX5_worth 64 = .ok (.iconst 0, 1) := by decide +kernel
theorem dX5_worth_65 : decode cX5_worth 65 = .ok (.istore 5, 2) := by decide +kernel
theorem dX5_worth_67 : decode cX5_worth 67 = .ok (.iload 5, 2) := by decide +kernel
theorem dX5_worth_69 : decode cX5_worth 69 = .ok (.aload_n 0, 1) := by decide +kernel
theorem dX5_worth_70 : decode cX5_worth 70 = .ok (.getfield 142, 3) := by decide +kernel
theorem dX5_worth_73 : decode cX5_worth 73 = .ok (.if_icmp .ge 29, 3) := by decide +kernel
theorem dX5_worth_76 : decode cX5_worth 76 = .ok (.lload_n 3, 1) := by decide +kernel
theorem dX5_worth_77 : decode cX5_worth 77 = .ok (.iload 5, 2) := by decide +kernel
theorem dX5_worth_79 : decode cX5_worth 79 = .ok (.iload_n 2, 1) := by decide +kernel
theorem dX5_worth_80 : decode cX5_worth 80 = .ok (.if_icmp .ne 7, 3) := by decide +kernel
theorem dX5_worth_83 : decode cX5_worth 83 = .ok (.lconst 0, 1) := by decide +kernel
theorem dX5_worth_84 : decode cX5_worth 84 = .ok (.goto 10, 3) := by decide +kernel
theorem dX5_worth_87 : decode cX5_worth 87 = .ok (.aload_n 0, 1) := by decide +kernel
theorem dX5_worth_88 : decode cX5_worth 88 = .ok (.getfield 26, 3) := by decide +kernel
theorem dX5_worth_91 : decode cX5_worth 91 = .ok (.iload 5, 2) := by decide +kernel
theorem dX5_worth_93 : decode cX5_worth 93 = .ok (.laload, 1) := by decide +kernel
theorem dX5_worth_94 : decode cX5_worth 94 = .ok (.lor, 1) := by decide +kernel
theorem dX5_worth_95 : decode cX5_worth 95 = .ok (.lstore_n 3, 1) := by decide +kernel
theorem dX5_worth_96 : decode cX5_worth 96 = .ok (.iinc 5 1, 3) := by decide +kernel
theorem dX5_worth_99 : decode cX5_worth 99 = .ok (.goto (-32), 3) := by decide +kernel
theorem dX5_worth_102 : decode cX5_worth 102 = .ok (.aload_n 0, 1) := by decide +kernel
theorem dX5_worth_103 : decode cX5_worth 103 = .ok (.iload_n 2, 1) := by decide +kernel
theorem dX5_worth_104 : decode cX5_worth 104 = .ok (.invokevirtual 227, 3) := by decide +kernel
theorem dX5_worth_107 : decode cX5_worth 107 = .ok (.aload_n 0, 1) := by decide +kernel
theorem dX5_worth_108 : decode cX5_worth 108 = .ok (.getfield 15, 3) := by decide +kernel
theorem dX5_worth_111 : decode cX5_worth 111 = .ok (.aload_n 0, 1) := by decide +kernel
theorem dX5_worth_112 : decode cX5_worth 112 = .ok (.getfield 26, 3) := by decide +kernel
theorem dX5_worth_115 : decode cX5_worth 115 = .ok (.iload_n 2, 1) := by decide +kernel
theorem dX5_worth_116 : decode cX5_worth 116 = .ok (.laload, 1) := by decide +kernel
theorem dX5_worth_117 : decode cX5_worth 117 = .ok (.land, 1) := by decide +kernel
theorem dX5_worth_118 : decode cX5_worth 118 = .ok (.lload_n 3, 1) := by decide +kernel
theorem dX5_worth_119 : decode cX5_worth 119 = .ok (.land, 1) := by decide +kernel
theorem dX5_worth_120 : decode cX5_worth 120 = .ok (.invokestatic 204, 3) := by decide +kernel
theorem dX5_worth_123 : decode cX5_worth 123 = .ok (.isub, 1) := by decide +kernel
theorem dX5_worth_124 : decode cX5_worth 124 = .ok (.ireturn, 1) := by decide +kernel
theorem dX5_worth_125 : decode cX5_worth 125 = .ok (.aload_n 0, 1) := by decide +kernel
theorem dX5_worth_126 : decode cX5_worth 126 = .ok (.dup, 1) := by decide +kernel
theorem dX5_worth_127 : decode cX5_worth 127 = .ok (.getfield 222, 3) := by decide +kernel
theorem dX5_worth_130 : decode cX5_worth 130 = .ok (.ldc2_w 237, 3) := by decide +kernel
theorem dX5_worth_133 : decode cX5_worth 133 = .ok (.ladd, 1) := by decide +kernel
theorem dX5_worth_134 : decode cX5_worth 134 = .ok (.putfield 222, 3) := by decide +kernel
theorem dX5_worth_137 : decode cX5_worth 137 = .ok (.aload_n 0, 1) := by decide +kernel
theorem dX5_worth_138 : decode cX5_worth 138 = .ok (.invokevirtual 188, 3) := by decide +kernel
theorem dX5_worth_141 : decode cX5_worth 141 = .ok (.aload_n 0, 1) := by decide +kernel
theorem dX5_worth_142 : decode cX5_worth 142 = .ok (.iload_n 2, 1) := by decide +kernel
theorem dX5_worth_143 : decode cX5_worth 143 = .ok (.invokevirtual 232, 3) := by decide +kernel
theorem dX5_worth_146 : decode cX5_worth 146 = .ok (.aload_n 0, 1) := by decide +kernel
theorem dX5_worth_147 : decode cX5_worth 147 = .ok (.iconst 0, 1) := by decide +kernel
theorem dX5_worth_148 : decode cX5_worth 148 = .ok (.invokevirtual 191, 3) := by decide +kernel
theorem dX5_worth_151 : decode cX5_worth 151 = .ok (.invokestatic 204, 3) := by decide +kernel
theorem dX5_worth_154 : decode cX5_worth 154 = .ok (.iadd, 1) := by decide +kernel
theorem dX5_worth_155 : decode cX5_worth 155 = .ok (.ireturn, 1) := by decide +kernel
set_option maxRecDepth 20000 in
theorem ggX5_count_X5_many : GoodIn wsX5_count wsX5_many := goodIn_r _ [9, 10, 11, 8, 12] (by decide +kernel) (by decide +kernel)
set_option maxRecDepth 20000 in
theorem gX5_count_X5_many : GoodIn wsX5_count (va_wsS RX5 204 yX5_many wsX5_many) := goodIn_app (goodIn_of _ (by decide +kernel)) ggX5_count_X5_many
theorem dX5_count_0 : decode cX5_count 0 = .ok (.iconst 0, 1) := by decide +kernel
theorem dX5_count_1 : decode cX5_count 1 = .ok (.istore_n 2, 1) := by decide +kernel
theorem dX5_count_2 : decode cX5_count 2 = .ok (.iconst 0, 1) := by decide +kernel
theorem dX5_count_3 : decode cX5_count 3 = .ok (.istore_n 3, 1) := by decide +kernel
theorem dX5_count_4 : decode cX5_count 4 = .ok (.iload_n 3, 1) := by decide +kernel
theorem dX5_count_5 : decode cX5_count 5 = .ok (.aload_n 0, 1) := by decide +kernel
theorem dX5_count_6 : decode cX5_count 6 = .ok (.getfield 142, 3) := by decide +kernel
theorem dX5_count_9 : decode cX5_count 9 = .ok (.if_icmp .ge 18, 3) := by decide +kernel
theorem dX5_count_12 : decode cX5_count 12 = .ok (.iload_n 2, 1) := by decide +kernel
theorem dX5_count_13 : decode cX5_count 13 = .ok (.aload_n 0, 1) := by decide +kernel
theorem dX5_count_14 : decode cX5_count 14 = .ok (.getfield 22, 3) := by decide +kernel
theorem dX5_count_17 : decode cX5_count 17 = .ok (.iload_n 3, 1) := by decide +kernel
theorem dX5_count_18 : decode cX5_count 18 = .ok (.iaload, 1) := by decide +kernel
theorem dX5_count_19 : decode cX5_count 19 = .ok (.iadd, 1) := by decide +kernel
theorem dX5_count_20 : decode cX5_count 20 = .ok (.istore_n 2, 1) := by decide +kernel
theorem dX5_count_21 : decode cX5_count 21 = .ok (.iinc 3 1, 3) := by decide +kernel
theorem dX5_count_24 : decode cX5_count 24 = .ok (.goto (-20), 3) := by decide +kernel
theorem dX5_count_27 : decode cX5_count 27 = .ok (.iload_n 1, 1) := by decide +kernel
theorem dX5_count_28 : decode cX5_count 28 = .ok (.ifCond .ne 10, 3) := by decide +kernel
theorem dX5_count_31 : decode cX5_count 31 = .ok (.aload_n 0, 1) := by decide +kernel
theorem dX5_count_32 : decode cX5_count 32 = .ok (.getfield 139, 3) := by decide +kernel
theorem dX5_count_35 : decode cX5_count 35 = .ok (.goto 52, 3) := by decide +kernel
theorem dX5_count_38 : decode cX5_count 38 = .ok (.iload_n 1, 1) := by decide +kernel
theorem dX5_count_39 : decode cX5_count 39 = .ok (.iconst 1, 1) := by decide +kernel
theorem dX5_count_40 : decode cX5_count 40 = .ok (.if_icmp .ne 10, 3) := by decide +kernel
theorem dX5_count_43 : decode cX5_count 43 = .ok (.aload_n 0, 1) := by decide +kernel
theorem dX5_count_44 : decode cX5_count 44 = .ok (.getfield 142, 3) := by decide +kernel
theorem dX5_count_47 : decode cX5_count 47 = .ok (.goto 40, 3) := by decide +kernel
theorem dX5_count_50 : decode cX5_count 50 = .ok (.iload_n 1, 1) := by decide +kernel
theorem dX5_count_51 : decode cX5_count 51 = .ok (.iconst 2, 1) := by decide +kernel
theorem dX5_count_52 : decode cX5_count 52 = .ok (.if_icmp .ne 10, 3) := by decide +kernel
theorem dX5_count_55 : decode cX5_count 55 = .ok (.aload_n 0, 1) := by decide +kernel
theorem dX5_count_56 : decode cX5_count 56 = .ok (.getfield 70, 3) := by decide +kernel
theorem dX5_count_59 : decode cX5_count 59 = .ok (.goto 28, 3) := by decide +kernel
theorem dX5_count_62 : decode cX5_count 62 = .ok (.iload_n 1, 1) := by decide +kernel
theorem dX5_count_63 : decode cX5_count 63 = .ok (.iconst 3, 1) := by decide +kernel
theorem dX5_count_64 : decode cX5_count 64 = .ok (.if_icmp .ne 7, 3) := by decide +kernel
theorem dX5_count_67 : decode cX5_count 67 = .ok (.iload_n 2, 1) := by decide +kernel
theorem dX5_count_68 : decode cX5_count 68 = .ok (.goto 19, 3) := by decide +kernel
theorem dX5_count_71 : decode cX5_count 71 = .ok (.iload_n 1, 1) := by decide +kernel
theorem dX5_count_72 : decode cX5_count 72 = .ok (.iconst 4, 1) := by decide +kernel
theorem dX5_count_73 : decode cX5_count 73 = .ok (.if_icmp .ne 13, 3) := by decide +kernel
theorem dX5_count_76 : decode cX5_count 76 = .ok (.aload_n 0, 1) := by decide +kernel
theorem dX5_count_77 : decode cX5_count 77 = .ok (.getfield 15, 3) := by decide +kernel
theorem dX5_count_80 : decode cX5_count 80 = .ok (.invokestatic 204, 3) := by decide +kernel
theorem dX5_count_83 : decode cX5_count 83 = .ok (.goto 4, 3) := by decide +kernel
theorem dX5_count_86 : decode cX5_count 86 = .ok (.iconst (-1), 1) := by decide +kernel
theorem dX5_count_87 : decode cX5_count 87 = .ok (.ireturn, 1) := by decide +kernel
theorem dX5_trace_0 : decode cX5_trace 0 = .ok (.aload_n 0, 1) := by decide +kernel
theorem dX5_trace_1 : decode cX5_trace 1 = .ok (.getfield 222, 3) := by decide +kernel
theorem dX5_trace_4 : decode cX5_trace 4 = .ok (.lreturn, 1) := by decide +kernel
theorem dJ6_numberOfTrailingZeros_0f7a4_0 : decode cJ6_numberOfTrailingZeros_0f7a4 0 = .ok (.iload_n 0, 1) := by decide +kernel
theorem dJ6_numberOfTrailingZeros_0f7a4_1 : decode cJ6_numberOfTrailingZeros_0f7a4 1 = .ok (.iconst (-1), 1) := by decide +kernel
theorem dJ6_numberOfTrailingZeros_0f7a4_2 : decode cJ6_numberOfTrailingZeros_0f7a4 2 = .ok (.ixor, 1) := by decide +kernel
theorem dJ6_numberOfTrailingZeros_0f7a4_3 : decode cJ6_numberOfTrailingZeros_0f7a4 3 = .ok (.iload_n 0, 1) := by decide +kernel
theorem dJ6_numberOfTrailingZeros_0f7a4_4 : decode cJ6_numberOfTrailingZeros_0f7a4 4 = .ok (.iconst 1, 1) := by decide +kernel
theorem dJ6_numberOfTrailingZeros_0f7a4_5 : decode cJ6_numberOfTrailingZeros_0f7a4 5 = .ok (.isub, 1) := by decide +kernel
theorem dJ6_numberOfTrailingZeros_0f7a4_6 : decode cJ6_numberOfTrailingZeros_0f7a4 6 = .ok (.iand, 1) := by decide +kernel
theorem dJ6_numberOfTrailingZeros_0f7a4_7 : decode cJ6_numberOfTrailingZeros_0f7a4 7 = .ok (.istore_n 0, 1) := by decide +kernel
theorem dJ6_numberOfTrailingZeros_0f7a4_8 : decode cJ6_numberOfTrailingZeros_0f7a4 8 = .ok (.iload_n 0, 1) := by decide +kernel
theorem dJ6_numberOfTrailingZeros_0f7a4_9 : decode cJ6_numberOfTrailingZeros_0f7a4 9 = .ok (.ifCond .gt 8, 3) := by decide +kernel
theorem dJ6_numberOfTrailingZeros_0f7a4_12 : decode cJ6_numberOfTrailingZeros_0f7a4 12 = .ok (.iload_n 0, 1) := by decide +kernel
theorem dJ6_numberOfTrailingZeros_0f7a4_13 : decode cJ6_numberOfTrailingZeros_0f7a4 13 = .ok (.bipush 32, 2) := by decide +kernel
theorem dJ6_numberOfTrailingZeros_0f7a4_15 : decode cJ6_numberOfTrailingZeros_0f7a4 15 = .ok (.iand, 1) := by decide +kernel
theorem dJ6_numberOfTrailingZeros_0f7a4_16 : decode cJ6_numberOfTrailingZeros_0f7a4 16 = .ok (.ireturn, 1) := by decide +kernel
theorem dJ6_numberOfTrailingZeros_0f7a4_17 : decode cJ6_numberOfTrailingZeros_0f7a4 17 = .ok (.iconst 1, 1) := by decide +kernel
theorem dJ6_numberOfTrailingZeros_0f7a4_18 : decode cJ6_numberOfTrailingZeros_0f7a4 18 = .ok (.istore_n 1, 1) := by decide +kernel
theorem dJ6_numberOfTrailingZeros_0f7a4_19 : decode cJ6_numberOfTrailingZeros_0f7a4 19 = .ok (.iload_n 0, 1) := by decide +kernel
theorem dJ6_numberOfTrailingZeros_0f7a4_20 : decode cJ6_numberOfTrailingZeros_0f7a4 20 = .ok (.ldc_w 264, 3) := by decide +kernel
theorem dJ6_numberOfTrailingZeros_0f7a4_23 : decode cJ6_numberOfTrailingZeros_0f7a4 23 = .ok (.if_icmp .le 11, 3) := by decide +kernel
theorem dJ6_numberOfTrailingZeros_0f7a4_26 : decode cJ6_numberOfTrailingZeros_0f7a4 26 = .ok (.iinc 1 16, 3) := by decide +kernel
theorem dJ6_numberOfTrailingZeros_0f7a4_29 : decode cJ6_numberOfTrailingZeros_0f7a4 29 = .ok (.iload_n 0, 1) := by decide +kernel
theorem dJ6_numberOfTrailingZeros_0f7a4_30 : decode cJ6_numberOfTrailingZeros_0f7a4 30 = .ok (.bipush 16, 2) := by decide +kernel
theorem dJ6_numberOfTrailingZeros_0f7a4_32 : decode cJ6_numberOfTrailingZeros_0f7a4 32 = .ok (.iushr, 1) := by decide +kernel
theorem dJ6_numberOfTrailingZeros_0f7a4_33 : decode cJ6_numberOfTrailingZeros_0f7a4 33 = .ok (.istore_n 0, 1) := by decide +kernel
theorem dJ6_numberOfTrailingZeros_0f7a4_34 : decode cJ6_numberOfTrailingZeros_0f7a4 34 = .ok (.iload_n 0, 1) := by decide +kernel
theorem dJ6_numberOfTrailingZeros_0f7a4_35 : decode cJ6_numberOfTrailingZeros_0f7a4 35 = .ok (.sipush 256, 3) := by decide +kernel
theorem dJ6_numberOfTrailingZeros_0f7a4_38 : decode cJ6_numberOfTrailingZeros_0f7a4 38 = .ok (.if_icmp .le 11, 3) := by decide +kernel
theorem dJ6_numberOfTrailingZeros_0f7a4_41 : decode cJ6_numberOfTrailingZeros_0f7a4 41 = .ok (.iinc 1 8, 3) := by decide +kernel
theorem dJ6_numberOfTrailingZeros_0f7a4_44 : decode cJ6_numberOfTrailingZeros_0f7a4 44 = .ok (.iload_n 0, 1) := by decide +kernel
theorem dJ6_numberOfTrailingZeros_0f7a4_45 : decode cJ6_numberOfTrailingZeros_0f7a4 45 = .ok (.bipush 8, 2) := by decide +kernel
theorem dJ6_numberOfTrailingZeros_0f7a4_47 : decode cJ6_numberOfTrailingZeros_0f7a4 47 = .ok (.iushr, 1) := by decide +kernel
theorem dJ6_numberOfTrailingZeros_0f7a4_48 : decode cJ6_numberOfTrailingZeros_0f7a4 48 = .ok (.istore_n 0, 1) := by decide +kernel
theorem dJ6_numberOfTrailingZeros_0f7a4_49 : decode cJ6_numberOfTrailingZeros_0f7a4 49 = .ok (.iload_n 0, 1) := by decide +kernel
theorem dJ6_numberOfTrailingZeros_0f7a4_50 : decode cJ6_numberOfTrailingZeros_0f7a4 50 = .ok (.bipush 16, 2) := by decide +kernel
theorem dJ6_numberOfTrailingZeros_0f7a4_52 : decode cJ6_numberOfTrailingZeros_0f7a4 52 = .ok (.if_icmp .le 10, 3) := by decide +kernel
theorem dJ6_numberOfTrailingZeros_0f7a4_55 : decode cJ6_numberOfTrailingZeros_0f7a4 55 = .ok (.iinc 1 4, 3) := by decide +kernel
theorem dJ6_numberOfTrailingZeros_0f7a4_58 : decode cJ6_numberOfTrailingZeros_0f7a4 58 = .ok (.iload_n 0, 1) := by decide +kernel
theorem dJ6_numberOfTrailingZeros_0f7a4_59 : decode cJ6_numberOfTrailingZeros_0f7a4 59 = .ok (.iconst 4, 1) := by decide +kernel
theorem dJ6_numberOfTrailingZeros_0f7a4_60 : decode cJ6_numberOfTrailingZeros_0f7a4 60 = .ok (.iushr, 1) := by decide +kernel
theorem dJ6_numberOfTrailingZeros_0f7a4_61 : decode cJ6_numberOfTrailingZeros_0f7a4 61 = .ok (.istore_n 0, 1) := by decide +kernel
theorem dJ6_numberOfTrailingZeros_0f7a4_62 : decode cJ6_numberOfTrailingZeros_0f7a4 62 = .ok (.iload_n 0, 1) := by decide +kernel
theorem dJ6_numberOfTrailingZeros_0f7a4_63 : decode cJ6_numberOfTrailingZeros_0f7a4 63 = .ok (.iconst 4, 1) := by decide +kernel
theorem dJ6_numberOfTrailingZeros_0f7a4_64 : decode cJ6_numberOfTrailingZeros_0f7a4 64 = .ok (.if_icmp .le 10, 3) := by decide +kernel
theorem dJ6_numberOfTrailingZeros_0f7a4_67 : decode cJ6_numberOfTrailingZeros_0f7a4 67 = .ok (.iinc 1 2, 3) := by decide +kernel
theorem dJ6_numberOfTrailingZeros_0f7a4_70 : decode cJ6_numberOfTrailingZeros_0f7a4 70 = .ok (.iload_n 0, 1) := by decide +kernel
theorem dJ6_numberOfTrailingZeros_0f7a4_71 : decode cJ6_numberOfTrailingZeros_0f7a4 71 = .ok (.iconst 2, 1) := by decide +kernel
theorem dJ6_numberOfTrailingZeros_0f7a4_72 : decode cJ6_numberOfTrailingZeros_0f7a4 72 = .ok (.iushr, 1) := by decide +kernel
theorem dJ6_numberOfTrailingZeros_0f7a4_73 : decode cJ6_numberOfTrailingZeros_0f7a4 73 = .ok (.istore_n 0, 1) := by decide +kernel
theorem dJ6_numberOfTrailingZeros_0f7a4_74 : decode cJ6_numberOfTrailingZeros_0f7a4 74 = .ok (.iload_n 1, 1) := by decide +kernel
theorem dJ6_numberOfTrailingZeros_0f7a4_75 : decode cJ6_numberOfTrailingZeros_0f7a4 75 = .ok (.iload_n 0, 1) := by decide +kernel
theorem dJ6_numberOfTrailingZeros_0f7a4_76 : decode cJ6_numberOfTrailingZeros_0f7a4 76 = .ok (.iconst 1, 1) := by decide +kernel
theorem dJ6_numberOfTrailingZeros_0f7a4_77 : decode cJ6_numberOfTrailingZeros_0f7a4 77 = .ok (.iushr, 1) := by decide +kernel
theorem dJ6_numberOfTrailingZeros_0f7a4_78 : decode cJ6_numberOfTrailingZeros_0f7a4 78 = .ok (.iadd, 1) := by decide +kernel
theorem dJ6_numberOfTrailingZeros_0f7a4_79 : decode cJ6_numberOfTrailingZeros_0f7a4 79 = .ok (.ireturn, 1) := by decide +kernel
theorem dJ6_bitCount_0f7a4_0 : decode cJ6_bitCount_0f7a4 0 = .ok (.iload_n 0, 1) := by decide +kernel
theorem dJ6_bitCount_0f7a4_1 : decode cJ6_bitCount_0f7a4 1 = .ok (.iload_n 0, 1) := by decide +kernel
theorem dJ6_bitCount_0f7a4_2 : decode cJ6_bitCount_0f7a4 2 = .ok (.iconst 1, 1) := by decide +kernel
theorem dJ6_bitCount_0f7a4_3 : decode cJ6_bitCount_0f7a4 3 = .ok (.iushr, 1) := by decide +kernel
theorem dJ6_bitCount_0f7a4_4 : decode cJ6_bitCount_0f7a4 4 = .ok (.ldc_w 265, 3) := by decide +kernel
theorem dJ6_bitCount_0f7a4_7 : decode cJ6_bitCount_0f7a4 7 = .ok (.iand, 1) := by decide +kernel
theorem dJ6_bitCount_0f7a4_8 : decode cJ6_bitCount_0f7a4 8 = .ok (.isub, 1) := by decide +kernel
theorem dJ6_bitCount_0f7a4_9 : decode cJ6_bitCount_0f7a4 9 = .ok (.istore_n 0, 1) := by decide +kernel
theorem dJ6_bitCount_0f7a4_10 : decode cJ6_bitCount_0f7a4 10 = .ok (.iload_n 0, 1) := by decide +kernel
theorem dJ6_bitCount_0f7a4_11 : decode cJ6_bitCount_0f7a4 11 = .ok (.ldc_w 266, 3) := by decide +kernel
theorem dJ6_bitCount_0f7a4_14 : decode cJ6_bitCount_0f7a4 14 = .ok (.iand, 1) := by decide +kernel
theorem dJ6_bitCount_0f7a4_15 : decode cJ6_bitCount_0f7a4 15 = .ok (.iload_n 0, 1) := by decide +kernel
theorem dJ6_bitCount_0f7a4_16 : decode cJ6_bitCount_0f7a4 16 = .ok (.iconst 2, 1) := by decide +kernel
theorem dJ6_bitCount_0f7a4_17 : decode cJ6_bitCount_0f7a4 17 = .ok (.iushr, 1) := by decide +kernel
theorem dJ6_bitCount_0f7a4_18 : decode cJ6_bitCount_0f7a4 18 = .ok (.ldc_w 266, 3) := by decide +kernel
theorem dJ6_bitCount_0f7a4_21 : decode cJ6_bitCount_0f7a4 21 = .ok (.iand, 1) := by decide +kernel
theorem dJ6_bitCount_0f7a4_22 : decode cJ6_bitCount_0f7a4 22 = .ok (.iadd, 1) := by decide +kernel
theorem dJ6_bitCount_0f7a4_23 : decode cJ6_bitCount_0f7a4 23 = .ok (.istore_n 0, 1) := by decide +kernel
theorem dJ6_bitCount_0f7a4_24 : decode cJ6_bitCount_0f7a4 24 = .ok (.iload_n 0, 1) := by decide +kernel
theorem dJ6_bitCount_0f7a4_25 : decode cJ6_bitCount_0f7a4 25 = .ok (.iload_n 0, 1) := by decide +kernel
theorem dJ6_bitCount_0f7a4_26 : decode cJ6_bitCount_0f7a4 26 = .ok (.iconst 4, 1) := by decide +kernel
theorem dJ6_bitCount_0f7a4_27 : decode cJ6_bitCount_0f7a4 27 = .ok (.iushr, 1) := by decide +kernel
theorem dJ6_bitCount_0f7a4_28 : decode cJ6_bitCount_0f7a4 28 = .ok (.iadd, 1) := by decide +kernel
theorem dJ6_bitCount_0f7a4_29 : decode cJ6_bitCount_0f7a4 29 = .ok (.ldc_w 267, 3) := by decide +kernel
theorem dJ6_bitCount_0f7a4_32 : decode cJ6_bitCount_0f7a4 32 = .ok (.iand, 1) := by decide +kernel
theorem dJ6_bitCount_0f7a4_33 : decode cJ6_bitCount_0f7a4 33 = .ok (.istore_n 0, 1) := by decide +kernel
theorem dJ6_bitCount_0f7a4_34 : decode cJ6_bitCount_0f7a4 34 = .ok (.iload_n 0, 1) := by decide +kernel
theorem dJ6_bitCount_0f7a4_35 : decode cJ6_bitCount_0f7a4 35 = .ok (.iload_n 0, 1) := by decide +kernel
theorem dJ6_bitCount_0f7a4_36 : decode cJ6_bitCount_0f7a4 36 = .ok (.bipush 8, 2) := by decide +kernel
theorem dJ6_bitCount_0f7a4_38 : decode cJ6_bitCount_0f7a4 38 = .ok (.iushr, 1) := by decide +kernel
theorem dJ6_bitCount_0f7a4_39 : decode cJ6_bitCount_0f7a4 39 = .ok (.iadd, 1) := by decide +kernel
theorem dJ6_bitCount_0f7a4_40 : decode cJ6_bitCount_0f7a4 40 = .ok (.istore_n 0, 1) := by decide +kernel
theorem dJ6_bitCount_0f7a4_41 : decode cJ6_bitCount_0f7a4 41 = .ok (.iload_n 0, 1) := by decide +kernel
theorem dJ6_bitCount_0f7a4_42 : decode cJ6_bitCount_0f7a4 42 = .ok (.iload_n 0, 1) := by decide +kernel
theorem dJ6_bitCount_0f7a4_43 : decode cJ6_bitCount_0f7a4 43 = .ok (.bipush 16, 2) := by decide +kernel
theorem dJ6_bitCount_0f7a4_45 : decode cJ6_bitCount_0f7a4 45 = .ok (.iushr, 1) := by decide +kernel
theorem dJ6_bitCount_0f7a4_46 : decode cJ6_bitCount_0f7a4 46 = .ok (.iadd, 1) := by decide +kernel
theorem dJ6_bitCount_0f7a4_47 : decode cJ6_bitCount_0f7a4 47 = .ok (.istore_n 0, 1) := by decide +kernel
theorem dJ6_bitCount_0f7a4_48 : decode cJ6_bitCount_0f7a4 48 = .ok (.iload_n 0, 1) := by decide +kernel
theorem dJ6_bitCount_0f7a4_49 : decode cJ6_bitCount_0f7a4 49 = .ok (.bipush 63, 2) := by decide +kernel
theorem dJ6_bitCount_0f7a4_51 : decode cJ6_bitCount_0f7a4 51 = .ok (.iand, 1) := by decide +kernel
theorem dJ6_bitCount_0f7a4_52 : decode cJ6_bitCount_0f7a4 52 = .ok (.ireturn, 1) := by decide +kernel
theorem dJ13_bitCount_95d88_0 : decode cJ13_bitCount_95d88 0 = .ok (.lload_n 0, 1) := by decide +kernel
theorem dJ13_bitCount_95d88_1 : decode cJ13_bitCount_95d88 1 = .ok (.lload_n 0, 1) := by decide +kernel
theorem dJ13_bitCount_95d88_2 : decode cJ13_bitCount_95d88 2 = .ok (.iconst 1, 1) := by decide +kernel
theorem dJ13_bitCount_95d88_3 : decode cJ13_bitCount_95d88 3 = .ok (.lushr, 1) := by decide +kernel
theorem dJ13_bitCount_95d88_4 : decode cJ13_bitCount_95d88 4 = .ok (.ldc2_w 314, 3) := by decide +kernel
theorem dJ13_bitCount_95d88_7 : decode cJ13_bitCount_95d88 7 = .ok (.land, 1) := by decide +kernel
theorem dJ13_bitCount_95d88_8 : decode cJ13_bitCount_95d88 8 = .ok (.lsub, 1) := by decide +kernel
theorem dJ13_bitCount_95d88_9 : decode cJ13_bitCount_95d88 9 = .ok (.lstore_n 0, 1) := by decide +kernel
theorem dJ13_bitCount_95d88_10 : decode cJ13_bitCount_95d88 10 = .ok (.lload_n 0, 1) := by decide +kernel
theorem dJ13_bitCount_95d88_11 : decode cJ13_bitCount_95d88 11 = .ok (.ldc2_w 316, 3) := by decide +kernel
theorem dJ13_bitCount_95d88_14 : decode cJ13_bitCount_95d88 14 = .ok (.land, 1) := by decide +kernel
theorem dJ13_bitCount_95d88_15 : decode cJ13_bitCount_95d88 15 = .ok (.lload_n 0, 1) := by decide +kernel
theorem dJ13_bitCount_95d88_16 : decode cJ13_bitCount_95d88 16 = .ok (.iconst 2, 1) := by decide +kernel
theorem dJ13_bitCount_95d88_17 : decode cJ13_bitCount_95d88 17 = .ok (.lushr, 1) := by decide +kernel
theorem dJ13_bitCount_95d88_18 : decode cJ13_bitCount_95d88 18 = .ok (.ldc2_w 316, 3) := by decide +kernel
theorem dJ13_bitCount_95d88_21 : decode cJ13_bitCount_95d88 21 = .ok (.land, 1) := by decide +kernel
theorem dJ13_bitCount_95d88_22 : decode cJ13_bitCount_95d88 22 = .ok (.ladd, 1) := by decide +kernel
theorem dJ13_bitCount_95d88_23 : decode cJ13_bitCount_95d88 23 = .ok (.lstore_n 0, 1) := by decide +kernel
theorem dJ13_bitCount_95d88_24 : decode cJ13_bitCount_95d88 24 = .ok (.lload_n 0, 1) := by decide +kernel
theorem dJ13_bitCount_95d88_25 : decode cJ13_bitCount_95d88 25 = .ok (.lload_n 0, 1) := by decide +kernel
theorem dJ13_bitCount_95d88_26 : decode cJ13_bitCount_95d88 26 = .ok (.iconst 4, 1) := by decide +kernel
theorem dJ13_bitCount_95d88_27 : decode cJ13_bitCount_95d88 27 = .ok (.lushr, 1) := by decide +kernel
theorem dJ13_bitCount_95d88_28 : decode cJ13_bitCount_95d88 28 = .ok (.ladd, 1) := by decide +kernel
theorem dJ13_bitCount_95d88_29 : decode cJ13_bitCount_95d88 29 = .ok (.ldc2_w 318, 3) := by decide +kernel
theorem dJ13_bitCount_95d88_32 : decode cJ13_bitCount_95d88 32 = .ok (.land, 1) := by decide +kernel
theorem dJ13_bitCount_95d88_33 : decode cJ13_bitCount_95d88 33 = .ok (.lstore_n 0, 1) := by decide +kernel
theorem dJ13_bitCount_95d88_34 : decode cJ13_bitCount_95d88 34 = .ok (.lload_n 0, 1) := by decide +kernel
theorem dJ13_bitCount_95d88_35 : decode cJ13_bitCount_95d88 35 = .ok (.lload_n 0, 1) := by decide +kernel
theorem dJ13_bitCount_95d88_36 : decode cJ13_bitCount_95d88 36 = .ok (.bipush 8, 2) := by decide +kernel
theorem dJ13_bitCount_95d88_38 : decode cJ13_bitCount_95d88 38 = .ok (.lushr, 1) := by decide +kernel
theorem dJ13_bitCount_95d88_39 : decode cJ13_bitCount_95d88 39 = .ok (.ladd, 1) := by decide +kernel
theorem dJ13_bitCount_95d88_40 : decode cJ13_bitCount_95d88 40 = .ok (.lstore_n 0, 1) := by decide +kernel
theorem dJ13_bitCount_95d88_41 : decode cJ13_bitCount_95d88 41 = .ok (.lload_n 0, 1) := by decide +kernel
theorem dJ13_bitCount_95d88_42 : decode cJ13_bitCount_95d88 42 = .ok (.lload_n 0, 1) := by decide +kernel
theorem dJ13_bitCount_95d88_43 : decode cJ13_bitCount_95d88 43 = .ok (.bipush 16, 2) := by decide +kernel
theorem dJ13_bitCount_95d88_45 : decode cJ13_bitCount_95d88 45 = .ok (.lushr, 1) := by decide +kernel
theorem dJ13_bitCount_95d88_46 : decode cJ13_bitCount_95d88 46 = .ok (.ladd, 1) := by decide +kernel
theorem dJ13_bitCount_95d88_47 : decode cJ13_bitCount_95d88 47 = .ok (.lstore_n 0, 1) := by decide +kernel
theorem dJ13_bitCount_95d88_48 : decode cJ13_bitCount_95d88 48 = .ok (.lload_n 0, 1) := by decide +kernel
theorem dJ13_bitCount_95d88_49 : decode cJ13_bitCount_95d88 49 = .ok (.lload_n 0, 1) := by decide +kernel
theorem dJ13_bitCount_95d88_50 : decode cJ13_bitCount_95d88 50 = .ok (.bipush 32, 2) := by decide +kernel
theorem dJ13_bitCount_95d88_52 : decode cJ13_bitCount_95d88 52 = .ok (.lushr, 1) := by decide +kernel
theorem dJ13_bitCount_95d88_53 : decode cJ13_bitCount_95d88 53 = .ok (.ladd, 1) := by decide +kernel
theorem dJ13_bitCount_95d88_54 : decode cJ13_bitCount_95d88 54 = .ok (.lstore_n 0, 1) := by decide +kernel
theorem dJ13_bitCount_95d88_55 : decode cJ13_bitCount_95d88 55 = .ok (.lload_n 0, 1) := by decide +kernel
theorem dJ13_bitCount_95d88_56 : decode cJ13_bitCount_95d88 56 = .ok (.l2i, 1) := by decide +kernel
theorem dJ13_bitCount_95d88_57 : decode cJ13_bitCount_95d88 57 = .ok (.bipush 127, 2) := by decide +kernel
theorem dJ13_bitCount_95d88_59 : decode cJ13_bitCount_95d88 59 = .ok (.iand, 1) := by decide +kernel
theorem dJ13_bitCount_95d88_60 : decode cJ13_bitCount_95d88 60 = .ok (.ireturn, 1) := by decide +kernel
theorem dJ9_max_f86c9_0 : decode cJ9_max_f86c9 0 = .ok (.lload_n 0, 1) := by decide +kernel
theorem dJ9_max_f86c9_1 : decode cJ9_max_f86c9 1 = .ok (.lload_n 2, 1) := by decide +kernel
theorem dJ9_max_f86c9_2 : decode cJ9_max_f86c9 2 = .ok (.lcmp, 1) := by decide +kernel
theorem dJ9_max_f86c9_3 : decode cJ9_max_f86c9 3 = .ok (.ifCond .lt 7, 3) := by decide +kernel
theorem dJ9_max_f86c9_6 : decode cJ9_max_f86c9 6 = .ok (.lload_n 0, 1) := by decide +kernel
theorem dJ9_max_f86c9_7 : decode cJ9_max_f86c9 7 = .ok (.goto 4, 3) := by decide +kernel
theorem dJ9_max_f86c9_10 : decode cJ9_max_f86c9 10 = .ok (.lload_n 2, 1) := by decide +kernel
theorem dJ9_max_f86c9_11 : decode cJ9_max_f86c9 11 = .ok (.lreturn, 1) := by decide +kernel
theorem dJ9_min_f86c9_0 : decode cJ9_min_f86c9 0 = .ok (.lload_n 0, 1) := by decide +kernel
theorem dJ9_min_f86c9_1 : decode cJ9_min_f86c9 1 = .ok (.lload_n 2, 1) := by decide +kernel
theorem dJ9_min_f86c9_2 : decode cJ9_min_f86c9 2 = .ok (.lcmp, 1) := by decide +kernel
theorem dJ9_min_f86c9_3 : decode cJ9_min_f86c9 3 = .ok (.ifCond .gt 7, 3) := by decide +kernel
theorem dJ9_min_f86c9_6 : decode cJ9_min_f86c9 6 = .ok (.lload_n 0, 1) := by decide +kernel
theorem dJ9_min_f86c9_7 : decode cJ9_min_f86c9 7 = .ok (.goto 4, 3) := by decide +kernel
theorem dJ9_min_f86c9_10 : decode cJ9_min_f86c9 10 = .ok (.lload_n 2, 1) := by decide +kernel
theorem dJ9_min_f86c9_11 : decode cJ9_min_f86c9 11 = .ok (.lreturn, 1) := by decide +kernel
theorem dJ7_fill_d0a16_0 : decode cJ7_fill_d0a16 0 = .ok (.iconst 0, 1) := by decide +kernel
theorem dJ7_fill_d0a16_1 : decode cJ7_fill_d0a16 1 = .ok (.istore_n 3, 1) := by decide +kernel
theorem dJ7_fill_d0a16_2 : decode cJ7_fill_d0a16 2 = .ok (.aload_n 0, 1) := by decide +kernel
theorem dJ7_fill_d0a16_3 : decode cJ7_fill_d0a16 3 = .ok (.arraylength, 1) := by decide +kernel
theorem dJ7_fill_d0a16_4 : decode cJ7_fill_d0a16 4 = .ok (.istore 4, 2) := by decide +kernel
theorem dJ7_fill_d0a16_6 : decode cJ7_fill_d0a16 6 = .ok (.iload_n 3, 1) := by decide +kernel
theorem dJ7_fill_d0a16_7 : decode cJ7_fill_d0a16 7 = .ok (.iload 4, 2) := by decide +kernel
theorem dJ7_fill_d0a16_9 : decode cJ7_fill_d0a16 9 = .ok (.if_icmp .ge 13, 3) := by decide +kernel
theorem dJ7_fill_d0a16_12 : decode cJ7_fill_d0a16 12 = .ok (.aload_n 0, 1) := by decide +kernel
theorem dJ7_fill_d0a16_13 : decode cJ7_fill_d0a16 13 = .ok (.iload_n 3, 1) := by decide +kernel
theorem dJ7_fill_d0a16_14 : decode cJ7_fill_d0a16 14 = .ok (.lload_n 1, 1) := by decide +kernel
theorem dJ7_fill_d0a16_15 : decode cJ7_fill_d0a16 15 = .ok (.lastore, 1) := by decide +kernel
theorem dJ7_fill_d0a16_16 : decode cJ7_fill_d0a16 16 = .ok (.iinc 3 1, 3) := by decide +kernel
theorem dJ7_fill_d0a16_19 : decode cJ7_fill_d0a16 19 = .ok (.goto (-13), 3) := by decide +kernel
theorem dJ7_fill_d0a16_22 : decode cJ7_fill_d0a16 22 = .ok (.return_, 1) := by decide +kernel
theorem dJ7_fill_53178_0 : decode cJ7_fill_53178 0 = .ok (.iconst 0, 1) := by decide +kernel
theorem dJ7_fill_53178_1 : decode cJ7_fill_53178 1 = .ok (.istore_n 2, 1) := by decide +kernel
theorem dJ7_fill_53178_2 : decode cJ7_fill_53178 2 = .ok (.aload_n 0, 1) := by decide +kernel
theorem dJ7_fill_53178_3 : decode cJ7_fill_53178 3 = .ok (.arraylength, 1) := by decide +kernel
theorem dJ7_fill_53178_4 : decode cJ7_fill_53178 4 = .ok (.istore_n 3, 1) := by decide +kernel
theorem dJ7_fill_53178_5 : decode cJ7_fill_53178 5 = .ok (.iload_n 2, 1) := by decide +kernel
theorem dJ7_fill_53178_6 : decode cJ7_fill_53178 6 = .ok (.iload_n 3, 1) := by decide +kernel
theorem dJ7_fill_53178_7 : decode cJ7_fill_53178 7 = .ok (.if_icmp .ge 13, 3) := by decide +kernel
theorem dJ7_fill_53178_10 : decode cJ7_fill_53178 10 = .ok (.aload_n 0, 1) := by decide +kernel
theorem dJ7_fill_53178_11 : decode cJ7_fill_53178 11 = .ok (.iload_n 2, 1) := by decide +kernel
theorem dJ7_fill_53178_12 : decode cJ7_fill_53178 12 = .ok (.iload_n 1, 1) := by decide +kernel
theorem dJ7_fill_53178_13 : decode cJ7_fill_53178 13 = .ok (.iastore, 1) := by decide +kernel
theorem dJ7_fill_53178_14 : decode cJ7_fill_53178 14 = .ok (.iinc 2 1, 3) := by decide +kernel
theorem dJ7_fill_53178_17 : decode cJ7_fill_53178 17 = .ok (.goto (-12), 3) := by decide +kernel
theorem dJ7_fill_53178_20 : decode cJ7_fill_53178 20 = .ok (.return_, 1) := by decide +kernel
end
section
/-! my own rows: a contract whose answer and world are told outright (a pure function of the text decides them), and what a call of it gives -/
def zk_nw : List Cond := [.fieldLinkNest "SayingsMerged" 66 "SayingsMerged$Text" "length" "I" "SayingsMerged", .fieldLinkNest "SayingsMerged$Reader" 102 "SayingsMerged$Text" "tokens" "[I" "SayingsMerged", .fieldLinkNest "SayingsMerged$Reader" 93 "SayingsMerged$Text" "places" "[I" "SayingsMerged", .fieldLinkNest "SayingsMerged" 82 "SayingsMerged$Reader" "fault" "I" "SayingsMerged", .fieldLinkNest "SayingsMerged" 91 "SayingsMerged$Told" "laws" "I" "SayingsMerged", .fieldLinkNest "SayingsMerged$Reader" 49 "SayingsMerged$Told" "laws" "I" "SayingsMerged", .fieldLinkNest "SayingsMerged" 101 "SayingsMerged$Told" "there" "J" "SayingsMerged", .fieldLinkNest "SayingsMerged" 94 "SayingsMerged$Told" "sayers" "I" "SayingsMerged", .fieldLinkNest "SayingsMerged$Reader" 59 "SayingsMerged$Told" "sayers" "I" "SayingsMerged", .fieldLinkNest "SayingsMerged" 108 "SayingsMerged$Told" "says" "[J" "SayingsMerged", .fieldLinkNest "SayingsMerged" 212 "SayingsMerged$Told" "weights" "[I" "SayingsMerged", .fieldLinkNest "SayingsMerged" 111 "SayingsMerged$Distances" "costs" "[I" "SayingsMerged", .fieldLinkNest "SayingsMerged" 115 "SayingsMerged$Distances" "alike" "Z" "SayingsMerged", .fieldLinkNest "SayingsMerged" 122 "SayingsMerged$Distances" "lengths" "[I" "SayingsMerged", .methodLinkNest "SayingsMerged$Text" 42 yX4_isLetter "SayingsMerged", .methodLinkNest "SayingsMerged$Reader" 85 yX4_isLetter "SayingsMerged", .fieldLinkNest "SayingsMerged$Reader" 89 "SayingsMerged" "LETTER_SO" "[J" "SayingsMerged", .methodLinkNest "SayingsMerged$Distances" 42 yX4_isIn "SayingsMerged"]
def zk_isN (w : Cond) : Bool := match w with
  | .fieldLinkNest .. => true
  | .methodLinkNest .. => true
  | _ => false
theorem zk_nw_is : ∀ w ∈ zk_nw, zk_isN w = true := by decide +kernel
theorem zk_warm {w : Cond} (h : zk_isN w = true) {s U : State} (hW : s.WarmedH U.vm) (hZ : va_Nw w s) : va_Nw w U := by
  cases w <;> first | exact va_Nw.warmF hW hZ | exact va_Nw.warmM hW hZ | (simp [zk_isN] at h)
theorem zk_same {w : Cond} (h : zk_isN w = true) {u U : State} (hv : u.vm = U.vm) (hZ : va_Nw w u) : va_Nw w U := by
  cases w <;> first | exact va_Nw.same rfl hv hZ | (simp [zk_isN] at h)
/-- the two static arrays -/
def zk_LS : Nat → Int64 := fun j => match j with
  | 0 => -6148914691236517206
  | 1 => -3689348814741910324
  | 2 => -1085102592571150096
  | 3 => -71777214294589696
  | 4 => -281470681808896
  | _ => -4294967296
def zk_OR : Nat → Int32 := fun j => match j with
  | 0 => 1
  | 1 => 1
  | 2 => 2
  | 3 => 6
  | 4 => 24
  | 5 => 120
  | 6 => 720
  | _ => 5040
theorem zk_AOA.moved {ty : FieldType} {u U : State} (hvm : u.vm.Alike U.vm) (h : zk_AOA ty u) : zk_AOA ty U := by
  obtain ⟨comp, c, k, h1, h2, h3, h4, h5⟩ := Jvm.Stand.arrayOver_specB h
  obtain ⟨k', hk', he⟩ := hvm.2.2 _ _ h3
  have hi : (U.vm.classes.findIdx? fun (x : Class) => match x.kind with | .array component _ => component == comp | _ => false) = some c := by
    refine (va_idx_bare U.vm comp).symm.trans ?_
    have hbb : U.vm.bare = u.vm.bare := by first | exact hvm.bare_eq | exact hvm.bare_eq.symm
    rw [hbb]
    exact (va_idx_bare u.vm comp).trans h2
  have hkind : k'.kind = .array comp (.array ty) := by rw [he]; exact h4
  have f1 : U.vm.findClass (FieldType.array ty).toString = some comp := by rw [hvm.findClass]; exact h1
  have f2 : U.vm.findClass ("[" ++ (FieldType.array ty).toString) = some c := by rw [hvm.findClass]; exact h5
  unfold zk_AOA Cond.before Cond.holds
  simp only [Cond.value]
  rw [f1, Option.bind_some]
  refine (congrArg (fun o : Option Nat => (o.bind (fun c => (U.vm.classes[c]?).map fun (k : Class) => match k.kind with | .array _ t => decide (t = FieldType.array ty) && decide (U.vm.findClass ("[" ++ (FieldType.array ty).toString) = some c) | _ => false) == some true)) hi).trans ?_
  simp [hk', hkind, f2]
def zk_G (tL tO : Nat) (A : Nat → Prop) (U : State) (H : Heap) : Prop :=
  (∀ w ∈ zk_nw, va_Nw w U) ∧ va_Z "SayingsMerged" "LETTER_SO" "[J" (.ref tL) A U H ∧ va_T .long tL 6 (fun j => .long (zk_LS j)) A U H ∧ va_Z "SayingsMerged" "ORDERS" "[I" (.ref tO) A U H ∧ va_T .int tO 8 (fun j => .int (zk_OR j)) A U H ∧ zk_AOA .long U
theorem zk_G.pass {tL tO : Nat} {A B : Nat → Prop} {s U : State} {H : Heap} {locs : List Loc} (h : zk_G tL tO A s s.heap) (hS : va_S A s.heap H locs) (hBA : ∀ q, B q → A q) (hU : U.heap = H) (hW : s.WarmedH U.vm) : zk_G tL tO B U U.heap := by
  obtain ⟨h1, h2, h3, h4, h5, h6⟩ := h
  rw [hU]
  have hk : ∀ a : Nat, a < s.heap.size → ¬ A a → H[a]? = s.heap[a]? := hS.2.1
  exact ⟨fun w hw => zk_warm (zk_nw_is w hw) hW (h1 w hw), ((h2.kept hk).narrow hBA).moved hW.alike, ((h3.kept hk).narrow hBA).moved hW.alike, ((h4.kept hk).narrow hBA).moved hW.alike, ((h5.kept hk).narrow hBA).moved hW.alike, h6.moved hW.alike⟩
abbrev zk_R (f n : Nat) : Room := { frames := f, cells := 0, slots := 0, locals := n }
abbrev zk_ty (cI cJ cB cQ : ClassId) : List (ClassId × FieldType) := [(cI, .int), (cJ, .long), (cB, .byte), (cQ, .array .long)]
def zk_Pc (D : va_G) (tL tO : Nat) (tys : List (ClassId × FieldType)) (av : List Value) (wc : va_W) (sz : Nat) : Array Value → State → Prop :=
  va_Pc av (fun U => U.heap.size = sz ∧ va_P D vwCl wc U.heap ∧ va_K D vwCl tys U ∧ va_D (fun _ => True) wc ∧ zk_G tL tO (va_A wc sz) U U.heap)
def zk_Qc (D : va_G) (rv : Option Value) (wc w1 : va_W) (sz : Nat) : Array Value → State → Outcome → State → Prop :=
  fun _ st oc t => (oc = .returned rv ∧ va_P D vwCl w1 t.heap ∧ va_D (va_A wc sz) w1) ∧ va_F (va_A wc sz) st t
/-- the contract: with these arguments over the cells wc it answers rv, and the cells are w1; nothing is made -/
def zk_CT (l : Launch) (D : va_G) (tL tO : Nat) (tys : List (ClassId × FieldType)) (y : MethodName) (ws : List Cond) (f n : Nat) (av : List Value) (rv : Option Value) (wc w1 : va_W) : Prop :=
  ∀ sz : Nat, Met l y ws (zk_R f n) (zk_Pc D tL tO tys av wc sz) (zk_Qc D rv wc w1 sz) 0 0 (va_A wc sz)
theorem zk_blind {D : va_G} {tL tO : Nat} {tys : List (ClassId × FieldType)} {av : List Value} {wc : va_W} {sz : Nat} : FrameBlind (zk_Pc D tL tO tys av wc sz) := by
  intro a U g mk q
  obtain ⟨q0, q1, qP, qK, qD, g1, g2, g3, g4, g5, g6⟩ := q
  refine ⟨q0, q1, qP, va_K.moved (u := U) (U := U.calling g mk a) (Vm.Alike.refl U.vm) qK, qD, fun w hw => zk_same (u := U) (U := U.calling g mk a) (zk_nw_is w hw) rfl (g1 w hw), ?_, ?_, ?_, ?_, ?_⟩
  · exact g2.moved (U := U.calling g mk a) (Vm.Alike.refl U.vm)
  · exact g3.moved (U := U.calling g mk a) (Vm.Alike.refl U.vm)
  · exact g4.moved (U := U.calling g mk a) (Vm.Alike.refl U.vm)
  · exact g5.moved (U := U.calling g mk a) (Vm.Alike.refl U.vm)
  · exact g6.moved (U := U.calling g mk a) (Vm.Alike.refl U.vm)
theorem zk_sub {D : va_G} {cl : List vw_C} {ws ws' : va_W} {H : Heap} (h : va_P D cl ws H) (is : List Nat) (hs : is.map (fun i => ws[i]?) = ws'.map some) : va_P D cl ws' H := by
  intro k q hk
  have h1 : (is.map (fun i => ws[i]?))[k]? = some (some q) := by rw [hs, List.getElem?_map, hk]; rfl
  rw [List.getElem?_map] at h1
  cases hi : is[k]? with
  | none => rw [hi] at h1; cases h1
  | some i => rw [hi] at h1; exact h i q (Option.some.inj h1)
/-- the pure words -/
def zk_gd {α : Type} (b : Bool) (k : Option α) : Option α := match b with
  | true => k
  | false => none
theorem zk_gd_s {α : Type} {b : Bool} {k : Option α} {z : α} (h : zk_gd b k = some z) : b = true ∧ k = some z := by
  cases b with
  | true => exact ⟨rfl, h⟩
  | false => cases h
theorem zk_gd_t {α : Type} (k : Option α) : zk_gd true k = k := rfl
theorem zk_ob {α β : Type} {o : Option α} {g : α → Option β} {z : β} (h : o.bind g = some z) : ∃ v, o = some v ∧ g v = some z := by
  cases o with
  | none => cases h
  | some v => exact ⟨v, rfl, h⟩
def zk_lt {α β : Type} (a : α) (k : α → Option β) : Option β := k a
theorem zk_lt_s {α β : Type} {a : α} {k : α → Option β} {z : β} (h : zk_lt a k = some z) : ∃ x, x = a ∧ k x = some z := ⟨a, rfl, h⟩
theorem zk_t {α : Type} {c : Prop} [Decidable c] {a b : Option α} {z : α} (h : c) (hf : (if c then a else b) = some z) : a = some z := by rwa [if_pos h] at hf
theorem zk_f {α : Type} {c : Prop} [Decidable c] {a b : Option α} {z : α} (h : ¬ c) (hf : (if c then a else b) = some z) : b = some z := by rwa [if_neg h] at hf
def zk_in (i : Int32) (n : Nat) : Bool := decide (0 ≤ i.toInt) && decide (i.toInt < (n : Int))
theorem zk_in_s {i : Int32} {n : Nat} (h : zk_in i n = true) : vp_in i n := by
  simp only [zk_in, Bool.and_eq_true, decide_eq_true_eq] at h
  exact vp_in_iff.mpr h
theorem zk_in_of {i : Int32} {n : Nat} (h : 0 ≤ i.toInt) (h2 : i.toInt < (n : Int)) : zk_in i n = true := by
  simp only [zk_in, Bool.and_eq_true, decide_eq_true_eq]
  exact ⟨h, h2⟩
def zk_nz (i : Int32) : Bool := decide (¬ i = 0)
theorem zk_nz_s {i : Int32} (h : zk_nz i = true) : ¬ i = 0 := of_decide_eq_true h
/-- a number that is a truth value -/
def zk_b (i : Int32) : Bool := decide (i = 0 ∨ i = 1)
theorem zk_b_s {i : Int32} (h : zk_b i = true) : narrow .boolean (.int i) = .int i ∧ fits .boolean (.int i) = true := by
  have h2 : i = 0 ∨ i = 1 := of_decide_eq_true h
  rcases h2 with rfl | rfl
  · exact ⟨rfl, rfl⟩
  · exact ⟨rfl, rfl⟩
/-- seven places -/
theorem zk_7 {P : Nat → Prop} (h0 : P 0) (h1 : P 1) (h2 : P 2) (h3 : P 3) (h4 : P 4) (h5 : P 5) (h6 : P 6) : ∀ j : Nat, j < 7 → P j := by
  intro j hj
  match j, hj with
  | 0, _ => exact h0
  | 1, _ => exact h1
  | 2, _ => exact h2
  | 3, _ => exact h3
  | 4, _ => exact h4
  | 5, _ => exact h5
  | 6, _ => exact h6
  | n + 7, hj => exact absurd hj (by omega)
section ZKW
variable {p : Program} {l : Launch} {e : Env} {R : Room} {s : State} {m : MethodId} {args : Array Value} {below : List Frame} {meth : Method} {c : Code} {H : Heap} {locs : List Loc} {cells slots : Nat} {Q : State → Prop}
variable {cc : ByteArray} {pc nL : Nat} {ls : Array Slot} {rest st0 : List Value} {D : va_G} {A : Nat → Prop} {ws wc wr w1 w2 : va_W} {rv : Option Value} {a : Array Value}
theorem zk_topi {x y : Int32} (h : y = x) (k : W p l e R s m args below meth c H locs cells slots Q (F0 m pc ls (.int y :: rest))) : W p l e R s m args below meth c H locs cells slots Q (F0 m pc ls (.int x :: rest)) := h ▸ k
theorem zk_topl {x y : Int64} (h : y = x) (k : W p l e R s m args below meth c H locs cells slots Q (F0 m pc ls (.long y :: rest))) : W p l e R s m args below meth c H locs cells slots Q (F0 m pc ls (.long x :: rest)) := h ▸ k
/-- behind a call: the cells put together anew, in the order asked for -/
theorem zk_go (hr : va_Run p l e R s m args below meth c H locs cells slots 0 0 (F0 m pc ls st0) rest (zk_Qc D rv wc w1 H.size a) (va_A wc H.size)) (hP : va_P D vwCl ws H) (hD : va_D A ws) (hS : va_S A s.heap H locs) (hA : ∀ q, s.heap.size ≤ q → A q) (isC isR isP : List Nat)
    (hC : isC.map (fun i => ws[i]?) = wc.map some) (hR : isR.map (fun i => ws[i]?) = wr.map some) (hn : va_nd isR = true) (hdis : ∀ i ∈ isR, i ∉ isC) (hp : isP.map (fun i => (wr ++ w1)[i]?) = w2.map some) (hnp : va_nd isP = true)
    (kk : ∀ (H1 : Heap) (locs1 : List Loc), va_P D vwCl w2 H1 → va_D A w2 → va_S A s.heap H1 locs1 → W p l e R s m args below meth c H1 locs1 cells slots Q (F0 m (pc + 3) ls (rv.toList ++ rest))) : W p l e R s m args below meth c H locs cells slots Q (F0 m pc ls st0) := by
  have hFc := va_free hD hS hA isC hC
  intro T hT X
  obtain ⟨v, st₀, t, T', L, h0, X', hL, e1, e2, ⟨⟨hv, hP1, hD1⟩, hz, hk⟩, st⟩ := hr T hT X
  cases hv
  rw [h0] at hz hk
  have hj := va_join (wr := wr) (w1 := w1) hP hD isC isR hC hR hn hdis hk hFc hP1 hD1
  have hS1 : va_S A s.heap t.heap (locs ++ L) := ⟨Nat.le_trans hS.1 hz, fun q h1 h2 => by rw [hk q (Nat.lt_of_lt_of_le h1 hS.1) (fun z => h2 (hFc q z))]; exact hS.2.1 q h1 h2, fun q hq => by
      rcases List.mem_append.mp hq with h | h
      · exact hS.2.2 q h
      · exact hFc _ (hL q h)⟩
  obtain ⟨t2, a1, b1⟩ := kk t.heap (locs ++ L) (zk_sub hj.1 isP hp) (hj.2.sub isP hnp hp) hS1 T' e1 X'
  exact ⟨t2, st t2 a1, b1⟩
/-- behind a call that leaves its cells as they were -/
theorem zk_goR (hr : va_Run p l e R s m args below meth c H locs cells slots 0 0 (F0 m pc ls st0) rest (zk_Qc D rv wc wc H.size a) (va_A wc H.size)) (hP : va_P D vwCl ws H) (hD : va_D A ws) (hS : va_S A s.heap H locs) (hA : ∀ q, s.heap.size ≤ q → A q) (isC : List Nat)
    (hC : isC.map (fun i => ws[i]?) = wc.map some)
    (kk : ∀ (H1 : Heap) (locs1 : List Loc), va_P D vwCl ws H1 → va_S A s.heap H1 locs1 → W p l e R s m args below meth c H1 locs1 cells slots Q (F0 m (pc + 3) ls (rv.toList ++ rest))) : W p l e R s m args below meth c H locs cells slots Q (F0 m pc ls st0) := by
  have hFc := va_free hD hS hA isC hC
  intro T hT X
  obtain ⟨v, st₀, t, T', L, h0, X', hL, e1, e2, ⟨⟨hv, hP1, hD1⟩, hz, hk⟩, st⟩ := hr T hT X
  cases hv
  rw [h0] at hz hk
  have hP2 : va_P D vwCl ws t.heap := by
    intro k q hq
    have hlt := (hP k q hq).lt
    by_cases hin : va_A wc H.size q.1
    · rcases hin with ⟨j, e9, hj⟩ | hbig
      · have h1 : (isC.map (fun i => ws[i]?))[j]? = some (some (q.1, e9)) := by rw [hC, List.getElem?_map, hj]; rfl
        rw [List.getElem?_map] at h1
        cases hi : isC[j]? with
        | none => rw [hi] at h1; cases h1
        | some i =>
          rw [hi] at h1
          have h2 : ws[i]? = some (q.1, e9) := Option.some.inj h1
          have hik := hD.1 i k _ q h2 hq rfl
          subst hik
          have h3 : q = (q.1, e9) := Option.some.inj (hq.symm.trans h2)
          rw [h3]
          exact hP1 j _ hj
      · exact absurd hlt (Nat.not_lt.mpr hbig)
    · exact (hP k q hq).kept (hk q.1 hlt hin)
  have hS1 : va_S A s.heap t.heap (locs ++ L) := ⟨Nat.le_trans hS.1 hz, fun q h1 h2 => by rw [hk q (Nat.lt_of_lt_of_le h1 hS.1) (fun z => h2 (hFc q z))]; exact hS.2.1 q h1 h2, fun q hq => by
      rcases List.mem_append.mp hq with h | h
      · exact hS.2.2 q h
      · exact hFc _ (hL q h)⟩
  obtain ⟨t2, a1, b1⟩ := kk t.heap (locs ++ L) hP2 hS1 T' e1 X'
  exact ⟨t2, st t2 a1, b1⟩
end ZKW
section ZKC
variable {p : Program} {l : Launch} {e : Env} {R : Room} {s : State} {m : MethodId} {args : Array Value} {below : List Frame} {meth : Method} {c : Code} {H : Heap} {locs : List Loc} {cells slots : Nat} {Q : State → Prop}
variable {cc : ByteArray} {pc nL : Nat} {ls : Array Slot} {rest st0 : List Value} {D : va_G} {A : Nat → Prop} {ws wc wr w1 w2 : va_W} {rv : Option Value} {tL tO : Nat} {tys : List (ClassId × FieldType)}
variable {own C host : String} {index f n k maxL b q0 ci : Nat} {y : MethodName} {bytes : ByteArray} {ret : Option FieldType} {ws2 ws2' Ts : List Cond} {fs As : List Value} {qc : vw_C}
theorem zk_pre {av : List Value} (hPc : va_P D vwCl wc H) (hDc : va_D (fun _ => True) wc) (hK : va_K D vwCl tys s) (hG : zk_G tL tO A s s.heap) (hS : va_S A s.heap H locs) (hFc : ∀ q, va_A wc H.size q → A q) : ∀ U : State, U.heap = H → s.WarmedH U.vm → zk_Pc D tL tO tys av wc H.size av.toArray U :=
  fun U hU hW => ⟨rfl, by rw [hU], by rw [hU]; exact hPc, va_K.moved hW.alike hK, hDc, hG.pass hS hFc hU hW⟩
theorem zk_V (hx : p.tables.exec = Jvm.exec) (hb : c.code = cc) (hml : c.maxLocals = nL) (hown : s.vm.findClass own = some m.cls) (hts : ∀ w ∈ Ts, w.before args s = true) (hK : va_K D vwCl tys s) (hG : zk_G tL tO A s s.heap) (hP : va_P D vwCl ws H) (hD : va_D A ws) (hS : va_S A s.heap H locs) (hA : ∀ q, s.heap.size ≤ q → A q)
    (hT : GoodIn Ts (wsV own index C y ws2)) (hw : ws2 = Cond.code y bytes maxL ret :: ws2') (hd : y.cls = C ∧ y.cls ≠ "java/lang/invoke/MethodHandle" ∧ y.cls ≠ "java/lang/invoke/VarHandle" ∧ (parseMethodDescriptor y.desc).map (fun d => d.parameters.length) = some k) (hRf : f + 1 ≤ R.frames) (hRl : 8 + (maxL + 11) + n ≤ R.locals) (hcs : cells ≤ R.cells ∧ slots ≤ R.slots)
    (hM : zk_CT l D tL tO tys y ws2 f n (.ref b :: As) rv wc w1) (hq : vwCl[ci]? = some qc) (hqC : qc.1 = C) (q0 : Nat) (he : ws[q0]? = some (b, .inr (ci, fs))) (hls : ls.size = nL) (hst : st0 = As.reverse ++ .ref b :: rest) (hn : As.length = k) (hW : (rest.map fun v => v.category).sum ≤ 8) (hdg : decode cc pc = .ok (.invokevirtual index, 3))
    (isC : List Nat) (hC : isC.map (fun i => ws[i]?) = wc.map some) (hnC : va_nd isC = true) : va_Run p l e R s m args below meth c H locs cells slots 0 0 (F0 m pc ls st0) rest (zk_Qc D rv wc w1 H.size (Value.ref b :: As).toArray) (va_A wc H.size) := by
  have hFc := va_free hD hS hA isC hC
  subst hst
  have hrc := va_recv hK hP hq he
  rw [hqC] at hrc
  exact va_runV ⟨hx, hb, hml, hown, hts⟩ (hM H.size) (cwV k hts hT hw rfl rfl hd ⟨hRf, hRl⟩) ⟨zk_blind, hrc, zk_pre (zk_sub hP isC hC) ((hD.sub isC hnC hC).weaken (fun _ _ _ _ => trivial)) hK hG hS hFc⟩ rfl hn hls rfl (lv_room hW) hdg hcs
theorem zk_S (hx : p.tables.exec = Jvm.exec) (hb : c.code = cc) (hml : c.maxLocals = nL) (hown : s.vm.findClass own = some m.cls) (hts : ∀ w ∈ Ts, w.before args s = true) (hK : va_K D vwCl tys s) (hG : zk_G tL tO A s s.heap) (hP : va_P D vwCl ws H) (hD : va_D A ws) (hS : va_S A s.heap H locs) (hA : ∀ q, s.heap.size ≤ q → A q)
    (hT : GoodIn Ts (va_wsS own index y ws2)) (hw : ws2 = Cond.code y bytes maxL ret :: ws2') (hd : y.cls ≠ "java/lang/invoke/MethodHandle" ∧ y.cls ≠ "java/lang/invoke/VarHandle" ∧ (parseMethodDescriptor y.desc).map (fun d => d.parameters.length) = some k) (hRf : f + 1 ≤ R.frames) (hRl : 8 + (maxL + 11) + n ≤ R.locals) (hcs : cells ≤ R.cells ∧ slots ≤ R.slots)
    (hM : zk_CT l D tL tO tys y ws2 f n As rv wc w1) (hls : ls.size = nL) (hst : st0 = As.reverse ++ rest) (hn : As.length = k) (hW : (rest.map fun v => v.category).sum ≤ 8) (hdg : decode cc pc = .ok (.invokestatic index, 3))
    (isC : List Nat) (hC : isC.map (fun i => ws[i]?) = wc.map some) (hnC : va_nd isC = true) : va_Run p l e R s m args below meth c H locs cells slots 0 0 (F0 m pc ls st0) rest (zk_Qc D rv wc w1 H.size As.toArray) (va_A wc H.size) := by
  have hFc := va_free hD hS hA isC hC
  subst hst
  exact va_runS ⟨hx, hb, hml, hown, hts⟩ (hM H.size) (va_cwS k hts hT hw rfl rfl hd ⟨hRf, hRl⟩) ⟨zk_blind, zk_pre (zk_sub hP isC hC) ((hD.sub isC hnC hC).weaken (fun _ _ _ _ => trivial)) hK hG hS hFc⟩ rfl hn hls rfl (lv_room hW) hdg hcs
theorem zk_SN (hx : p.tables.exec = Jvm.exec) (hb : c.code = cc) (hml : c.maxLocals = nL) (hown : s.vm.findClass own = some m.cls) (hts : ∀ w ∈ Ts, w.before args s = true) (hK : va_K D vwCl tys s) (hG : zk_G tL tO A s s.heap) (hP : va_P D vwCl ws H) (hD : va_D A ws) (hS : va_S A s.heap H locs) (hA : ∀ q, s.heap.size ≤ q → A q)
    (hT : GoodIn Ts ws2) (hnw : Cond.methodLinkNest own index y host ∈ zk_nw) (hst0 : (Cond.static y).before args s = true) (hini : (Cond.initialized y.cls).before args s = true) (hw : ws2 = Cond.code y bytes maxL ret :: ws2') (hd : y.cls ≠ "java/lang/invoke/MethodHandle" ∧ y.cls ≠ "java/lang/invoke/VarHandle" ∧ (parseMethodDescriptor y.desc).map (fun d => d.parameters.length) = some k) (hRf : f + 1 ≤ R.frames) (hRl : 8 + (maxL + 11) + n ≤ R.locals) (hcs : cells ≤ R.cells ∧ slots ≤ R.slots)
    (hM : zk_CT l D tL tO tys y ws2 f n As rv wc w1) (hls : ls.size = nL) (hst : st0 = As.reverse ++ rest) (hn : As.length = k) (hW : (rest.map fun v => v.category).sum ≤ 8) (hdg : decode cc pc = .ok (.invokestatic index, 3))
    (isC : List Nat) (hC : isC.map (fun i => ws[i]?) = wc.map some) (hnC : va_nd isC = true) : va_Run p l e R s m args below meth c H locs cells slots 0 0 (F0 m pc ls st0) rest (zk_Qc D rv wc w1 H.size As.toArray) (va_A wc H.size) := by
  have hFc := va_free hD hS hA isC hC
  subst hst
  exact va_runSN ⟨hx, hb, hml, hown, hts⟩ (hM H.size) ⟨va_cnB k hts hT hw rfl rfl (hG.1 _ hnw) hini hd ⟨hRf, hRl⟩, hst0, trivial⟩ ⟨zk_blind, zk_pre (zk_sub hP isC hC) ((hD.sub isC hnC hC).weaken (fun _ _ _ _ => trivial)) hK hG hS hFc⟩ rfl hn hls rfl (lv_room hW) hdg hcs
/-- a row of an array of arrays -/
theorem zk_aald (hexec : p.tables.exec = Jvm.exec) (hb : c.code = cc) (hK : va_K D vwCl tys s) (hP : va_P D vwCl ws H) (q0 t0 : Nat) {a : Nat} {cA : ClassId} {N : Nat} {r : Nat → Nat} (ha : ws[q0]? = some (a, .inl (cA, N, .inr (.inr (.inr (.inr (fun i => if i < N then some (r i) else none))))))) (ht : tys[t0]? = some (cA, .array .long)) {i : Int32} (hin : vp_in i N) (hdg : decode cc pc = .ok (.aaload, 1))
    (kk : W p l e R s m args below meth c H locs cells slots Q (F0 m (pc + 1) ls (.ref (r i.toNatClampNeg) :: rest))) : W p l e R s m args below meth c H locs cells slots Q (F0 m pc ls (.int i :: .ref a :: rest)) := by
  have hlt : i.toNatClampNeg < N := Nat.not_le.mp fun q => hin (Or.inr q)
  exact W.aald (v := .ref (r i.toNatClampNeg)) (ty := .array .long) hexec hb (hP q0 _ ha) ((hK.2 t0 _ ht).1 N (fun j => va_rf (if j < N then some (r j) else none))) rfl (fun q => by cases q) (by show ¬ (i < 0 ∨ (arrV _ _ _).slots.size ≤ _); rw [arrV_size]; exact hin) (by show (arrV _ _ _).slots[_]? = _; rw [arrV_read _ _ hlt]; simp [va_rf, hlt]) rfl rfl hdg kk
end ZKC
section ZKM
variable {l : Launch} {D : va_G} {tL tO : Nat} {tys : List (ClassId × FieldType)} {y : MethodName} {ws ws' : List Cond} {f n maxL : Nat} {av : List Value} {wc w1 : va_W} {cc : ByteArray}
/-- a method's body, out of its entry: the ambient facts, and how it ends -/
def zk_Body (l : Launch) (D : va_G) (tL tO : Nat) (tys : List (ClassId × FieldType)) (y : MethodName) (ws : List Cond) (f n maxL : Nat) (av : List Value) (wc w1 : va_W) (cc : ByteArray) (op : Instr) (pay : Prop) (out : List Value) : Prop :=
  ∀ (p : Program) (e : Env) (R : Room) (s : State) (m : MethodId) (args : Array Value) (below : List Frame) (meth : Method) (c : Code) (A : Nat → Prop) (Q : State → Prop) (ls : Array Slot),
    p.tables.exec = Jvm.exec → c.code = cc → c.maxLocals = maxL → f ≤ R.frames → n ≤ R.locals → (∀ w ∈ ws, w.before args s = true) → s.vm.findClass y.cls = some m.cls → va_P D vwCl wc s.heap → va_K D vwCl tys s → va_D A wc → (∀ q, s.heap.size ≤ q → A q) → va_S A s.heap s.heap [] → zk_G tL tO A s s.heap → lv_has ls maxL (lv_args 0 av) →
    (pay → ∀ (H : Heap) (locs : List Loc) (pc : Nat) (ls : Array Slot), va_P D vwCl w1 H → va_D A w1 → va_S A s.heap H locs → decode cc pc = .ok (op, 1) → W p l e R s m args below meth c H locs 0 0 Q (F0 m pc ls out)) →
    W p l e R s m args below meth c s.heap [] 0 0 Q (F0 m 0 ls [])
theorem zk_of_i {r : Int32} (hy : plainName y.cls = true) (hw : ws = Cond.code y cc maxL (some .int) :: ws') (hav : (lg_sl av).length ≤ maxL) (body : zk_Body l D tL tO tys y ws f n maxL av wc w1 cc .ireturn True [.int r]) : zk_CT l D tL tO tys y ws f n av (some (.int r)) wc w1 := by
  intro sz
  refine Met.ofW (cc := cc) (maxL := maxL) (ret := some .int) hy hw ?_
  intro p e s m args below meth c s₁ B hml hv
  obtain ⟨rfl, hsz, hP, hK, hD0, hG⟩ := hv
  subst hsz
  have hx := B.exec
  have hb := B.bytes
  have hr := B.returns
  have hts := atoms_spec (ws := ws) B.pre
  have hown : s.vm.findClass y.cls = some m.cls := findClass_of_methodNamed B.named
  have hlocks := B.notSynchronized
  have hl := lv_entry av (n := maxL) hav
  rw [lg_entry_eq]
  refine body p e _ s m _ below meth c (va_A wc s.heap.size) _ _ hx hb hml (Nat.le_refl _) (Nat.le_refl _) hts hown hP hK (hD0.self (sz := s.heap.size)) (fun q h => Or.inr h) va_S.rf hG hl ?_
  intro _ H locs pc ls hP1 hD1 hS1 hdg
  exact W.iret hx hb hr (fun t ht hW => ⟨⟨rfl, by rw [ht]; exact hP1, hD1⟩, hS1.F ht⟩) hS1.2.2 hdg
theorem zk_of_l {r : Int64} (hy : plainName y.cls = true) (hw : ws = Cond.code y cc maxL (some .long) :: ws') (hav : (lg_sl av).length ≤ maxL) (body : zk_Body l D tL tO tys y ws f n maxL av wc w1 cc .lreturn True [.long r]) : zk_CT l D tL tO tys y ws f n av (some (.long r)) wc w1 := by
  intro sz
  refine Met.ofW (cc := cc) (maxL := maxL) (ret := some .long) hy hw ?_
  intro p e s m args below meth c s₁ B hml hv
  obtain ⟨rfl, hsz, hP, hK, hD0, hG⟩ := hv
  subst hsz
  have hx := B.exec
  have hb := B.bytes
  have hr := B.returns
  have hts := atoms_spec (ws := ws) B.pre
  have hown : s.vm.findClass y.cls = some m.cls := findClass_of_methodNamed B.named
  have hlocks := B.notSynchronized
  have hl := lv_entry av (n := maxL) hav
  rw [lg_entry_eq]
  refine body p e _ s m _ below meth c (va_A wc s.heap.size) _ _ hx hb hml (Nat.le_refl _) (Nat.le_refl _) hts hown hP hK (hD0.self (sz := s.heap.size)) (fun q h => Or.inr h) va_S.rf hG hl ?_
  intro _ H locs pc ls hP1 hD1 hS1 hdg
  exact W.lret hx hb hr (fun t ht hW => ⟨⟨rfl, by rw [ht]; exact hP1, hD1⟩, hS1.F ht⟩) hS1.2.2 hdg
theorem zk_of_z {r : Int32} (hy : plainName y.cls = true) (hw : ws = Cond.code y cc maxL (some .boolean) :: ws') (hav : (lg_sl av).length ≤ maxL) (body : zk_Body l D tL tO tys y ws f n maxL av wc w1 cc .ireturn (narrow .boolean (.int r) = .int r) [.int r]) : zk_CT l D tL tO tys y ws f n av (some (.int r)) wc w1 := by
  intro sz
  refine Met.ofW (cc := cc) (maxL := maxL) (ret := some .boolean) hy hw ?_
  intro p e s m args below meth c s₁ B hml hv
  obtain ⟨rfl, hsz, hP, hK, hD0, hG⟩ := hv
  subst hsz
  have hx := B.exec
  have hb := B.bytes
  have hr := B.returns
  have hts := atoms_spec (ws := ws) B.pre
  have hown : s.vm.findClass y.cls = some m.cls := findClass_of_methodNamed B.named
  have hlocks := B.notSynchronized
  have hl := lv_entry av (n := maxL) hav
  rw [lg_entry_eq]
  refine body p e _ s m _ below meth c (va_A wc s.heap.size) _ _ hx hb hml (Nat.le_refl _) (Nat.le_refl _) hts hown hP hK (hD0.self (sz := s.heap.size)) (fun q h => Or.inr h) va_S.rf hG hl ?_
  intro hn H locs pc ls hP1 hD1 hS1 hdg
  exact W.zret hx hb hr hn (fun t ht hW => ⟨⟨rfl, by rw [ht]; exact hP1, hD1⟩, hS1.F ht⟩) hS1.2.2 hdg
theorem zk_of_v (hy : plainName y.cls = true) (hw : ws = Cond.code y cc maxL none :: ws') (hav : (lg_sl av).length ≤ maxL) (body : zk_Body l D tL tO tys y ws f n maxL av wc w1 cc .return_ True []) : zk_CT l D tL tO tys y ws f n av none wc w1 := by
  intro sz
  refine Met.ofW (cc := cc) (maxL := maxL) (ret := none) hy hw ?_
  intro p e s m args below meth c s₁ B hml hv
  obtain ⟨rfl, hsz, hP, hK, hD0, hG⟩ := hv
  subst hsz
  have hx := B.exec
  have hb := B.bytes
  have hr := B.returns
  have hts := atoms_spec (ws := ws) B.pre
  have hown : s.vm.findClass y.cls = some m.cls := findClass_of_methodNamed B.named
  have hlocks := B.notSynchronized
  have hl := lv_entry av (n := maxL) hav
  rw [lg_entry_eq]
  refine body p e _ s m _ below meth c (va_A wc s.heap.size) _ _ hx hb hml (Nat.le_refl _) (Nat.le_refl _) hts hown hP hK (hD0.self (sz := s.heap.size)) (fun q h => Or.inr h) va_S.rf hG hl ?_
  intro _ H locs pc ls hP1 hD1 hS1 hdg
  exact W.vret hx hb hr (fun t ht hW => ⟨⟨rfl, by rw [ht]; exact hP1, hD1⟩, hS1.F ht⟩) hS1.2.2 hdg
end ZKM
end
section
def zk_F : Nat := 5000
def zk_su {α β γ : Type} (v : α ⊕ β) (f : α → Option γ) (g : β → Option γ) : Option γ := match v with
  | .inl a => f a
  | .inr b => g b
theorem zk_lt7 {i : Int32} (h : zk_in i 7 = true) : i.toNatClampNeg < 7 := Nat.not_le.mp fun q => zk_in_s h (Or.inr q)
def zk_upr (F : Nat → Nat → Int64) (j : Nat) (r : Nat → Int64) : Nat → Nat → Int64 := fun i => if i = j then r else F i
/-- a constructor: the cells that it makes lie at q 0, q 1 .. -/
def zk_Qn (D : va_G) (wc : va_W) (w1 : (Nat → Nat) → va_W) (sz : Nat) : Array Value → State → Outcome → State → Prop :=
  fun _ st oc t => (oc = .returned none ∧ ∃ q : Nat → Nat, va_P D vwCl (w1 q) t.heap ∧ va_D (va_A wc sz) (w1 q)) ∧ va_F (va_A wc sz) st t
def zk_CN (l : Launch) (D : va_G) (tL tO : Nat) (tys : List (ClassId × FieldType)) (y : MethodName) (ws : List Cond) (f n mc ms : Nat) (av : List Value) (wc : va_W) (w1 : (Nat → Nat) → va_W) : Prop :=
  ∀ sz : Nat, Met l y ws { frames := f, cells := mc, slots := ms, locals := n } (zk_Pc D tL tO tys av wc sz) (zk_Qn D wc w1 sz) mc ms (va_A wc sz)
section ZKN
variable {p : Program} {l : Launch} {e : Env} {R : Room} {s : State} {m : MethodId} {args : Array Value} {below : List Frame} {meth : Method} {c : Code} {H : Heap} {locs : List Loc} {cells slots mc ms : Nat} {Q : State → Prop}
variable {cc : ByteArray} {pc nL : Nat} {ls : Array Slot} {rest st0 : List Value} {D : va_G} {A : Nat → Prop} {ws wc wr : va_W} {w1 : (Nat → Nat) → va_W} {a : Array Value} {tL tO : Nat} {tys : List (ClassId × FieldType)}
theorem zk_goN (hr : va_Run p l e R s m args below meth c H locs cells slots mc ms (F0 m pc ls st0) rest (zk_Qn D wc w1 H.size a) (va_A wc H.size)) (hP : va_P D vwCl ws H) (hD : va_D A ws) (hS : va_S A s.heap H locs) (hA : ∀ q, s.heap.size ≤ q → A q) (isC isR : List Nat)
    (hC : isC.map (fun i => ws[i]?) = wc.map some) (hR : isR.map (fun i => ws[i]?) = wr.map some) (hn : va_nd isR = true) (hdis : ∀ i ∈ isR, i ∉ isC)
    (kk : ∀ (q : Nat → Nat) (H1 : Heap) (locs1 : List Loc), va_P D vwCl (wr ++ w1 q) H1 → va_D A (wr ++ w1 q) → va_S A s.heap H1 locs1 → W p l e R s m args below meth c H1 locs1 (cells + mc) (slots + ms) Q (F0 m (pc + 3) ls rest)) : W p l e R s m args below meth c H locs cells slots Q (F0 m pc ls st0) := by
  have hFc := va_free hD hS hA isC hC
  intro T hT X
  obtain ⟨v, st₀, t, T', L, h0, X', hL, e1, e2, ⟨⟨hv, q, hP1, hD1⟩, hz, hk⟩, st⟩ := hr T hT X
  cases hv
  rw [h0] at hz hk
  have hj := va_join (wr := wr) (w1 := w1 q) hP hD isC isR hC hR hn hdis hk hFc hP1 hD1
  have hS1 : va_S A s.heap t.heap (locs ++ L) := ⟨Nat.le_trans hS.1 hz, fun q h1 h2 => by rw [hk q (Nat.lt_of_lt_of_le h1 hS.1) (fun z => h2 (hFc q z))]; exact hS.2.1 q h1 h2, fun q hq => by
      rcases List.mem_append.mp hq with h | h
      · exact hS.2.2 q h
      · exact hFc _ (hL q h)⟩
  obtain ⟨t2, a1, b1⟩ := kk q t.heap (locs ++ L) hj.1 hj.2 hS1 T' e1 X'
  exact ⟨t2, st t2 a1, b1⟩
theorem zk_I {own : String} {index f n k maxL b : Nat} {y : MethodName} {bytes : ByteArray} {ws2 ws2' Ts : List Cond} {As : List Value} (hx : p.tables.exec = Jvm.exec) (hb : c.code = cc) (hml : c.maxLocals = nL) (hown : s.vm.findClass own = some m.cls) (hts : ∀ w ∈ Ts, w.before args s = true) (hK : va_K D vwCl tys s) (hG : zk_G tL tO A s s.heap) (hP : va_P D vwCl ws H) (hD : va_D A ws) (hS : va_S A s.heap H locs) (hA : ∀ q, s.heap.size ≤ q → A q)
    (hT : GoodIn Ts ws2) (hw : ws2 = Cond.code y bytes maxL none :: ws2') (hini : (Cond.initialized y.cls).before args s = true) (hl : (Cond.methodLink own index y).before args s = true) (hin : (Cond.instanceMethod y).before args s = true) (hy1 : y.name = "<init>") (hd : y.cls ≠ "java/lang/invoke/MethodHandle" ∧ y.cls ≠ "java/lang/invoke/VarHandle" ∧ (parseMethodDescriptor y.desc).map (fun d => d.parameters.length) = some k) (hRf : f + 1 ≤ R.frames) (hRl : 8 + (maxL + 11) + n ≤ R.locals) (hcs : cells + mc ≤ R.cells ∧ slots + ms ≤ R.slots)
    (hM : zk_CN l D tL tO tys y ws2 f n mc ms (.ref b :: As) wc w1) (hls : ls.size = nL) (hst : st0 = As.reverse ++ .ref b :: rest) (hn : As.length = k) (hW : (rest.map fun v => v.category).sum ≤ 8) (hdg : decode cc pc = .ok (.invokespecial index, 3))
    (isC : List Nat) (hC : isC.map (fun i => ws[i]?) = wc.map some) (hnC : va_nd isC = true) : va_Run p l e R s m args below meth c H locs cells slots mc ms (F0 m pc ls st0) rest (zk_Qn D wc w1 H.size (Value.ref b :: As).toArray) (va_A wc H.size) := by
  have hFc := va_free hD hS hA isC hC
  subst hst
  exact va_runI ⟨hx, hb, hml, hown, hts⟩ (hM H.size) (cwI k hts hT hw rfl rfl hini hl hin hy1 hd ⟨hRf, hRl⟩) ⟨zk_blind, zk_pre (zk_sub hP isC hC) ((hD.sub isC hnC hC).weaken (fun _ _ _ _ => trivial)) hK hG hS hFc⟩ rfl hn hls rfl (lv_room hW) hdg hcs
/-- a new array of a class that is known -/
theorem zk_newa (hexec : p.tables.exec = Jvm.exec) (hb : c.code = cc) {atype : ArrayType} (harr : (Cond.arrayClass (newarray.typeOf atype)).before args s = true) {ty : FieldType} (hty : newarray.typeOf atype = ty) (hK : va_K D vwCl tys s) (hP : va_P D vwCl ws H) (hD : va_D A ws) (hS : va_S A s.heap H locs) (hA : ∀ q, s.heap.size ≤ q → A q)
    {n : Int32} {N' : Nat} {a0 : vp_A} (ha : ∀ cA : ClassId, vp_cell cA a0 = arrV cA N' (fun _ => defaultValue ty)) (hn : ¬ n < 0) (hN : n.toNatClampNeg = N') (hbytes : N' * componentBytes ty ≤ 536870912) (hcells : cells + 1 ≤ R.cells) (hslots : slots + N' ≤ R.slots) (hdg : decode cc pc = .ok (.newarray atype, 2))
    (t0 : Nat) {c0 : ClassId} (ht : tys[t0]? = some (c0, ty)) (hra : ∀ c : ClassId, va_RA s c ty = (s.vm.findClass ("[" ++ ty.toString) = some c))
    (kk : ∀ (q : Nat) (H1 : Heap), va_P D vwCl (ws ++ [(q, .inl (c0, a0))]) H1 → va_D A (ws ++ [(q, .inl (c0, a0))]) → va_S A s.heap H1 locs →
      W p l e R s m args below meth c H1 locs (cells + 1) (slots + N') Q (F0 m (pc + 2) ls (.ref q :: rest))) : W p l e R s m args below meth c H locs cells slots Q (F0 m pc ls (.int n :: rest)) := by
  refine va_newa hexec hb harr hty hK hP hD hS hA ha hn hN hbytes hcells hslots hdg (fun q cA H1 hK1 hP1 hD1 hS1 => ?_)
  have h1 := (hK1.2 tys.length (cA, ty) (by simp)).2
  have h2 := (hK.2 t0 (c0, ty) ht).2
  rw [hra] at h1 h2
  have e0 : cA = c0 := Option.some.inj (h1.symm.trans h2)
  subst e0
  exact kk q H1 hP1 hD1 hS1
/-- new long[7][64] -/
theorem zk_mn7 (hexec : p.tables.exec = Jvm.exec) (hb : c.code = cc) {own : String} {index : Nat} (hown : s.vm.findClass own = some m.cls) (hclink : (Cond.classLink own index "[[J").before args s = true) (hover : zk_AOA .long s) (harr : (Cond.arrayClass .long).before args s = true) (hK : va_K D vwCl tys s) (hP : va_P D vwCl ws H) (hD : va_D A ws) (hS : va_S A s.heap H locs) (hA : ∀ q, s.heap.size ≤ q → A q)
    (t1 t3 : Nat) {cJ cQ : ClassId} (ht1 : tys[t1]? = some (cJ, .long)) (ht3 : tys[t3]? = some (cQ, .array .long)) (hcells : cells + 8 ≤ R.cells) (hslots : slots + 455 ≤ R.slots) (hdg : decode cc pc = .ok (.multianewarray index 2, 4))
    (kk : ∀ (q : Nat) (r : Nat → Nat) (H1 : Heap), va_P D vwCl (ws ++ [(q, .inl (cQ, 7, .inr (.inr (.inr (.inr (fun i => if i < 7 then some (r i) else none)))))), (r 0, .inl (cJ, 64, .inr (.inl (fun _ => 0)))), (r 1, .inl (cJ, 64, .inr (.inl (fun _ => 0)))), (r 2, .inl (cJ, 64, .inr (.inl (fun _ => 0)))), (r 3, .inl (cJ, 64, .inr (.inl (fun _ => 0)))), (r 4, .inl (cJ, 64, .inr (.inl (fun _ => 0)))), (r 5, .inl (cJ, 64, .inr (.inl (fun _ => 0)))), (r 6, .inl (cJ, 64, .inr (.inl (fun _ => 0))))]) H1 →
      va_D A (ws ++ [(q, .inl (cQ, 7, .inr (.inr (.inr (.inr (fun i => if i < 7 then some (r i) else none)))))), (r 0, .inl (cJ, 64, .inr (.inl (fun _ => 0)))), (r 1, .inl (cJ, 64, .inr (.inl (fun _ => 0)))), (r 2, .inl (cJ, 64, .inr (.inl (fun _ => 0)))), (r 3, .inl (cJ, 64, .inr (.inl (fun _ => 0)))), (r 4, .inl (cJ, 64, .inr (.inl (fun _ => 0)))), (r 5, .inl (cJ, 64, .inr (.inl (fun _ => 0)))), (r 6, .inl (cJ, 64, .inr (.inl (fun _ => 0))))]) → va_S A s.heap H1 locs →
      W p l e R s m args below meth c H1 locs (cells + 8) (slots + 455) Q (F0 m (pc + 4) ls (.ref q :: rest))) : W p l e R s m args below meth c H locs cells slots Q (F0 m pc ls (.int 64 :: .int 7 :: rest)) := by
  have hcy : s.vm.findClass (FieldType.array FieldType.long).toString = some cJ := (hK.2 t1 _ ht1).2
  have hP' : va_P D vwCl (ws ++ va_pl [] (fun _ => .inr (0, []))) H := by unfold va_pl; rw [List.map_nil, List.append_nil]; exact hP
  have hD' : va_D A (ws ++ va_pl [] (fun _ => .inr (0, []))) := by unfold va_pl; rw [List.map_nil, List.append_nil]; exact hD
  refine zk_mna (ty := .long) (cy := cJ) (N' := 7) (K' := 64) (z := (64, .inr (.inl (fun _ => 0)))) hexec hb hown hclink hover harr hcy hK hP' hD' hS hA (by decide) (by decide) (by decide) (by decide) (by decide) (by decide) (by decide) rfl rfl hcells hslots ?_ hdg (fun q r cA H1 hri hrl hK1 hP1 hD1 hS1 => ?_)
  · intro c9
    show ({ cls := c9, slots := Array.replicate 64 (defaultValue .long), vm := .none } : Cell) = _
    rw [arrV_new]
    rfl
  · have h1 := (hK1.2 tys.length (cA, .array .long) (by simp)).2
    have h2 := (hK.2 t3 (cQ, .array .long) ht3).2
    have e0 : cA = cQ := Option.some.inj ((show s.vm.findClass ("[" ++ (FieldType.array FieldType.long).toString) = some cA from h1).symm.trans h2)
    subst e0
    have e1 : va_pl ([] ++ (List.range 7).map r) (vr_up (fun _ => .inr (0, [])) ((List.range 7).map r) (.inl (cJ, 64, .inr (.inl (fun _ => 0))))) = ([(r 0, .inl (cJ, 64, .inr (.inl (fun _ => 0)))), (r 1, .inl (cJ, 64, .inr (.inl (fun _ => 0)))), (r 2, .inl (cJ, 64, .inr (.inl (fun _ => 0)))), (r 3, .inl (cJ, 64, .inr (.inl (fun _ => 0)))), (r 4, .inl (cJ, 64, .inr (.inl (fun _ => 0)))), (r 5, .inl (cJ, 64, .inr (.inl (fun _ => 0)))), (r 6, .inl (cJ, 64, .inr (.inl (fun _ => 0))))] : va_W) := by
      rw [show List.range 7 = [0, 1, 2, 3, 4, 5, 6] from rfl]
      simp [va_pl, vr_up]
    rw [e1, List.append_assoc] at hP1 hD1
    exact kk q r H1 hP1 hD1 hS1
end ZKN
section ZKO
variable {l : Launch} {D : va_G} {tL tO : Nat} {tys : List (ClassId × FieldType)} {y : MethodName} {ws ws' : List Cond} {f n maxL mc ms : Nat} {av : List Value} {wc : va_W} {w1 : (Nat → Nat) → va_W} {cc : ByteArray}
theorem zk_of_n (hy : plainName y.cls = true) (hw : ws = Cond.code y cc maxL none :: ws') (hav : (lg_sl av).length ≤ maxL) (hyn : y.name = "<init>")
    (body : ∀ (p : Program) (e : Env) (R : Room) (s : State) (m : MethodId) (args : Array Value) (below : List Frame) (meth : Method) (c : Code) (A : Nat → Prop) (Q : State → Prop) (ls : Array Slot),
      p.tables.exec = Jvm.exec → c.code = cc → c.maxLocals = maxL → f ≤ R.frames → n ≤ R.locals → (mc ≤ R.cells ∧ ms ≤ R.slots) → meth.name = "<init>" → (∀ w ∈ ws, w.before args s = true) → s.vm.findClass y.cls = some m.cls → va_P D vwCl wc s.heap → va_K D vwCl tys s → va_D A wc → (∀ q, s.heap.size ≤ q → A q) → va_S A s.heap s.heap [] → zk_G tL tO A s s.heap → lv_has ls maxL (lv_args 0 av) →
      (∀ (q : Nat → Nat) (H : Heap) (locs : List Loc) (pc : Nat) (ls : Array Slot), va_P D vwCl (w1 q) H → va_D A (w1 q) → va_S A s.heap H locs → decode cc pc = .ok (.return_, 1) → W p l e R s m args below meth c H locs mc ms Q (F0 m pc ls [])) →
      W p l e R s m args below meth c s.heap [] 0 0 Q (F0 m 0 ls [])) : zk_CN l D tL tO tys y ws f n mc ms av wc w1 := by
  intro sz
  refine Met.ofW (cc := cc) (maxL := maxL) (ret := none) hy hw ?_
  intro p e s m args below meth c s₁ B hml hv
  obtain ⟨rfl, hsz, hP, hK, hD0, hG⟩ := hv
  subst hsz
  have hx := B.exec
  have hb := B.bytes
  have hr := B.returns
  have hts := atoms_spec (ws := ws) B.pre
  have hown : s.vm.findClass y.cls = some m.cls := findClass_of_methodNamed B.named
  have hlocks := B.notSynchronized
  have hin : meth.name = "<init>" := by rw [← hyn]; exact (name_of_methodNamed B.named B.method).1
  have hl := lv_entry av (n := maxL) hav
  rw [lg_entry_eq]
  refine body p e _ s m _ below meth c (va_A wc s.heap.size) _ _ hx hb hml (Nat.le_refl _) (Nat.le_refl _) ⟨Nat.le_refl _, Nat.le_refl _⟩ hin hts hown hP hK (hD0.self (sz := s.heap.size)) (fun q h => Or.inr h) va_S.rf hG hl ?_
  intro q H locs pc ls hP1 hD1 hS1 hdg
  exact W.vret hx hb hr (fun t ht hW => ⟨⟨rfl, q, by rw [ht]; exact hP1, hD1⟩, hS1.F ht⟩) hS1.2.2 hdg
end ZKO
end
section
def zf_J6_bitCount_0f7a4 (x0 : Int32) : Option (Int32) :=
  zk_lt (x0 - (((x0.toUInt32 >>> ((1 : Int32).toUInt32 &&& Int32.toUInt32 31)).toInt32) &&& (1431655765 : Int32))) (fun y1 =>
  zk_lt ((y1 &&& (858993459 : Int32)) + (((y1.toUInt32 >>> ((2 : Int32).toUInt32 &&& Int32.toUInt32 31)).toInt32) &&& (858993459 : Int32))) (fun y2 =>
  zk_lt ((y2 + ((y2.toUInt32 >>> ((4 : Int32).toUInt32 &&& Int32.toUInt32 31)).toInt32)) &&& (252645135 : Int32)) (fun y3 =>
  zk_lt (y3 + ((y3.toUInt32 >>> ((8 : Int32).toUInt32 &&& Int32.toUInt32 31)).toInt32)) (fun y4 =>
  zk_lt (y4 + ((y4.toUInt32 >>> ((16 : Int32).toUInt32 &&& Int32.toUInt32 31)).toInt32)) (fun y5 =>
  some (y5 &&& (63 : Int32)))))))
theorem hd_J6_bitCount_0f7a4 : yJ6_bitCount_0f7a4.cls ≠ "java/lang/invoke/MethodHandle" ∧ yJ6_bitCount_0f7a4.cls ≠ "java/lang/invoke/VarHandle" ∧ (parseMethodDescriptor yJ6_bitCount_0f7a4.desc).map (fun d => d.parameters.length) = some 1 := by decide +kernel
set_option maxHeartbeats 4000000 in
set_option maxRecDepth 100000 in
theorem zc_J6_bitCount_0f7a4 (l : Launch) (D : va_G) (tL tO : Nat) (cI cJ cB cQ : ClassId) (x0 : Int32) (z : Int32) (hf : zf_J6_bitCount_0f7a4 x0 = some z) : zk_CT l D tL tO (zk_ty cI cJ cB cQ) yJ6_bitCount_0f7a4 wsJ6_bitCount_0f7a4 0 0 [.int x0] (some (.int z)) [] [] := by
  refine zk_of_i (cc := cJ6_bitCount_0f7a4) (maxL := 1) (by decide) rfl (Nat.le_of_ble_eq_true rfl) ?_
  intro p e R s m args below meth c A Q ls hx hb hml hRf hRl hts hown hP hK hD hA hS hG hl hret
  have hl : lv_has ls 1 [(0, .int x0)] := hl
  have hown : s.vm.findClass RJ6 = some m.cls := hown
  have hcs : 0 ≤ R.cells ∧ 0 ≤ R.slots := ⟨Nat.zero_le _, Nat.zero_le _⟩
  have lk0 := hts (.constant RJ6 265 (1431655765)) (by decide +kernel)
  have lk1 := hts (.constant RJ6 266 (858993459)) (by decide +kernel)
  have lk2 := hts (.constant RJ6 267 (252645135)) (by decide +kernel)
  unfold zf_J6_bitCount_0f7a4 at hf
  refine lv_iload_n hx hb dJ6_bitCount_0f7a4_0 rfl (lv_at hl 0 rfl) ?_
  refine lv_iload_n hx hb dJ6_bitCount_0f7a4_1 rfl (lv_at hl 0 rfl) ?_
  refine lv_iconst (v := (1 : Int32)) hx hb dJ6_bitCount_0f7a4_2 (by decide) ?_
  refine lv_iushr hx hb dJ6_bitCount_0f7a4_3 rfl ?_
  refine lv_ldcw hx hb hown lk0 dJ6_bitCount_0f7a4_4 ?_
  refine lv_iand hx hb dJ6_bitCount_0f7a4_7 ?_
  refine lv_isub hx hb dJ6_bitCount_0f7a4_8 ?_
  obtain ⟨y1, ey1, hf⟩ := zk_lt_s hf
  refine zk_topi ey1 ?_
  refine lv_istore_n (lv' := [(0, .int y1)]) hx hb dJ6_bitCount_0f7a4_9 rfl hl (by decide) rfl (fun ls hl => ?_)
  refine lv_iload_n hx hb dJ6_bitCount_0f7a4_10 rfl (lv_at hl 0 rfl) ?_
  refine lv_ldcw hx hb hown lk1 dJ6_bitCount_0f7a4_11 ?_
  refine lv_iand hx hb dJ6_bitCount_0f7a4_14 ?_
  refine lv_iload_n hx hb dJ6_bitCount_0f7a4_15 rfl (lv_at hl 0 rfl) ?_
  refine lv_iconst (v := (2 : Int32)) hx hb dJ6_bitCount_0f7a4_16 (by decide) ?_
  refine lv_iushr hx hb dJ6_bitCount_0f7a4_17 rfl ?_
  refine lv_ldcw hx hb hown lk1 dJ6_bitCount_0f7a4_18 ?_
  refine lv_iand hx hb dJ6_bitCount_0f7a4_21 ?_
  refine lv_iadd hx hb dJ6_bitCount_0f7a4_22 ?_
  obtain ⟨y2, ey2, hf⟩ := zk_lt_s hf
  refine zk_topi ey2 ?_
  refine lv_istore_n (lv' := [(0, .int y2)]) hx hb dJ6_bitCount_0f7a4_23 rfl hl (by decide) rfl (fun ls hl => ?_)
  refine lv_iload_n hx hb dJ6_bitCount_0f7a4_24 rfl (lv_at hl 0 rfl) ?_
  refine lv_iload_n hx hb dJ6_bitCount_0f7a4_25 rfl (lv_at hl 0 rfl) ?_
  refine lv_iconst (v := (4 : Int32)) hx hb dJ6_bitCount_0f7a4_26 (by decide) ?_
  refine lv_iushr hx hb dJ6_bitCount_0f7a4_27 rfl ?_
  refine lv_iadd hx hb dJ6_bitCount_0f7a4_28 ?_
  refine lv_ldcw hx hb hown lk2 dJ6_bitCount_0f7a4_29 ?_
  refine lv_iand hx hb dJ6_bitCount_0f7a4_32 ?_
  obtain ⟨y3, ey3, hf⟩ := zk_lt_s hf
  refine zk_topi ey3 ?_
  refine lv_istore_n (lv' := [(0, .int y3)]) hx hb dJ6_bitCount_0f7a4_33 rfl hl (by decide) rfl (fun ls hl => ?_)
  refine lv_iload_n hx hb dJ6_bitCount_0f7a4_34 rfl (lv_at hl 0 rfl) ?_
  refine lv_iload_n hx hb dJ6_bitCount_0f7a4_35 rfl (lv_at hl 0 rfl) ?_
  refine lv_bipush (v := (8 : Int32)) hx hb dJ6_bitCount_0f7a4_36 (by decide) ?_
  refine lv_iushr hx hb dJ6_bitCount_0f7a4_38 rfl ?_
  refine lv_iadd hx hb dJ6_bitCount_0f7a4_39 ?_
  obtain ⟨y4, ey4, hf⟩ := zk_lt_s hf
  refine zk_topi ey4 ?_
  refine lv_istore_n (lv' := [(0, .int y4)]) hx hb dJ6_bitCount_0f7a4_40 rfl hl (by decide) rfl (fun ls hl => ?_)
  refine lv_iload_n hx hb dJ6_bitCount_0f7a4_41 rfl (lv_at hl 0 rfl) ?_
  refine lv_iload_n hx hb dJ6_bitCount_0f7a4_42 rfl (lv_at hl 0 rfl) ?_
  refine lv_bipush (v := (16 : Int32)) hx hb dJ6_bitCount_0f7a4_43 (by decide) ?_
  refine lv_iushr hx hb dJ6_bitCount_0f7a4_45 rfl ?_
  refine lv_iadd hx hb dJ6_bitCount_0f7a4_46 ?_
  obtain ⟨y5, ey5, hf⟩ := zk_lt_s hf
  refine zk_topi ey5 ?_
  refine lv_istore_n (lv' := [(0, .int y5)]) hx hb dJ6_bitCount_0f7a4_47 rfl hl (by decide) rfl (fun ls hl => ?_)
  refine lv_iload_n hx hb dJ6_bitCount_0f7a4_48 rfl (lv_at hl 0 rfl) ?_
  refine lv_bipush (v := (63 : Int32)) hx hb dJ6_bitCount_0f7a4_49 (by decide) ?_
  refine lv_iand hx hb dJ6_bitCount_0f7a4_51 ?_
  obtain rfl := Option.some.inj hf
  exact hret trivial _ _ _ _ hP hD hS dJ6_bitCount_0f7a4_52
def zf_J6_numberOfTrailingZeros_0f7a4 (x0 : Int32) : Option (Int32) :=
  zk_lt ((x0 ^^^ (-1 : Int32)) &&& (x0 - (1 : Int32))) (fun y1 =>
  if 0 < y1 then
  (if y1 ≤ (65536 : Int32) then
  some (y1, (1 : Int32))
  else
  zk_lt ((1 : Int32) + 16) (fun y14 =>
  zk_lt ((y1.toUInt32 >>> ((16 : Int32).toUInt32 &&& Int32.toUInt32 31)).toInt32) (fun y15 =>
  some (y15, y14)))).bind (fun v2 =>
  (if v2.1 ≤ (256 : Int32) then
  some (v2.1, v2.2)
  else
  zk_lt (v2.2 + 8) (fun y11 =>
  zk_lt ((v2.1.toUInt32 >>> ((8 : Int32).toUInt32 &&& Int32.toUInt32 31)).toInt32) (fun y12 =>
  some (y12, y11)))).bind (fun v3 =>
  (if v3.1 ≤ (16 : Int32) then
  some (v3.1, v3.2)
  else
  zk_lt (v3.2 + 4) (fun y8 =>
  zk_lt ((v3.1.toUInt32 >>> ((4 : Int32).toUInt32 &&& Int32.toUInt32 31)).toInt32) (fun y9 =>
  some (y9, y8)))).bind (fun v4 =>
  if v4.1 ≤ (4 : Int32) then
  some (v4.2 + ((v4.1.toUInt32 >>> ((1 : Int32).toUInt32 &&& Int32.toUInt32 31)).toInt32))
  else
  zk_lt (v4.2 + 2) (fun y5 =>
  zk_lt ((v4.1.toUInt32 >>> ((2 : Int32).toUInt32 &&& Int32.toUInt32 31)).toInt32) (fun y6 =>
  some (y5 + ((y6.toUInt32 >>> ((1 : Int32).toUInt32 &&& Int32.toUInt32 31)).toInt32)))))))
  else
  some (y1 &&& (32 : Int32)))
theorem hd_J6_numberOfTrailingZeros_0f7a4 : yJ6_numberOfTrailingZeros_0f7a4.cls ≠ "java/lang/invoke/MethodHandle" ∧ yJ6_numberOfTrailingZeros_0f7a4.cls ≠ "java/lang/invoke/VarHandle" ∧ (parseMethodDescriptor yJ6_numberOfTrailingZeros_0f7a4.desc).map (fun d => d.parameters.length) = some 1 := by decide +kernel
set_option maxHeartbeats 4000000 in
set_option maxRecDepth 100000 in
theorem zc_J6_numberOfTrailingZeros_0f7a4 (l : Launch) (D : va_G) (tL tO : Nat) (cI cJ cB cQ : ClassId) (x0 : Int32) (z : Int32) (hf : zf_J6_numberOfTrailingZeros_0f7a4 x0 = some z) : zk_CT l D tL tO (zk_ty cI cJ cB cQ) yJ6_numberOfTrailingZeros_0f7a4 wsJ6_numberOfTrailingZeros_0f7a4 0 0 [.int x0] (some (.int z)) [] [] := by
  refine zk_of_i (cc := cJ6_numberOfTrailingZeros_0f7a4) (maxL := 2) (by decide) rfl (Nat.le_of_ble_eq_true rfl) ?_
  intro p e R s m args below meth c A Q ls hx hb hml hRf hRl hts hown hP hK hD hA hS hG hl hret
  have hl : lv_has ls 2 [(0, .int x0)] := hl
  have hown : s.vm.findClass RJ6 = some m.cls := hown
  have hcs : 0 ≤ R.cells ∧ 0 ≤ R.slots := ⟨Nat.zero_le _, Nat.zero_le _⟩
  have lk0 := hts (.constant RJ6 264 (65536)) (by decide +kernel)
  unfold zf_J6_numberOfTrailingZeros_0f7a4 at hf
  refine lv_iload_n hx hb dJ6_numberOfTrailingZeros_0f7a4_0 rfl (lv_at hl 0 rfl) ?_
  refine lv_iconst (v := (-1 : Int32)) hx hb dJ6_numberOfTrailingZeros_0f7a4_1 (by decide) ?_
  refine lv_ixor hx hb dJ6_numberOfTrailingZeros_0f7a4_2 ?_
  refine lv_iload_n hx hb dJ6_numberOfTrailingZeros_0f7a4_3 rfl (lv_at hl 0 rfl) ?_
  refine lv_iconst (v := (1 : Int32)) hx hb dJ6_numberOfTrailingZeros_0f7a4_4 (by decide) ?_
  refine lv_isub hx hb dJ6_numberOfTrailingZeros_0f7a4_5 ?_
  refine lv_iand hx hb dJ6_numberOfTrailingZeros_0f7a4_6 ?_
  obtain ⟨y1, ey1, hf⟩ := zk_lt_s hf
  refine zk_topi ey1 ?_
  refine lv_istore_n (lv' := [(0, .int y1)]) hx hb dJ6_numberOfTrailingZeros_0f7a4_7 rfl hl (by decide) rfl (fun ls hl => ?_)
  refine lv_iload_n hx hb dJ6_numberOfTrailingZeros_0f7a4_8 rfl (lv_at hl 0 rfl) ?_
  refine lv_if_gt (tgt := 17) hx hb dJ6_numberOfTrailingZeros_0f7a4_9 (by decide) (fun c17 => ?_) (fun c17 => ?_)
  · have hf := zk_t c17 hf
    refine lv_iconst (v := (1 : Int32)) hx hb dJ6_numberOfTrailingZeros_0f7a4_17 (by decide) ?_
    refine lv_istore_n (lv' := [(1, .int (1 : Int32)), (0, .int y1)]) hx hb dJ6_numberOfTrailingZeros_0f7a4_18 rfl hl (by decide) rfl (fun ls hl => ?_)
    refine lv_iload_n hx hb dJ6_numberOfTrailingZeros_0f7a4_19 rfl (lv_at hl 1 rfl) ?_
    refine lv_ldcw hx hb hown lk0 dJ6_numberOfTrailingZeros_0f7a4_20 ?_
    obtain ⟨v2, hv2, hf⟩ := zk_ob hf
    have kv2 : ∀ (H : Heap) (locs : List Loc) (ls : Array Slot), va_P D vwCl [] H → va_D A [] → va_S A s.heap H locs → lv_has ls 2 [(0, .int v2.1), (1, .int v2.2)] → W p l e R s m args below meth c H locs 0 0 Q (F0 m 34 ls []) := by
      intro H locs ls hP hD hS hl
      refine lv_iload_n hx hb dJ6_numberOfTrailingZeros_0f7a4_34 rfl (lv_at hl 0 rfl) ?_
      refine lv_sipush (v := (256 : Int32)) hx hb dJ6_numberOfTrailingZeros_0f7a4_35 (by decide) ?_
      obtain ⟨v3, hv3, hf⟩ := zk_ob hf
      have kv3 : ∀ (H : Heap) (locs : List Loc) (ls : Array Slot), va_P D vwCl [] H → va_D A [] → va_S A s.heap H locs → lv_has ls 2 [(0, .int v3.1), (1, .int v3.2)] → W p l e R s m args below meth c H locs 0 0 Q (F0 m 49 ls []) := by
        intro H locs ls hP hD hS hl
        refine lv_iload_n hx hb dJ6_numberOfTrailingZeros_0f7a4_49 rfl (lv_at hl 0 rfl) ?_
        refine lv_bipush (v := (16 : Int32)) hx hb dJ6_numberOfTrailingZeros_0f7a4_50 (by decide) ?_
        obtain ⟨v4, hv4, hf⟩ := zk_ob hf
        have kv4 : ∀ (H : Heap) (locs : List Loc) (ls : Array Slot), va_P D vwCl [] H → va_D A [] → va_S A s.heap H locs → lv_has ls 2 [(0, .int v4.1), (1, .int v4.2)] → W p l e R s m args below meth c H locs 0 0 Q (F0 m 62 ls []) := by
          intro H locs ls hP hD hS hl
          refine lv_iload_n hx hb dJ6_numberOfTrailingZeros_0f7a4_62 rfl (lv_at hl 0 rfl) ?_
          refine lv_iconst (v := (4 : Int32)) hx hb dJ6_numberOfTrailingZeros_0f7a4_63 (by decide) ?_
          refine lv_icmp_le (tgt := 74) hx hb dJ6_numberOfTrailingZeros_0f7a4_64 (by decide) (fun c7 => ?_) (fun c7 => ?_)
          · have hf := zk_t c7 hf
            refine lv_iload_n hx hb dJ6_numberOfTrailingZeros_0f7a4_74 rfl (lv_at hl 1 rfl) ?_
            refine lv_iload_n hx hb dJ6_numberOfTrailingZeros_0f7a4_75 rfl (lv_at hl 0 rfl) ?_
            refine lv_iconst (v := (1 : Int32)) hx hb dJ6_numberOfTrailingZeros_0f7a4_76 (by decide) ?_
            refine lv_iushr hx hb dJ6_numberOfTrailingZeros_0f7a4_77 rfl ?_
            refine lv_iadd hx hb dJ6_numberOfTrailingZeros_0f7a4_78 ?_
            obtain rfl := Option.some.inj hf
            exact hret trivial _ _ _ _ hP hD hS dJ6_numberOfTrailingZeros_0f7a4_79
          · have hf := zk_f c7 hf
            obtain ⟨y5, ey5, hf⟩ := zk_lt_s hf
            refine lv_iinc (v := y5) (lv' := [(1, .int y5), (0, .int v4.1)]) hx hb dJ6_numberOfTrailingZeros_0f7a4_67 hl (k := 1) rfl (by rw [ey5]; rfl) (by decide) rfl (fun ls hl => ?_)
            refine lv_iload_n hx hb dJ6_numberOfTrailingZeros_0f7a4_70 rfl (lv_at hl 1 rfl) ?_
            refine lv_iconst (v := (2 : Int32)) hx hb dJ6_numberOfTrailingZeros_0f7a4_71 (by decide) ?_
            refine lv_iushr hx hb dJ6_numberOfTrailingZeros_0f7a4_72 rfl ?_
            obtain ⟨y6, ey6, hf⟩ := zk_lt_s hf
            refine zk_topi ey6 ?_
            refine lv_istore_n (lv' := [(0, .int y6), (1, .int y5)]) hx hb dJ6_numberOfTrailingZeros_0f7a4_73 rfl hl (by decide) rfl (fun ls hl => ?_)
            refine lv_iload_n hx hb dJ6_numberOfTrailingZeros_0f7a4_74 rfl (lv_at hl 1 rfl) ?_
            refine lv_iload_n hx hb dJ6_numberOfTrailingZeros_0f7a4_75 rfl (lv_at hl 0 rfl) ?_
            refine lv_iconst (v := (1 : Int32)) hx hb dJ6_numberOfTrailingZeros_0f7a4_76 (by decide) ?_
            refine lv_iushr hx hb dJ6_numberOfTrailingZeros_0f7a4_77 rfl ?_
            refine lv_iadd hx hb dJ6_numberOfTrailingZeros_0f7a4_78 ?_
            obtain rfl := Option.some.inj hf
            exact hret trivial _ _ _ _ hP hD hS dJ6_numberOfTrailingZeros_0f7a4_79
        replace hf := hv4
        refine lv_icmp_le (tgt := 62) hx hb dJ6_numberOfTrailingZeros_0f7a4_52 (by decide) (fun c10 => ?_) (fun c10 => ?_)
        · have hf := zk_t c10 hf
          obtain rfl := Option.some.inj hf
          exact kv4 _ _ _ hP hD hS (lv_sub hl [0, 1] rfl)
        · have hf := zk_f c10 hf
          obtain ⟨y8, ey8, hf⟩ := zk_lt_s hf
          refine lv_iinc (v := y8) (lv' := [(1, .int y8), (0, .int v3.1)]) hx hb dJ6_numberOfTrailingZeros_0f7a4_55 hl (k := 1) rfl (by rw [ey8]; rfl) (by decide) rfl (fun ls hl => ?_)
          refine lv_iload_n hx hb dJ6_numberOfTrailingZeros_0f7a4_58 rfl (lv_at hl 1 rfl) ?_
          refine lv_iconst (v := (4 : Int32)) hx hb dJ6_numberOfTrailingZeros_0f7a4_59 (by decide) ?_
          refine lv_iushr hx hb dJ6_numberOfTrailingZeros_0f7a4_60 rfl ?_
          obtain ⟨y9, ey9, hf⟩ := zk_lt_s hf
          refine zk_topi ey9 ?_
          refine lv_istore_n (lv' := [(0, .int y9), (1, .int y8)]) hx hb dJ6_numberOfTrailingZeros_0f7a4_61 rfl hl (by decide) rfl (fun ls hl => ?_)
          obtain rfl := Option.some.inj hf
          exact kv4 _ _ _ hP hD hS (lv_sub hl [0, 1] rfl)
      replace hf := hv3
      refine lv_icmp_le (tgt := 49) hx hb dJ6_numberOfTrailingZeros_0f7a4_38 (by decide) (fun c13 => ?_) (fun c13 => ?_)
      · have hf := zk_t c13 hf
        obtain rfl := Option.some.inj hf
        exact kv3 _ _ _ hP hD hS (lv_sub hl [0, 1] rfl)
      · have hf := zk_f c13 hf
        obtain ⟨y11, ey11, hf⟩ := zk_lt_s hf
        refine lv_iinc (v := y11) (lv' := [(1, .int y11), (0, .int v2.1)]) hx hb dJ6_numberOfTrailingZeros_0f7a4_41 hl (k := 1) rfl (by rw [ey11]; rfl) (by decide) rfl (fun ls hl => ?_)
        refine lv_iload_n hx hb dJ6_numberOfTrailingZeros_0f7a4_44 rfl (lv_at hl 1 rfl) ?_
        refine lv_bipush (v := (8 : Int32)) hx hb dJ6_numberOfTrailingZeros_0f7a4_45 (by decide) ?_
        refine lv_iushr hx hb dJ6_numberOfTrailingZeros_0f7a4_47 rfl ?_
        obtain ⟨y12, ey12, hf⟩ := zk_lt_s hf
        refine zk_topi ey12 ?_
        refine lv_istore_n (lv' := [(0, .int y12), (1, .int y11)]) hx hb dJ6_numberOfTrailingZeros_0f7a4_48 rfl hl (by decide) rfl (fun ls hl => ?_)
        obtain rfl := Option.some.inj hf
        exact kv3 _ _ _ hP hD hS (lv_sub hl [0, 1] rfl)
    replace hf := hv2
    refine lv_icmp_le (tgt := 34) hx hb dJ6_numberOfTrailingZeros_0f7a4_23 (by decide) (fun c16 => ?_) (fun c16 => ?_)
    · have hf := zk_t c16 hf
      obtain rfl := Option.some.inj hf
      exact kv2 _ _ _ hP hD hS (lv_sub hl [1, 0] rfl)
    · have hf := zk_f c16 hf
      obtain ⟨y14, ey14, hf⟩ := zk_lt_s hf
      refine lv_iinc (v := y14) (lv' := [(1, .int y14), (0, .int y1)]) hx hb dJ6_numberOfTrailingZeros_0f7a4_26 hl (k := 0) rfl (by rw [ey14]; rfl) (by decide) rfl (fun ls hl => ?_)
      refine lv_iload_n hx hb dJ6_numberOfTrailingZeros_0f7a4_29 rfl (lv_at hl 1 rfl) ?_
      refine lv_bipush (v := (16 : Int32)) hx hb dJ6_numberOfTrailingZeros_0f7a4_30 (by decide) ?_
      refine lv_iushr hx hb dJ6_numberOfTrailingZeros_0f7a4_32 rfl ?_
      obtain ⟨y15, ey15, hf⟩ := zk_lt_s hf
      refine zk_topi ey15 ?_
      refine lv_istore_n (lv' := [(0, .int y15), (1, .int y14)]) hx hb dJ6_numberOfTrailingZeros_0f7a4_33 rfl hl (by decide) rfl (fun ls hl => ?_)
      obtain rfl := Option.some.inj hf
      exact kv2 _ _ _ hP hD hS (lv_sub hl [0, 1] rfl)
  · have hf := zk_f c17 hf
    refine lv_iload_n hx hb dJ6_numberOfTrailingZeros_0f7a4_12 rfl (lv_at hl 0 rfl) ?_
    refine lv_bipush (v := (32 : Int32)) hx hb dJ6_numberOfTrailingZeros_0f7a4_13 (by decide) ?_
    refine lv_iand hx hb dJ6_numberOfTrailingZeros_0f7a4_15 ?_
    obtain rfl := Option.some.inj hf
    exact hret trivial _ _ _ _ hP hD hS dJ6_numberOfTrailingZeros_0f7a4_16
def zf_J13_bitCount_95d88 (x0 : Int64) : Option (Int32) :=
  zk_lt (x0 - (((x0.toUInt64 >>> ((1 : Int32).toInt64.toUInt64 &&& Int64.toUInt64 63)).toInt64) &&& (6148914691236517205 : Int64))) (fun y1 =>
  zk_lt ((y1 &&& (3689348814741910323 : Int64)) + (((y1.toUInt64 >>> ((2 : Int32).toInt64.toUInt64 &&& Int64.toUInt64 63)).toInt64) &&& (3689348814741910323 : Int64))) (fun y2 =>
  zk_lt ((y2 + ((y2.toUInt64 >>> ((4 : Int32).toInt64.toUInt64 &&& Int64.toUInt64 63)).toInt64)) &&& (1085102592571150095 : Int64)) (fun y3 =>
  zk_lt (y3 + ((y3.toUInt64 >>> ((8 : Int32).toInt64.toUInt64 &&& Int64.toUInt64 63)).toInt64)) (fun y4 =>
  zk_lt (y4 + ((y4.toUInt64 >>> ((16 : Int32).toInt64.toUInt64 &&& Int64.toUInt64 63)).toInt64)) (fun y5 =>
  zk_lt (y5 + ((y5.toUInt64 >>> ((32 : Int32).toInt64.toUInt64 &&& Int64.toUInt64 63)).toInt64)) (fun y6 =>
  some (y6.toInt32 &&& (127 : Int32))))))))
theorem hd_J13_bitCount_95d88 : yJ13_bitCount_95d88.cls ≠ "java/lang/invoke/MethodHandle" ∧ yJ13_bitCount_95d88.cls ≠ "java/lang/invoke/VarHandle" ∧ (parseMethodDescriptor yJ13_bitCount_95d88.desc).map (fun d => d.parameters.length) = some 1 := by decide +kernel
set_option maxHeartbeats 4000000 in
set_option maxRecDepth 100000 in
theorem zc_J13_bitCount_95d88 (l : Launch) (D : va_G) (tL tO : Nat) (cI cJ cB cQ : ClassId) (x0 : Int64) (z : Int32) (hf : zf_J13_bitCount_95d88 x0 = some z) : zk_CT l D tL tO (zk_ty cI cJ cB cQ) yJ13_bitCount_95d88 wsJ13_bitCount_95d88 0 0 [.long x0] (some (.int z)) [] [] := by
  refine zk_of_i (cc := cJ13_bitCount_95d88) (maxL := 2) (by decide) rfl (Nat.le_of_ble_eq_true rfl) ?_
  intro p e R s m args below meth c A Q ls hx hb hml hRf hRl hts hown hP hK hD hA hS hG hl hret
  have hl : lv_has ls 2 [(0, .long x0)] := hl
  have hown : s.vm.findClass RJ13 = some m.cls := hown
  have hcs : 0 ≤ R.cells ∧ 0 ≤ R.slots := ⟨Nat.zero_le _, Nat.zero_le _⟩
  have lk0 := hts (.constantLong RJ13 314 (6148914691236517205)) (by decide +kernel)
  have lk1 := hts (.constantLong RJ13 316 (3689348814741910323)) (by decide +kernel)
  have lk2 := hts (.constantLong RJ13 318 (1085102592571150095)) (by decide +kernel)
  unfold zf_J13_bitCount_95d88 at hf
  refine lv_lload_n hx hb dJ13_bitCount_95d88_0 rfl (lv_at hl 0 rfl) ?_
  refine lv_lload_n hx hb dJ13_bitCount_95d88_1 rfl (lv_at hl 0 rfl) ?_
  refine lv_iconst (v := (1 : Int32)) hx hb dJ13_bitCount_95d88_2 (by decide) ?_
  refine lv_lushr hx hb dJ13_bitCount_95d88_3 rfl ?_
  refine lv_ldc2 hx hb hown lk0 dJ13_bitCount_95d88_4 ?_
  refine lv_land hx hb dJ13_bitCount_95d88_7 ?_
  refine lv_lsub hx hb dJ13_bitCount_95d88_8 ?_
  obtain ⟨y1, ey1, hf⟩ := zk_lt_s hf
  refine zk_topl ey1 ?_
  refine lv_lstore_n (lv' := [(0, .long y1)]) hx hb dJ13_bitCount_95d88_9 rfl hl (by decide) rfl (fun ls hl => ?_)
  refine lv_lload_n hx hb dJ13_bitCount_95d88_10 rfl (lv_at hl 0 rfl) ?_
  refine lv_ldc2 hx hb hown lk1 dJ13_bitCount_95d88_11 ?_
  refine lv_land hx hb dJ13_bitCount_95d88_14 ?_
  refine lv_lload_n hx hb dJ13_bitCount_95d88_15 rfl (lv_at hl 0 rfl) ?_
  refine lv_iconst (v := (2 : Int32)) hx hb dJ13_bitCount_95d88_16 (by decide) ?_
  refine lv_lushr hx hb dJ13_bitCount_95d88_17 rfl ?_
  refine lv_ldc2 hx hb hown lk1 dJ13_bitCount_95d88_18 ?_
  refine lv_land hx hb dJ13_bitCount_95d88_21 ?_
  refine lv_ladd hx hb dJ13_bitCount_95d88_22 ?_
  obtain ⟨y2, ey2, hf⟩ := zk_lt_s hf
  refine zk_topl ey2 ?_
  refine lv_lstore_n (lv' := [(0, .long y2)]) hx hb dJ13_bitCount_95d88_23 rfl hl (by decide) rfl (fun ls hl => ?_)
  refine lv_lload_n hx hb dJ13_bitCount_95d88_24 rfl (lv_at hl 0 rfl) ?_
  refine lv_lload_n hx hb dJ13_bitCount_95d88_25 rfl (lv_at hl 0 rfl) ?_
  refine lv_iconst (v := (4 : Int32)) hx hb dJ13_bitCount_95d88_26 (by decide) ?_
  refine lv_lushr hx hb dJ13_bitCount_95d88_27 rfl ?_
  refine lv_ladd hx hb dJ13_bitCount_95d88_28 ?_
  refine lv_ldc2 hx hb hown lk2 dJ13_bitCount_95d88_29 ?_
  refine lv_land hx hb dJ13_bitCount_95d88_32 ?_
  obtain ⟨y3, ey3, hf⟩ := zk_lt_s hf
  refine zk_topl ey3 ?_
  refine lv_lstore_n (lv' := [(0, .long y3)]) hx hb dJ13_bitCount_95d88_33 rfl hl (by decide) rfl (fun ls hl => ?_)
  refine lv_lload_n hx hb dJ13_bitCount_95d88_34 rfl (lv_at hl 0 rfl) ?_
  refine lv_lload_n hx hb dJ13_bitCount_95d88_35 rfl (lv_at hl 0 rfl) ?_
  refine lv_bipush (v := (8 : Int32)) hx hb dJ13_bitCount_95d88_36 (by decide) ?_
  refine lv_lushr hx hb dJ13_bitCount_95d88_38 rfl ?_
  refine lv_ladd hx hb dJ13_bitCount_95d88_39 ?_
  obtain ⟨y4, ey4, hf⟩ := zk_lt_s hf
  refine zk_topl ey4 ?_
  refine lv_lstore_n (lv' := [(0, .long y4)]) hx hb dJ13_bitCount_95d88_40 rfl hl (by decide) rfl (fun ls hl => ?_)
  refine lv_lload_n hx hb dJ13_bitCount_95d88_41 rfl (lv_at hl 0 rfl) ?_
  refine lv_lload_n hx hb dJ13_bitCount_95d88_42 rfl (lv_at hl 0 rfl) ?_
  refine lv_bipush (v := (16 : Int32)) hx hb dJ13_bitCount_95d88_43 (by decide) ?_
  refine lv_lushr hx hb dJ13_bitCount_95d88_45 rfl ?_
  refine lv_ladd hx hb dJ13_bitCount_95d88_46 ?_
  obtain ⟨y5, ey5, hf⟩ := zk_lt_s hf
  refine zk_topl ey5 ?_
  refine lv_lstore_n (lv' := [(0, .long y5)]) hx hb dJ13_bitCount_95d88_47 rfl hl (by decide) rfl (fun ls hl => ?_)
  refine lv_lload_n hx hb dJ13_bitCount_95d88_48 rfl (lv_at hl 0 rfl) ?_
  refine lv_lload_n hx hb dJ13_bitCount_95d88_49 rfl (lv_at hl 0 rfl) ?_
  refine lv_bipush (v := (32 : Int32)) hx hb dJ13_bitCount_95d88_50 (by decide) ?_
  refine lv_lushr hx hb dJ13_bitCount_95d88_52 rfl ?_
  refine lv_ladd hx hb dJ13_bitCount_95d88_53 ?_
  obtain ⟨y6, ey6, hf⟩ := zk_lt_s hf
  refine zk_topl ey6 ?_
  refine lv_lstore_n (lv' := [(0, .long y6)]) hx hb dJ13_bitCount_95d88_54 rfl hl (by decide) rfl (fun ls hl => ?_)
  refine lv_lload_n hx hb dJ13_bitCount_95d88_55 rfl (lv_at hl 0 rfl) ?_
  refine lv_l2i hx hb dJ13_bitCount_95d88_56 rfl ?_
  refine lv_bipush (v := (127 : Int32)) hx hb dJ13_bitCount_95d88_57 (by decide) ?_
  refine lv_iand hx hb dJ13_bitCount_95d88_59 ?_
  obtain rfl := Option.some.inj hf
  exact hret trivial _ _ _ _ hP hD hS dJ13_bitCount_95d88_60
def zl_J7_fill_53178_5 (x1 : Int32) (n0 : Nat) (y1 : Int32) : Nat → (Int32) → (Nat → Int32) → Option (Int32 × (Nat → Int32))
  | 0, _, _ => none
  | n + 1, w2, w3 =>
    if y1 ≤ w2 then
    some (w2, w3)
    else
    zk_gd (zk_in w2 n0)
    (zk_lt (w2 + 1) (fun y5 =>
    zl_J7_fill_53178_5 x1 n0 y1 n y5 (upd w3 w2.toNatClampNeg x1)))
def zf_J7_fill_53178 (x1 : Int32) (n0 : Nat) (f_p0 : Nat → Int32) : Option (Nat → Int32) :=
  zk_lt (Int32.ofNat n0) (fun y1 =>
  (zl_J7_fill_53178_5 x1 n0 y1 zk_F (0 : Int32) f_p0).bind (fun v7 =>
  some v7.2))
theorem hd_J7_fill_53178 : yJ7_fill_53178.cls ≠ "java/lang/invoke/MethodHandle" ∧ yJ7_fill_53178.cls ≠ "java/lang/invoke/VarHandle" ∧ (parseMethodDescriptor yJ7_fill_53178.desc).map (fun d => d.parameters.length) = some 2 := by decide +kernel
set_option maxHeartbeats 4000000 in
set_option maxRecDepth 100000 in
theorem zc_J7_fill_53178 (l : Launch) (D : va_G) (tL tO : Nat) (cI cJ cB cQ : ClassId) (a_p0 : Nat) (n0 : Nat) (x1 : Int32) (f_p0 : Nat → Int32) (z : Nat → Int32) (hf : zf_J7_fill_53178 x1 n0 f_p0 = some z) : zk_CT l D tL tO (zk_ty cI cJ cB cQ) yJ7_fill_53178 wsJ7_fill_53178 0 0 [.ref a_p0, .int x1] none [(a_p0, .inl (cI, n0, .inl f_p0))] [(a_p0, .inl (cI, n0, .inl z))] := by
  refine zk_of_v (cc := cJ7_fill_53178) (maxL := 4) (by decide) rfl (Nat.le_of_ble_eq_true rfl) ?_
  intro p e R s m args below meth c A Q ls hx hb hml hRf hRl hts hown hP hK hD hA hS hG hl hret
  have hl : lv_has ls 4 [(0, .ref a_p0), (1, .int x1)] := hl
  have hown : s.vm.findClass RJ7 = some m.cls := hown
  have hcs : 0 ≤ R.cells ∧ 0 ≤ R.slots := ⟨Nat.zero_le _, Nat.zero_le _⟩
  unfold zf_J7_fill_53178 at hf
  refine lv_iconst (v := (0 : Int32)) hx hb dJ7_fill_53178_0 (by decide) ?_
  refine lv_istore_n (lv' := [(2, .int (0 : Int32)), (0, .ref a_p0), (1, .int x1)]) hx hb dJ7_fill_53178_1 rfl hl (by decide) rfl (fun ls hl => ?_)
  refine lv_aload_n hx hb dJ7_fill_53178_2 rfl (lv_at hl 1 rfl) ?_
  refine va_alen hx hb hK hP 0 0 rfl rfl (v := Int32.ofNat n0) rfl dJ7_fill_53178_3 ?_
  obtain ⟨y1, ey1, hf⟩ := zk_lt_s hf
  refine zk_topi ey1 ?_
  refine lv_istore_n (lv' := [(3, .int y1), (2, .int (0 : Int32)), (0, .ref a_p0), (1, .int x1)]) hx hb dJ7_fill_53178_4 rfl hl (by decide) rfl (fun ls hl => ?_)
  have lp5 : ∀ (n : Nat) (w2 : Int32) (w3 : Nat → Int32) (z5 : Int32 × (Nat → Int32)) (H : Heap) (locs : List Loc) (ls : Array Slot), zl_J7_fill_53178_5 x1 n0 y1 n w2 w3 = some z5 → va_P D vwCl [(a_p0, .inl (cI, n0, .inl w3))] H → va_D A [(a_p0, .inl (cI, n0, .inl w3))] → va_S A s.heap H locs → lv_has ls 4 [(0, .ref a_p0), (1, .int x1), (2, .int w2), (3, .int y1)] → (∀ (H : Heap) (locs : List Loc) (ls : Array Slot), va_P D vwCl [(a_p0, .inl (cI, n0, .inl z5.2))] H → va_D A [(a_p0, .inl (cI, n0, .inl z5.2))] → va_S A s.heap H locs → lv_has ls 4 [(0, .ref a_p0), (1, .int x1), (2, .int z5.1), (3, .int y1)] → W p l e R s m args below meth c H locs 0 0 Q (F0 m 20 ls [])) → W p l e R s m args below meth c H locs 0 0 Q (F0 m 5 ls []) := by
    intro n
    induction n with
    | zero => intro w2 w3 z5 H locs ls hf; exact absurd (show none = some z5 from hf) (by simp)
    | succ n ih =>
      intro w2 w3 z5 H locs ls hf hP hD hS hl hk
      rw [zl_J7_fill_53178_5] at hf
      refine lv_iload_n hx hb dJ7_fill_53178_5 rfl (lv_at hl 2 rfl) ?_
      refine lv_iload_n hx hb dJ7_fill_53178_6 rfl (lv_at hl 3 rfl) ?_
      refine lv_icmp_ge (tgt := 20) hx hb dJ7_fill_53178_7 (by decide) (fun c6 => ?_) (fun c6 => ?_)
      · have hf := zk_t c6 hf
        obtain rfl := Option.some.inj hf
        exact hk _ _ _ hP hD hS (lv_sub hl [0, 1, 2, 3] rfl)
      · have hf := zk_f c6 hf
        refine lv_aload_n hx hb dJ7_fill_53178_10 rfl (lv_at hl 0 rfl) ?_
        refine lv_iload_n hx hb dJ7_fill_53178_11 rfl (lv_at hl 2 rfl) ?_
        refine lv_iload_n hx hb dJ7_fill_53178_12 rfl (lv_at hl 1 rfl) ?_
        obtain ⟨g4, hf⟩ := zk_gd_s hf
        refine va_iast hx hb hK hP hD hS 0 0 rfl rfl (zk_in_s g4) dJ7_fill_53178_13 (fun H locs hP hD hS => ?_)
        have hP : va_P D vwCl [(a_p0, .inl (cI, n0, .inl (upd w3 w2.toNatClampNeg x1)))] H := hP
        have hD : va_D A [(a_p0, .inl (cI, n0, .inl (upd w3 w2.toNatClampNeg x1)))] := hD
        obtain ⟨y5, ey5, hf⟩ := zk_lt_s hf
        refine lv_iinc (v := y5) (lv' := [(2, .int y5), (0, .ref a_p0), (1, .int x1), (3, .int y1)]) hx hb dJ7_fill_53178_14 hl (k := 2) rfl (by rw [ey5]; rfl) (by decide) rfl (fun ls hl => ?_)
        refine lv_goto (tgt := 5) hx hb dJ7_fill_53178_17 (by decide) ?_
        exact ih y5 (upd w3 w2.toNatClampNeg x1) _ _ _ _ hf hP hD hS (lv_sub hl [1, 2, 0, 3] rfl) hk
  obtain ⟨v7, hv7, hf⟩ := zk_ob hf
  refine lp5 zk_F (0 : Int32) f_p0 v7 _ _ _ hv7 hP hD hS (lv_sub hl [2, 3, 1, 0] rfl) ?_
  intro H locs ls hP hD hS hl
  obtain rfl := Option.some.inj hf
  exact hret trivial _ _ _ _ hP hD hS dJ7_fill_53178_20
def zl_J7_fill_d0a16_6 (x1 : Int64) (n0 : Nat) (y1 : Int32) : Nat → (Int32) → (Nat → Int64) → Option (Int32 × (Nat → Int64))
  | 0, _, _ => none
  | n + 1, w2, w3 =>
    if y1 ≤ w2 then
    some (w2, w3)
    else
    zk_gd (zk_in w2 n0)
    (zk_lt (w2 + 1) (fun y5 =>
    zl_J7_fill_d0a16_6 x1 n0 y1 n y5 (vp_updL w3 w2.toNatClampNeg x1)))
def zf_J7_fill_d0a16 (x1 : Int64) (n0 : Nat) (f_p0 : Nat → Int64) : Option (Nat → Int64) :=
  zk_lt (Int32.ofNat n0) (fun y1 =>
  (zl_J7_fill_d0a16_6 x1 n0 y1 zk_F (0 : Int32) f_p0).bind (fun v7 =>
  some v7.2))
theorem hd_J7_fill_d0a16 : yJ7_fill_d0a16.cls ≠ "java/lang/invoke/MethodHandle" ∧ yJ7_fill_d0a16.cls ≠ "java/lang/invoke/VarHandle" ∧ (parseMethodDescriptor yJ7_fill_d0a16.desc).map (fun d => d.parameters.length) = some 2 := by decide +kernel
set_option maxHeartbeats 4000000 in
set_option maxRecDepth 100000 in
theorem zc_J7_fill_d0a16 (l : Launch) (D : va_G) (tL tO : Nat) (cI cJ cB cQ : ClassId) (a_p0 : Nat) (n0 : Nat) (x1 : Int64) (f_p0 : Nat → Int64) (z : Nat → Int64) (hf : zf_J7_fill_d0a16 x1 n0 f_p0 = some z) : zk_CT l D tL tO (zk_ty cI cJ cB cQ) yJ7_fill_d0a16 wsJ7_fill_d0a16 0 0 [.ref a_p0, .long x1] none [(a_p0, .inl (cJ, n0, .inr (.inl f_p0)))] [(a_p0, .inl (cJ, n0, .inr (.inl z)))] := by
  refine zk_of_v (cc := cJ7_fill_d0a16) (maxL := 5) (by decide) rfl (Nat.le_of_ble_eq_true rfl) ?_
  intro p e R s m args below meth c A Q ls hx hb hml hRf hRl hts hown hP hK hD hA hS hG hl hret
  have hl : lv_has ls 5 [(0, .ref a_p0), (1, .long x1)] := hl
  have hown : s.vm.findClass RJ7 = some m.cls := hown
  have hcs : 0 ≤ R.cells ∧ 0 ≤ R.slots := ⟨Nat.zero_le _, Nat.zero_le _⟩
  unfold zf_J7_fill_d0a16 at hf
  refine lv_iconst (v := (0 : Int32)) hx hb dJ7_fill_d0a16_0 (by decide) ?_
  refine lv_istore_n (lv' := [(3, .int (0 : Int32)), (0, .ref a_p0), (1, .long x1)]) hx hb dJ7_fill_d0a16_1 rfl hl (by decide) rfl (fun ls hl => ?_)
  refine lv_aload_n hx hb dJ7_fill_d0a16_2 rfl (lv_at hl 1 rfl) ?_
  refine va_alen hx hb hK hP 0 1 rfl rfl (v := Int32.ofNat n0) rfl dJ7_fill_d0a16_3 ?_
  obtain ⟨y1, ey1, hf⟩ := zk_lt_s hf
  refine zk_topi ey1 ?_
  refine lv_istore (lv' := [(4, .int y1), (3, .int (0 : Int32)), (0, .ref a_p0), (1, .long x1)]) hx hb dJ7_fill_d0a16_4 hl (by decide) rfl (fun ls hl => ?_)
  have lp6 : ∀ (n : Nat) (w2 : Int32) (w3 : Nat → Int64) (z6 : Int32 × (Nat → Int64)) (H : Heap) (locs : List Loc) (ls : Array Slot), zl_J7_fill_d0a16_6 x1 n0 y1 n w2 w3 = some z6 → va_P D vwCl [(a_p0, .inl (cJ, n0, .inr (.inl w3)))] H → va_D A [(a_p0, .inl (cJ, n0, .inr (.inl w3)))] → va_S A s.heap H locs → lv_has ls 5 [(0, .ref a_p0), (1, .long x1), (3, .int w2), (4, .int y1)] → (∀ (H : Heap) (locs : List Loc) (ls : Array Slot), va_P D vwCl [(a_p0, .inl (cJ, n0, .inr (.inl z6.2)))] H → va_D A [(a_p0, .inl (cJ, n0, .inr (.inl z6.2)))] → va_S A s.heap H locs → lv_has ls 5 [(0, .ref a_p0), (1, .long x1), (3, .int z6.1), (4, .int y1)] → W p l e R s m args below meth c H locs 0 0 Q (F0 m 22 ls [])) → W p l e R s m args below meth c H locs 0 0 Q (F0 m 6 ls []) := by
    intro n
    induction n with
    | zero => intro w2 w3 z6 H locs ls hf; exact absurd (show none = some z6 from hf) (by simp)
    | succ n ih =>
      intro w2 w3 z6 H locs ls hf hP hD hS hl hk
      rw [zl_J7_fill_d0a16_6] at hf
      refine lv_iload_n hx hb dJ7_fill_d0a16_6 rfl (lv_at hl 2 rfl) ?_
      refine lv_iload hx hb dJ7_fill_d0a16_7 (lv_at hl 3 rfl) ?_
      refine lv_icmp_ge (tgt := 22) hx hb dJ7_fill_d0a16_9 (by decide) (fun c6 => ?_) (fun c6 => ?_)
      · have hf := zk_t c6 hf
        obtain rfl := Option.some.inj hf
        exact hk _ _ _ hP hD hS (lv_sub hl [0, 1, 2, 3] rfl)
      · have hf := zk_f c6 hf
        refine lv_aload_n hx hb dJ7_fill_d0a16_12 rfl (lv_at hl 0 rfl) ?_
        refine lv_iload_n hx hb dJ7_fill_d0a16_13 rfl (lv_at hl 2 rfl) ?_
        refine lv_lload_n hx hb dJ7_fill_d0a16_14 rfl (lv_at hl 1 rfl) ?_
        obtain ⟨g4, hf⟩ := zk_gd_s hf
        refine va_last hx hb hK hP hD hS 0 1 rfl rfl (zk_in_s g4) dJ7_fill_d0a16_15 (fun H locs hP hD hS => ?_)
        have hP : va_P D vwCl [(a_p0, .inl (cJ, n0, .inr (.inl (vp_updL w3 w2.toNatClampNeg x1))))] H := hP
        have hD : va_D A [(a_p0, .inl (cJ, n0, .inr (.inl (vp_updL w3 w2.toNatClampNeg x1))))] := hD
        obtain ⟨y5, ey5, hf⟩ := zk_lt_s hf
        refine lv_iinc (v := y5) (lv' := [(3, .int y5), (0, .ref a_p0), (1, .long x1), (4, .int y1)]) hx hb dJ7_fill_d0a16_16 hl (k := 2) rfl (by rw [ey5]; rfl) (by decide) rfl (fun ls hl => ?_)
        refine lv_goto (tgt := 6) hx hb dJ7_fill_d0a16_19 (by decide) ?_
        exact ih y5 (vp_updL w3 w2.toNatClampNeg x1) _ _ _ _ hf hP hD hS (lv_sub hl [1, 2, 0, 3] rfl) hk
  obtain ⟨v7, hv7, hf⟩ := zk_ob hf
  refine lp6 zk_F (0 : Int32) f_p0 v7 _ _ _ hv7 hP hD hS (lv_sub hl [2, 3, 1, 0] rfl) ?_
  intro H locs ls hP hD hS hl
  obtain rfl := Option.some.inj hf
  exact hret trivial _ _ _ _ hP hD hS dJ7_fill_d0a16_22
end
