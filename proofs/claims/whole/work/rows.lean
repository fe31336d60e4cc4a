section
-- ===== PART A: goes FIRST, ahead of the names: the tables' words, and 'selects' of the private methods out of them =====
/-- a private method of a class that the tables say can be made, by its rows of tables_1 -/
def lw_okq (q : MethodName × Nat) : Prop := (q.1.cls ≠ "java/lang/invoke/MethodHandle" ∧ q.1.cls ≠ "java/lang/invoke/VarHandle") ∧ Cond.instantiable q.1.cls q.2 ∈ tables_1 ∧ Cond.privateMethod q.1 ∈ tables_1 ∧ Cond.instanceMethod q.1 ∈ tables_1
theorem lw_p0 : lw_okq (⟨"WordsFirst$Rule", "countPlaces", "()V"⟩, 8) := ⟨⟨by decide +kernel, by decide +kernel⟩, List.mem_of_getElem? (i := 159) (by decide +kernel), List.mem_of_getElem? (i := 348) (by decide +kernel), List.mem_of_getElem? (i := 349) (by decide +kernel)⟩
theorem lw_p1 : lw_okq (⟨"WordsFirst$Rule", "greatestAt", "(II)I"⟩, 8) := ⟨⟨by decide +kernel, by decide +kernel⟩, List.mem_of_getElem? (i := 159) (by decide +kernel), List.mem_of_getElem? (i := 361) (by decide +kernel), List.mem_of_getElem? (i := 362) (by decide +kernel)⟩
theorem lw_p2 : lw_okq (⟨"WordsFirst$Rule", "findRegular", "()V"⟩, 8) := ⟨⟨by decide +kernel, by decide +kernel⟩, List.mem_of_getElem? (i := 159) (by decide +kernel), List.mem_of_getElem? (i := 365) (by decide +kernel), List.mem_of_getElem? (i := 366) (by decide +kernel)⟩
theorem lw_p3 : lw_okq (⟨"WordsFirst$Rule", "goesByRule", "(I)Z"⟩, 8) := ⟨⟨by decide +kernel, by decide +kernel⟩, List.mem_of_getElem? (i := 159) (by decide +kernel), List.mem_of_getElem? (i := 369) (by decide +kernel), List.mem_of_getElem? (i := 370) (by decide +kernel)⟩
theorem lw_p4 : lw_okq (⟨"WordsFirst$Rule", "sortByTimes", "()V"⟩, 8) := ⟨⟨by decide +kernel, by decide +kernel⟩, List.mem_of_getElem? (i := 159) (by decide +kernel), List.mem_of_getElem? (i := 373) (by decide +kernel), List.mem_of_getElem? (i := 374) (by decide +kernel)⟩
theorem lw_p5 : lw_okq (⟨"WordsFirst$Rule", "findGuesses", "()V"⟩, 8) := ⟨⟨by decide +kernel, by decide +kernel⟩, List.mem_of_getElem? (i := 159) (by decide +kernel), List.mem_of_getElem? (i := 377) (by decide +kernel), List.mem_of_getElem? (i := 378) (by decide +kernel)⟩
theorem lw_p6 : lw_okq (⟨"WordsFirst$Book", "hasLetters", "(ILWordsFirst$Pad;)Z"⟩, 6) := ⟨⟨by decide +kernel, by decide +kernel⟩, List.mem_of_getElem? (i := 49) (by decide +kernel), List.mem_of_getElem? (i := 441) (by decide +kernel), List.mem_of_getElem? (i := 442) (by decide +kernel)⟩
theorem lw_p7 : lw_okq (⟨"WordsFirst", "bookChanged", "()V"⟩, 10) := ⟨⟨by decide +kernel, by decide +kernel⟩, List.mem_of_getElem? (i := 19) (by decide +kernel), List.mem_of_getElem? (i := 462) (by decide +kernel), List.mem_of_getElem? (i := 463) (by decide +kernel)⟩
theorem lw_p8 : lw_okq (⟨"WordsFirst", "childChanged", "(I)V"⟩, 10) := ⟨⟨by decide +kernel, by decide +kernel⟩, List.mem_of_getElem? (i := 19) (by decide +kernel), List.mem_of_getElem? (i := 466) (by decide +kernel), List.mem_of_getElem? (i := 467) (by decide +kernel)⟩
theorem lw_p9 : lw_okq (⟨"WordsFirst$Reader", "hasSoundRow", "(II)Z"⟩, 4) := ⟨⟨by decide +kernel, by decide +kernel⟩, List.mem_of_getElem? (i := 198) (by decide +kernel), List.mem_of_getElem? (i := 592) (by decide +kernel), List.mem_of_getElem? (i := 593) (by decide +kernel)⟩
theorem lw_p10 : lw_okq (⟨"WordsFirst$SignPlan", "weighSets", "()V"⟩, 7) := ⟨⟨by decide +kernel, by decide +kernel⟩, List.mem_of_getElem? (i := 217) (by decide +kernel), List.mem_of_getElem? (i := 636) (by decide +kernel), List.mem_of_getElem? (i := 637) (by decide +kernel)⟩
theorem lw_p11 : lw_okq (⟨"WordsFirst$SignPlan", "bestAhead", "(I)I"⟩, 7) := ⟨⟨by decide +kernel, by decide +kernel⟩, List.mem_of_getElem? (i := 217) (by decide +kernel), List.mem_of_getElem? (i := 645) (by decide +kernel), List.mem_of_getElem? (i := 646) (by decide +kernel)⟩
theorem lw_p12 : lw_okq (⟨"WordsFirst$SignPlan", "pickOrder", "()V"⟩, 7) := ⟨⟨by decide +kernel, by decide +kernel⟩, List.mem_of_getElem? (i := 217) (by decide +kernel), List.mem_of_getElem? (i := 650) (by decide +kernel), List.mem_of_getElem? (i := 651) (by decide +kernel)⟩
theorem lw_p13 : lw_okq (⟨"WordsFirst$SignPlan", "nextSign", "(I)I"⟩, 7) := ⟨⟨by decide +kernel, by decide +kernel⟩, List.mem_of_getElem? (i := 217) (by decide +kernel), List.mem_of_getElem? (i := 654) (by decide +kernel), List.mem_of_getElem? (i := 655) (by decide +kernel)⟩
theorem lw_p14 : lw_okq (⟨"WordsFirst$SignPlan", "worthWith", "(II)I"⟩, 7) := ⟨⟨by decide +kernel, by decide +kernel⟩, List.mem_of_getElem? (i := 217) (by decide +kernel), List.mem_of_getElem? (i := 672) (by decide +kernel), List.mem_of_getElem? (i := 673) (by decide +kernel)⟩
theorem lw_p15 : lw_okq (⟨"WordsFirst$TaleFinder", "findBehind", "()V"⟩, 6) := ⟨⟨by decide +kernel, by decide +kernel⟩, List.mem_of_getElem? (i := 248) (by decide +kernel), List.mem_of_getElem? (i := 689) (by decide +kernel), List.mem_of_getElem? (i := 690) (by decide +kernel)⟩
def lw_privs_1 : List (MethodName × Nat) := [(⟨"WordsFirst$Rule", "countPlaces", "()V"⟩, 8), (⟨"WordsFirst$Rule", "greatestAt", "(II)I"⟩, 8), (⟨"WordsFirst$Rule", "findRegular", "()V"⟩, 8), (⟨"WordsFirst$Rule", "goesByRule", "(I)Z"⟩, 8), (⟨"WordsFirst$Rule", "sortByTimes", "()V"⟩, 8), (⟨"WordsFirst$Rule", "findGuesses", "()V"⟩, 8), (⟨"WordsFirst$Book", "hasLetters", "(ILWordsFirst$Pad;)Z"⟩, 6), (⟨"WordsFirst", "bookChanged", "()V"⟩, 10), (⟨"WordsFirst", "childChanged", "(I)V"⟩, 10), (⟨"WordsFirst$Reader", "hasSoundRow", "(II)Z"⟩, 4), (⟨"WordsFirst$SignPlan", "weighSets", "()V"⟩, 7), (⟨"WordsFirst$SignPlan", "bestAhead", "(I)I"⟩, 7), (⟨"WordsFirst$SignPlan", "pickOrder", "()V"⟩, 7), (⟨"WordsFirst$SignPlan", "nextSign", "(I)I"⟩, 7), (⟨"WordsFirst$SignPlan", "worthWith", "(II)I"⟩, 7), (⟨"WordsFirst$TaleFinder", "findBehind", "()V"⟩, 6)]
theorem lw_r1 : ∀ q ∈ lw_privs_1, lw_okq q := List.forall_mem_cons.mpr ⟨lw_p0, List.forall_mem_cons.mpr ⟨lw_p1, List.forall_mem_cons.mpr ⟨lw_p2, List.forall_mem_cons.mpr ⟨lw_p3, List.forall_mem_cons.mpr ⟨lw_p4, List.forall_mem_cons.mpr ⟨lw_p5, List.forall_mem_cons.mpr ⟨lw_p6, List.forall_mem_cons.mpr ⟨lw_p7, List.forall_mem_cons.mpr ⟨lw_p8, List.forall_mem_cons.mpr ⟨lw_p9, List.forall_mem_cons.mpr ⟨lw_p10, List.forall_mem_cons.mpr ⟨lw_p11, List.forall_mem_cons.mpr ⟨lw_p12, List.forall_mem_cons.mpr ⟨lw_p13, List.forall_mem_cons.mpr ⟨lw_p14, List.forall_mem_cons.mpr ⟨lw_p15, fun _ h => absurd h List.not_mem_nil⟩⟩⟩⟩⟩⟩⟩⟩⟩⟩⟩⟩⟩⟩⟩⟩
theorem lw_p16 : lw_okq (⟨"WordsFirst$TaleFinder", "startsOf", "(I)I"⟩, 6) := ⟨⟨by decide +kernel, by decide +kernel⟩, List.mem_of_getElem? (i := 248) (by decide +kernel), List.mem_of_getElem? (i := 701) (by decide +kernel), List.mem_of_getElem? (i := 702) (by decide +kernel)⟩
theorem lw_p17 : lw_okq (⟨"WordsFirst$TaleFinder", "pickRow", "(I)V"⟩, 6) := ⟨⟨by decide +kernel, by decide +kernel⟩, List.mem_of_getElem? (i := 248) (by decide +kernel), List.mem_of_getElem? (i := 707) (by decide +kernel), List.mem_of_getElem? (i := 708) (by decide +kernel)⟩
theorem lw_p18 : lw_okq (⟨"WordsFirst$TaleFinder", "leastStart", "(III)I"⟩, 6) := ⟨⟨by decide +kernel, by decide +kernel⟩, List.mem_of_getElem? (i := 248) (by decide +kernel), List.mem_of_getElem? (i := 711) (by decide +kernel), List.mem_of_getElem? (i := 712) (by decide +kernel)⟩
theorem lw_p19 : lw_okq (⟨"WordsFirst$Doubt", "fits", "(I)Z"⟩, 9) := ⟨⟨by decide +kernel, by decide +kernel⟩, List.mem_of_getElem? (i := 276) (by decide +kernel), List.mem_of_getElem? (i := 741) (by decide +kernel), List.mem_of_getElem? (i := 742) (by decide +kernel)⟩
theorem lw_p20 : lw_okq (⟨"WordsFirst$Doubt", "countKnown", "(I)V"⟩, 9) := ⟨⟨by decide +kernel, by decide +kernel⟩, List.mem_of_getElem? (i := 276) (by decide +kernel), List.mem_of_getElem? (i := 759) (by decide +kernel), List.mem_of_getElem? (i := 760) (by decide +kernel)⟩
theorem lw_p21 : lw_okq (⟨"WordsFirst$Doubt", "findWordsWith", "()V"⟩, 9) := ⟨⟨by decide +kernel, by decide +kernel⟩, List.mem_of_getElem? (i := 276) (by decide +kernel), List.mem_of_getElem? (i := 772) (by decide +kernel), List.mem_of_getElem? (i := 773) (by decide +kernel)⟩
theorem lw_p22 : lw_okq (⟨"WordsFirst$Doubt", "tellsAll", "(I)Z"⟩, 9) := ⟨⟨by decide +kernel, by decide +kernel⟩, List.mem_of_getElem? (i := 276) (by decide +kernel), List.mem_of_getElem? (i := 778) (by decide +kernel), List.mem_of_getElem? (i := 779) (by decide +kernel)⟩
theorem lw_p23 : lw_okq (⟨"WordsFirst$Rule", "areRespeltAlike", "(II)Z"⟩, 8) := ⟨⟨by decide +kernel, by decide +kernel⟩, List.mem_of_getElem? (i := 159) (by decide +kernel), List.mem_of_getElem? (i := 803) (by decide +kernel), List.mem_of_getElem? (i := 804) (by decide +kernel)⟩
theorem lw_p24 : lw_okq (⟨"WordsFirst$LessonPlan", "findShares", "(I)V"⟩, 8) := ⟨⟨by decide +kernel, by decide +kernel⟩, List.mem_of_getElem? (i := 310) (by decide +kernel), List.mem_of_getElem? (i := 815) (by decide +kernel), List.mem_of_getElem? (i := 816) (by decide +kernel)⟩
theorem lw_p25 : lw_okq (⟨"WordsFirst$LessonPlan", "trySplit", "(IIII)V"⟩, 8) := ⟨⟨by decide +kernel, by decide +kernel⟩, List.mem_of_getElem? (i := 310) (by decide +kernel), List.mem_of_getElem? (i := 840) (by decide +kernel), List.mem_of_getElem? (i := 841) (by decide +kernel)⟩
theorem lw_p26 : lw_okq (⟨"WordsFirstModel", "isThere", "()Z"⟩, 31) := ⟨⟨by decide +kernel, by decide +kernel⟩, List.mem_of_getElem? (i := 897) (by decide +kernel), List.mem_of_getElem? (i := 1028) (by decide +kernel), List.mem_of_getElem? (i := 1029) (by decide +kernel)⟩
theorem lw_p27 : lw_okq (⟨"WordsFirstModel", "isWord", "(I)Z"⟩, 31) := ⟨⟨by decide +kernel, by decide +kernel⟩, List.mem_of_getElem? (i := 897) (by decide +kernel), List.mem_of_getElem? (i := 1036) (by decide +kernel), List.mem_of_getElem? (i := 1037) (by decide +kernel)⟩
theorem lw_p28 : lw_okq (⟨"WordsFirstModel", "signsOf", "(I)I"⟩, 31) := ⟨⟨by decide +kernel, by decide +kernel⟩, List.mem_of_getElem? (i := 897) (by decide +kernel), List.mem_of_getElem? (i := 1044) (by decide +kernel), List.mem_of_getElem? (i := 1045) (by decide +kernel)⟩
theorem lw_p29 : lw_okq (⟨"WordsFirstModel", "findCommon", "()V"⟩, 31) := ⟨⟨by decide +kernel, by decide +kernel⟩, List.mem_of_getElem? (i := 897) (by decide +kernel), List.mem_of_getElem? (i := 1048) (by decide +kernel), List.mem_of_getElem? (i := 1049) (by decide +kernel)⟩
theorem lw_p30 : lw_okq (⟨"WordsFirstModel", "isRegular", "(I)Z"⟩, 31) := ⟨⟨by decide +kernel, by decide +kernel⟩, List.mem_of_getElem? (i := 897) (by decide +kernel), List.mem_of_getElem? (i := 1052) (by decide +kernel), List.mem_of_getElem? (i := 1053) (by decide +kernel)⟩
theorem lw_p31 : lw_okq (⟨"WordsFirstModel", "allOf", "(I)I"⟩, 31) := ⟨⟨by decide +kernel, by decide +kernel⟩, List.mem_of_getElem? (i := 897) (by decide +kernel), List.mem_of_getElem? (i := 1073) (by decide +kernel), List.mem_of_getElem? (i := 1074) (by decide +kernel)⟩
def lw_privs_2 : List (MethodName × Nat) := [(⟨"WordsFirst$TaleFinder", "startsOf", "(I)I"⟩, 6), (⟨"WordsFirst$TaleFinder", "pickRow", "(I)V"⟩, 6), (⟨"WordsFirst$TaleFinder", "leastStart", "(III)I"⟩, 6), (⟨"WordsFirst$Doubt", "fits", "(I)Z"⟩, 9), (⟨"WordsFirst$Doubt", "countKnown", "(I)V"⟩, 9), (⟨"WordsFirst$Doubt", "findWordsWith", "()V"⟩, 9), (⟨"WordsFirst$Doubt", "tellsAll", "(I)Z"⟩, 9), (⟨"WordsFirst$Rule", "areRespeltAlike", "(II)Z"⟩, 8), (⟨"WordsFirst$LessonPlan", "findShares", "(I)V"⟩, 8), (⟨"WordsFirst$LessonPlan", "trySplit", "(IIII)V"⟩, 8), (⟨"WordsFirstModel", "isThere", "()Z"⟩, 31), (⟨"WordsFirstModel", "isWord", "(I)Z"⟩, 31), (⟨"WordsFirstModel", "signsOf", "(I)I"⟩, 31), (⟨"WordsFirstModel", "findCommon", "()V"⟩, 31), (⟨"WordsFirstModel", "isRegular", "(I)Z"⟩, 31), (⟨"WordsFirstModel", "allOf", "(I)I"⟩, 31)]
theorem lw_r2 : ∀ q ∈ lw_privs_2, lw_okq q := List.forall_mem_cons.mpr ⟨lw_p16, List.forall_mem_cons.mpr ⟨lw_p17, List.forall_mem_cons.mpr ⟨lw_p18, List.forall_mem_cons.mpr ⟨lw_p19, List.forall_mem_cons.mpr ⟨lw_p20, List.forall_mem_cons.mpr ⟨lw_p21, List.forall_mem_cons.mpr ⟨lw_p22, List.forall_mem_cons.mpr ⟨lw_p23, List.forall_mem_cons.mpr ⟨lw_p24, List.forall_mem_cons.mpr ⟨lw_p25, List.forall_mem_cons.mpr ⟨lw_p26, List.forall_mem_cons.mpr ⟨lw_p27, List.forall_mem_cons.mpr ⟨lw_p28, List.forall_mem_cons.mpr ⟨lw_p29, List.forall_mem_cons.mpr ⟨lw_p30, List.forall_mem_cons.mpr ⟨lw_p31, fun _ h => absurd h List.not_mem_nil⟩⟩⟩⟩⟩⟩⟩⟩⟩⟩⟩⟩⟩⟩⟩⟩
theorem lw_p32 : lw_okq (⟨"WordsFirstModel", "findReading", "(IIII)V"⟩, 31) := ⟨⟨by decide +kernel, by decide +kernel⟩, List.mem_of_getElem? (i := 897) (by decide +kernel), List.mem_of_getElem? (i := 1105) (by decide +kernel), List.mem_of_getElem? (i := 1106) (by decide +kernel)⟩
theorem lw_p33 : lw_okq (⟨"WordsFirstModel", "sounded", "(II)I"⟩, 31) := ⟨⟨by decide +kernel, by decide +kernel⟩, List.mem_of_getElem? (i := 897) (by decide +kernel), List.mem_of_getElem? (i := 1109) (by decide +kernel), List.mem_of_getElem? (i := 1110) (by decide +kernel)⟩
theorem lw_p34 : lw_okq (⟨"WordsFirstModel", "soundsAs", "(III)Z"⟩, 31) := ⟨⟨by decide +kernel, by decide +kernel⟩, List.mem_of_getElem? (i := 897) (by decide +kernel), List.mem_of_getElem? (i := 1113) (by decide +kernel), List.mem_of_getElem? (i := 1114) (by decide +kernel)⟩
theorem lw_p35 : lw_okq (⟨"WordsFirstModel", "takenFor", "(II)I"⟩, 31) := ⟨⟨by decide +kernel, by decide +kernel⟩, List.mem_of_getElem? (i := 897) (by decide +kernel), List.mem_of_getElem? (i := 1117) (by decide +kernel), List.mem_of_getElem? (i := 1118) (by decide +kernel)⟩
theorem lw_p36 : lw_okq (⟨"WordsFirstModel", "guessed", "(I)I"⟩, 31) := ⟨⟨by decide +kernel, by decide +kernel⟩, List.mem_of_getElem? (i := 897) (by decide +kernel), List.mem_of_getElem? (i := 1121) (by decide +kernel), List.mem_of_getElem? (i := 1122) (by decide +kernel)⟩
theorem lw_p37 : lw_okq (⟨"WordsFirstModel", "shareOf", "(III)I"⟩, 31) := ⟨⟨by decide +kernel, by decide +kernel⟩, List.mem_of_getElem? (i := 897) (by decide +kernel), List.mem_of_getElem? (i := 1129) (by decide +kernel), List.mem_of_getElem? (i := 1130) (by decide +kernel)⟩
theorem lw_p38 : lw_okq (⟨"WordsFirstModel", "canRead", "(IIII)Z"⟩, 31) := ⟨⟨by decide +kernel, by decide +kernel⟩, List.mem_of_getElem? (i := 897) (by decide +kernel), List.mem_of_getElem? (i := 1133) (by decide +kernel), List.mem_of_getElem? (i := 1134) (by decide +kernel)⟩
theorem lw_p39 : lw_okq (⟨"WordsFirstModel", "givesOf", "(II)I"⟩, 31) := ⟨⟨by decide +kernel, by decide +kernel⟩, List.mem_of_getElem? (i := 897) (by decide +kernel), List.mem_of_getElem? (i := 1141) (by decide +kernel), List.mem_of_getElem? (i := 1142) (by decide +kernel)⟩
theorem lw_p40 : lw_okq (⟨"WordsFirstModel", "isGiven", "(II)Z"⟩, 31) := ⟨⟨by decide +kernel, by decide +kernel⟩, List.mem_of_getElem? (i := 897) (by decide +kernel), List.mem_of_getElem? (i := 1145) (by decide +kernel), List.mem_of_getElem? (i := 1146) (by decide +kernel)⟩
theorem lw_p41 : lw_okq (⟨"WordsFirstModel", "findOrder", "()V"⟩, 31) := ⟨⟨by decide +kernel, by decide +kernel⟩, List.mem_of_getElem? (i := 897) (by decide +kernel), List.mem_of_getElem? (i := 1154) (by decide +kernel), List.mem_of_getElem? (i := 1155) (by decide +kernel)⟩
theorem lw_p42 : lw_okq (⟨"WordsFirstModel", "wholesFor", "(II)I"⟩, 31) := ⟨⟨by decide +kernel, by decide +kernel⟩, List.mem_of_getElem? (i := 897) (by decide +kernel), List.mem_of_getElem? (i := 1166) (by decide +kernel), List.mem_of_getElem? (i := 1167) (by decide +kernel)⟩
theorem lw_p43 : lw_okq (⟨"WordsFirstModel", "findTales", "(I)V"⟩, 31) := ⟨⟨by decide +kernel, by decide +kernel⟩, List.mem_of_getElem? (i := 897) (by decide +kernel), List.mem_of_getElem? (i := 1174) (by decide +kernel), List.mem_of_getElem? (i := 1175) (by decide +kernel)⟩
theorem lw_p44 : lw_okq (⟨"WordsFirstModel", "follows", "(II)Z"⟩, 31) := ⟨⟨by decide +kernel, by decide +kernel⟩, List.mem_of_getElem? (i := 897) (by decide +kernel), List.mem_of_getElem? (i := 1178) (by decide +kernel), List.mem_of_getElem? (i := 1179) (by decide +kernel)⟩
theorem lw_p45 : lw_okq (⟨"WordsFirstModel", "comes", "(IIII)Z"⟩, 31) := ⟨⟨by decide +kernel, by decide +kernel⟩, List.mem_of_getElem? (i := 897) (by decide +kernel), List.mem_of_getElem? (i := 1182) (by decide +kernel), List.mem_of_getElem? (i := 1183) (by decide +kernel)⟩
theorem lw_p46 : lw_okq (⟨"WordsFirstModel", "mayWith", "(I)I"⟩, 31) := ⟨⟨by decide +kernel, by decide +kernel⟩, List.mem_of_getElem? (i := 897) (by decide +kernel), List.mem_of_getElem? (i := 1198) (by decide +kernel), List.mem_of_getElem? (i := 1199) (by decide +kernel)⟩
theorem lw_p47 : lw_okq (⟨"WordsFirstModel", "mayLack", "(I)Z"⟩, 31) := ⟨⟨by decide +kernel, by decide +kernel⟩, List.mem_of_getElem? (i := 897) (by decide +kernel), List.mem_of_getElem? (i := 1202) (by decide +kernel), List.mem_of_getElem? (i := 1203) (by decide +kernel)⟩
def lw_privs_3 : List (MethodName × Nat) := [(⟨"WordsFirstModel", "findReading", "(IIII)V"⟩, 31), (⟨"WordsFirstModel", "sounded", "(II)I"⟩, 31), (⟨"WordsFirstModel", "soundsAs", "(III)Z"⟩, 31), (⟨"WordsFirstModel", "takenFor", "(II)I"⟩, 31), (⟨"WordsFirstModel", "guessed", "(I)I"⟩, 31), (⟨"WordsFirstModel", "shareOf", "(III)I"⟩, 31), (⟨"WordsFirstModel", "canRead", "(IIII)Z"⟩, 31), (⟨"WordsFirstModel", "givesOf", "(II)I"⟩, 31), (⟨"WordsFirstModel", "isGiven", "(II)Z"⟩, 31), (⟨"WordsFirstModel", "findOrder", "()V"⟩, 31), (⟨"WordsFirstModel", "wholesFor", "(II)I"⟩, 31), (⟨"WordsFirstModel", "findTales", "(I)V"⟩, 31), (⟨"WordsFirstModel", "follows", "(II)Z"⟩, 31), (⟨"WordsFirstModel", "comes", "(IIII)Z"⟩, 31), (⟨"WordsFirstModel", "mayWith", "(I)I"⟩, 31), (⟨"WordsFirstModel", "mayLack", "(I)Z"⟩, 31)]
theorem lw_r3 : ∀ q ∈ lw_privs_3, lw_okq q := List.forall_mem_cons.mpr ⟨lw_p32, List.forall_mem_cons.mpr ⟨lw_p33, List.forall_mem_cons.mpr ⟨lw_p34, List.forall_mem_cons.mpr ⟨lw_p35, List.forall_mem_cons.mpr ⟨lw_p36, List.forall_mem_cons.mpr ⟨lw_p37, List.forall_mem_cons.mpr ⟨lw_p38, List.forall_mem_cons.mpr ⟨lw_p39, List.forall_mem_cons.mpr ⟨lw_p40, List.forall_mem_cons.mpr ⟨lw_p41, List.forall_mem_cons.mpr ⟨lw_p42, List.forall_mem_cons.mpr ⟨lw_p43, List.forall_mem_cons.mpr ⟨lw_p44, List.forall_mem_cons.mpr ⟨lw_p45, List.forall_mem_cons.mpr ⟨lw_p46, List.forall_mem_cons.mpr ⟨lw_p47, fun _ h => absurd h List.not_mem_nil⟩⟩⟩⟩⟩⟩⟩⟩⟩⟩⟩⟩⟩⟩⟩⟩
theorem lw_p48 : lw_okq (⟨"WordsFirstModel", "readsRight", "(II)Z"⟩, 31) := ⟨⟨by decide +kernel, by decide +kernel⟩, List.mem_of_getElem? (i := 897) (by decide +kernel), List.mem_of_getElem? (i := 1206) (by decide +kernel), List.mem_of_getElem? (i := 1207) (by decide +kernel)⟩
theorem lw_p49 : lw_okq (⟨"WordsFirstModel", "tellsAll", "(II)Z"⟩, 31) := ⟨⟨by decide +kernel, by decide +kernel⟩, List.mem_of_getElem? (i := 897) (by decide +kernel), List.mem_of_getElem? (i := 1223) (by decide +kernel), List.mem_of_getElem? (i := 1224) (by decide +kernel)⟩
theorem lw_p50 : lw_okq (⟨"WordsFirstModel", "respeltAt", "(II)I"⟩, 31) := ⟨⟨by decide +kernel, by decide +kernel⟩, List.mem_of_getElem? (i := 897) (by decide +kernel), List.mem_of_getElem? (i := 1232) (by decide +kernel), List.mem_of_getElem? (i := 1233) (by decide +kernel)⟩
theorem lw_p51 : lw_okq (⟨"WordsFirstModel", "signFor", "(I)I"⟩, 31) := ⟨⟨by decide +kernel, by decide +kernel⟩, List.mem_of_getElem? (i := 897) (by decide +kernel), List.mem_of_getElem? (i := 1236) (by decide +kernel), List.mem_of_getElem? (i := 1237) (by decide +kernel)⟩
theorem lw_p52 : lw_okq (⟨"WordsFirstModel", "clash", "(II)Z"⟩, 31) := ⟨⟨by decide +kernel, by decide +kernel⟩, List.mem_of_getElem? (i := 897) (by decide +kernel), List.mem_of_getElem? (i := 1244) (by decide +kernel), List.mem_of_getElem? (i := 1245) (by decide +kernel)⟩
theorem lw_p53 : lw_okq (⟨"WordsFirstModel", "findLessons", "(I)V"⟩, 31) := ⟨⟨by decide +kernel, by decide +kernel⟩, List.mem_of_getElem? (i := 897) (by decide +kernel), List.mem_of_getElem? (i := 1253) (by decide +kernel), List.mem_of_getElem? (i := 1254) (by decide +kernel)⟩
theorem lw_p54 : lw_okq (⟨"WordsFirstModel", "findShared", "(I)I"⟩, 31) := ⟨⟨by decide +kernel, by decide +kernel⟩, List.mem_of_getElem? (i := 897) (by decide +kernel), List.mem_of_getElem? (i := 1261) (by decide +kernel), List.mem_of_getElem? (i := 1262) (by decide +kernel)⟩
theorem lw_p55 : lw_okq (⟨"WordsFirstModel", "byItself", "(II)I"⟩, 31) := ⟨⟨by decide +kernel, by decide +kernel⟩, List.mem_of_getElem? (i := 897) (by decide +kernel), List.mem_of_getElem? (i := 1270) (by decide +kernel), List.mem_of_getElem? (i := 1271) (by decide +kernel)⟩
theorem lw_p56 : lw_okq (⟨"WordsFirstModel", "allOften", "()I"⟩, 31) := ⟨⟨by decide +kernel, by decide +kernel⟩, List.mem_of_getElem? (i := 897) (by decide +kernel), List.mem_of_getElem? (i := 1274) (by decide +kernel), List.mem_of_getElem? (i := 1275) (by decide +kernel)⟩
theorem lw_p57 : lw_okq (⟨"WordsFirstModel", "passAll", "()V"⟩, 31) := ⟨⟨by decide +kernel, by decide +kernel⟩, List.mem_of_getElem? (i := 897) (by decide +kernel), List.mem_of_getElem? (i := 1286) (by decide +kernel), List.mem_of_getElem? (i := 1287) (by decide +kernel)⟩
theorem lw_p58 : lw_okq (⟨"WordsFirstModel", "pass", "(I)I"⟩, 31) := ⟨⟨by decide +kernel, by decide +kernel⟩, List.mem_of_getElem? (i := 897) (by decide +kernel), List.mem_of_getElem? (i := 1290) (by decide +kernel), List.mem_of_getElem? (i := 1291) (by decide +kernel)⟩
def lw_privs_4 : List (MethodName × Nat) := [(⟨"WordsFirstModel", "readsRight", "(II)Z"⟩, 31), (⟨"WordsFirstModel", "tellsAll", "(II)Z"⟩, 31), (⟨"WordsFirstModel", "respeltAt", "(II)I"⟩, 31), (⟨"WordsFirstModel", "signFor", "(I)I"⟩, 31), (⟨"WordsFirstModel", "clash", "(II)Z"⟩, 31), (⟨"WordsFirstModel", "findLessons", "(I)V"⟩, 31), (⟨"WordsFirstModel", "findShared", "(I)I"⟩, 31), (⟨"WordsFirstModel", "byItself", "(II)I"⟩, 31), (⟨"WordsFirstModel", "allOften", "()I"⟩, 31), (⟨"WordsFirstModel", "passAll", "()V"⟩, 31), (⟨"WordsFirstModel", "pass", "(I)I"⟩, 31)]
theorem lw_r4 : ∀ q ∈ lw_privs_4, lw_okq q := List.forall_mem_cons.mpr ⟨lw_p48, List.forall_mem_cons.mpr ⟨lw_p49, List.forall_mem_cons.mpr ⟨lw_p50, List.forall_mem_cons.mpr ⟨lw_p51, List.forall_mem_cons.mpr ⟨lw_p52, List.forall_mem_cons.mpr ⟨lw_p53, List.forall_mem_cons.mpr ⟨lw_p54, List.forall_mem_cons.mpr ⟨lw_p55, List.forall_mem_cons.mpr ⟨lw_p56, List.forall_mem_cons.mpr ⟨lw_p57, List.forall_mem_cons.mpr ⟨lw_p58, fun _ h => absurd h List.not_mem_nil⟩⟩⟩⟩⟩⟩⟩⟩⟩⟩⟩
def lw_privs : List (MethodName × Nat) := lw_privs_1 ++ (lw_privs_2 ++ (lw_privs_3 ++ (lw_privs_4)))
def lw_tbl : List Cond := k2_sels lw_privs ++ tables_1
theorem lw_privs_ok : ∀ q ∈ lw_privs, lw_okq q := by
  show ∀ q ∈ lw_privs_1 ++ (lw_privs_2 ++ (lw_privs_3 ++ (lw_privs_4))), lw_okq q
  exact List.forall_mem_append.mpr ⟨lw_r1, List.forall_mem_append.mpr ⟨lw_r2, List.forall_mem_append.mpr ⟨lw_r3, lw_r4⟩⟩⟩
end
section
def RX0 : String := "WordsFirst$Answers"
def TX0 : u_T := fun k => match k with
  | 0 => ("WordsFirst$Answers", "words", "[I", true)
  | 1 => ("WordsFirst$Answers", "rights", "[Z", true)
  | _ => ("WordsFirst$Answers", "size", "I", false)
def tyX0 : Nat → FieldType := fun k => match k with
  | 0 => .array .int
  | 1 => .array .boolean
  | _ => .int
abbrev wsX00 : List Cond := u_ws RX0 TX0 3
theorem nmX0 : ∀ a, a < 3 → ∀ b, b < 3 → a ≠ b → (TX0 a).2.1 ≠ (TX0 b).2.1 := by decide +kernel
theorem tyX0_ok : ∀ k, k < 3 → parseFieldDescriptor (TX0 k).2.2.1 = some (tyX0 k) := by decide +kernel
abbrev cX0_init : ByteArray := prog_2_method_1_code
def yX0_init : MethodName := ⟨RX0, "<init>", "()V"⟩
abbrev cX0_copyFrom : ByteArray := prog_2_method_2_code
def yX0_copyFrom : MethodName := ⟨RX0, "copyFrom", "(LWordsFirst$Answers;)V"⟩
abbrev cX0_add : ByteArray := prog_2_method_3_code
def yX0_add : MethodName := ⟨RX0, "add", "(IZ)V"⟩
def RX1 : String := "WordsFirst$Book"
def TX1 : u_T := fun k => match k with
  | 0 => ("WordsFirst$Book", "length", "[I", true)
  | 1 => ("WordsFirst$Book", "times", "[I", true)
  | 2 => ("WordsFirst$Book", "signBits", "[I", true)
  | 3 => ("WordsFirst$Book", "signs", "[I", true)
  | 4 => ("WordsFirst$Book", "sounds", "[I", true)
  | _ => ("WordsFirst$Book", "size", "I", false)
def tyX1 : Nat → FieldType := fun k => match k with
  | 0 => .array .int
  | 1 => .array .int
  | 2 => .array .int
  | 3 => .array .int
  | 4 => .array .int
  | _ => .int
abbrev wsX10 : List Cond := u_ws RX1 TX1 6
theorem nmX1 : ∀ a, a < 6 → ∀ b, b < 6 → a ≠ b → (TX1 a).2.1 ≠ (TX1 b).2.1 := by decide +kernel
theorem tyX1_ok : ∀ k, k < 6 → parseFieldDescriptor (TX1 k).2.2.1 = some (tyX1 k) := by decide +kernel
abbrev cX1_init : ByteArray := prog_3_method_1_code
def yX1_init : MethodName := ⟨RX1, "<init>", "()V"⟩
abbrev cX1_copyFrom : ByteArray := prog_3_method_2_code
def yX1_copyFrom : MethodName := ⟨RX1, "copyFrom", "(LWordsFirst$Book;)V"⟩
abbrev cX1_holds : ByteArray := prog_3_method_3_code
def yX1_holds : MethodName := ⟨RX1, "holds", "(I)Z"⟩
abbrev cX1_allWords : ByteArray := prog_3_method_4_code
def yX1_allWords : MethodName := ⟨RX1, "allWords", "()I"⟩
abbrev cX1_isWordSet : ByteArray := prog_3_method_5_code
def yX1_isWordSet : MethodName := ⟨RX1, "isWordSet", "(I)Z"⟩
abbrev cX1_signAt : ByteArray := prog_3_method_6_code
def yX1_signAt : MethodName := ⟨RX1, "signAt", "(II)I"⟩
abbrev cX1_soundAt : ByteArray := prog_3_method_7_code
def yX1_soundAt : MethodName := ⟨RX1, "soundAt", "(II)I"⟩
abbrev cX1_signOrNone : ByteArray := prog_3_method_8_code
def yX1_signOrNone : MethodName := ⟨RX1, "signOrNone", "(II)I"⟩
abbrev cX1_soundOrNone : ByteArray := prog_3_method_9_code
def yX1_soundOrNone : MethodName := ⟨RX1, "soundOrNone", "(II)I"⟩
abbrev cX1_firstSign : ByteArray := prog_3_method_10_code
def yX1_firstSign : MethodName := ⟨RX1, "firstSign", "(I)I"⟩
abbrev cX1_lastSign : ByteArray := prog_3_method_11_code
def yX1_lastSign : MethodName := ⟨RX1, "lastSign", "(I)I"⟩
abbrev cX1_timesOf : ByteArray := prog_3_method_12_code
def yX1_timesOf : MethodName := ⟨RX1, "timesOf", "(I)I"⟩
abbrev cX1_hasLettersOf : ByteArray := prog_3_method_13_code
def yX1_hasLettersOf : MethodName := ⟨RX1, "hasLettersOf", "(LWordsFirst$Pad;)Z"⟩
abbrev cX1_hasLetters : ByteArray := prog_3_method_14_code
def yX1_hasLetters : MethodName := ⟨RX1, "hasLetters", "(ILWordsFirst$Pad;)Z"⟩
abbrev cX1_add : ByteArray := prog_3_method_15_code
def yX1_add : MethodName := ⟨RX1, "add", "(LWordsFirst$Pad;I)V"⟩
def RX2 : String := "WordsFirst$Children"
def TX2 : u_T := fun k => match k with
  | 0 => ("WordsFirst$Children", "known", "[I", true)
  | 1 => ("WordsFirst$Children", "wholes", "[I", true)
  | 2 => ("WordsFirst$Children", "mixedLess", "[I", true)
  | _ => ("WordsFirst$Children", "mixedMore", "[I", true)
def tyX2 : Nat → FieldType := fun k => match k with
  | 0 => .array .int
  | 1 => .array .int
  | 2 => .array .int
  | _ => .array .int
abbrev wsX20 : List Cond := u_ws RX2 TX2 4
theorem nmX2 : ∀ a, a < 4 → ∀ b, b < 4 → a ≠ b → (TX2 a).2.1 ≠ (TX2 b).2.1 := by decide +kernel
theorem tyX2_ok : ∀ k, k < 4 → parseFieldDescriptor (TX2 k).2.2.1 = some (tyX2 k) := by decide +kernel
abbrev cX2_init : ByteArray := prog_4_method_1_code
def yX2_init : MethodName := ⟨RX2, "<init>", "()V"⟩
abbrev cX2_copyFrom : ByteArray := prog_4_method_2_code
def yX2_copyFrom : MethodName := ⟨RX2, "copyFrom", "(LWordsFirst$Children;)V"⟩
abbrev cX2_mixedUp : ByteArray := prog_4_method_3_code
def yX2_mixedUp : MethodName := ⟨RX2, "mixedUp", "(I)I"⟩
abbrev cX2_takenFor : ByteArray := prog_4_method_4_code
def yX2_takenFor : MethodName := ⟨RX2, "takenFor", "(II)I"⟩
def RX3 : String := "WordsFirst$Doubt"
def TX3 : u_T := fun k => match k with
  | 0 => ("WordsFirst$Doubt", "book", "LWordsFirst$Book;", true)
  | 1 => ("WordsFirst$Doubt", "rule", "LWordsFirst$Rule;", true)
  | 2 => ("WordsFirst$Doubt", "answers", "LWordsFirst$Answers;", true)
  | 3 => ("WordsFirst$Doubt", "missed", "[I", true)
  | 4 => ("WordsFirst$Doubt", "missedCount", "I", false)
  | 5 => ("WordsFirst$Doubt", "proved", "I", false)
  | 6 => ("WordsFirst$Doubt", "impossible", "Z", false)
  | 7 => ("WordsFirst$Doubt", "knownCounts", "[I", true)
  | _ => ("WordsFirst$Doubt", "wordsWith", "[I", true)
def tyX3 : Nat → FieldType := fun k => match k with
  | 0 => .object "WordsFirst$Book"
  | 1 => .object "WordsFirst$Rule"
  | 2 => .object "WordsFirst$Answers"
  | 3 => .array .int
  | 4 => .int
  | 5 => .int
  | 6 => .boolean
  | 7 => .array .int
  | _ => .array .int
abbrev wsX30 : List Cond := u_ws RX3 TX3 9
theorem nmX3 : ∀ a, a < 9 → ∀ b, b < 9 → a ≠ b → (TX3 a).2.1 ≠ (TX3 b).2.1 := by decide +kernel
theorem tyX3_ok : ∀ k, k < 9 → parseFieldDescriptor (TX3 k).2.2.1 = some (tyX3 k) := by decide +kernel
abbrev cX3_init : ByteArray := prog_5_method_1_code
def yX3_init : MethodName := ⟨RX3, "<init>", "(LWordsFirst$Book;LWordsFirst$Rule;LWordsFirst$Answers;)V"⟩
abbrev cX3_hear : ByteArray := prog_5_method_2_code
def yX3_hear : MethodName := ⟨RX3, "hear", "()V"⟩
abbrev cX3_fits : ByteArray := prog_5_method_3_code
def yX3_fits : MethodName := ⟨RX3, "fits", "(I)Z"⟩
abbrev cX3_countSets : ByteArray := prog_5_method_4_code
def yX3_countSets : MethodName := ⟨RX3, "countSets", "(I)I"⟩
abbrev cX3_bestQuestion : ByteArray := prog_5_method_5_code
def yX3_bestQuestion : MethodName := ⟨RX3, "bestQuestion", "()I"⟩
abbrev cX3_countKnown : ByteArray := prog_5_method_6_code
def yX3_countKnown : MethodName := ⟨RX3, "countKnown", "(I)V"⟩
abbrev cX3_leastTest : ByteArray := prog_5_method_7_code
def yX3_leastTest : MethodName := ⟨RX3, "leastTest", "()I"⟩
abbrev cX3_findWordsWith : ByteArray := prog_5_method_8_code
def yX3_findWordsWith : MethodName := ⟨RX3, "findWordsWith", "()V"⟩
abbrev cX3_tellsAll : ByteArray := prog_5_method_9_code
def yX3_tellsAll : MethodName := ⟨RX3, "tellsAll", "(I)Z"⟩
def RX4 : String := "WordsFirst$LessonPlan"
def TX4 : u_T := fun k => match k with
  | 0 => ("WordsFirst$LessonPlan", "book", "LWordsFirst$Book;", true)
  | 1 => ("WordsFirst$LessonPlan", "children", "LWordsFirst$Children;", true)
  | 2 => ("WordsFirst$LessonPlan", "reader", "LWordsFirst$Reader;", true)
  | 3 => ("WordsFirst$LessonPlan", "shares", "[I", true)
  | 4 => ("WordsFirst$LessonPlan", "best", "[I", true)
  | 5 => ("WordsFirst$LessonPlan", "found", "[Z", true)
  | 6 => ("WordsFirst$LessonPlan", "splitRow", "[I", true)
  | _ => ("WordsFirst$LessonPlan", "splitSum", "I", false)
def tyX4 : Nat → FieldType := fun k => match k with
  | 0 => .object "WordsFirst$Book"
  | 1 => .object "WordsFirst$Children"
  | 2 => .object "WordsFirst$Reader"
  | 3 => .array .int
  | 4 => .array .int
  | 5 => .array .boolean
  | 6 => .array .int
  | _ => .int
abbrev wsX40 : List Cond := u_ws RX4 TX4 8
theorem nmX4 : ∀ a, a < 8 → ∀ b, b < 8 → a ≠ b → (TX4 a).2.1 ≠ (TX4 b).2.1 := by decide +kernel
theorem tyX4_ok : ∀ k, k < 8 → parseFieldDescriptor (TX4 k).2.2.1 = some (tyX4 k) := by decide +kernel
abbrev cX4_init : ByteArray := prog_6_method_1_code
def yX4_init : MethodName := ⟨RX4, "<init>", "(LWordsFirst$Book;LWordsFirst$Children;LWordsFirst$Reader;)V"⟩
abbrev cX4_forget : ByteArray := prog_6_method_2_code
def yX4_forget : MethodName := ⟨RX4, "forget", "(I)V"⟩
abbrev cX4_bestShare : ByteArray := prog_6_method_3_code
def yX4_bestShare : MethodName := ⟨RX4, "bestShare", "(II)I"⟩
abbrev cX4_findBest : ByteArray := prog_6_method_4_code
def yX4_findBest : MethodName := ⟨RX4, "findBest", "(I)V"⟩
abbrev cX4_findShares : ByteArray := prog_6_method_5_code
def yX4_findShares : MethodName := ⟨RX4, "findShares", "(I)V"⟩
abbrev cX4_split : ByteArray := prog_6_method_6_code
def yX4_split : MethodName := ⟨RX4, "split", "(I)V"⟩
abbrev cX4_trySplit : ByteArray := prog_6_method_7_code
def yX4_trySplit : MethodName := ⟨RX4, "trySplit", "(IIII)V"⟩
def RX5 : String := "WordsFirst$Pad"
def TX5 : u_T := fun k => match k with
  | 0 => ("WordsFirst$Pad", "signs", "[I", true)
  | _ => ("WordsFirst$Pad", "size", "I", false)
def tyX5 : Nat → FieldType := fun k => match k with
  | 0 => .array .int
  | _ => .int
abbrev wsX50 : List Cond := u_ws RX5 TX5 2
theorem nmX5 : ∀ a, a < 2 → ∀ b, b < 2 → a ≠ b → (TX5 a).2.1 ≠ (TX5 b).2.1 := by decide +kernel
theorem tyX5_ok : ∀ k, k < 2 → parseFieldDescriptor (TX5 k).2.2.1 = some (tyX5 k) := by decide +kernel
abbrev cX5_init : ByteArray := prog_7_method_1_code
def yX5_init : MethodName := ⟨RX5, "<init>", "()V"⟩
abbrev cX5_findFault : ByteArray := prog_7_method_2_code
def yX5_findFault : MethodName := ⟨RX5, "findFault", "()I"⟩
abbrev cX5_letterCount : ByteArray := prog_7_method_3_code
def yX5_letterCount : MethodName := ⟨RX5, "letterCount", "()I"⟩
abbrev cX5_letterAt : ByteArray := prog_7_method_4_code
def yX5_letterAt : MethodName := ⟨RX5, "letterAt", "(I)I"⟩
abbrev cX5_digitAt : ByteArray := prog_7_method_5_code
def yX5_digitAt : MethodName := ⟨RX5, "digitAt", "(I)I"⟩
def RX6 : String := "WordsFirst$Reader"
def TX6 : u_T := fun k => match k with
  | 0 => ("WordsFirst$Reader", "book", "LWordsFirst$Book;", true)
  | 1 => ("WordsFirst$Reader", "rule", "LWordsFirst$Rule;", true)
  | 2 => ("WordsFirst$Reader", "children", "LWordsFirst$Children;", true)
  | _ => ("WordsFirst$Reader", "soundRow", "[I", true)
def tyX6 : Nat → FieldType := fun k => match k with
  | 0 => .object "WordsFirst$Book"
  | 1 => .object "WordsFirst$Rule"
  | 2 => .object "WordsFirst$Children"
  | _ => .array .int
abbrev wsX60 : List Cond := u_ws RX6 TX6 4
theorem nmX6 : ∀ a, a < 4 → ∀ b, b < 4 → a ≠ b → (TX6 a).2.1 ≠ (TX6 b).2.1 := by decide +kernel
theorem tyX6_ok : ∀ k, k < 4 → parseFieldDescriptor (TX6 k).2.2.1 = some (tyX6 k) := by decide +kernel
abbrev cX6_init : ByteArray := prog_8_method_1_code
def yX6_init : MethodName := ⟨RX6, "<init>", "(LWordsFirst$Book;LWordsFirst$Rule;LWordsFirst$Children;)V"⟩
abbrev cX6_wayOf : ByteArray := prog_8_method_2_code
def yX6_wayOf : MethodName := ⟨RX6, "wayOf", "(II)I"⟩
abbrev cX6_readAs : ByteArray := prog_8_method_3_code
def yX6_readAs : MethodName := ⟨RX6, "readAs", "(II)I"⟩
abbrev cX6_guessedAs : ByteArray := prog_8_method_4_code
def yX6_guessedAs : MethodName := ⟨RX6, "guessedAs", "(I)I"⟩
abbrev cX6_soundedAs : ByteArray := prog_8_method_5_code
def yX6_soundedAs : MethodName := ⟨RX6, "soundedAs", "(II)I"⟩
abbrev cX6_hasSoundRow : ByteArray := prog_8_method_6_code
def yX6_hasSoundRow : MethodName := ⟨RX6, "hasSoundRow", "(II)Z"⟩
abbrev cX6_readable : ByteArray := prog_8_method_7_code
def yX6_readable : MethodName := ⟨RX6, "readable", "(I)I"⟩
abbrev cX6_readableAtLast : ByteArray := prog_8_method_8_code
def yX6_readableAtLast : MethodName := ⟨RX6, "readableAtLast", "(II)I"⟩
abbrev cX6_highestLine : ByteArray := prog_8_method_9_code
def yX6_highestLine : MethodName := ⟨RX6, "highestLine", "(I)I"⟩
def RX7 : String := "WordsFirst$Room"
def TX7 : u_T := fun k => match k with
  | 0 => ("WordsFirst$Room", "book", "LWordsFirst$Book;", true)
  | 1 => ("WordsFirst$Room", "children", "LWordsFirst$Children;", true)
  | _ => ("WordsFirst$Room", "answers", "LWordsFirst$Answers;", true)
def tyX7 : Nat → FieldType := fun k => match k with
  | 0 => .object "WordsFirst$Book"
  | 1 => .object "WordsFirst$Children"
  | _ => .object "WordsFirst$Answers"
abbrev wsX70 : List Cond := u_ws RX7 TX7 3
theorem nmX7 : ∀ a, a < 3 → ∀ b, b < 3 → a ≠ b → (TX7 a).2.1 ≠ (TX7 b).2.1 := by decide +kernel
theorem tyX7_ok : ∀ k, k < 3 → parseFieldDescriptor (TX7 k).2.2.1 = some (tyX7 k) := by decide +kernel
abbrev cX7_init : ByteArray := prog_9_method_1_code
def yX7_init : MethodName := ⟨RX7, "<init>", "()V"⟩
abbrev cX7_copyFrom : ByteArray := prog_9_method_2_code
def yX7_copyFrom : MethodName := ⟨RX7, "copyFrom", "(LWordsFirst$Room;)V"⟩
def RX8 : String := "WordsFirst$Rule"
def TX8 : u_T := fun k => match k with
  | 0 => ("WordsFirst$Rule", "book", "LWordsFirst$Book;", true)
  | 1 => ("WordsFirst$Rule", "heard", "[I", true)
  | 2 => ("WordsFirst$Rule", "places", "[I", true)
  | 3 => ("WordsFirst$Rule", "commonSound", "[I", true)
  | 4 => ("WordsFirst$Rule", "newSigns", "[I", true)
  | 5 => ("WordsFirst$Rule", "byTimes", "[I", true)
  | 6 => ("WordsFirst$Rule", "guesses", "[I", true)
  | _ => ("WordsFirst$Rule", "regular", "I", false)
def tyX8 : Nat → FieldType := fun k => match k with
  | 0 => .object "WordsFirst$Book"
  | 1 => .array .int
  | 2 => .array .int
  | 3 => .array .int
  | 4 => .array .int
  | 5 => .array .int
  | 6 => .array .int
  | _ => .int
abbrev wsX80 : List Cond := u_ws RX8 TX8 8
theorem nmX8 : ∀ a, a < 8 → ∀ b, b < 8 → a ≠ b → (TX8 a).2.1 ≠ (TX8 b).2.1 := by decide +kernel
theorem tyX8_ok : ∀ k, k < 8 → parseFieldDescriptor (TX8 k).2.2.1 = some (tyX8 k) := by decide +kernel
abbrev cX8_init : ByteArray := prog_10_method_1_code
def yX8_init : MethodName := ⟨RX8, "<init>", "(LWordsFirst$Book;)V"⟩
abbrev cX8_refresh : ByteArray := prog_10_method_2_code
def yX8_refresh : MethodName := ⟨RX8, "refresh", "()V"⟩
abbrev cX8_countPlaces : ByteArray := prog_10_method_3_code
def yX8_countPlaces : MethodName := ⟨RX8, "countPlaces", "()V"⟩
abbrev cX8_greatestAt : ByteArray := prog_10_method_4_code
def yX8_greatestAt : MethodName := ⟨RX8, "greatestAt", "(II)I"⟩
abbrev cX8_findRegular : ByteArray := prog_10_method_5_code
def yX8_findRegular : MethodName := ⟨RX8, "findRegular", "()V"⟩
abbrev cX8_goesByRule : ByteArray := prog_10_method_6_code
def yX8_goesByRule : MethodName := ⟨RX8, "goesByRule", "(I)Z"⟩
abbrev cX8_sortByTimes : ByteArray := prog_10_method_7_code
def yX8_sortByTimes : MethodName := ⟨RX8, "sortByTimes", "()V"⟩
abbrev cX8_findGuesses : ByteArray := prog_10_method_8_code
def yX8_findGuesses : MethodName := ⟨RX8, "findGuesses", "()V"⟩
abbrev cX8_isRegular : ByteArray := prog_10_method_9_code
def yX8_isRegular : MethodName := ⟨RX8, "isRegular", "(I)Z"⟩
abbrev cX8_placesByRule : ByteArray := prog_10_method_10_code
def yX8_placesByRule : MethodName := ⟨RX8, "placesByRule", "()I"⟩
abbrev cX8_placesInAll : ByteArray := prog_10_method_11_code
def yX8_placesInAll : MethodName := ⟨RX8, "placesInAll", "()I"⟩
abbrev cX8_isGiven : ByteArray := prog_10_method_12_code
def yX8_isGiven : MethodName := ⟨RX8, "isGiven", "(II)Z"⟩
abbrev cX8_givenBy : ByteArray := prog_10_method_13_code
def yX8_givenBy : MethodName := ⟨RX8, "givenBy", "(I)I"⟩
abbrev cX8_newSign : ByteArray := prog_10_method_14_code
def yX8_newSign : MethodName := ⟨RX8, "newSign", "(II)I"⟩
abbrev cX8_changedPlaces : ByteArray := prog_10_method_15_code
def yX8_changedPlaces : MethodName := ⟨RX8, "changedPlaces", "()I"⟩
abbrev cX8_firstClash : ByteArray := prog_10_method_16_code
def yX8_firstClash : MethodName := ⟨RX8, "firstClash", "()I"⟩
abbrev cX8_areRespeltAlike : ByteArray := prog_10_method_17_code
def yX8_areRespeltAlike : MethodName := ⟨RX8, "areRespeltAlike", "(II)Z"⟩
def RX9 : String := "WordsFirst$SignPlan"
def TX9 : u_T := fun k => match k with
  | 0 => ("WordsFirst$SignPlan", "book", "LWordsFirst$Book;", true)
  | 1 => ("WordsFirst$SignPlan", "rule", "LWordsFirst$Rule;", true)
  | 2 => ("WordsFirst$SignPlan", "worth", "[I", true)
  | 3 => ("WordsFirst$SignPlan", "ahead", "[I", true)
  | 4 => ("WordsFirst$SignPlan", "orderRow", "[I", true)
  | 5 => ("WordsFirst$SignPlan", "orderSum", "I", false)
  | _ => ("WordsFirst$SignPlan", "orderFound", "Z", false)
def tyX9 : Nat → FieldType := fun k => match k with
  | 0 => .object "WordsFirst$Book"
  | 1 => .object "WordsFirst$Rule"
  | 2 => .array .int
  | 3 => .array .int
  | 4 => .array .int
  | 5 => .int
  | _ => .boolean
abbrev wsX90 : List Cond := u_ws RX9 TX9 7
theorem nmX9 : ∀ a, a < 7 → ∀ b, b < 7 → a ≠ b → (TX9 a).2.1 ≠ (TX9 b).2.1 := by decide +kernel
theorem tyX9_ok : ∀ k, k < 7 → parseFieldDescriptor (TX9 k).2.2.1 = some (tyX9 k) := by decide +kernel
abbrev cX9_init : ByteArray := prog_11_method_1_code
def yX9_init : MethodName := ⟨RX9, "<init>", "(LWordsFirst$Book;LWordsFirst$Rule;)V"⟩
abbrev cX9_findOrder : ByteArray := prog_11_method_2_code
def yX9_findOrder : MethodName := ⟨RX9, "findOrder", "()V"⟩
abbrev cX9_bestAhead : ByteArray := prog_11_method_3_code
def yX9_bestAhead : MethodName := ⟨RX9, "bestAhead", "(I)I"⟩
abbrev cX9_weighSets : ByteArray := prog_11_method_4_code
def yX9_weighSets : MethodName := ⟨RX9, "weighSets", "()V"⟩
abbrev cX9_pickOrder : ByteArray := prog_11_method_5_code
def yX9_pickOrder : MethodName := ⟨RX9, "pickOrder", "()V"⟩
abbrev cX9_nextSign : ByteArray := prog_11_method_6_code
def yX9_nextSign : MethodName := ⟨RX9, "nextSign", "(I)I"⟩
abbrev cX9_bestSigns : ByteArray := prog_11_method_7_code
def yX9_bestSigns : MethodName := ⟨RX9, "bestSigns", "(II)I"⟩
abbrev cX9_worthWith : ByteArray := prog_11_method_8_code
def yX9_worthWith : MethodName := ⟨RX9, "worthWith", "(II)I"⟩
abbrev cX9_bestWholes : ByteArray := prog_11_method_9_code
def yX9_bestWholes : MethodName := ⟨RX9, "bestWholes", "(II)I"⟩
def RX10 : String := "WordsFirst$TaleFinder"
def TX10 : u_T := fun k => match k with
  | 0 => ("WordsFirst$TaleFinder", "book", "LWordsFirst$Book;", true)
  | 1 => ("WordsFirst$TaleFinder", "starts", "[I", true)
  | 2 => ("WordsFirst$TaleFinder", "behind", "[I", true)
  | 3 => ("WordsFirst$TaleFinder", "row", "[I", true)
  | 4 => ("WordsFirst$TaleFinder", "size", "I", false)
  | _ => ("WordsFirst$TaleFinder", "ofChild", "I", false)
def tyX10 : Nat → FieldType := fun k => match k with
  | 0 => .object "WordsFirst$Book"
  | 1 => .array .int
  | 2 => .array .int
  | 3 => .array .int
  | 4 => .int
  | _ => .int
abbrev wsX100 : List Cond := u_ws RX10 TX10 6
theorem nmX10 : ∀ a, a < 6 → ∀ b, b < 6 → a ≠ b → (TX10 a).2.1 ≠ (TX10 b).2.1 := by decide +kernel
theorem tyX10_ok : ∀ k, k < 6 → parseFieldDescriptor (TX10 k).2.2.1 = some (tyX10 k) := by decide +kernel
abbrev cX10_init : ByteArray := prog_12_method_1_code
def yX10_init : MethodName := ⟨RX10, "<init>", "(LWordsFirst$Book;)V"⟩
abbrev cX10_find : ByteArray := prog_12_method_2_code
def yX10_find : MethodName := ⟨RX10, "find", "(I)V"⟩
abbrev cX10_nextWithin : ByteArray := prog_12_method_3_code
def yX10_nextWithin : MethodName := ⟨RX10, "nextWithin", "(II)I"⟩
abbrev cX10_findBehind : ByteArray := prog_12_method_4_code
def yX10_findBehind : MethodName := ⟨RX10, "findBehind", "()V"⟩
abbrev cX10_startsOf : ByteArray := prog_12_method_5_code
def yX10_startsOf : MethodName := ⟨RX10, "startsOf", "(I)I"⟩
abbrev cX10_pickRow : ByteArray := prog_12_method_6_code
def yX10_pickRow : MethodName := ⟨RX10, "pickRow", "(I)V"⟩
abbrev cX10_leastStart : ByteArray := prog_12_method_7_code
def yX10_leastStart : MethodName := ⟨RX10, "leastStart", "(III)I"⟩
def RX11 : String := "WordsFirst"
def TX11 : u_T := fun k => match k with
  | 0 => ("WordsFirst", "pad", "LWordsFirst$Pad;", true)
  | 1 => ("WordsFirst", "room", "LWordsFirst$Room;", true)
  | 2 => ("WordsFirst", "rule", "LWordsFirst$Rule;", true)
  | 3 => ("WordsFirst", "reader", "LWordsFirst$Reader;", true)
  | 4 => ("WordsFirst", "signPlan", "LWordsFirst$SignPlan;", true)
  | 5 => ("WordsFirst", "taleFinder", "LWordsFirst$TaleFinder;", true)
  | 6 => ("WordsFirst", "doubt", "LWordsFirst$Doubt;", true)
  | 7 => ("WordsFirst", "lessonPlan", "LWordsFirst$LessonPlan;", true)
  | 8 => ("WordsFirst", "images", "[LWordsFirst$Room;", true)
  | _ => ("WordsFirst", "imageKept", "[Z", true)
def tyX11 : Nat → FieldType := fun k => match k with
  | 0 => .object "WordsFirst$Pad"
  | 1 => .object "WordsFirst$Room"
  | 2 => .object "WordsFirst$Rule"
  | 3 => .object "WordsFirst$Reader"
  | 4 => .object "WordsFirst$SignPlan"
  | 5 => .object "WordsFirst$TaleFinder"
  | 6 => .object "WordsFirst$Doubt"
  | 7 => .object "WordsFirst$LessonPlan"
  | 8 => .array (.object "WordsFirst$Room")
  | _ => .array .boolean
abbrev wsX110 : List Cond := u_ws RX11 TX11 10
theorem nmX11 : ∀ a, a < 10 → ∀ b, b < 10 → a ≠ b → (TX11 a).2.1 ≠ (TX11 b).2.1 := by decide +kernel
theorem tyX11_ok : ∀ k, k < 10 → parseFieldDescriptor (TX11 k).2.2.1 = some (tyX11 k) := by decide +kernel
abbrev cX11_init : ByteArray := prog_1_method_1_code
def yX11_init : MethodName := ⟨RX11, "<init>", "()V"⟩
abbrev cX11_say : ByteArray := prog_1_method_2_code
def yX11_say : MethodName := ⟨RX11, "say", "(I)I"⟩
abbrev cX11_wipe : ByteArray := prog_1_method_3_code
def yX11_wipe : MethodName := ⟨RX11, "wipe", "()I"⟩
abbrev cX11_fault : ByteArray := prog_1_method_4_code
def yX11_fault : MethodName := ⟨RX11, "fault", "()I"⟩
abbrev cX11_word : ByteArray := prog_1_method_5_code
def yX11_word : MethodName := ⟨RX11, "word", "(I)I"⟩
abbrev cX11_about : ByteArray := prog_1_method_6_code
def yX11_about : MethodName := ⟨RX11, "about", "(II)I"⟩
abbrev cX11_often : ByteArray := prog_1_method_7_code
def yX11_often : MethodName := ⟨RX11, "often", "(II)I"⟩
abbrev cX11_has : ByteArray := prog_1_method_8_code
def yX11_has : MethodName := ⟨RX11, "has", "(III)J"⟩
abbrev cX11_common : ByteArray := prog_1_method_9_code
def yX11_common : MethodName := ⟨RX11, "common", "(I)I"⟩
abbrev cX11_ruled : ByteArray := prog_1_method_10_code
def yX11_ruled : MethodName := ⟨RX11, "ruled", "(I)J"⟩
abbrev cX11_knows : ByteArray := prog_1_method_11_code
def yX11_knows : MethodName := ⟨RX11, "knows", "(III)I"⟩
abbrev cX11_mix : ByteArray := prog_1_method_12_code
def yX11_mix : MethodName := ⟨RX11, "mix", "(III)I"⟩
abbrev cX11_read : ByteArray := prog_1_method_13_code
def yX11_read : MethodName := ⟨RX11, "read", "(III)I"⟩
abbrev cX11_share : ByteArray := prog_1_method_14_code
def yX11_share : MethodName := ⟨RX11, "share", "(I)I"⟩
abbrev cX11_gives : ByteArray := prog_1_method_15_code
def yX11_gives : MethodName := ⟨RX11, "gives", "(II)I"⟩
abbrev cX11_order : ByteArray := prog_1_method_16_code
def yX11_order : MethodName := ⟨RX11, "order", "(I)I"⟩
abbrev cX11_most : ByteArray := prog_1_method_17_code
def yX11_most : MethodName := ⟨RX11, "most", "(III)I"⟩
abbrev cX11_tale : ByteArray := prog_1_method_18_code
def yX11_tale : MethodName := ⟨RX11, "tale", "(II)I"⟩
abbrev cX11_answer : ByteArray := prog_1_method_19_code
def yX11_answer : MethodName := ⟨RX11, "answer", "(IZ)I"⟩
abbrev cX11_clear : ByteArray := prog_1_method_20_code
def yX11_clear : MethodName := ⟨RX11, "clear", "()I"⟩
abbrev cX11_may : ByteArray := prog_1_method_21_code
def yX11_may : MethodName := ⟨RX11, "may", "()I"⟩
abbrev cX11_lacks : ByteArray := prog_1_method_22_code
def yX11_lacks : MethodName := ⟨RX11, "lacks", "(II)J"⟩
abbrev cX11_tells : ByteArray := prog_1_method_23_code
def yX11_tells : MethodName := ⟨RX11, "tells", "()I"⟩
abbrev cX11_test : ByteArray := prog_1_method_24_code
def yX11_test : MethodName := ⟨RX11, "test", "()I"⟩
abbrev cX11_respelt : ByteArray := prog_1_method_25_code
def yX11_respelt : MethodName := ⟨RX11, "respelt", "(II)I"⟩
abbrev cX11_price : ByteArray := prog_1_method_26_code
def yX11_price : MethodName := ⟨RX11, "price", "(I)I"⟩
abbrev cX11_lessons : ByteArray := prog_1_method_27_code
def yX11_lessons : MethodName := ⟨RX11, "lessons", "(II)I"⟩
abbrev cX11_shared : ByteArray := prog_1_method_28_code
def yX11_shared : MethodName := ⟨RX11, "shared", "(II)I"⟩
abbrev cX11_itself : ByteArray := prog_1_method_29_code
def yX11_itself : MethodName := ⟨RX11, "itself", "(III)I"⟩
abbrev cX11_line : ByteArray := prog_1_method_30_code
def yX11_line : MethodName := ⟨RX11, "line", "(I)I"⟩
abbrev cX11_image : ByteArray := prog_1_method_31_code
def yX11_image : MethodName := ⟨RX11, "image", "(I)I"⟩
abbrev cX11_restore : ByteArray := prog_1_method_32_code
def yX11_restore : MethodName := ⟨RX11, "restore", "(I)I"⟩
abbrev cX11_told : ByteArray := prog_1_method_33_code
def yX11_told : MethodName := ⟨RX11, "told", "(I)I"⟩
abbrev cX11_bookChanged : ByteArray := prog_1_method_34_code
def yX11_bookChanged : MethodName := ⟨RX11, "bookChanged", "()V"⟩
abbrev cX11_childChanged : ByteArray := prog_1_method_35_code
def yX11_childChanged : MethodName := ⟨RX11, "childChanged", "(I)V"⟩
abbrev cX11_isSign : ByteArray := prog_1_method_36_code
def yX11_isSign : MethodName := ⟨RX11, "isSign", "(I)Z"⟩
abbrev cX11_isChild : ByteArray := prog_1_method_37_code
def yX11_isChild : MethodName := ⟨RX11, "isChild", "(I)Z"⟩
abbrev cX11_isSignSet : ByteArray := prog_1_method_38_code
def yX11_isSignSet : MethodName := ⟨RX11, "isSignSet", "(I)Z"⟩
abbrev cX11_isPart : ByteArray := prog_1_method_39_code
def yX11_isPart : MethodName := ⟨RX11, "isPart", "(I)Z"⟩
abbrev cX11_hasBit : ByteArray := prog_1_method_40_code
def yX11_hasBit : MethodName := ⟨RX11, "hasBit", "(II)Z"⟩
abbrev cX11_fractionPart : ByteArray := prog_1_method_41_code
def yX11_fractionPart : MethodName := ⟨RX11, "fractionPart", "(III)J"⟩
abbrev cX11_greatestDivisor : ByteArray := prog_1_method_42_code
def yX11_greatestDivisor : MethodName := ⟨RX11, "greatestDivisor", "(II)I"⟩
abbrev cX11_addUpSubsets : ByteArray := prog_1_method_43_code
def yX11_addUpSubsets : MethodName := ⟨RX11, "addUpSubsets", "([I)V"⟩
def RX12 : String := "WordsFirstModel"
def TX12 : u_T := fun k => match k with
  | 0 => ("WordsFirstModel", "signs", "[I", true)
  | 1 => ("WordsFirstModel", "sounds", "[I", true)
  | 2 => ("WordsFirstModel", "letters", "[I", true)
  | 3 => ("WordsFirstModel", "often", "[I", true)
  | 4 => ("WordsFirstModel", "words", "I", false)
  | 5 => ("WordsFirstModel", "pad", "[I", true)
  | 6 => ("WordsFirstModel", "padMany", "I", false)
  | 7 => ("WordsFirstModel", "padLetters", "I", false)
  | 8 => ("WordsFirstModel", "hasOf", "[I", true)
  | 9 => ("WordsFirstModel", "commonOf", "[I", true)
  | 10 => ("WordsFirstModel", "regular", "[I", true)
  | 11 => ("WordsFirstModel", "knownSigns", "[I", true)
  | 12 => ("WordsFirstModel", "knownWords", "[I", true)
  | 13 => ("WordsFirstModel", "mixed", "[I", true)
  | 14 => ("WordsFirstModel", "howRead", "I", false)
  | 15 => ("WordsFirstModel", "readAs", "I", false)
  | 16 => ("WordsFirstModel", "giveOf", "[I", true)
  | 17 => ("WordsFirstModel", "behind", "[I", true)
  | 18 => ("WordsFirstModel", "moreOf", "[I", true)
  | 19 => ("WordsFirstModel", "reads", "[Z", true)
  | 20 => ("WordsFirstModel", "answerWord", "[I", true)
  | 21 => ("WordsFirstModel", "answerRight", "[I", true)
  | 22 => ("WordsFirstModel", "answers", "I", false)
  | 23 => ("WordsFirstModel", "column", "[I", true)
  | 24 => ("WordsFirstModel", "bestShare", "[I", true)
  | 25 => ("WordsFirstModel", "given", "[I", true)
  | 26 => ("WordsFirstModel", "rounds", "I", false)
  | 27 => ("WordsFirstModel", "kept", "[I", true)
  | 28 => ("WordsFirstModel", "isKept", "[Z", true)
  | 29 => ("WordsFirstModel", "keptAt", "I", false)
  | _ => ("WordsFirstModel", "isWriting", "Z", false)
def tyX12 : Nat → FieldType := fun k => match k with
  | 0 => .array .int
  | 1 => .array .int
  | 2 => .array .int
  | 3 => .array .int
  | 4 => .int
  | 5 => .array .int
  | 6 => .int
  | 7 => .int
  | 8 => .array .int
  | 9 => .array .int
  | 10 => .array .int
  | 11 => .array .int
  | 12 => .array .int
  | 13 => .array .int
  | 14 => .int
  | 15 => .int
  | 16 => .array .int
  | 17 => .array .int
  | 18 => .array .int
  | 19 => .array .boolean
  | 20 => .array .int
  | 21 => .array .int
  | 22 => .int
  | 23 => .array .int
  | 24 => .array .int
  | 25 => .array .int
  | 26 => .int
  | 27 => .array .int
  | 28 => .array .boolean
  | 29 => .int
  | _ => .boolean
abbrev wsX120 : List Cond := u_ws RX12 TX12 31
theorem nmX12 : ∀ a, a < 31 → ∀ b, b < 31 → a ≠ b → (TX12 a).2.1 ≠ (TX12 b).2.1 := by decide +kernel
theorem tyX12_ok : ∀ k, k < 31 → parseFieldDescriptor (TX12 k).2.2.1 = some (tyX12 k) := by decide +kernel
abbrev cX12_init : ByteArray := prog_14_method_1_code
def yX12_init : MethodName := ⟨RX12, "<init>", "()V"⟩
abbrev cX12_in : ByteArray := prog_14_method_3_code
def yX12_in : MethodName := ⟨RX12, "in", "(JJJ)Z"⟩
abbrev cX12_isSign : ByteArray := prog_14_method_4_code
def yX12_isSign : MethodName := ⟨RX12, "isSign", "(I)Z"⟩
abbrev cX12_isChild : ByteArray := prog_14_method_5_code
def yX12_isChild : MethodName := ⟨RX12, "isChild", "(I)Z"⟩
abbrev cX12_isEnd : ByteArray := prog_14_method_6_code
def yX12_isEnd : MethodName := ⟨RX12, "isEnd", "(I)Z"⟩
abbrev cX12_ones : ByteArray := prog_14_method_7_code
def yX12_ones : MethodName := ⟨RX12, "ones", "(I)I"⟩
abbrev cX12_lowest : ByteArray := prog_14_method_8_code
def yX12_lowest : MethodName := ⟨RX12, "lowest", "(JJI)J"⟩
abbrev cX12_say : ByteArray := prog_14_method_9_code
def yX12_say : MethodName := ⟨RX12, "say", "(I)I"⟩
abbrev cX12_wipe : ByteArray := prog_14_method_10_code
def yX12_wipe : MethodName := ⟨RX12, "wipe", "()I"⟩
abbrev cX12_fault : ByteArray := prog_14_method_11_code
def yX12_fault : MethodName := ⟨RX12, "fault", "()I"⟩
abbrev cX12_isThere : ByteArray := prog_14_method_12_code
def yX12_isThere : MethodName := ⟨RX12, "isThere", "()Z"⟩
abbrev cX12_isOften : ByteArray := prog_14_method_13_code
def yX12_isOften : MethodName := ⟨RX12, "isOften", "(I)Z"⟩
abbrev cX12_word : ByteArray := prog_14_method_14_code
def yX12_word : MethodName := ⟨RX12, "word", "(I)I"⟩
abbrev cX12_isWord : ByteArray := prog_14_method_15_code
def yX12_isWord : MethodName := ⟨RX12, "isWord", "(I)Z"⟩
abbrev cX12_signsOf : ByteArray := prog_14_method_16_code
def yX12_signsOf : MethodName := ⟨RX12, "signsOf", "(I)I"⟩
abbrev cX12_about : ByteArray := prog_14_method_17_code
def yX12_about : MethodName := ⟨RX12, "about", "(II)I"⟩
abbrev cX12_often : ByteArray := prog_14_method_18_code
def yX12_often : MethodName := ⟨RX12, "often", "(II)I"⟩
abbrev cX12_findCommon : ByteArray := prog_14_method_19_code
def yX12_findCommon : MethodName := ⟨RX12, "findCommon", "()V"⟩
abbrev cX12_isRegular : ByteArray := prog_14_method_20_code
def yX12_isRegular : MethodName := ⟨RX12, "isRegular", "(I)Z"⟩
abbrev cX12_allOf : ByteArray := prog_14_method_21_code
def yX12_allOf : MethodName := ⟨RX12, "allOf", "(I)I"⟩
abbrev cX12_has : ByteArray := prog_14_method_22_code
def yX12_has : MethodName := ⟨RX12, "has", "(III)J"⟩
abbrev cX12_common : ByteArray := prog_14_method_23_code
def yX12_common : MethodName := ⟨RX12, "common", "(I)I"⟩
abbrev cX12_ruled : ByteArray := prog_14_method_24_code
def yX12_ruled : MethodName := ⟨RX12, "ruled", "(I)J"⟩
abbrev cX12_knows : ByteArray := prog_14_method_25_code
def yX12_knows : MethodName := ⟨RX12, "knows", "(III)I"⟩
abbrev cX12_mix : ByteArray := prog_14_method_26_code
def yX12_mix : MethodName := ⟨RX12, "mix", "(III)I"⟩
abbrev cX12_takenFor : ByteArray := prog_14_method_27_code
def yX12_takenFor : MethodName := ⟨RX12, "takenFor", "(II)I"⟩
abbrev cX12_findReading : ByteArray := prog_14_method_28_code
def yX12_findReading : MethodName := ⟨RX12, "findReading", "(IIII)V"⟩
abbrev cX12_soundsAs : ByteArray := prog_14_method_29_code
def yX12_soundsAs : MethodName := ⟨RX12, "soundsAs", "(III)Z"⟩
abbrev cX12_sounded : ByteArray := prog_14_method_30_code
def yX12_sounded : MethodName := ⟨RX12, "sounded", "(II)I"⟩
abbrev cX12_guessed : ByteArray := prog_14_method_31_code
def yX12_guessed : MethodName := ⟨RX12, "guessed", "(I)I"⟩
abbrev cX12_canRead : ByteArray := prog_14_method_32_code
def yX12_canRead : MethodName := ⟨RX12, "canRead", "(IIII)Z"⟩
abbrev cX12_shareOf : ByteArray := prog_14_method_33_code
def yX12_shareOf : MethodName := ⟨RX12, "shareOf", "(III)I"⟩
abbrev cX12_read : ByteArray := prog_14_method_34_code
def yX12_read : MethodName := ⟨RX12, "read", "(III)I"⟩
abbrev cX12_share : ByteArray := prog_14_method_35_code
def yX12_share : MethodName := ⟨RX12, "share", "(I)I"⟩
abbrev cX12_isGiven : ByteArray := prog_14_method_36_code
def yX12_isGiven : MethodName := ⟨RX12, "isGiven", "(II)Z"⟩
abbrev cX12_givesOf : ByteArray := prog_14_method_37_code
def yX12_givesOf : MethodName := ⟨RX12, "givesOf", "(II)I"⟩
abbrev cX12_gives : ByteArray := prog_14_method_38_code
def yX12_gives : MethodName := ⟨RX12, "gives", "(II)I"⟩
abbrev cX12_findOrder : ByteArray := prog_14_method_39_code
def yX12_findOrder : MethodName := ⟨RX12, "findOrder", "()V"⟩
abbrev cX12_order : ByteArray := prog_14_method_40_code
def yX12_order : MethodName := ⟨RX12, "order", "(I)I"⟩
abbrev cX12_wholesFor : ByteArray := prog_14_method_41_code
def yX12_wholesFor : MethodName := ⟨RX12, "wholesFor", "(II)I"⟩
abbrev cX12_most : ByteArray := prog_14_method_42_code
def yX12_most : MethodName := ⟨RX12, "most", "(III)I"⟩
abbrev cX12_follows : ByteArray := prog_14_method_43_code
def yX12_follows : MethodName := ⟨RX12, "follows", "(II)Z"⟩
abbrev cX12_findTales : ByteArray := prog_14_method_44_code
def yX12_findTales : MethodName := ⟨RX12, "findTales", "(I)V"⟩
abbrev cX12_tale : ByteArray := prog_14_method_45_code
def yX12_tale : MethodName := ⟨RX12, "tale", "(II)I"⟩
abbrev cX12_comes : ByteArray := prog_14_method_46_code
def yX12_comes : MethodName := ⟨RX12, "comes", "(IIII)Z"⟩
abbrev cX12_answer : ByteArray := prog_14_method_47_code
def yX12_answer : MethodName := ⟨RX12, "answer", "(IZ)I"⟩
abbrev cX12_clear : ByteArray := prog_14_method_48_code
def yX12_clear : MethodName := ⟨RX12, "clear", "()I"⟩
abbrev cX12_readsRight : ByteArray := prog_14_method_49_code
def yX12_readsRight : MethodName := ⟨RX12, "readsRight", "(II)Z"⟩
abbrev cX12_mayLack : ByteArray := prog_14_method_50_code
def yX12_mayLack : MethodName := ⟨RX12, "mayLack", "(I)Z"⟩
abbrev cX12_mayWith : ByteArray := prog_14_method_51_code
def yX12_mayWith : MethodName := ⟨RX12, "mayWith", "(I)I"⟩
abbrev cX12_may : ByteArray := prog_14_method_52_code
def yX12_may : MethodName := ⟨RX12, "may", "()I"⟩
abbrev cX12_lacks : ByteArray := prog_14_method_53_code
def yX12_lacks : MethodName := ⟨RX12, "lacks", "(II)J"⟩
abbrev cX12_tells : ByteArray := prog_14_method_54_code
def yX12_tells : MethodName := ⟨RX12, "tells", "()I"⟩
abbrev cX12_tellsAll : ByteArray := prog_14_method_55_code
def yX12_tellsAll : MethodName := ⟨RX12, "tellsAll", "(II)Z"⟩
abbrev cX12_test : ByteArray := prog_14_method_56_code
def yX12_test : MethodName := ⟨RX12, "test", "()I"⟩
abbrev cX12_signFor : ByteArray := prog_14_method_57_code
def yX12_signFor : MethodName := ⟨RX12, "signFor", "(I)I"⟩
abbrev cX12_respeltAt : ByteArray := prog_14_method_58_code
def yX12_respeltAt : MethodName := ⟨RX12, "respeltAt", "(II)I"⟩
abbrev cX12_respelt : ByteArray := prog_14_method_59_code
def yX12_respelt : MethodName := ⟨RX12, "respelt", "(II)I"⟩
abbrev cX12_clash : ByteArray := prog_14_method_60_code
def yX12_clash : MethodName := ⟨RX12, "clash", "(II)Z"⟩
abbrev cX12_price : ByteArray := prog_14_method_61_code
def yX12_price : MethodName := ⟨RX12, "price", "(I)I"⟩
abbrev cX12_findLessons : ByteArray := prog_14_method_62_code
def yX12_findLessons : MethodName := ⟨RX12, "findLessons", "(I)V"⟩
abbrev cX12_lessons : ByteArray := prog_14_method_63_code
def yX12_lessons : MethodName := ⟨RX12, "lessons", "(II)I"⟩
abbrev cX12_findShared : ByteArray := prog_14_method_64_code
def yX12_findShared : MethodName := ⟨RX12, "findShared", "(I)I"⟩
abbrev cX12_shared : ByteArray := prog_14_method_65_code
def yX12_shared : MethodName := ⟨RX12, "shared", "(II)I"⟩
abbrev cX12_allOften : ByteArray := prog_14_method_66_code
def yX12_allOften : MethodName := ⟨RX12, "allOften", "()I"⟩
abbrev cX12_byItself : ByteArray := prog_14_method_67_code
def yX12_byItself : MethodName := ⟨RX12, "byItself", "(II)I"⟩
abbrev cX12_itself : ByteArray := prog_14_method_68_code
def yX12_itself : MethodName := ⟨RX12, "itself", "(III)I"⟩
abbrev cX12_line : ByteArray := prog_14_method_69_code
def yX12_line : MethodName := ⟨RX12, "line", "(I)I"⟩
abbrev cX12_pass : ByteArray := prog_14_method_70_code
def yX12_pass : MethodName := ⟨RX12, "pass", "(I)I"⟩
abbrev cX12_passAll : ByteArray := prog_14_method_71_code
def yX12_passAll : MethodName := ⟨RX12, "passAll", "()V"⟩
abbrev cX12_image : ByteArray := prog_14_method_72_code
def yX12_image : MethodName := ⟨RX12, "image", "(I)I"⟩
abbrev cX12_restore : ByteArray := prog_14_method_73_code
def yX12_restore : MethodName := ⟨RX12, "restore", "(I)I"⟩
abbrev cX12_told : ByteArray := prog_14_method_74_code
def yX12_told : MethodName := ⟨RX12, "told", "(I)I"⟩
def RJ6 : String := "java/lang/Integer"
abbrev cJ6_bitCount_0f7a4 : ByteArray := prog_15_method_49_code
def yJ6_bitCount_0f7a4 : MethodName := ⟨RJ6, "bitCount", "(I)I"⟩
def RJ9 : String := "java/lang/Math"
abbrev cJ9_max_7cf53 : ByteArray := prog_16_method_65_code
def yJ9_max_7cf53 : MethodName := ⟨RJ9, "max", "(II)I"⟩
abbrev cJ9_min_7cf53 : ByteArray := prog_16_method_69_code
def yJ9_min_7cf53 : MethodName := ⟨RJ9, "min", "(II)I"⟩
def RJ10 : String := "java/lang/System"
def RJ7 : String := "java/util/Arrays"
abbrev cJ7_fill_53178 : ByteArray := prog_18_method_103_code
def yJ7_fill_53178 : MethodName := ⟨RJ7, "fill", "([II)V"⟩
def RL : String := "WordsFirstLaw"
abbrev cL_law : ByteArray := code
def yL_law : MethodName := ⟨RL, "law", "([I)Z"⟩
abbrev vwCl : List vw_C := [(RX0, TX0, 3), (RX1, TX1, 6), (RX2, TX2, 4), (RX3, TX3, 9), (RX4, TX4, 8), (RX5, TX5, 2), (RX6, TX6, 4), (RX7, TX7, 3), (RX8, TX8, 8), (RX9, TX9, 7), (RX10, TX10, 6), (RX11, TX11, 10), (RX12, TX12, 31)]
theorem inX0 : ∀ w ∈ u_ws RX0 TX0 3, w ∈ lw_tbl := by decide +kernel
theorem inX1 : ∀ w ∈ u_ws RX1 TX1 6, w ∈ lw_tbl := by decide +kernel
theorem inX2 : ∀ w ∈ u_ws RX2 TX2 4, w ∈ lw_tbl := by decide +kernel
theorem inX3 : ∀ w ∈ u_ws RX3 TX3 9, w ∈ lw_tbl := by decide +kernel
theorem inX4 : ∀ w ∈ u_ws RX4 TX4 8, w ∈ lw_tbl := by decide +kernel
theorem inX5 : ∀ w ∈ u_ws RX5 TX5 2, w ∈ lw_tbl := by decide +kernel
theorem inX6 : ∀ w ∈ u_ws RX6 TX6 4, w ∈ lw_tbl := by decide +kernel
theorem inX7 : ∀ w ∈ u_ws RX7 TX7 3, w ∈ lw_tbl := by decide +kernel
theorem inX8 : ∀ w ∈ u_ws RX8 TX8 8, w ∈ lw_tbl := by decide +kernel
theorem inX9 : ∀ w ∈ u_ws RX9 TX9 7, w ∈ lw_tbl := by decide +kernel
theorem inX10 : ∀ w ∈ u_ws RX10 TX10 6, w ∈ lw_tbl := by decide +kernel
theorem inX11 : ∀ w ∈ u_ws RX11 TX11 10, w ∈ lw_tbl := by decide +kernel
theorem inX12 : ∀ w ∈ u_ws RX12 TX12 31, w ∈ lw_tbl := by decide +kernel
end
section
theorem dX0_init_0 : decode cX0_init 0 = .ok (.aload_n 0, 1) := by decide +kernel
theorem dX0_init_1 : decode cX0_init 1 = .ok (.invokespecial 3, 3) := by decide +kernel
theorem dX0_init_4 : decode cX0_init 4 = .ok (.aload_n 0, 1) := by decide +kernel
theorem dX0_init_5 : decode cX0_init 5 = .ok (.bipush 20, 2) := by decide +kernel
theorem dX0_init_7 : decode cX0_init 7 = .ok (.newarray .int, 2) := by decide +kernel
theorem dX0_init_9 : decode cX0_init 9 = .ok (.putfield 9, 3) := by decide +kernel
theorem dX0_init_12 : decode cX0_init 12 = .ok (.aload_n 0, 1) := by decide +kernel
theorem dX0_init_13 : decode cX0_init 13 = .ok (.bipush 20, 2) := by decide +kernel
theorem dX0_init_15 : decode cX0_init 15 = .ok (.newarray .boolean, 2) := by decide +kernel
theorem dX0_init_17 : decode cX0_init 17 = .ok (.putfield 15, 3) := by decide +kernel
theorem dX0_init_20 : decode cX0_init 20 = .ok (.return_, 1) := by decide +kernel
theorem dX0_copyFrom_0 : decode cX0_copyFrom 0 = .ok (.iconst 0, 1) := by decide +kernel
theorem dX0_copyFrom_1 : decode cX0_copyFrom 1 = .ok (.istore_n 2, 1) := by decide +kernel
theorem dX0_copyFrom_2 : decode cX0_copyFrom 2 = .ok (.iload_n 2, 1) := by decide +kernel
theorem dX0_copyFrom_3 : decode cX0_copyFrom 3 = .ok (.bipush 20, 2) := by decide +kernel
theorem dX0_copyFrom_5 : decode cX0_copyFrom 5 = .ok (.if_icmp .ge 33, 3) := by decide +kernel
theorem dX0_copyFrom_8 : decode cX0_copyFrom 8 = .ok (.aload_n 0, 1) := by decide +kernel
theorem dX0_copyFrom_9 : decode cX0_copyFrom 9 = .ok (.getfield 9, 3) := by decide +kernel
theorem dX0_copyFrom_12 : decode cX0_copyFrom 12 = .ok (.iload_n 2, 1) := by decide +kernel
theorem dX0_copyFrom_13 : decode cX0_copyFrom 13 = .ok (.aload_n 1, 1) := by decide +kernel
theorem dX0_copyFrom_14 : decode cX0_copyFrom 14 = .ok (.getfield 9, 3) := by decide +kernel
theorem dX0_copyFrom_17 : decode cX0_copyFrom 17 = .ok (.iload_n 2, 1) := by decide +kernel
theorem dX0_copyFrom_18 : decode cX0_copyFrom 18 = .ok (.iaload, 1) := by decide +kernel
theorem dX0_copyFrom_19 : decode cX0_copyFrom 19 = .ok (.iastore, 1) := by decide +kernel
theorem dX0_copyFrom_20 : decode cX0_copyFrom 20 = .ok (.aload_n 0, 1) := by decide +kernel
theorem dX0_copyFrom_21 : decode cX0_copyFrom 21 = .ok (.getfield 15, 3) := by decide +kernel
theorem dX0_copyFrom_24 : decode cX0_copyFrom 24 = .ok (.iload_n 2, 1) := by decide +kernel
theorem dX0_copyFrom_25 : decode cX0_copyFrom 25 = .ok (.aload_n 1, 1) := by decide +kernel
theorem dX0_copyFrom_26 : decode cX0_copyFrom 26 = .ok (.getfield 15, 3) := by decide +kernel
theorem dX0_copyFrom_29 : decode cX0_copyFrom 29 = .ok (.iload_n 2, 1) := by decide +kernel
theorem dX0_copyFrom_30 : decode cX0_copyFrom 30 = .ok (.baload, 1) := by decide +kernel
theorem dX0_copyFrom_31 : decode cX0_copyFrom 31 = .ok (.bastore, 1) := by decide +kernel
theorem dX0_copyFrom_32 : decode cX0_copyFrom 32 = .ok (.iinc 2 1, 3) := by decide +kernel
theorem dX0_copyFrom_35 : decode cX0_copyFrom 35 = .ok (.goto (-33), 3) := by decide +kernel
theorem dX0_copyFrom_38 : decode cX0_copyFrom 38 = .ok (.aload_n 0, 1) := by decide +kernel
theorem dX0_copyFrom_39 : decode cX0_copyFrom 39 = .ok (.aload_n 1, 1) := by decide +kernel
theorem dX0_copyFrom_40 : decode cX0_copyFrom 40 = .ok (.getfield 19, 3) := by decide +kernel
theorem dX0_copyFrom_43 : decode cX0_copyFrom 43 = .ok (.putfield 19, 3) := by decide +kernel
theorem dX0_copyFrom_46 : decode cX0_copyFrom 46 = .ok (.return_, 1) := by decide +kernel
theorem dX0_add_0 : decode cX0_add 0 = .ok (.aload_n 0, 1) := by decide +kernel
theorem dX0_add_1 : decode cX0_add 1 = .ok (.getfield 19, 3) := by decide +kernel
theorem dX0_add_4 : decode cX0_add 4 = .ok (.bipush 20, 2) := by decide +kernel
theorem dX0_add_6 : decode cX0_add 6 = .ok (.if_icmp .ge 33, 3) := by decide +kernel
theorem dX0_add_9 : decode cX0_add 9 = .ok (.aload_n 0, 1) := by decide +kernel
theorem dX0_add_10 : decode cX0_add 10 = .ok (.getfield 9, 3) := by decide +kernel
theorem dX0_add_13 : decode cX0_add 13 = .ok (.aload_n 0, 1) := by decide +kernel
theorem dX0_add_14 : decode cX0_add 14 = .ok (.getfield 19, 3) := by decide +kernel
theorem dX0_add_17 : decode cX0_add 17 = .ok (.iload_n 1, 1) := by decide +kernel
theorem dX0_add_18 : decode cX0_add 18 = .ok (.iastore, 1) := by decide +kernel
theorem dX0_add_19 : decode cX0_add 19 = .ok (.aload_n 0, 1) := by decide +kernel
theorem dX0_add_20 : decode cX0_add 20 = .ok (.getfield 15, 3) := by decide +kernel
theorem dX0_add_23 : decode cX0_add 23 = .ok (.aload_n 0, 1) := by decide +kernel
theorem dX0_add_24 : decode cX0_add 24 = .ok (.getfield 19, 3) := by decide +kernel
theorem dX0_add_27 : decode cX0_add 27 = .ok (.iload_n 2, 1) := by decide +kernel
theorem dX0_add_28 : decode cX0_add 28 = .ok (.bastore, 1) := by decide +kernel
theorem dX0_add_29 : decode cX0_add 29 = .ok (.aload_n 0, 1) := by decide +kernel
theorem dX0_add_30 : decode cX0_add 30 = .ok (.dup, 1) := by decide +kernel
theorem dX0_add_31 : decode cX0_add 31 = .ok (.getfield 19, 3) := by decide +kernel
theorem dX0_add_34 : decode cX0_add 34 = .ok (.iconst 1, 1) := by decide +kernel
theorem dX0_add_35 : decode cX0_add 35 = .ok (.iadd, 1) := by decide +kernel
theorem dX0_add_36 : decode cX0_add 36 = .ok (.putfield 19, 3) := by decide +kernel
theorem dX0_add_39 : decode cX0_add 39 = .ok (.return_, 1) := by decide +kernel
theorem dX1_init_0 : decode cX1_init 0 = .ok (.aload_n 0, 1) := by decide +kernel
theorem dX1_init_1 : decode cX1_init 1 = .ok (.invokespecial 3, 3) := by decide +kernel
theorem dX1_init_4 : decode cX1_init 4 = .ok (.aload_n 0, 1) := by decide +kernel
theorem dX1_init_5 : decode cX1_init 5 = .ok (.bipush 12, 2) := by decide +kernel
theorem dX1_init_7 : decode cX1_init 7 = .ok (.newarray .int, 2) := by decide +kernel
theorem dX1_init_9 : decode cX1_init 9 = .ok (.putfield 9, 3) := by decide +kernel
theorem dX1_init_12 : decode cX1_init 12 = .ok (.aload_n 0, 1) := by decide +kernel
theorem dX1_init_13 : decode cX1_init 13 = .ok (.bipush 12, 2) := by decide +kernel
theorem dX1_init_15 : decode cX1_init 15 = .ok (.newarray .int, 2) := by decide +kernel
theorem dX1_init_17 : decode cX1_init 17 = .ok (.putfield 15, 3) := by decide +kernel
theorem dX1_init_20 : decode cX1_init 20 = .ok (.aload_n 0, 1) := by decide +kernel
theorem dX1_init_21 : decode cX1_init 21 = .ok (.bipush 12, 2) := by decide +kernel
theorem dX1_init_23 : decode cX1_init 23 = .ok (.newarray .int, 2) := by decide +kernel
theorem dX1_init_25 : decode cX1_init 25 = .ok (.putfield 18, 3) := by decide +kernel
theorem dX1_init_28 : decode cX1_init 28 = .ok (.aload_n 0, 1) := by decide +kernel
theorem dX1_init_29 : decode cX1_init 29 = .ok (.bipush 60, 2) := by decide +kernel
theorem dX1_init_31 : decode cX1_init 31 = .ok (.newarray .int, 2) := by decide +kernel
theorem dX1_init_33 : decode cX1_init 33 = .ok (.putfield 21, 3) := by decide +kernel
theorem dX1_init_36 : decode cX1_init 36 = .ok (.aload_n 0, 1) := by decide +kernel
theorem dX1_init_37 : decode cX1_init 37 = .ok (.bipush 60, 2) := by decide +kernel
theorem dX1_init_39 : decode cX1_init 39 = .ok (.newarray .int, 2) := by decide +kernel
theorem dX1_init_41 : decode cX1_init 41 = .ok (.putfield 24, 3) := by decide +kernel
theorem dX1_init_44 : decode cX1_init 44 = .ok (.return_, 1) := by decide +kernel
theorem dX1_copyFrom_0 : decode cX1_copyFrom 0 = .ok (.aload_n 1, 1) := by decide +kernel
theorem dX1_copyFrom_1 : decode cX1_copyFrom 1 = .ok (.getfield 9, 3) := by decide +kernel
theorem dX1_copyFrom_4 : decode cX1_copyFrom 4 = .ok (.iconst 0, 1) := by decide +kernel
theorem dX1_copyFrom_5 : decode cX1_copyFrom 5 = .ok (.aload_n 0, 1) := by decide +kernel
theorem dX1_copyFrom_6 : decode cX1_copyFrom 6 = .ok (.getfield 9, 3) := by decide +kernel
theorem dX1_copyFrom_9 : decode cX1_copyFrom 9 = .ok (.iconst 0, 1) := by decide +kernel
theorem dX1_copyFrom_10 : decode cX1_copyFrom 10 = .ok (.bipush 12, 2) := by decide +kernel
theorem dX1_copyFrom_12 : decode cX1_copyFrom 12 = .ok (.invokestatic 27, 3) := by decide +kernel
theorem dX1_copyFrom_15 : decode cX1_copyFrom 15 = .ok (.aload_n 1, 1) := by decide +kernel
theorem dX1_copyFrom_16 : decode cX1_copyFrom 16 = .ok (.getfield 15, 3) := by decide +kernel
theorem dX1_copyFrom_19 : decode cX1_copyFrom 19 = .ok (.iconst 0, 1) := by decide +kernel
theorem dX1_copyFrom_20 : decode cX1_copyFrom 20 = .ok (.aload_n 0, 1) := by decide +kernel
theorem dX1_copyFrom_21 : decode cX1_copyFrom 21 = .ok (.getfield 15, 3) := by decide +kernel
theorem dX1_copyFrom_24 : decode cX1_copyFrom 24 = .ok (.iconst 0, 1) := by decide +kernel
theorem dX1_copyFrom_25 : decode cX1_copyFrom 25 = .ok (.bipush 12, 2) := by decide +kernel
theorem dX1_copyFrom_27 : decode cX1_copyFrom 27 = .ok (.invokestatic 27, 3) := by decide +kernel
theorem dX1_copyFrom_30 : decode cX1_copyFrom 30 = .ok (.aload_n 1, 1) := by decide +kernel
theorem dX1_copyFrom_31 : decode cX1_copyFrom 31 = .ok (.getfield 18, 3) := by decide +kernel
theorem dX1_copyFrom_34 : decode cX1_copyFrom 34 = .ok (.iconst 0, 1) := by decide +kernel
theorem dX1_copyFrom_35 : decode cX1_copyFrom 35 = .ok (.aload_n 0, 1) := by decide +kernel
theorem dX1_copyFrom_36 : decode cX1_copyFrom 36 = .ok (.getfield 18, 3) := by decide +kernel
theorem dX1_copyFrom_39 : decode cX1_copyFrom 39 = .ok (.iconst 0, 1) := by decide +kernel
theorem dX1_copyFrom_40 : decode cX1_copyFrom 40 = .ok (.bipush 12, 2) := by decide +kernel
theorem dX1_copyFrom_42 : decode cX1_copyFrom 42 = .ok (.invokestatic 27, 3) := by decide +kernel
theorem dX1_copyFrom_45 : decode cX1_copyFrom 45 = .ok (.aload_n 1, 1) := by decide +kernel
theorem dX1_copyFrom_46 : decode cX1_copyFrom 46 = .ok (.getfield 21, 3) := by decide +kernel
theorem dX1_copyFrom_49 : decode cX1_copyFrom 49 = .ok (.iconst 0, 1) := by decide +kernel
theorem dX1_copyFrom_50 : decode cX1_copyFrom 50 = .ok (.aload_n 0, 1) := by decide +kernel
theorem dX1_copyFrom_51 : decode cX1_copyFrom 51 = .ok (.getfield 21, 3) := by decide +kernel
theorem dX1_copyFrom_54 : decode cX1_copyFrom 54 = .ok (.iconst 0, 1) := by decide +kernel
theorem dX1_copyFrom_55 : decode cX1_copyFrom 55 = .ok (.bipush 60, 2) := by decide +kernel
theorem dX1_copyFrom_57 : decode cX1_copyFrom 57 = .ok (.invokestatic 27, 3) := by decide +kernel
theorem dX1_copyFrom_60 : decode cX1_copyFrom 60 = .ok (.aload_n 1, 1) := by decide +kernel
theorem dX1_copyFrom_61 : decode cX1_copyFrom 61 = .ok (.getfield 24, 3) := by decide +kernel
theorem dX1_copyFrom_64 : decode cX1_copyFrom 64 = .ok (.iconst 0, 1) := by decide +kernel
theorem dX1_copyFrom_65 : decode cX1_copyFrom 65 = .ok (.aload_n 0, 1) := by decide +kernel
theorem dX1_copyFrom_66 : decode cX1_copyFrom 66 = .ok (.getfield 24, 3) := by decide +kernel
theorem dX1_copyFrom_69 : decode cX1_copyFrom 69 = .ok (.iconst 0, 1) := by decide +kernel
theorem dX1_copyFrom_70 : decode cX1_copyFrom 70 = .ok (.bipush 60, 2) := by decide +kernel
theorem dX1_copyFrom_72 : decode cX1_copyFrom 72 = .ok (.invokestatic 27, 3) := by decide +kernel
theorem dX1_copyFrom_75 : decode cX1_copyFrom 75 = .ok (.aload_n 0, 1) := by decide +kernel
theorem dX1_copyFrom_76 : decode cX1_copyFrom 76 = .ok (.aload_n 1, 1) := by decide +kernel
theorem dX1_copyFrom_77 : decode cX1_copyFrom 77 = .ok (.getfield 33, 3) := by decide +kernel
theorem dX1_copyFrom_80 : decode cX1_copyFrom 80 = .ok (.putfield 33, 3) := by decide +kernel
theorem dX1_copyFrom_83 : decode cX1_copyFrom 83 = .ok (.return_, 1) := by decide +kernel
theorem dX1_holds_0 : decode cX1_holds 0 = .ok (.iload_n 1, 1) := by decide +kernel
theorem dX1_holds_1 : decode cX1_holds 1 = .ok (.ifCond .lt 15, 3) := by decide +kernel
theorem dX1_holds_4 : decode cX1_holds 4 = .ok (.iload_n 1, 1) := by decide +kernel
theorem dX1_holds_5 : decode cX1_holds 5 = .ok (.aload_n 0, 1) := by decide +kernel
theorem dX1_holds_6 : decode cX1_holds 6 = .ok (.getfield 33, 3) := by decide +kernel
theorem dX1_holds_9 : decode cX1_holds 9 = .ok (.if_icmp .ge 7, 3) := by decide +kernel
theorem dX1_holds_12 : decode cX1_holds 12 = .ok (.iconst 1, 1) := by decide +kernel
theorem dX1_holds_13 : decode cX1_holds 13 = .ok (.goto 4, 3) := by decide +kernel
theorem dX1_holds_16 : decode cX1_holds 16 = .ok (.iconst 0, 1) := by decide +kernel
theorem dX1_holds_17 : decode cX1_holds 17 = .ok (.ireturn, 1) := by decide +kernel
theorem dX1_allWords_0 : decode cX1_allWords 0 = .ok (.iconst 1, 1) := by decide +kernel
theorem dX1_allWords_1 : decode cX1_allWords 1 = .ok (.aload_n 0, 1) := by decide +kernel
theorem dX1_allWords_2 : decode cX1_allWords 2 = .ok (.getfield 33, 3) := by decide +kernel
theorem dX1_allWords_5 : decode cX1_allWords 5 = .ok (.ishl, 1) := by decide +kernel
theorem dX1_allWords_6 : decode cX1_allWords 6 = .ok (.iconst 1, 1) := by decide +kernel
theorem dX1_allWords_7 : decode cX1_allWords 7 = .ok (.isub, 1) := by decide +kernel
theorem dX1_allWords_8 : decode cX1_allWords 8 = .ok (.ireturn, 1) := by decide +kernel
theorem dX1_isWordSet_0 : decode cX1_isWordSet 0 = .ok (.iload_n 1, 1) := by decide +kernel
theorem dX1_isWordSet_1 : decode cX1_isWordSet 1 = .ok (.ifCond .lt 15, 3) := by decide +kernel
theorem dX1_isWordSet_4 : decode cX1_isWordSet 4 = .ok (.iload_n 1, 1) := by decide +kernel
theorem dX1_isWordSet_5 : decode cX1_isWordSet 5 = .ok (.aload_n 0, 1) := by decide +kernel
theorem dX1_isWordSet_6 : decode cX1_isWordSet 6 = .ok (.invokevirtual 37, 3) := by decide +kernel
theorem dX1_isWordSet_9 : decode cX1_isWordSet 9 = .ok (.if_icmp .gt 7, 3) := by decide +kernel
theorem dX1_isWordSet_12 : decode cX1_isWordSet 12 = .ok (.iconst 1, 1) := by decide +kernel
theorem dX1_isWordSet_13 : decode cX1_isWordSet 13 = .ok (.goto 4, 3) := by decide +kernel
theorem dX1_isWordSet_16 : decode cX1_isWordSet 16 = .ok (.iconst 0, 1) := by decide +kernel
theorem dX1_isWordSet_17 : decode cX1_isWordSet 17 = .ok (.ireturn, 1) := by decide +kernel
theorem dX1_signAt_0 : decode cX1_signAt 0 = .ok (.aload_n 0, 1) := by decide +kernel
theorem dX1_signAt_1 : decode cX1_signAt 1 = .ok (.getfield 21, 3) := by decide +kernel
theorem dX1_signAt_4 : decode cX1_signAt 4 = .ok (.iload_n 1, 1) := by decide +kernel
theorem dX1_signAt_5 : decode cX1_signAt 5 = .ok (.iconst 5, 1) := by decide +kernel
theorem dX1_signAt_6 : decode cX1_signAt 6 = .ok (.imul, 1) := by decide +kernel
theorem dX1_signAt_7 : decode cX1_signAt 7 = .ok (.iload_n 2, 1) := by decide +kernel
theorem dX1_signAt_8 : decode cX1_signAt 8 = .ok (.iadd, 1) := by decide +kernel
theorem dX1_signAt_9 : decode cX1_signAt 9 = .ok (.iaload, 1) := by decide +kernel
theorem dX1_signAt_10 : decode cX1_signAt 10 = .ok (.ireturn, 1) := by decide +kernel
theorem dX1_soundAt_0 : decode cX1_soundAt 0 = .ok (.aload_n 0, 1) := by decide +kernel
theorem dX1_soundAt_1 : decode cX1_soundAt 1 = .ok (.getfield 24, 3) := by decide +kernel
theorem dX1_soundAt_4 : decode cX1_soundAt 4 = .ok (.iload_n 1, 1) := by decide +kernel
theorem dX1_soundAt_5 : decode cX1_soundAt 5 = .ok (.iconst 5, 1) := by decide +kernel
theorem dX1_soundAt_6 : decode cX1_soundAt 6 = .ok (.imul, 1) := by decide +kernel
theorem dX1_soundAt_7 : decode cX1_soundAt 7 = .ok (.iload_n 2, 1) := by decide +kernel
theorem dX1_soundAt_8 : decode cX1_soundAt 8 = .ok (.iadd, 1) := by decide +kernel
theorem dX1_soundAt_9 : decode cX1_soundAt 9 = .ok (.iaload, 1) := by decide +kernel
theorem dX1_soundAt_10 : decode cX1_soundAt 10 = .ok (.ireturn, 1) := by decide +kernel
theorem dX1_signOrNone_0 : decode cX1_signOrNone 0 = .ok (.iload_n 2, 1) := by decide +kernel
theorem dX1_signOrNone_1 : decode cX1_signOrNone 1 = .ok (.aload_n 0, 1) := by decide +kernel
theorem dX1_signOrNone_2 : decode cX1_signOrNone 2 = .ok (.getfield 9, 3) := by decide +kernel
theorem dX1_signOrNone_5 : decode cX1_signOrNone 5 = .ok (.iload_n 1, 1) := by decide +kernel
theorem dX1_signOrNone_6 : decode cX1_signOrNone 6 = .ok (.iaload, 1) := by decide +kernel
theorem dX1_signOrNone_7 : decode cX1_signOrNone 7 = .ok (.if_icmp .ge 12, 3) := by decide +kernel
theorem dX1_signOrNone_10 : decode cX1_signOrNone 10 = .ok (.aload_n 0, 1) := by decide +kernel
theorem dX1_signOrNone_11 : decode cX1_signOrNone 11 = .ok (.iload_n 1, 1) := by decide +kernel
theorem dX1_signOrNone_12 : decode cX1_signOrNone 12 = .ok (.iload_n 2, 1) := by decide +kernel
theorem dX1_signOrNone_13 : decode cX1_signOrNone 13 = .ok (.invokevirtual 41, 3) := by decide +kernel
theorem dX1_signOrNone_16 : decode cX1_signOrNone 16 = .ok (.goto 5, 3) := by decide +kernel
theorem dX1_signOrNone_19 : decode cX1_signOrNone 19 = .ok (.bipush (-6), 2) := by decide +kernel
theorem dX1_signOrNone_21 : decode cX1_signOrNone 21 = .ok (.ireturn, 1) := by decide +kernel
theorem dX1_soundOrNone_0 : decode cX1_soundOrNone 0 = .ok (.iload_n 2, 1) := by decide +kernel
theorem dX1_soundOrNone_1 : decode cX1_soundOrNone 1 = .ok (.aload_n 0, 1) := by decide +kernel
theorem dX1_soundOrNone_2 : decode cX1_soundOrNone 2 = .ok (.getfield 9, 3) := by decide +kernel
theorem dX1_soundOrNone_5 : decode cX1_soundOrNone 5 = .ok (.iload_n 1, 1) := by decide +kernel
theorem dX1_soundOrNone_6 : decode cX1_soundOrNone 6 = .ok (.iaload, 1) := by decide +kernel
theorem dX1_soundOrNone_7 : decode cX1_soundOrNone 7 = .ok (.if_icmp .ge 12, 3) := by decide +kernel
theorem dX1_soundOrNone_10 : decode cX1_soundOrNone 10 = .ok (.aload_n 0, 1) := by decide +kernel
theorem dX1_soundOrNone_11 : decode cX1_soundOrNone 11 = .ok (.iload_n 1, 1) := by decide +kernel
theorem dX1_soundOrNone_12 : decode cX1_soundOrNone 12 = .ok (.iload_n 2, 1) := by decide +kernel
theorem dX1_soundOrNone_13 : decode cX1_soundOrNone 13 = .ok (.invokevirtual 45, 3) := by decide +kernel
theorem dX1_soundOrNone_16 : decode cX1_soundOrNone 16 = .ok (.goto 5, 3) := by decide +kernel
theorem dX1_soundOrNone_19 : decode cX1_soundOrNone 19 = .ok (.bipush (-6), 2) := by decide +kernel
theorem dX1_soundOrNone_21 : decode cX1_soundOrNone 21 = .ok (.ireturn, 1) := by decide +kernel
theorem dX1_firstSign_0 : decode cX1_firstSign 0 = .ok (.aload_n 0, 1) := by decide +kernel
theorem dX1_firstSign_1 : decode cX1_firstSign 1 = .ok (.iload_n 1, 1) := by decide +kernel
theorem dX1_firstSign_2 : decode cX1_firstSign 2 = .ok (.iconst 0, 1) := by decide +kernel
theorem dX1_firstSign_3 : decode cX1_firstSign 3 = .ok (.invokevirtual 41, 3) := by decide +kernel
theorem dX1_firstSign_6 : decode cX1_firstSign 6 = .ok (.ireturn, 1) := by decide +kernel
theorem dX1_lastSign_0 : decode cX1_lastSign 0 = .ok (.aload_n 0, 1) := by decide +kernel
theorem dX1_lastSign_1 : decode cX1_lastSign 1 = .ok (.getfield 9, 3) := by decide +kernel
theorem dX1_lastSign_4 : decode cX1_lastSign 4 = .ok (.iload_n 1, 1) := by decide +kernel
theorem dX1_lastSign_5 : decode cX1_lastSign 5 = .ok (.iaload, 1) := by decide +kernel
theorem dX1_lastSign_6 : decode cX1_lastSign 6 = .ok (.istore_n 2, 1) := by decide +kernel
theorem dX1_lastSign_7 : decode cX1_lastSign 7 = .ok (.iload_n 2, 1) := by decide +kernel
theorem dX1_lastSign_8 : decode cX1_lastSign 8 = .ok (.ifCond .le 14, 3) := by decide +kernel
theorem dX1_lastSign_11 : decode cX1_lastSign 11 = .ok (.aload_n 0, 1) := by decide +kernel
theorem dX1_lastSign_12 : decode cX1_lastSign 12 = .ok (.iload_n 1, 1) := by decide +kernel
theorem dX1_lastSign_13 : decode cX1_lastSign 13 = .ok (.iload_n 2, 1) := by decide +kernel
theorem dX1_lastSign_14 : decode cX1_lastSign 14 = .ok (.iconst 1, 1) := by decide +kernel
theorem dX1_lastSign_15 : decode cX1_lastSign 15 = .ok (.isub, 1) := by decide +kernel
theorem dX1_lastSign_16 : decode cX1_lastSign 16 = .ok (.invokevirtual 41, 3) := by decide +kernel
theorem dX1_lastSign_19 : decode cX1_lastSign 19 = .ok (.goto 5, 3) := by decide +kernel
theorem dX1_lastSign_22 : decode cX1_lastSign 22 = .ok (.bipush (-6), 2) := by decide +kernel
theorem dX1_lastSign_24 : decode cX1_lastSign 24 = .ok (.ireturn, 1) := by decide +kernel
theorem dX1_timesOf_0 : decode cX1_timesOf 0 = .ok (.iconst 0, 1) := by decide +kernel
theorem dX1_timesOf_1 : decode cX1_timesOf 1 = .ok (.istore_n 2, 1) := by decide +kernel
theorem dX1_timesOf_2 : decode cX1_timesOf 2 = .ok (.iconst 0, 1) := by decide +kernel
theorem dX1_timesOf_3 : decode cX1_timesOf 3 = .ok (.istore_n 3, 1) := by decide +kernel
theorem dX1_timesOf_4 : decode cX1_timesOf 4 = .ok (.iload_n 3, 1) := by decide +kernel
theorem dX1_timesOf_5 : decode cX1_timesOf 5 = .ok (.aload_n 0, 1) := by decide +kernel
theorem dX1_timesOf_6 : decode cX1_timesOf 6 = .ok (.getfield 33, 3) := by decide +kernel
theorem dX1_timesOf_9 : decode cX1_timesOf 9 = .ok (.if_icmp .ge 26, 3) := by decide +kernel
theorem dX1_timesOf_12 : decode cX1_timesOf 12 = .ok (.iload_n 1, 1) := by decide +kernel
theorem dX1_timesOf_13 : decode cX1_timesOf 13 = .ok (.iload_n 3, 1) := by decide +kernel
theorem dX1_timesOf_14 : decode cX1_timesOf 14 = .ok (.invokestatic 48, 3) := by decide +kernel
theorem dX1_timesOf_17 : decode cX1_timesOf 17 = .ok (.ifCond .eq 12, 3) := by decide +kernel
theorem dX1_timesOf_20 : decode cX1_timesOf 20 = .ok (.iload_n 2, 1) := by decide +kernel
theorem dX1_timesOf_21 : decode cX1_timesOf 21 = .ok (.aload_n 0, 1) := by decide +kernel
theorem dX1_timesOf_22 : decode cX1_timesOf 22 = .ok (.getfield 15, 3) := by decide +kernel
theorem dX1_timesOf_25 : decode cX1_timesOf 25 = .ok (.iload_n 3, 1) := by decide +kernel
theorem dX1_timesOf_26 : decode cX1_timesOf 26 = .ok (.iaload, 1) := by decide +kernel
theorem dX1_timesOf_27 : decode cX1_timesOf 27 = .ok (.iadd, 1) := by decide +kernel
theorem dX1_timesOf_28 : decode cX1_timesOf 28 = .ok (.istore_n 2, 1) := by decide +kernel
theorem dX1_timesOf_29 : decode cX1_timesOf 29 = .ok (.iinc 3 1, 3) := by decide +kernel
theorem dX1_timesOf_32 : decode cX1_timesOf 32 = .ok (.goto (-28), 3) := by decide +kernel
theorem dX1_timesOf_35 : decode cX1_timesOf 35 = .ok (.iload_n 2, 1) := by decide +kernel
theorem dX1_timesOf_36 : decode cX1_timesOf 36 = .ok (.ireturn, 1) := by decide +kernel
theorem dX1_hasLettersOf_0 : decode cX1_hasLettersOf 0 = .ok (.iconst 0, 1) := by decide +kernel
theorem dX1_hasLettersOf_1 : decode cX1_hasLettersOf 1 = .ok (.istore_n 2, 1) := by decide +kernel
theorem dX1_hasLettersOf_2 : decode cX1_hasLettersOf 2 = .ok (.iload_n 2, 1) := by decide +kernel
theorem dX1_hasLettersOf_3 : decode cX1_hasLettersOf 3 = .ok (.aload_n 0, 1) := by decide +kernel
theorem dX1_hasLettersOf_4 : decode cX1_hasLettersOf 4 = .ok (.getfield 33, 3) := by decide +kernel
theorem dX1_hasLettersOf_7 : decode cX1_hasLettersOf 7 = .ok (.if_icmp .ge 20, 3) := by decide +kernel
theorem dX1_hasLettersOf_10 : decode cX1_hasLettersOf 10 = .ok (.aload_n 0, 1) := by decide +kernel
theorem dX1_hasLettersOf_11 : decode cX1_hasLettersOf 11 = .ok (.iload_n 2, 1) := by decide +kernel
theorem dX1_hasLettersOf_12 : decode cX1_hasLettersOf 12 = .ok (.aload_n 1, 1) := by decide +kernel
theorem dX1_hasLettersOf_13 : decode cX1_hasLettersOf 13 = .ok (.invokevirtual 52, 3) := by decide +kernel
theorem dX1_hasLettersOf_16 : decode cX1_hasLettersOf 16 = .ok (.ifCond .eq 5, 3) := by decide +kernel
theorem dX1_hasLettersOf_19 : decode cX1_hasLettersOf 19 = .ok (.iconst 1, 1) := by decide +kernel
theorem dX1_hasLettersOf_20 : decode cX1_hasLettersOf 20 = .ok (.ireturn, 1) := by decide +kernel
theorem dX1_hasLettersOf_21 : decode cX1_hasLettersOf 21 = .ok (.iinc 2 1, 3) := by decide +kernel
theorem dX1_hasLettersOf_24 : decode cX1_hasLettersOf 24 = .ok (.goto (-22), 3) := by decide +kernel
theorem dX1_hasLettersOf_27 : decode cX1_hasLettersOf 27 = .ok (.iconst 0, 1) := by decide +kernel
theorem dX1_hasLettersOf_28 : decode cX1_hasLettersOf 28 = .ok (.ireturn, 1) := by decide +kernel
theorem dX1_hasLetters_0 : decode cX1_hasLetters 0 = .ok (.aload_n 0, 1) := by decide +kernel
theorem dX1_hasLetters_1 : decode cX1_hasLetters 1 = .ok (.getfield 9, 3) := by decide +kernel
theorem dX1_hasLetters_4 : decode cX1_hasLetters 4 = .ok (.iload_n 1, 1) := by decide +kernel
theorem dX1_hasLetters_5 : decode cX1_hasLetters 5 = .ok (.iaload, 1) := by decide +kernel
theorem dX1_hasLetters_6 : decode cX1_hasLetters 6 = .ok (.aload_n 2, 1) := by decide +kernel
theorem dX1_hasLetters_7 : decode cX1_hasLetters 7 = .ok (.invokevirtual 56, 3) := by decide +kernel
theorem dX1_hasLetters_10 : decode cX1_hasLetters 10 = .ok (.if_icmp .eq 5, 3) := by decide +kernel
theorem dX1_hasLetters_13 : decode cX1_hasLetters 13 = .ok (.iconst 0, 1) := by decide +kernel
theorem dX1_hasLetters_14 : decode cX1_hasLetters 14 = .ok (.ireturn, 1) := by decide +kernel
theorem dX1_hasLetters_15 : decode cX1_hasLetters 15 = .ok (.iconst 0, 1) := by decide +kernel
theorem dX1_hasLetters_16 : decode cX1_hasLetters 16 = .ok (.istore_n 3, 1) := by decide +kernel
theorem dX1_hasLetters_17 : decode cX1_hasLetters 17 = .ok (.iload_n 3, 1) := by decide +kernel
theorem dX1_hasLetters_18 : decode cX1_hasLetters 18 = .ok (.aload_n 0, 1) := by decide +kernel
theorem dX1_hasLetters_19 : decode cX1_hasLetters 19 = .ok (.getfield 9, 3) := by decide +kernel
theorem dX1_hasLetters_22 : decode cX1_hasLetters 22 = .ok (.iload_n 1, 1) := by decide +kernel
theorem dX1_hasLetters_23 : decode cX1_hasLetters 23 = .ok (.iaload, 1) := by decide +kernel
theorem dX1_hasLetters_24 : decode cX1_hasLetters 24 = .ok (.if_icmp .ge 25, 3) := by decide +kernel
theorem dX1_hasLetters_27 : decode cX1_hasLetters 27 = .ok (.aload_n 0, 1) := by decide +kernel
theorem dX1_hasLetters_28 : decode cX1_hasLetters 28 = .ok (.iload_n 1, 1) := by decide +kernel
theorem dX1_hasLetters_29 : decode cX1_hasLetters 29 = .ok (.iload_n 3, 1) := by decide +kernel
theorem dX1_hasLetters_30 : decode cX1_hasLetters 30 = .ok (.invokevirtual 41, 3) := by decide +kernel
theorem dX1_hasLetters_33 : decode cX1_hasLetters 33 = .ok (.aload_n 2, 1) := by decide +kernel
theorem dX1_hasLetters_34 : decode cX1_hasLetters 34 = .ok (.iload_n 3, 1) := by decide +kernel
theorem dX1_hasLetters_35 : decode cX1_hasLetters 35 = .ok (.invokevirtual 61, 3) := by decide +kernel
theorem dX1_hasLetters_38 : decode cX1_hasLetters 38 = .ok (.if_icmp .eq 5, 3) := by decide +kernel
theorem dX1_hasLetters_41 : decode cX1_hasLetters 41 = .ok (.iconst 0, 1) := by decide +kernel
theorem dX1_hasLetters_42 : decode cX1_hasLetters 42 = .ok (.ireturn, 1) := by decide +kernel
theorem dX1_hasLetters_43 : decode cX1_hasLetters 43 = .ok (.iinc 3 1, 3) := by decide +kernel
theorem dX1_hasLetters_46 : decode cX1_hasLetters 46 = .ok (.goto (-29), 3) := by decide +kernel
theorem dX1_hasLetters_49 : decode cX1_hasLetters 49 = .ok (.iconst 1, 1) := by decide +kernel
theorem dX1_hasLetters_50 : decode cX1_hasLetters 50 = .ok (.ireturn, 1) := by decide +kernel
theorem dX1_add_0 : decode cX1_add 0 = .ok (.aload_n 0, 1) := by decide +kernel
theorem dX1_add_1 : decode cX1_add 1 = .ok (.getfield 33, 3) := by decide +kernel
theorem dX1_add_4 : decode cX1_add 4 = .ok (.istore_n 3, 1) := by decide +kernel
theorem dX1_add_5 : decode cX1_add 5 = .ok (.aload_n 1, 1) := by decide +kernel
theorem dX1_add_6 : decode cX1_add 6 = .ok (.invokevirtual 56, 3) := by decide +kernel
theorem dX1_add_9 : decode cX1_add 9 = .ok (.istore 4, 2) := by decide +kernel
theorem dX1_add_11 : decode cX1_add 11 = .ok (.iload_n 3, 1) := by decide +kernel
theorem dX1_add_12 : decode cX1_add 12 = .ok (.bipush 12, 2) := by decide +kernel
theorem dX1_add_14 : decode cX1_add 14 = .ok (.if_icmp .ge 9, 3) := by decide +kernel
theorem dX1_add_17 : decode cX1_add 17 = .ok (.iload 4, 2) := by decide +kernel
theorem dX1_add_19 : decode cX1_add 19 = .ok (.iconst 5, 1) := by decide +kernel
theorem dX1_add_20 : decode cX1_add 20 = .ok (.if_icmp .le 4, 3) := by decide +kernel
theorem dX1_add_23 : decode cX1_add 23 = .ok (.return_, 1) := by decide +kernel
theorem dX1_add_24 : decode cX1_add 24 = .ok (.aload_n 0, 1) := by decide +kernel
theorem dX1_add_25 : decode cX1_add 25 = .ok (.getfield 9, 3) := by decide +kernel
theorem dX1_add_28 : decode cX1_add 28 = .ok (.iload_n 3, 1) := by decide +kernel
theorem dX1_add_29 : decode cX1_add 29 = .ok (.iload 4, 2) := by decide +kernel
theorem dX1_add_31 : decode cX1_add 31 = .ok (.iastore, 1) := by decide +kernel
theorem dX1_add_32 : decode cX1_add 32 = .ok (.aload_n 0, 1) := by decide +kernel
theorem dX1_add_33 : decode cX1_add 33 = .ok (.getfield 15, 3) := by decide +kernel
theorem dX1_add_36 : decode cX1_add 36 = .ok (.iload_n 3, 1) := by decide +kernel
theorem dX1_add_37 : decode cX1_add 37 = .ok (.iload_n 2, 1) := by decide +kernel
theorem dX1_add_38 : decode cX1_add 38 = .ok (.iastore, 1) := by decide +kernel
theorem dX1_add_39 : decode cX1_add 39 = .ok (.aload_n 0, 1) := by decide +kernel
theorem dX1_add_40 : decode cX1_add 40 = .ok (.getfield 18, 3) := by decide +kernel
theorem dX1_add_43 : decode cX1_add 43 = .ok (.iload_n 3, 1) := by decide +kernel
theorem dX1_add_44 : decode cX1_add 44 = .ok (.iconst 0, 1) := by decide +kernel
theorem dX1_add_45 : decode cX1_add 45 = .ok (.iastore, 1) := by decide +kernel
theorem dX1_add_46 : decode cX1_add 46 = .ok (.iconst 0, 1) := by decide +kernel
theorem dX1_add_47 : decode cX1_add 47 = .ok (.istore 5, 2) := by decide +kernel
theorem dX1_add_49 : decode cX1_add 49 = .ok (.iload 5, 2) := by decide +kernel
theorem dX1_add_51 : decode cX1_add 51 = .ok (.iload 4, 2) := by decide +kernel
theorem dX1_add_53 : decode cX1_add 53 = .ok (.if_icmp .ge 60, 3) := by decide +kernel
theorem dX1_add_56 : decode cX1_add 56 = .ok (.aload_n 0, 1) := by decide +kernel
theorem dX1_add_57 : decode cX1_add 57 = .ok (.getfield 21, 3) := by decide +kernel
theorem dX1_add_60 : decode cX1_add 60 = .ok (.iload_n 3, 1) := by decide +kernel
theorem dX1_add_61 : decode cX1_add 61 = .ok (.iconst 5, 1) := by decide +kernel
theorem dX1_add_62 : decode cX1_add 62 = .ok (.imul, 1) := by decide +kernel
theorem dX1_add_63 : decode cX1_add 63 = .ok (.iload 5, 2) := by decide +kernel
theorem dX1_add_65 : decode cX1_add 65 = .ok (.iadd, 1) := by decide +kernel
theorem dX1_add_66 : decode cX1_add 66 = .ok (.aload_n 1, 1) := by decide +kernel
theorem dX1_add_67 : decode cX1_add 67 = .ok (.iload 5, 2) := by decide +kernel
theorem dX1_add_69 : decode cX1_add 69 = .ok (.invokevirtual 61, 3) := by decide +kernel
theorem dX1_add_72 : decode cX1_add 72 = .ok (.iastore, 1) := by decide +kernel
theorem dX1_add_73 : decode cX1_add 73 = .ok (.aload_n 0, 1) := by decide +kernel
theorem dX1_add_74 : decode cX1_add 74 = .ok (.getfield 24, 3) := by decide +kernel
theorem dX1_add_77 : decode cX1_add 77 = .ok (.iload_n 3, 1) := by decide +kernel
theorem dX1_add_78 : decode cX1_add 78 = .ok (.iconst 5, 1) := by decide +kernel
theorem dX1_add_79 : decode cX1_add 79 = .ok (.imul, 1) := by decide +kernel
theorem dX1_add_80 : decode cX1_add 80 = .ok (.iload 5, 2) := by decide +kernel
theorem dX1_add_82 : decode cX1_add 82 = .ok (.iadd, 1) := by decide +kernel
theorem dX1_add_83 : decode cX1_add 83 = .ok (.aload_n 1, 1) := by decide +kernel
theorem dX1_add_84 : decode cX1_add 84 = .ok (.iload 5, 2) := by decide +kernel
theorem dX1_add_86 : decode cX1_add 86 = .ok (.invokevirtual 65, 3) := by decide +kernel
theorem dX1_add_89 : decode cX1_add 89 = .ok (.iastore, 1) := by decide +kernel
theorem dX1_add_90 : decode cX1_add 90 = .ok (.aload_n 0, 1) := by decide +kernel
theorem dX1_add_91 : decode cX1_add 91 = .ok (.getfield 18, 3) := by decide +kernel
theorem dX1_add_94 : decode cX1_add 94 = .ok (.iload_n 3, 1) := by decide +kernel
theorem dX1_add_95 : decode cX1_add 95 = .ok (.dup2, 1) := by decide +kernel
theorem dX1_add_96 : decode cX1_add 96 = .ok (.iaload, 1) := by decide +kernel
theorem dX1_add_97 : decode cX1_add 97 = .ok (.iconst 1, 1) := by decide +kernel
theorem dX1_add_98 : decode cX1_add 98 = .ok (.aload_n 1, 1) := by decide +kernel
theorem dX1_add_99 : decode cX1_add 99 = .ok (.iload 5, 2) := by decide +kernel
theorem dX1_add_101 : decode cX1_add 101 = .ok (.invokevirtual 61, 3) := by decide +kernel
theorem dX1_add_104 : decode cX1_add 104 = .ok (.ishl, 1) := by decide +kernel
theorem dX1_add_105 : decode cX1_add 105 = .ok (.ior, 1) := by decide +kernel
theorem dX1_add_106 : decode cX1_add 106 = .ok (.iastore, 1) := by decide +kernel
theorem dX1_add_107 : decode cX1_add 107 = .ok (.iinc 5 1, 3) := by decide +kernel
theorem dX1_add_110 : decode cX1_add 110 = .ok (.goto (-61), 3) := by decide +kernel
theorem dX1_add_113 : decode cX1_add 113 = .ok (.aload_n 0, 1) := by decide +kernel
theorem dX1_add_114 : decode cX1_add 114 = .ok (.dup, 1) := by decide +kernel
theorem dX1_add_115 : decode cX1_add 115 = .ok (.getfield 33, 3) := by decide +kernel
theorem dX1_add_118 : decode cX1_add 118 = .ok (.iconst 1, 1) := by decide +kernel
theorem dX1_add_119 : decode cX1_add 119 = .ok (.iadd, 1) := by decide +kernel
theorem dX1_add_120 : decode cX1_add 120 = .ok (.putfield 33, 3) := by decide +kernel
theorem dX1_add_123 : decode cX1_add 123 = .ok (.return_, 1) := by decide +kernel
theorem dX2_init_0 : decode cX2_init 0 = .ok (.aload_n 0, 1) := by decide +kernel
theorem dX2_init_1 : decode cX2_init 1 = .ok (.invokespecial 3, 3) := by decide +kernel
theorem dX2_init_4 : decode cX2_init 4 = .ok (.aload_n 0, 1) := by decide +kernel
theorem dX2_init_5 : decode cX2_init 5 = .ok (.iconst 4, 1) := by decide +kernel
theorem dX2_init_6 : decode cX2_init 6 = .ok (.newarray .int, 2) := by decide +kernel
theorem dX2_init_8 : decode cX2_init 8 = .ok (.putfield 9, 3) := by decide +kernel
theorem dX2_init_11 : decode cX2_init 11 = .ok (.aload_n 0, 1) := by decide +kernel
theorem dX2_init_12 : decode cX2_init 12 = .ok (.iconst 4, 1) := by decide +kernel
theorem dX2_init_13 : decode cX2_init 13 = .ok (.newarray .int, 2) := by decide +kernel
theorem dX2_init_15 : decode cX2_init 15 = .ok (.putfield 15, 3) := by decide +kernel
theorem dX2_init_18 : decode cX2_init 18 = .ok (.aload_n 0, 1) := by decide +kernel
theorem dX2_init_19 : decode cX2_init 19 = .ok (.iconst 4, 1) := by decide +kernel
theorem dX2_init_20 : decode cX2_init 20 = .ok (.newarray .int, 2) := by decide +kernel
theorem dX2_init_22 : decode cX2_init 22 = .ok (.putfield 18, 3) := by decide +kernel
theorem dX2_init_25 : decode cX2_init 25 = .ok (.aload_n 0, 1) := by decide +kernel
theorem dX2_init_26 : decode cX2_init 26 = .ok (.iconst 4, 1) := by decide +kernel
theorem dX2_init_27 : decode cX2_init 27 = .ok (.newarray .int, 2) := by decide +kernel
theorem dX2_init_29 : decode cX2_init 29 = .ok (.putfield 21, 3) := by decide +kernel
theorem dX2_init_32 : decode cX2_init 32 = .ok (.aload_n 0, 1) := by decide +kernel
theorem dX2_init_33 : decode cX2_init 33 = .ok (.getfield 18, 3) := by decide +kernel
theorem dX2_init_36 : decode cX2_init 36 = .ok (.iconst (-1), 1) := by decide +kernel
theorem dX2_init_37 : decode cX2_init 37 = .ok (.invokestatic 24, 3) := by decide +kernel
theorem dX2_init_40 : decode cX2_init 40 = .ok (.aload_n 0, 1) := by decide +kernel
theorem dX2_init_41 : decode cX2_init 41 = .ok (.getfield 21, 3) := by decide +kernel
theorem dX2_init_44 : decode cX2_init 44 = .ok (.iconst (-1), 1) := by decide +kernel
theorem dX2_init_45 : decode cX2_init 45 = .ok (.invokestatic 24, 3) := by decide +kernel
theorem dX2_init_48 : decode cX2_init 48 = .ok (.return_, 1) := by decide +kernel
theorem dX2_copyFrom_0 : decode cX2_copyFrom 0 = .ok (.aload_n 1, 1) := by decide +kernel
theorem dX2_copyFrom_1 : decode cX2_copyFrom 1 = .ok (.getfield 9, 3) := by decide +kernel
theorem dX2_copyFrom_4 : decode cX2_copyFrom 4 = .ok (.iconst 0, 1) := by decide +kernel
theorem dX2_copyFrom_5 : decode cX2_copyFrom 5 = .ok (.aload_n 0, 1) := by decide +kernel
theorem dX2_copyFrom_6 : decode cX2_copyFrom 6 = .ok (.getfield 9, 3) := by decide +kernel
theorem dX2_copyFrom_9 : decode cX2_copyFrom 9 = .ok (.iconst 0, 1) := by decide +kernel
theorem dX2_copyFrom_10 : decode cX2_copyFrom 10 = .ok (.iconst 4, 1) := by decide +kernel
theorem dX2_copyFrom_11 : decode cX2_copyFrom 11 = .ok (.invokestatic 30, 3) := by decide +kernel
theorem dX2_copyFrom_14 : decode cX2_copyFrom 14 = .ok (.aload_n 1, 1) := by decide +kernel
theorem dX2_copyFrom_15 : decode cX2_copyFrom 15 = .ok (.getfield 15, 3) := by decide +kernel
theorem dX2_copyFrom_18 : decode cX2_copyFrom 18 = .ok (.iconst 0, 1) := by decide +kernel
theorem dX2_copyFrom_19 : decode cX2_copyFrom 19 = .ok (.aload_n 0, 1) := by decide +kernel
theorem dX2_copyFrom_20 : decode cX2_copyFrom 20 = .ok (.getfield 15, 3) := by decide +kernel
theorem dX2_copyFrom_23 : decode cX2_copyFrom 23 = .ok (.iconst 0, 1) := by decide +kernel
theorem dX2_copyFrom_24 : decode cX2_copyFrom 24 = .ok (.iconst 4, 1) := by decide +kernel
theorem dX2_copyFrom_25 : decode cX2_copyFrom 25 = .ok (.invokestatic 30, 3) := by decide +kernel
theorem dX2_copyFrom_28 : decode cX2_copyFrom 28 = .ok (.aload_n 1, 1) := by decide +kernel
theorem dX2_copyFrom_29 : decode cX2_copyFrom 29 = .ok (.getfield 18, 3) := by decide +kernel
theorem dX2_copyFrom_32 : decode cX2_copyFrom 32 = .ok (.iconst 0, 1) := by decide +kernel
theorem dX2_copyFrom_33 : decode cX2_copyFrom 33 = .ok (.aload_n 0, 1) := by decide +kernel
theorem dX2_copyFrom_34 : decode cX2_copyFrom 34 = .ok (.getfield 18, 3) := by decide +kernel
theorem dX2_copyFrom_37 : decode cX2_copyFrom 37 = .ok (.iconst 0, 1) := by decide +kernel
theorem dX2_copyFrom_38 : decode cX2_copyFrom 38 = .ok (.iconst 4, 1) := by decide +kernel
theorem dX2_copyFrom_39 : decode cX2_copyFrom 39 = .ok (.invokestatic 30, 3) := by decide +kernel
theorem dX2_copyFrom_42 : decode cX2_copyFrom 42 = .ok (.aload_n 1, 1) := by decide +kernel
theorem dX2_copyFrom_43 : decode cX2_copyFrom 43 = .ok (.getfield 21, 3) := by decide +kernel
theorem dX2_copyFrom_46 : decode cX2_copyFrom 46 = .ok (.iconst 0, 1) := by decide +kernel
theorem dX2_copyFrom_47 : decode cX2_copyFrom 47 = .ok (.aload_n 0, 1) := by decide +kernel
theorem dX2_copyFrom_48 : decode cX2_copyFrom 48 = .ok (.getfield 21, 3) := by decide +kernel
theorem dX2_copyFrom_51 : decode cX2_copyFrom 51 = .ok (.iconst 0, 1) := by decide +kernel
theorem dX2_copyFrom_52 : decode cX2_copyFrom 52 = .ok (.iconst 4, 1) := by decide +kernel
theorem dX2_copyFrom_53 : decode cX2_copyFrom 53 = .ok (.invokestatic 30, 3) := by decide +kernel
theorem dX2_copyFrom_56 : decode cX2_copyFrom 56 = .ok (.return_, 1) := by decide +kernel
theorem dX2_mixedUp_0 : decode cX2_mixedUp 0 = .ok (.aload_n 0, 1) := by decide +kernel
theorem dX2_mixedUp_1 : decode cX2_mixedUp 1 = .ok (.getfield 18, 3) := by decide +kernel
theorem dX2_mixedUp_4 : decode cX2_mixedUp 4 = .ok (.iload_n 1, 1) := by decide +kernel
theorem dX2_mixedUp_5 : decode cX2_mixedUp 5 = .ok (.iaload, 1) := by decide +kernel
theorem dX2_mixedUp_6 : decode cX2_mixedUp 6 = .ok (.ifCond .ge 8, 3) := by decide +kernel
theorem dX2_mixedUp_9 : decode cX2_mixedUp 9 = .ok (.bipush (-6), 2) := by decide +kernel
theorem dX2_mixedUp_11 : decode cX2_mixedUp 11 = .ok (.goto 19, 3) := by decide +kernel
theorem dX2_mixedUp_14 : decode cX2_mixedUp 14 = .ok (.bipush 10, 2) := by decide +kernel
theorem dX2_mixedUp_16 : decode cX2_mixedUp 16 = .ok (.aload_n 0, 1) := by decide +kernel
theorem dX2_mixedUp_17 : decode cX2_mixedUp 17 = .ok (.getfield 18, 3) := by decide +kernel
theorem dX2_mixedUp_20 : decode cX2_mixedUp 20 = .ok (.iload_n 1, 1) := by decide +kernel
theorem dX2_mixedUp_21 : decode cX2_mixedUp 21 = .ok (.iaload, 1) := by decide +kernel
theorem dX2_mixedUp_22 : decode cX2_mixedUp 22 = .ok (.imul, 1) := by decide +kernel
theorem dX2_mixedUp_23 : decode cX2_mixedUp 23 = .ok (.aload_n 0, 1) := by decide +kernel
theorem dX2_mixedUp_24 : decode cX2_mixedUp 24 = .ok (.getfield 21, 3) := by decide +kernel
theorem dX2_mixedUp_27 : decode cX2_mixedUp 27 = .ok (.iload_n 1, 1) := by decide +kernel
theorem dX2_mixedUp_28 : decode cX2_mixedUp 28 = .ok (.iaload, 1) := by decide +kernel
theorem dX2_mixedUp_29 : decode cX2_mixedUp 29 = .ok (.iadd, 1) := by decide +kernel
theorem dX2_mixedUp_30 : decode cX2_mixedUp 30 = .ok (.ireturn, 1) := by decide +kernel
theorem dX2_takenFor_0 : decode cX2_takenFor 0 = .ok (.iload_n 2, 1) := by decide +kernel
theorem dX2_takenFor_1 : decode cX2_takenFor 1 = .ok (.aload_n 0, 1) := by decide +kernel
theorem dX2_takenFor_2 : decode cX2_takenFor 2 = .ok (.getfield 18, 3) := by decide +kernel
theorem dX2_takenFor_5 : decode cX2_takenFor 5 = .ok (.iload_n 1, 1) := by decide +kernel
theorem dX2_takenFor_6 : decode cX2_takenFor 6 = .ok (.iaload, 1) := by decide +kernel
theorem dX2_takenFor_7 : decode cX2_takenFor 7 = .ok (.if_icmp .ne 10, 3) := by decide +kernel
theorem dX2_takenFor_10 : decode cX2_takenFor 10 = .ok (.aload_n 0, 1) := by decide +kernel
theorem dX2_takenFor_11 : decode cX2_takenFor 11 = .ok (.getfield 21, 3) := by decide +kernel
theorem dX2_takenFor_14 : decode cX2_takenFor 14 = .ok (.iload_n 1, 1) := by decide +kernel
theorem dX2_takenFor_15 : decode cX2_takenFor 15 = .ok (.iaload, 1) := by decide +kernel
theorem dX2_takenFor_16 : decode cX2_takenFor 16 = .ok (.ireturn, 1) := by decide +kernel
theorem dX2_takenFor_17 : decode cX2_takenFor 17 = .ok (.iload_n 2, 1) := by decide +kernel
theorem dX2_takenFor_18 : decode cX2_takenFor 18 = .ok (.aload_n 0, 1) := by decide +kernel
theorem dX2_takenFor_19 : decode cX2_takenFor 19 = .ok (.getfield 21, 3) := by decide +kernel
theorem dX2_takenFor_22 : decode cX2_takenFor 22 = .ok (.iload_n 1, 1) := by decide +kernel
theorem dX2_takenFor_23 : decode cX2_takenFor 23 = .ok (.iaload, 1) := by decide +kernel
theorem dX2_takenFor_24 : decode cX2_takenFor 24 = .ok (.if_icmp .ne 12, 3) := by decide +kernel
theorem dX2_takenFor_27 : decode cX2_takenFor 27 = .ok (.aload_n 0, 1) := by decide +kernel
theorem dX2_takenFor_28 : decode cX2_takenFor 28 = .ok (.getfield 18, 3) := by decide +kernel
theorem dX2_takenFor_31 : decode cX2_takenFor 31 = .ok (.iload_n 1, 1) := by decide +kernel
theorem dX2_takenFor_32 : decode cX2_takenFor 32 = .ok (.iaload, 1) := by decide +kernel
theorem dX2_takenFor_33 : decode cX2_takenFor 33 = .ok (.goto 4, 3) := by decide +kernel
theorem dX2_takenFor_36 : decode cX2_takenFor 36 = .ok (.iload_n 2, 1) := by decide +kernel
theorem dX2_takenFor_37 : decode cX2_takenFor 37 = .ok (.ireturn, 1) := by decide +kernel
theorem dX3_init_0 : decode cX3_init 0 = .ok (.aload_n 0, 1) := by decide +kernel
theorem dX3_init_1 : decode cX3_init 1 = .ok (.invokespecial 3, 3) := by decide +kernel
theorem dX3_init_4 : decode cX3_init 4 = .ok (.aload_n 0, 1) := by decide +kernel
theorem dX3_init_5 : decode cX3_init 5 = .ok (.aload_n 1, 1) := by decide +kernel
theorem dX3_init_6 : decode cX3_init 6 = .ok (.putfield 9, 3) := by decide +kernel
theorem dX3_init_9 : decode cX3_init 9 = .ok (.aload_n 0, 1) := by decide +kernel
theorem dX3_init_10 : decode cX3_init 10 = .ok (.aload_n 2, 1) := by decide +kernel
theorem dX3_init_11 : decode cX3_init 11 = .ok (.putfield 15, 3) := by decide +kernel
theorem dX3_init_14 : decode cX3_init 14 = .ok (.aload_n 0, 1) := by decide +kernel
theorem dX3_init_15 : decode cX3_init 15 = .ok (.aload_n 3, 1) := by decide +kernel
theorem dX3_init_16 : decode cX3_init 16 = .ok (.putfield 19, 3) := by decide +kernel
theorem dX3_init_19 : decode cX3_init 19 = .ok (.aload_n 0, 1) := by decide +kernel
theorem dX3_init_20 : decode cX3_init 20 = .ok (.bipush 20, 2) := by decide +kernel
theorem dX3_init_22 : decode cX3_init 22 = .ok (.newarray .int, 2) := by decide +kernel
theorem dX3_init_24 : decode cX3_init 24 = .ok (.putfield 23, 3) := by decide +kernel
theorem dX3_init_27 : decode cX3_init 27 = .ok (.aload_n 0, 1) := by decide +kernel
theorem dX3_init_28 : decode cX3_init 28 = .ok (.bipush 12, 2) := by decide +kernel
theorem dX3_init_30 : decode cX3_init 30 = .ok (.newarray .int, 2) := by decide +kernel
theorem dX3_init_32 : decode cX3_init 32 = .ok (.putfield 27, 3) := by decide +kernel
theorem dX3_init_35 : decode cX3_init 35 = .ok (.aload_n 0, 1) := by decide +kernel
theorem dX3_init_36 : decode cX3_init 36 = .ok (.bipush 10, 2) := by decide +kernel
theorem dX3_init_38 : decode cX3_init 38 = .ok (.newarray .int, 2) := by decide +kernel
theorem dX3_init_40 : decode cX3_init 40 = .ok (.putfield 30, 3) := by decide +kernel
theorem dX3_init_43 : decode cX3_init 43 = .ok (.return_, 1) := by decide +kernel
theorem dX3_hear_0 : decode cX3_hear 0 = .ok (.aload_n 0, 1) := by decide +kernel
theorem dX3_hear_1 : decode cX3_hear 1 = .ok (.iconst 0, 1) := by decide +kernel
theorem dX3_hear_2 : decode cX3_hear 2 = .ok (.putfield 33, 3) := by decide +kernel
theorem dX3_hear_5 : decode cX3_hear 5 = .ok (.aload_n 0, 1) := by decide +kernel
theorem dX3_hear_6 : decode cX3_hear 6 = .ok (.iconst 0, 1) := by decide +kernel
theorem dX3_hear_7 : decode cX3_hear 7 = .ok (.putfield 37, 3) := by decide +kernel
theorem dX3_hear_10 : decode cX3_hear 10 = .ok (.aload_n 0, 1) := by decide +kernel
theorem dX3_hear_11 : decode cX3_hear 11 = .ok (.iconst 0, 1) := by decide +kernel
theorem dX3_hear_12 : decode cX3_hear 12 = .ok (.putfield 40, 3) := by decide +kernel
theorem dX3_hear_15 : decode cX3_hear 15 = .ok (.iconst 0, 1) := by decide +kernel
theorem dX3_hear_16 : decode cX3_hear 16 = .ok (.istore_n 1, 1) := by decide +kernel
theorem dX3_hear_17 : decode cX3_hear 17 = .ok (.iload_n 1, 1) := by decide +kernel
theorem dX3_hear_18 : decode cX3_hear 18 = .ok (.aload_n 0, 1) := by decide +kernel
theorem dX3_hear_19 : decode cX3_hear 19 = .ok (.getfield 19, 3) := by decide +kernel
theorem dX3_hear_22 : decode cX3_hear 22 = .ok (.getfield 44, 3) := by decide +kernel
theorem dX3_hear_25 : decode cX3_hear 25 = .ok (.if_icmp .ge 111, 3) := by decide +kernel
theorem dX3_hear_28 : decode cX3_hear 28 = .ok (.aload_n 0, 1) := by decide +kernel
theorem dX3_hear_29 : decode cX3_hear 29 = .ok (.getfield 19, 3) := by decide +kernel
theorem dX3_hear_32 : decode cX3_hear 32 = .ok (.getfield 49, 3) := by decide +kernel
theorem dX3_hear_35 : decode cX3_hear 35 = .ok (.iload_n 1, 1) := by decide +kernel
theorem dX3_hear_36 : decode cX3_hear 36 = .ok (.iaload, 1) := by decide +kernel
theorem dX3_hear_37 : decode cX3_hear 37 = .ok (.istore_n 2, 1) := by decide +kernel
theorem dX3_hear_38 : decode cX3_hear 38 = .ok (.aload_n 0, 1) := by decide +kernel
theorem dX3_hear_39 : decode cX3_hear 39 = .ok (.getfield 15, 3) := by decide +kernel
theorem dX3_hear_42 : decode cX3_hear 42 = .ok (.iload_n 2, 1) := by decide +kernel
theorem dX3_hear_43 : decode cX3_hear 43 = .ok (.invokevirtual 52, 3) := by decide +kernel
theorem dX3_hear_46 : decode cX3_hear 46 = .ok (.istore_n 3, 1) := by decide +kernel
theorem dX3_hear_47 : decode cX3_hear 47 = .ok (.aload_n 0, 1) := by decide +kernel
theorem dX3_hear_48 : decode cX3_hear 48 = .ok (.getfield 19, 3) := by decide +kernel
theorem dX3_hear_51 : decode cX3_hear 51 = .ok (.getfield 58, 3) := by decide +kernel
theorem dX3_hear_54 : decode cX3_hear 54 = .ok (.iload_n 1, 1) := by decide +kernel
theorem dX3_hear_55 : decode cX3_hear 55 = .ok (.baload, 1) := by decide +kernel
theorem dX3_hear_56 : decode cX3_hear 56 = .ok (.ifCond .eq 42, 3) := by decide +kernel
theorem dX3_hear_59 : decode cX3_hear 59 = .ok (.aload_n 0, 1) := by decide +kernel
theorem dX3_hear_60 : decode cX3_hear 60 = .ok (.dup, 1) := by decide +kernel
theorem dX3_hear_61 : decode cX3_hear 61 = .ok (.getfield 37, 3) := by decide +kernel
theorem dX3_hear_64 : decode cX3_hear 64 = .ok (.aload_n 0, 1) := by decide +kernel
theorem dX3_hear_65 : decode cX3_hear 65 = .ok (.getfield 9, 3) := by decide +kernel
theorem dX3_hear_68 : decode cX3_hear 68 = .ok (.getfield 62, 3) := by decide +kernel
theorem dX3_hear_71 : decode cX3_hear 71 = .ok (.iload_n 2, 1) := by decide +kernel
theorem dX3_hear_72 : decode cX3_hear 72 = .ok (.iaload, 1) := by decide +kernel
theorem dX3_hear_73 : decode cX3_hear 73 = .ok (.ior, 1) := by decide +kernel
theorem dX3_hear_74 : decode cX3_hear 74 = .ok (.putfield 37, 3) := by decide +kernel
theorem dX3_hear_77 : decode cX3_hear 77 = .ok (.aload_n 0, 1) := by decide +kernel
theorem dX3_hear_78 : decode cX3_hear 78 = .ok (.dup, 1) := by decide +kernel
theorem dX3_hear_79 : decode cX3_hear 79 = .ok (.getfield 40, 3) := by decide +kernel
theorem dX3_hear_82 : decode cX3_hear 82 = .ok (.iload_n 3, 1) := by decide +kernel
theorem dX3_hear_83 : decode cX3_hear 83 = .ok (.ifCond .ne 7, 3) := by decide +kernel
theorem dX3_hear_86 : decode cX3_hear 86 = .ok (.iconst 1, 1) := by decide +kernel
theorem dX3_hear_87 : decode cX3_hear 87 = .ok (.goto 4, 3) := by decide +kernel
theorem dX3_hear_90 : decode cX3_hear 90 = .ok (.iconst 0, 1) := by decide +kernel
theorem dX3_hear_91 : decode cX3_hear 91 = .ok (.ior, 1) := by decide +kernel
theorem dX3_hear_92 : decode cX3_hear 92 = .ok (.putfield 40, 3) := by decide +kernel
theorem dX3_hear_95 : decode cX3_hear 95 = .ok (.goto 35, 3) := by decide +kernel
theorem dX3_hear_98 : decode cX3_hear 98 = .ok (.iload_n 3, 1) := by decide +kernel
theorem dX3_hear_99 : decode cX3_hear 99 = .ok (.ifCond .eq 31, 3) := by decide +kernel
theorem dX3_hear_102 : decode cX3_hear 102 = .ok (.aload_n 0, 1) := by decide +kernel
theorem dX3_hear_103 : decode cX3_hear 103 = .ok (.getfield 23, 3) := by decide +kernel
theorem dX3_hear_106 : decode cX3_hear 106 = .ok (.aload_n 0, 1) := by decide +kernel
theorem dX3_hear_107 : decode cX3_hear 107 = .ok (.getfield 33, 3) := by decide +kernel
theorem dX3_hear_110 : decode cX3_hear 110 = .ok (.aload_n 0, 1) := by decide +kernel
theorem dX3_hear_111 : decode cX3_hear 111 = .ok (.getfield 9, 3) := by decide +kernel
theorem dX3_hear_114 : decode cX3_hear 114 = .ok (.getfield 62, 3) := by decide +kernel
theorem dX3_hear_117 : decode cX3_hear 117 = .ok (.iload_n 2, 1) := by decide +kernel
theorem dX3_hear_118 : decode cX3_hear 118 = .ok (.iaload, 1) := by decide +kernel
theorem dX3_hear_119 : decode cX3_hear 119 = .ok (.iastore, 1) := by decide +kernel
theorem dX3_hear_120 : decode cX3_hear 120 = .ok (.aload_n 0, 1) := by decide +kernel
theorem dX3_hear_121 : decode cX3_hear 121 = .ok (.dup, 1) := by decide +kernel
theorem dX3_hear_122 : decode cX3_hear 122 = .ok (.getfield 33, 3) := by decide +kernel
theorem dX3_hear_125 : decode cX3_hear 125 = .ok (.iconst 1, 1) := by decide +kernel
theorem dX3_hear_126 : decode cX3_hear 126 = .ok (.iadd, 1) := by decide +kernel
theorem dX3_hear_127 : decode cX3_hear 127 = .ok (.putfield 33, 3) := by decide +kernel
theorem dX3_hear_130 : decode cX3_hear 130 = .ok (.iinc 1 1, 3) := by decide +kernel
theorem dX3_hear_133 : decode cX3_hear 133 = .ok (.goto (-116), 3) := by decide +kernel
theorem dX3_hear_136 : decode cX3_hear 136 = .ok (.return_, 1) := by decide +kernel
theorem dX3_fits_0 : decode cX3_fits 0 = .ok (.aload_n 0, 1) := by decide +kernel
theorem dX3_fits_1 : decode cX3_fits 1 = .ok (.getfield 40, 3) := by decide +kernel
theorem dX3_fits_4 : decode cX3_fits 4 = .ok (.ifCond .ne 12, 3) := by decide +kernel
theorem dX3_fits_7 : decode cX3_fits 7 = .ok (.iload_n 1, 1) := by decide +kernel
theorem dX3_fits_8 : decode cX3_fits 8 = .ok (.aload_n 0, 1) := by decide +kernel
theorem dX3_fits_9 : decode cX3_fits 9 = .ok (.getfield 37, 3) := by decide +kernel
theorem dX3_fits_12 : decode cX3_fits 12 = .ok (.iand, 1) := by decide +kernel
theorem dX3_fits_13 : decode cX3_fits 13 = .ok (.ifCond .eq 5, 3) := by decide +kernel
theorem dX3_fits_16 : decode cX3_fits 16 = .ok (.iconst 0, 1) := by decide +kernel
theorem dX3_fits_17 : decode cX3_fits 17 = .ok (.ireturn, 1) := by decide +kernel
theorem dX3_fits_18 : decode cX3_fits 18 = .ok (.iconst 0, 1) := by decide +kernel
theorem dX3_fits_19 : decode cX3_fits 19 = .ok (.istore_n 2, 1) := by decide +kernel
theorem dX3_fits_20 : decode cX3_fits 20 = .ok (.iload_n 2, 1) := by decide +kernel
theorem dX3_fits_21 : decode cX3_fits 21 = .ok (.aload_n 0, 1) := by decide +kernel
theorem dX3_fits_22 : decode cX3_fits 22 = .ok (.getfield 33, 3) := by decide +kernel
theorem dX3_fits_25 : decode cX3_fits 25 = .ok (.if_icmp .ge 22, 3) := by decide +kernel
theorem dX3_fits_28 : decode cX3_fits 28 = .ok (.iload_n 1, 1) := by decide +kernel
theorem dX3_fits_29 : decode cX3_fits 29 = .ok (.aload_n 0, 1) := by decide +kernel
theorem dX3_fits_30 : decode cX3_fits 30 = .ok (.getfield 23, 3) := by decide +kernel
theorem dX3_fits_33 : decode cX3_fits 33 = .ok (.iload_n 2, 1) := by decide +kernel
theorem dX3_fits_34 : decode cX3_fits 34 = .ok (.iaload, 1) := by decide +kernel
theorem dX3_fits_35 : decode cX3_fits 35 = .ok (.iand, 1) := by decide +kernel
theorem dX3_fits_36 : decode cX3_fits 36 = .ok (.ifCond .ne 5, 3) := by decide +kernel
theorem dX3_fits_39 : decode cX3_fits 39 = .ok (.iconst 0, 1) := by decide +kernel
theorem dX3_fits_40 : decode cX3_fits 40 = .ok (.ireturn, 1) := by decide +kernel
theorem dX3_fits_41 : decode cX3_fits 41 = .ok (.iinc 2 1, 3) := by decide +kernel
theorem dX3_fits_44 : decode cX3_fits 44 = .ok (.goto (-24), 3) := by decide +kernel
theorem dX3_fits_47 : decode cX3_fits 47 = .ok (.iconst 1, 1) := by decide +kernel
theorem dX3_fits_48 : decode cX3_fits 48 = .ok (.ireturn, 1) := by decide +kernel
theorem dX3_countSets_0 : decode cX3_countSets 0 = .ok (.iconst 0, 1) := by decide +kernel
theorem dX3_countSets_1 : decode cX3_countSets 1 = .ok (.istore_n 2, 1) := by decide +kernel
theorem dX3_countSets_2 : decode cX3_countSets 2 = .ok (.iconst 0, 1) := by decide +kernel
theorem dX3_countSets_3 : decode cX3_countSets 3 = .ok (.istore_n 3, 1) := by decide +kernel
theorem dX3_countSets_4 : decode cX3_countSets 4 = .ok (.iload_n 3, 1) := by decide +kernel
theorem dX3_countSets_5 : decode cX3_countSets 5 = .ok (.sipush 1024, 3) := by decide +kernel
theorem dX3_countSets_8 : decode cX3_countSets 8 = .ok (.if_icmp .ge 28, 3) := by decide +kernel
theorem dX3_countSets_11 : decode cX3_countSets 11 = .ok (.iload_n 1, 1) := by decide +kernel
theorem dX3_countSets_12 : decode cX3_countSets 12 = .ok (.iload_n 3, 1) := by decide +kernel
theorem dX3_countSets_13 : decode cX3_countSets 13 = .ok (.iconst (-1), 1) := by decide +kernel
theorem dX3_countSets_14 : decode cX3_countSets 14 = .ok (.ixor, 1) := by decide +kernel
theorem dX3_countSets_15 : decode cX3_countSets 15 = .ok (.iand, 1) := by decide +kernel
theorem dX3_countSets_16 : decode cX3_countSets 16 = .ok (.ifCond .ne 14, 3) := by decide +kernel
theorem dX3_countSets_19 : decode cX3_countSets 19 = .ok (.aload_n 0, 1) := by decide +kernel
theorem dX3_countSets_20 : decode cX3_countSets 20 = .ok (.iload_n 3, 1) := by decide +kernel
theorem dX3_countSets_21 : decode cX3_countSets 21 = .ok (.invokevirtual 67, 3) := by decide +kernel
theorem dX3_countSets_24 : decode cX3_countSets 24 = .ok (.ifCond .eq 6, 3) := by decide +kernel
theorem dX3_countSets_27 : decode cX3_countSets 27 = .ok (.iinc 2 1, 3) := by decide +kernel
theorem dX3_countSets_30 : decode cX3_countSets 30 = .ok (.iinc 3 1, 3) := by decide +kernel
theorem dX3_countSets_33 : decode cX3_countSets 33 = .ok (.goto (-29), 3) := by decide +kernel
theorem dX3_countSets_36 : decode cX3_countSets 36 = .ok (.iload_n 2, 1) := by decide +kernel
theorem dX3_countSets_37 : decode cX3_countSets 37 = .ok (.ireturn, 1) := by decide +kernel
theorem dX3_bestQuestion_0 : decode cX3_bestQuestion 0 = .ok (.aload_n 0, 1) := by decide +kernel
theorem dX3_bestQuestion_1 : decode cX3_bestQuestion 1 = .ok (.getfield 27, 3) := by decide +kernel
theorem dX3_bestQuestion_4 : decode cX3_bestQuestion 4 = .ok (.iconst 0, 1) := by decide +kernel
theorem dX3_bestQuestion_5 : decode cX3_bestQuestion 5 = .ok (.invokestatic 70, 3) := by decide +kernel
theorem dX3_bestQuestion_8 : decode cX3_bestQuestion 8 = .ok (.iconst 0, 1) := by decide +kernel
theorem dX3_bestQuestion_9 : decode cX3_bestQuestion 9 = .ok (.istore_n 1, 1) := by decide +kernel
theorem dX3_bestQuestion_10 : decode cX3_bestQuestion 10 = .ok (.iconst 0, 1) := by decide +kernel
theorem dX3_bestQuestion_11 : decode cX3_bestQuestion 11 = .ok (.istore_n 2, 1) := by decide +kernel
theorem dX3_bestQuestion_12 : decode cX3_bestQuestion 12 = .ok (.iload_n 2, 1) := by decide +kernel
theorem dX3_bestQuestion_13 : decode cX3_bestQuestion 13 = .ok (.sipush 1024, 3) := by decide +kernel
theorem dX3_bestQuestion_16 : decode cX3_bestQuestion 16 = .ok (.if_icmp .ge 25, 3) := by decide +kernel
theorem dX3_bestQuestion_19 : decode cX3_bestQuestion 19 = .ok (.aload_n 0, 1) := by decide +kernel
theorem dX3_bestQuestion_20 : decode cX3_bestQuestion 20 = .ok (.iload_n 2, 1) := by decide +kernel
theorem dX3_bestQuestion_21 : decode cX3_bestQuestion 21 = .ok (.invokevirtual 67, 3) := by decide +kernel
theorem dX3_bestQuestion_24 : decode cX3_bestQuestion 24 = .ok (.ifCond .eq 11, 3) := by decide +kernel
theorem dX3_bestQuestion_27 : decode cX3_bestQuestion 27 = .ok (.iinc 1 1, 3) := by decide +kernel
theorem dX3_bestQuestion_30 : decode cX3_bestQuestion 30 = .ok (.aload_n 0, 1) := by decide +kernel
theorem dX3_bestQuestion_31 : decode cX3_bestQuestion 31 = .ok (.iload_n 2, 1) := by decide +kernel
theorem dX3_bestQuestion_32 : decode cX3_bestQuestion 32 = .ok (.invokevirtual 76, 3) := by decide +kernel
theorem dX3_bestQuestion_35 : decode cX3_bestQuestion 35 = .ok (.iinc 2 1, 3) := by decide +kernel
theorem dX3_bestQuestion_38 : decode cX3_bestQuestion 38 = .ok (.goto (-26), 3) := by decide +kernel
theorem dX3_bestQuestion_41 : decode cX3_bestQuestion 41 = .ok (.iconst (-1), 1) := by decide +kernel
theorem dX3_bestQuestion_42 : decode cX3_bestQuestion 42 = .ok (.istore_n 2, 1) := by decide +kernel
theorem dX3_bestQuestion_43 : decode cX3_bestQuestion 43 = .ok (.bipush (-6), 2) := by decide +kernel
theorem dX3_bestQuestion_45 : decode cX3_bestQuestion 45 = .ok (.istore_n 3, 1) := by decide +kernel
theorem dX3_bestQuestion_46 : decode cX3_bestQuestion 46 = .ok (.iconst 0, 1) := by decide +kernel
theorem dX3_bestQuestion_47 : decode cX3_bestQuestion 47 = .ok (.istore 4, 2) := by decide +kernel
theorem dX3_bestQuestion_49 : decode cX3_bestQuestion 49 = .ok (.iload 4, 2) := by decide +kernel
theorem dX3_bestQuestion_51 : decode cX3_bestQuestion 51 = .ok (.aload_n 0, 1) := by decide +kernel
theorem dX3_bestQuestion_52 : decode cX3_bestQuestion 52 = .ok (.getfield 9, 3) := by decide +kernel
theorem dX3_bestQuestion_55 : decode cX3_bestQuestion 55 = .ok (.getfield 80, 3) := by decide +kernel
theorem dX3_bestQuestion_58 : decode cX3_bestQuestion 58 = .ok (.if_icmp .ge 57, 3) := by decide +kernel
theorem dX3_bestQuestion_61 : decode cX3_bestQuestion 61 = .ok (.aload_n 0, 1) := by decide +kernel
theorem dX3_bestQuestion_62 : decode cX3_bestQuestion 62 = .ok (.getfield 15, 3) := by decide +kernel
theorem dX3_bestQuestion_65 : decode cX3_bestQuestion 65 = .ok (.iload 4, 2) := by decide +kernel
theorem dX3_bestQuestion_67 : decode cX3_bestQuestion 67 = .ok (.invokevirtual 52, 3) := by decide +kernel
theorem dX3_bestQuestion_70 : decode cX3_bestQuestion 70 = .ok (.ifCond .eq 13, 3) := by decide +kernel
theorem dX3_bestQuestion_73 : decode cX3_bestQuestion 73 = .ok (.aload_n 0, 1) := by decide +kernel
theorem dX3_bestQuestion_74 : decode cX3_bestQuestion 74 = .ok (.getfield 27, 3) := by decide +kernel
theorem dX3_bestQuestion_77 : decode cX3_bestQuestion 77 = .ok (.iload 4, 2) := by decide +kernel
theorem dX3_bestQuestion_79 : decode cX3_bestQuestion 79 = .ok (.iaload, 1) := by decide +kernel
theorem dX3_bestQuestion_80 : decode cX3_bestQuestion 80 = .ok (.goto 4, 3) := by decide +kernel
theorem dX3_bestQuestion_83 : decode cX3_bestQuestion 83 = .ok (.iconst 0, 1) := by decide +kernel
theorem dX3_bestQuestion_84 : decode cX3_bestQuestion 84 = .ok (.istore 5, 2) := by decide +kernel
theorem dX3_bestQuestion_86 : decode cX3_bestQuestion 86 = .ok (.iload 5, 2) := by decide +kernel
theorem dX3_bestQuestion_88 : decode cX3_bestQuestion 88 = .ok (.iload_n 1, 1) := by decide +kernel
theorem dX3_bestQuestion_89 : decode cX3_bestQuestion 89 = .ok (.iload 5, 2) := by decide +kernel
theorem dX3_bestQuestion_91 : decode cX3_bestQuestion 91 = .ok (.isub, 1) := by decide +kernel
theorem dX3_bestQuestion_92 : decode cX3_bestQuestion 92 = .ok (.invokestatic 81, 3) := by decide +kernel
theorem dX3_bestQuestion_95 : decode cX3_bestQuestion 95 = .ok (.istore 6, 2) := by decide +kernel
theorem dX3_bestQuestion_97 : decode cX3_bestQuestion 97 = .ok (.iload 6, 2) := by decide +kernel
theorem dX3_bestQuestion_99 : decode cX3_bestQuestion 99 = .ok (.iload_n 2, 1) := by decide +kernel
theorem dX3_bestQuestion_100 : decode cX3_bestQuestion 100 = .ok (.if_icmp .le 9, 3) := by decide +kernel
theorem dX3_bestQuestion_103 : decode cX3_bestQuestion 103 = .ok (.iload 6, 2) := by decide +kernel
theorem dX3_bestQuestion_105 : decode cX3_bestQuestion 105 = .ok (.istore_n 2, 1) := by decide +kernel
theorem dX3_bestQuestion_106 : decode cX3_bestQuestion 106 = .ok (.iload 4, 2) := by decide +kernel
theorem dX3_bestQuestion_108 : decode cX3_bestQuestion 108 = .ok (.istore_n 3, 1) := by decide +kernel
theorem dX3_bestQuestion_109 : decode cX3_bestQuestion 109 = .ok (.iinc 4 1, 3) := by decide +kernel
theorem dX3_bestQuestion_112 : decode cX3_bestQuestion 112 = .ok (.goto (-63), 3) := by decide +kernel
theorem dX3_bestQuestion_115 : decode cX3_bestQuestion 115 = .ok (.iload_n 3, 1) := by decide +kernel
theorem dX3_bestQuestion_116 : decode cX3_bestQuestion 116 = .ok (.ireturn, 1) := by decide +kernel
theorem dX3_countKnown_0 : decode cX3_countKnown 0 = .ok (.iconst 0, 1) := by decide +kernel
theorem dX3_countKnown_1 : decode cX3_countKnown 1 = .ok (.istore_n 2, 1) := by decide +kernel
theorem dX3_countKnown_2 : decode cX3_countKnown 2 = .ok (.iload_n 2, 1) := by decide +kernel
theorem dX3_countKnown_3 : decode cX3_countKnown 3 = .ok (.aload_n 0, 1) := by decide +kernel
theorem dX3_countKnown_4 : decode cX3_countKnown 4 = .ok (.getfield 9, 3) := by decide +kernel
theorem dX3_countKnown_7 : decode cX3_countKnown 7 = .ok (.getfield 80, 3) := by decide +kernel
theorem dX3_countKnown_10 : decode cX3_countKnown 10 = .ok (.if_icmp .ge 33, 3) := by decide +kernel
theorem dX3_countKnown_13 : decode cX3_countKnown 13 = .ok (.aload_n 0, 1) := by decide +kernel
theorem dX3_countKnown_14 : decode cX3_countKnown 14 = .ok (.getfield 9, 3) := by decide +kernel
theorem dX3_countKnown_17 : decode cX3_countKnown 17 = .ok (.getfield 62, 3) := by decide +kernel
theorem dX3_countKnown_20 : decode cX3_countKnown 20 = .ok (.iload_n 2, 1) := by decide +kernel
theorem dX3_countKnown_21 : decode cX3_countKnown 21 = .ok (.iaload, 1) := by decide +kernel
theorem dX3_countKnown_22 : decode cX3_countKnown 22 = .ok (.iload_n 1, 1) := by decide +kernel
theorem dX3_countKnown_23 : decode cX3_countKnown 23 = .ok (.iand, 1) := by decide +kernel
theorem dX3_countKnown_24 : decode cX3_countKnown 24 = .ok (.ifCond .ne 13, 3) := by decide +kernel
theorem dX3_countKnown_27 : decode cX3_countKnown 27 = .ok (.aload_n 0, 1) := by decide +kernel
theorem dX3_countKnown_28 : decode cX3_countKnown 28 = .ok (.getfield 27, 3) := by decide +kernel
theorem dX3_countKnown_31 : decode cX3_countKnown 31 = .ok (.iload_n 2, 1) := by decide +kernel
theorem dX3_countKnown_32 : decode cX3_countKnown 32 = .ok (.dup2, 1) := by decide +kernel
theorem dX3_countKnown_33 : decode cX3_countKnown 33 = .ok (.iaload, 1) := by decide +kernel
theorem dX3_countKnown_34 : decode cX3_countKnown 34 = .ok (.iconst 1, 1) := by decide +kernel
theorem dX3_countKnown_35 : decode cX3_countKnown 35 = .ok (.iadd, 1) := by decide +kernel
theorem dX3_countKnown_36 : decode cX3_countKnown 36 = .ok (.iastore, 1) := by decide +kernel
theorem dX3_countKnown_37 : decode cX3_countKnown 37 = .ok (.iinc 2 1, 3) := by decide +kernel
theorem dX3_countKnown_40 : decode cX3_countKnown 40 = .ok (.goto (-38), 3) := by decide +kernel
theorem dX3_countKnown_43 : decode cX3_countKnown 43 = .ok (.return_, 1) := by decide +kernel
theorem dX3_leastTest_0 : decode cX3_leastTest 0 = .ok (.aload_n 0, 1) := by decide +kernel
theorem dX3_leastTest_1 : decode cX3_leastTest 1 = .ok (.invokevirtual 87, 3) := by decide +kernel
theorem dX3_leastTest_4 : decode cX3_leastTest 4 = .ok (.aload_n 0, 1) := by decide +kernel
theorem dX3_leastTest_5 : decode cX3_leastTest 5 = .ok (.getfield 15, 3) := by decide +kernel
theorem dX3_leastTest_8 : decode cX3_leastTest 8 = .ok (.getfield 90, 3) := by decide +kernel
theorem dX3_leastTest_11 : decode cX3_leastTest 11 = .ok (.istore_n 1, 1) := by decide +kernel
theorem dX3_leastTest_12 : decode cX3_leastTest 12 = .ok (.iload_n 1, 1) := by decide +kernel
theorem dX3_leastTest_13 : decode cX3_leastTest 13 = .ok (.invokestatic 93, 3) := by decide +kernel
theorem dX3_leastTest_16 : decode cX3_leastTest 16 = .ok (.istore_n 2, 1) := by decide +kernel
theorem dX3_leastTest_17 : decode cX3_leastTest 17 = .ok (.iconst 0, 1) := by decide +kernel
theorem dX3_leastTest_18 : decode cX3_leastTest 18 = .ok (.istore_n 3, 1) := by decide +kernel
theorem dX3_leastTest_19 : decode cX3_leastTest 19 = .ok (.iload_n 3, 1) := by decide +kernel
theorem dX3_leastTest_20 : decode cX3_leastTest 20 = .ok (.aload_n 0, 1) := by decide +kernel
theorem dX3_leastTest_21 : decode cX3_leastTest 21 = .ok (.getfield 15, 3) := by decide +kernel
theorem dX3_leastTest_24 : decode cX3_leastTest 24 = .ok (.getfield 90, 3) := by decide +kernel
theorem dX3_leastTest_27 : decode cX3_leastTest 27 = .ok (.if_icmp .ge 48, 3) := by decide +kernel
theorem dX3_leastTest_30 : decode cX3_leastTest 30 = .ok (.iload_n 3, 1) := by decide +kernel
theorem dX3_leastTest_31 : decode cX3_leastTest 31 = .ok (.invokestatic 93, 3) := by decide +kernel
theorem dX3_leastTest_34 : decode cX3_leastTest 34 = .ok (.istore 4, 2) := by decide +kernel
theorem dX3_leastTest_36 : decode cX3_leastTest 36 = .ok (.iload 4, 2) := by decide +kernel
theorem dX3_leastTest_38 : decode cX3_leastTest 38 = .ok (.iload_n 2, 1) := by decide +kernel
theorem dX3_leastTest_39 : decode cX3_leastTest 39 = .ok (.if_icmp .ge 30, 3) := by decide +kernel
theorem dX3_leastTest_42 : decode cX3_leastTest 42 = .ok (.iload_n 3, 1) := by decide +kernel
theorem dX3_leastTest_43 : decode cX3_leastTest 43 = .ok (.aload_n 0, 1) := by decide +kernel
theorem dX3_leastTest_44 : decode cX3_leastTest 44 = .ok (.getfield 15, 3) := by decide +kernel
theorem dX3_leastTest_47 : decode cX3_leastTest 47 = .ok (.getfield 90, 3) := by decide +kernel
theorem dX3_leastTest_50 : decode cX3_leastTest 50 = .ok (.iconst (-1), 1) := by decide +kernel
theorem dX3_leastTest_51 : decode cX3_leastTest 51 = .ok (.ixor, 1) := by decide +kernel
theorem dX3_leastTest_52 : decode cX3_leastTest 52 = .ok (.iand, 1) := by decide +kernel
theorem dX3_leastTest_53 : decode cX3_leastTest 53 = .ok (.ifCond .ne 16, 3) := by decide +kernel
theorem dX3_leastTest_56 : decode cX3_leastTest 56 = .ok (.aload_n 0, 1) := by decide +kernel
theorem dX3_leastTest_57 : decode cX3_leastTest 57 = .ok (.iload_n 3, 1) := by decide +kernel
theorem dX3_leastTest_58 : decode cX3_leastTest 58 = .ok (.invokevirtual 99, 3) := by decide +kernel
theorem dX3_leastTest_61 : decode cX3_leastTest 61 = .ok (.ifCond .eq 8, 3) := by decide +kernel
theorem dX3_leastTest_64 : decode cX3_leastTest 64 = .ok (.iload_n 3, 1) := by decide +kernel
theorem dX3_leastTest_65 : decode cX3_leastTest 65 = .ok (.istore_n 1, 1) := by decide +kernel
theorem dX3_leastTest_66 : decode cX3_leastTest 66 = .ok (.iload 4, 2) := by decide +kernel
theorem dX3_leastTest_68 : decode cX3_leastTest 68 = .ok (.istore_n 2, 1) := by decide +kernel
theorem dX3_leastTest_69 : decode cX3_leastTest 69 = .ok (.iinc 3 1, 3) := by decide +kernel
theorem dX3_leastTest_72 : decode cX3_leastTest 72 = .ok (.goto (-53), 3) := by decide +kernel
theorem dX3_leastTest_75 : decode cX3_leastTest 75 = .ok (.iload_n 1, 1) := by decide +kernel
theorem dX3_leastTest_76 : decode cX3_leastTest 76 = .ok (.ireturn, 1) := by decide +kernel
theorem dX3_findWordsWith_0 : decode cX3_findWordsWith 0 = .ok (.aload_n 0, 1) := by decide +kernel
theorem dX3_findWordsWith_1 : decode cX3_findWordsWith 1 = .ok (.getfield 30, 3) := by decide +kernel
theorem dX3_findWordsWith_4 : decode cX3_findWordsWith 4 = .ok (.iconst 0, 1) := by decide +kernel
theorem dX3_findWordsWith_5 : decode cX3_findWordsWith 5 = .ok (.invokestatic 70, 3) := by decide +kernel
theorem dX3_findWordsWith_8 : decode cX3_findWordsWith 8 = .ok (.iconst 0, 1) := by decide +kernel
theorem dX3_findWordsWith_9 : decode cX3_findWordsWith 9 = .ok (.istore_n 1, 1) := by decide +kernel
theorem dX3_findWordsWith_10 : decode cX3_findWordsWith 10 = .ok (.iload_n 1, 1) := by decide +kernel
theorem dX3_findWordsWith_11 : decode cX3_findWordsWith 11 = .ok (.aload_n 0, 1) := by decide +kernel
theorem dX3_findWordsWith_12 : decode cX3_findWordsWith 12 = .ok (.getfield 9, 3) := by decide +kernel
theorem dX3_findWordsWith_15 : decode cX3_findWordsWith 15 = .ok (.getfield 80, 3) := by decide +kernel
theorem dX3_findWordsWith_18 : decode cX3_findWordsWith 18 = .ok (.if_icmp .ge 64, 3) := by decide +kernel
theorem dX3_findWordsWith_21 : decode cX3_findWordsWith 21 = .ok (.aload_n 0, 1) := by decide +kernel
theorem dX3_findWordsWith_22 : decode cX3_findWordsWith 22 = .ok (.getfield 15, 3) := by decide +kernel
theorem dX3_findWordsWith_25 : decode cX3_findWordsWith 25 = .ok (.iload_n 1, 1) := by decide +kernel
theorem dX3_findWordsWith_26 : decode cX3_findWordsWith 26 = .ok (.invokevirtual 52, 3) := by decide +kernel
theorem dX3_findWordsWith_29 : decode cX3_findWordsWith 29 = .ok (.ifCond .ne 6, 3) := by decide +kernel
theorem dX3_findWordsWith_32 : decode cX3_findWordsWith 32 = .ok (.goto 44, 3) := by decide +kernel
theorem dX3_findWordsWith_35 : decode cX3_findWordsWith 35 = .ok (.iconst 0, 1) := by decide +kernel
theorem dX3_findWordsWith_36 : decode cX3_findWordsWith 36 = .ok (.istore_n 2, 1) := by decide +kernel
theorem dX3_findWordsWith_37 : decode cX3_findWordsWith 37 = .ok (.iload_n 2, 1) := by decide +kernel
theorem dX3_findWordsWith_38 : decode cX3_findWordsWith 38 = .ok (.aload_n 0, 1) := by decide +kernel
theorem dX3_findWordsWith_39 : decode cX3_findWordsWith 39 = .ok (.getfield 9, 3) := by decide +kernel
theorem dX3_findWordsWith_42 : decode cX3_findWordsWith 42 = .ok (.getfield 102, 3) := by decide +kernel
theorem dX3_findWordsWith_45 : decode cX3_findWordsWith 45 = .ok (.iload_n 1, 1) := by decide +kernel
theorem dX3_findWordsWith_46 : decode cX3_findWordsWith 46 = .ok (.iaload, 1) := by decide +kernel
theorem dX3_findWordsWith_47 : decode cX3_findWordsWith 47 = .ok (.if_icmp .ge 29, 3) := by decide +kernel
theorem dX3_findWordsWith_50 : decode cX3_findWordsWith 50 = .ok (.aload_n 0, 1) := by decide +kernel
theorem dX3_findWordsWith_51 : decode cX3_findWordsWith 51 = .ok (.getfield 30, 3) := by decide +kernel
theorem dX3_findWordsWith_54 : decode cX3_findWordsWith 54 = .ok (.aload_n 0, 1) := by decide +kernel
theorem dX3_findWordsWith_55 : decode cX3_findWordsWith 55 = .ok (.getfield 9, 3) := by decide +kernel
theorem dX3_findWordsWith_58 : decode cX3_findWordsWith 58 = .ok (.iload_n 1, 1) := by decide +kernel
theorem dX3_findWordsWith_59 : decode cX3_findWordsWith 59 = .ok (.iload_n 2, 1) := by decide +kernel
theorem dX3_findWordsWith_60 : decode cX3_findWordsWith 60 = .ok (.invokevirtual 105, 3) := by decide +kernel
theorem dX3_findWordsWith_63 : decode cX3_findWordsWith 63 = .ok (.dup2, 1) := by decide +kernel
theorem dX3_findWordsWith_64 : decode cX3_findWordsWith 64 = .ok (.iaload, 1) := by decide +kernel
theorem dX3_findWordsWith_65 : decode cX3_findWordsWith 65 = .ok (.iconst 1, 1) := by decide +kernel
theorem dX3_findWordsWith_66 : decode cX3_findWordsWith 66 = .ok (.iload_n 1, 1) := by decide +kernel
theorem dX3_findWordsWith_67 : decode cX3_findWordsWith 67 = .ok (.ishl, 1) := by decide +kernel
theorem dX3_findWordsWith_68 : decode cX3_findWordsWith 68 = .ok (.ior, 1) := by decide +kernel
theorem dX3_findWordsWith_69 : decode cX3_findWordsWith 69 = .ok (.iastore, 1) := by decide +kernel
theorem dX3_findWordsWith_70 : decode cX3_findWordsWith 70 = .ok (.iinc 2 1, 3) := by decide +kernel
theorem dX3_findWordsWith_73 : decode cX3_findWordsWith 73 = .ok (.goto (-36), 3) := by decide +kernel
theorem dX3_findWordsWith_76 : decode cX3_findWordsWith 76 = .ok (.iinc 1 1, 3) := by decide +kernel
theorem dX3_findWordsWith_79 : decode cX3_findWordsWith 79 = .ok (.goto (-69), 3) := by decide +kernel
theorem dX3_findWordsWith_82 : decode cX3_findWordsWith 82 = .ok (.return_, 1) := by decide +kernel
theorem dX3_tellsAll_0 : decode cX3_tellsAll 0 = .ok (.iconst 0, 1) := by decide +kernel
theorem dX3_tellsAll_1 : decode cX3_tellsAll 1 = .ok (.istore_n 2, 1) := by decide +kernel
theorem dX3_tellsAll_2 : decode cX3_tellsAll 2 = .ok (.iload_n 2, 1) := by decide +kernel
theorem dX3_tellsAll_3 : decode cX3_tellsAll 3 = .ok (.bipush 10, 2) := by decide +kernel
theorem dX3_tellsAll_5 : decode cX3_tellsAll 5 = .ok (.if_icmp .ge 68, 3) := by decide +kernel
theorem dX3_tellsAll_8 : decode cX3_tellsAll 8 = .ok (.aload_n 0, 1) := by decide +kernel
theorem dX3_tellsAll_9 : decode cX3_tellsAll 9 = .ok (.getfield 30, 3) := by decide +kernel
theorem dX3_tellsAll_12 : decode cX3_tellsAll 12 = .ok (.iload_n 2, 1) := by decide +kernel
theorem dX3_tellsAll_13 : decode cX3_tellsAll 13 = .ok (.iaload, 1) := by decide +kernel
theorem dX3_tellsAll_14 : decode cX3_tellsAll 14 = .ok (.istore_n 3, 1) := by decide +kernel
theorem dX3_tellsAll_15 : decode cX3_tellsAll 15 = .ok (.iload_n 3, 1) := by decide +kernel
theorem dX3_tellsAll_16 : decode cX3_tellsAll 16 = .ok (.ifCond .eq 11, 3) := by decide +kernel
theorem dX3_tellsAll_19 : decode cX3_tellsAll 19 = .ok (.iload_n 3, 1) := by decide +kernel
theorem dX3_tellsAll_20 : decode cX3_tellsAll 20 = .ok (.iload_n 1, 1) := by decide +kernel
theorem dX3_tellsAll_21 : decode cX3_tellsAll 21 = .ok (.iand, 1) := by decide +kernel
theorem dX3_tellsAll_22 : decode cX3_tellsAll 22 = .ok (.ifCond .ne 5, 3) := by decide +kernel
theorem dX3_tellsAll_25 : decode cX3_tellsAll 25 = .ok (.iconst 0, 1) := by decide +kernel
theorem dX3_tellsAll_26 : decode cX3_tellsAll 26 = .ok (.ireturn, 1) := by decide +kernel
theorem dX3_tellsAll_27 : decode cX3_tellsAll 27 = .ok (.iconst 0, 1) := by decide +kernel
theorem dX3_tellsAll_28 : decode cX3_tellsAll 28 = .ok (.istore 4, 2) := by decide +kernel
theorem dX3_tellsAll_30 : decode cX3_tellsAll 30 = .ok (.iload 4, 2) := by decide +kernel
theorem dX3_tellsAll_32 : decode cX3_tellsAll 32 = .ok (.iload_n 2, 1) := by decide +kernel
theorem dX3_tellsAll_33 : decode cX3_tellsAll 33 = .ok (.if_icmp .ge 34, 3) := by decide +kernel
theorem dX3_tellsAll_36 : decode cX3_tellsAll 36 = .ok (.iload_n 3, 1) := by decide +kernel
theorem dX3_tellsAll_37 : decode cX3_tellsAll 37 = .ok (.aload_n 0, 1) := by decide +kernel
theorem dX3_tellsAll_38 : decode cX3_tellsAll 38 = .ok (.getfield 30, 3) := by decide +kernel
theorem dX3_tellsAll_41 : decode cX3_tellsAll 41 = .ok (.iload 4, 2) := by decide +kernel
theorem dX3_tellsAll_43 : decode cX3_tellsAll 43 = .ok (.iaload, 1) := by decide +kernel
theorem dX3_tellsAll_44 : decode cX3_tellsAll 44 = .ok (.ixor, 1) := by decide +kernel
theorem dX3_tellsAll_45 : decode cX3_tellsAll 45 = .ok (.istore 5, 2) := by decide +kernel
theorem dX3_tellsAll_47 : decode cX3_tellsAll 47 = .ok (.iload 5, 2) := by decide +kernel
theorem dX3_tellsAll_49 : decode cX3_tellsAll 49 = .ok (.ifCond .eq 12, 3) := by decide +kernel
theorem dX3_tellsAll_52 : decode cX3_tellsAll 52 = .ok (.iload 5, 2) := by decide +kernel
theorem dX3_tellsAll_54 : decode cX3_tellsAll 54 = .ok (.iload_n 1, 1) := by decide +kernel
theorem dX3_tellsAll_55 : decode cX3_tellsAll 55 = .ok (.iand, 1) := by decide +kernel
theorem dX3_tellsAll_56 : decode cX3_tellsAll 56 = .ok (.ifCond .ne 5, 3) := by decide +kernel
theorem dX3_tellsAll_59 : decode cX3_tellsAll 59 = .ok (.iconst 0, 1) := by decide +kernel
theorem dX3_tellsAll_60 : decode cX3_tellsAll 60 = .ok (.ireturn, 1) := by decide +kernel
theorem dX3_tellsAll_61 : decode cX3_tellsAll 61 = .ok (.iinc 4 1, 3) := by decide +kernel
theorem dX3_tellsAll_64 : decode cX3_tellsAll 64 = .ok (.goto (-34), 3) := by decide +kernel
theorem dX3_tellsAll_67 : decode cX3_tellsAll 67 = .ok (.iinc 2 1, 3) := by decide +kernel
theorem dX3_tellsAll_70 : decode cX3_tellsAll 70 = .ok (.goto (-68), 3) := by decide +kernel
theorem dX3_tellsAll_73 : decode cX3_tellsAll 73 = .ok (.iconst 1, 1) := by decide +kernel
theorem dX3_tellsAll_74 : decode cX3_tellsAll 74 = .ok (.ireturn, 1) := by decide +kernel
theorem dX4_init_0 : decode cX4_init 0 = .ok (.aload_n 0, 1) := by decide +kernel
theorem dX4_init_1 : decode cX4_init 1 = .ok (.invokespecial 3, 3) := by decide +kernel
theorem dX4_init_4 : decode cX4_init 4 = .ok (.aload_n 0, 1) := by decide +kernel
theorem dX4_init_5 : decode cX4_init 5 = .ok (.aload_n 1, 1) := by decide +kernel
theorem dX4_init_6 : decode cX4_init 6 = .ok (.putfield 9, 3) := by decide +kernel
theorem dX4_init_9 : decode cX4_init 9 = .ok (.aload_n 0, 1) := by decide +kernel
theorem dX4_init_10 : decode cX4_init 10 = .ok (.aload_n 2, 1) := by decide +kernel
theorem dX4_init_11 : decode cX4_init 11 = .ok (.putfield 15, 3) := by decide +kernel
theorem dX4_init_14 : decode cX4_init 14 = .ok (.aload_n 0, 1) := by decide +kernel
theorem dX4_init_15 : decode cX4_init 15 = .ok (.aload_n 3, 1) := by decide +kernel
theorem dX4_init_16 : decode cX4_init 16 = .ok (.putfield 19, 3) := by decide +kernel
theorem dX4_init_19 : decode cX4_init 19 = .ok (.aload_n 0, 1) := by decide +kernel
theorem dX4_init_20 : decode cX4_init 20 = .ok (.sipush 1024, 3) := by decide +kernel
theorem dX4_init_23 : decode cX4_init 23 = .ok (.newarray .int, 2) := by decide +kernel
theorem dX4_init_25 : decode cX4_init 25 = .ok (.putfield 23, 3) := by decide +kernel
theorem dX4_init_28 : decode cX4_init 28 = .ok (.aload_n 0, 1) := by decide +kernel
theorem dX4_init_29 : decode cX4_init 29 = .ok (.bipush 52, 2) := by decide +kernel
theorem dX4_init_31 : decode cX4_init 31 = .ok (.newarray .int, 2) := by decide +kernel
theorem dX4_init_33 : decode cX4_init 33 = .ok (.putfield 27, 3) := by decide +kernel
theorem dX4_init_36 : decode cX4_init 36 = .ok (.aload_n 0, 1) := by decide +kernel
theorem dX4_init_37 : decode cX4_init 37 = .ok (.iconst 4, 1) := by decide +kernel
theorem dX4_init_38 : decode cX4_init 38 = .ok (.newarray .boolean, 2) := by decide +kernel
theorem dX4_init_40 : decode cX4_init 40 = .ok (.putfield 30, 3) := by decide +kernel
theorem dX4_init_43 : decode cX4_init 43 = .ok (.aload_n 0, 1) := by decide +kernel
theorem dX4_init_44 : decode cX4_init 44 = .ok (.iconst 4, 1) := by decide +kernel
theorem dX4_init_45 : decode cX4_init 45 = .ok (.newarray .int, 2) := by decide +kernel
theorem dX4_init_47 : decode cX4_init 47 = .ok (.putfield 34, 3) := by decide +kernel
theorem dX4_init_50 : decode cX4_init 50 = .ok (.return_, 1) := by decide +kernel
theorem dX4_forget_0 : decode cX4_forget 0 = .ok (.aload_n 0, 1) := by decide +kernel
theorem dX4_forget_1 : decode cX4_forget 1 = .ok (.getfield 30, 3) := by decide +kernel
theorem dX4_forget_4 : decode cX4_forget 4 = .ok (.iload_n 1, 1) := by decide +kernel
theorem dX4_forget_5 : decode cX4_forget 5 = .ok (.iconst 0, 1) := by decide +kernel
theorem dX4_forget_6 : decode cX4_forget 6 = .ok (.bastore, 1) := by decide +kernel
theorem dX4_forget_7 : decode cX4_forget 7 = .ok (.return_, 1) := by decide +kernel
theorem dX4_bestShare_0 : decode cX4_bestShare 0 = .ok (.aload_n 0, 1) := by decide +kernel
theorem dX4_bestShare_1 : decode cX4_bestShare 1 = .ok (.getfield 27, 3) := by decide +kernel
theorem dX4_bestShare_4 : decode cX4_bestShare 4 = .ok (.iload_n 1, 1) := by decide +kernel
theorem dX4_bestShare_5 : decode cX4_bestShare 5 = .ok (.bipush 13, 2) := by decide +kernel
theorem dX4_bestShare_7 : decode cX4_bestShare 7 = .ok (.imul, 1) := by decide +kernel
theorem dX4_bestShare_8 : decode cX4_bestShare 8 = .ok (.iload_n 2, 1) := by decide +kernel
theorem dX4_bestShare_9 : decode cX4_bestShare 9 = .ok (.iadd, 1) := by decide +kernel
theorem dX4_bestShare_10 : decode cX4_bestShare 10 = .ok (.iaload, 1) := by decide +kernel
theorem dX4_bestShare_11 : decode cX4_bestShare 11 = .ok (.ireturn, 1) := by decide +kernel
theorem dX4_findBest_0 : decode cX4_findBest 0 = .ok (.aload_n 0, 1) := by decide +kernel
theorem dX4_findBest_1 : decode cX4_findBest 1 = .ok (.getfield 30, 3) := by decide +kernel
theorem dX4_findBest_4 : decode cX4_findBest 4 = .ok (.iload_n 1, 1) := by decide +kernel
theorem dX4_findBest_5 : decode cX4_findBest 5 = .ok (.baload, 1) := by decide +kernel
theorem dX4_findBest_6 : decode cX4_findBest 6 = .ok (.ifCond .eq 4, 3) := by decide +kernel
theorem dX4_findBest_9 : decode cX4_findBest 9 = .ok (.return_, 1) := by decide +kernel
theorem dX4_findBest_10 : decode cX4_findBest 10 = .ok (.aload_n 0, 1) := by decide +kernel
theorem dX4_findBest_11 : decode cX4_findBest 11 = .ok (.iload_n 1, 1) := by decide +kernel
theorem dX4_findBest_12 : decode cX4_findBest 12 = .ok (.invokevirtual 37, 3) := by decide +kernel
theorem dX4_findBest_15 : decode cX4_findBest 15 = .ok (.aload_n 0, 1) := by decide +kernel
theorem dX4_findBest_16 : decode cX4_findBest 16 = .ok (.getfield 15, 3) := by decide +kernel
theorem dX4_findBest_19 : decode cX4_findBest 19 = .ok (.getfield 41, 3) := by decide +kernel
theorem dX4_findBest_22 : decode cX4_findBest 22 = .ok (.iload_n 1, 1) := by decide +kernel
theorem dX4_findBest_23 : decode cX4_findBest 23 = .ok (.iaload, 1) := by decide +kernel
theorem dX4_findBest_24 : decode cX4_findBest 24 = .ok (.istore_n 2, 1) := by decide +kernel
theorem dX4_findBest_25 : decode cX4_findBest 25 = .ok (.iload_n 2, 1) := by decide +kernel
theorem dX4_findBest_26 : decode cX4_findBest 26 = .ok (.invokestatic 46, 3) := by decide +kernel
theorem dX4_findBest_29 : decode cX4_findBest 29 = .ok (.istore_n 3, 1) := by decide +kernel
theorem dX4_findBest_30 : decode cX4_findBest 30 = .ok (.iload_n 1, 1) := by decide +kernel
theorem dX4_findBest_31 : decode cX4_findBest 31 = .ok (.bipush 13, 2) := by decide +kernel
theorem dX4_findBest_33 : decode cX4_findBest 33 = .ok (.imul, 1) := by decide +kernel
theorem dX4_findBest_34 : decode cX4_findBest 34 = .ok (.istore 4, 2) := by decide +kernel
theorem dX4_findBest_36 : decode cX4_findBest 36 = .ok (.iconst 0, 1) := by decide +kernel
theorem dX4_findBest_37 : decode cX4_findBest 37 = .ok (.istore 5, 2) := by decide +kernel
theorem dX4_findBest_39 : decode cX4_findBest 39 = .ok (.iload 5, 2) := by decide +kernel
theorem dX4_findBest_41 : decode cX4_findBest 41 = .ok (.bipush 12, 2) := by decide +kernel
theorem dX4_findBest_43 : decode cX4_findBest 43 = .ok (.if_icmp .gt 20, 3) := by decide +kernel
theorem dX4_findBest_46 : decode cX4_findBest 46 = .ok (.aload_n 0, 1) := by decide +kernel
theorem dX4_findBest_47 : decode cX4_findBest 47 = .ok (.getfield 27, 3) := by decide +kernel
theorem dX4_findBest_50 : decode cX4_findBest 50 = .ok (.iload 4, 2) := by decide +kernel
theorem dX4_findBest_52 : decode cX4_findBest 52 = .ok (.iload 5, 2) := by decide +kernel
theorem dX4_findBest_54 : decode cX4_findBest 54 = .ok (.iadd, 1) := by decide +kernel
theorem dX4_findBest_55 : decode cX4_findBest 55 = .ok (.iconst 0, 1) := by decide +kernel
theorem dX4_findBest_56 : decode cX4_findBest 56 = .ok (.iastore, 1) := by decide +kernel
theorem dX4_findBest_57 : decode cX4_findBest 57 = .ok (.iinc 5 1, 3) := by decide +kernel
theorem dX4_findBest_60 : decode cX4_findBest 60 = .ok (.goto (-21), 3) := by decide +kernel
theorem dX4_findBest_63 : decode cX4_findBest 63 = .ok (.iconst 0, 1) := by decide +kernel
theorem dX4_findBest_64 : decode cX4_findBest 64 = .ok (.istore 5, 2) := by decide +kernel
theorem dX4_findBest_66 : decode cX4_findBest 66 = .ok (.iload 5, 2) := by decide +kernel
theorem dX4_findBest_68 : decode cX4_findBest 68 = .ok (.sipush 1024, 3) := by decide +kernel
theorem dX4_findBest_71 : decode cX4_findBest 71 = .ok (.if_icmp .ge 54, 3) := by decide +kernel
theorem dX4_findBest_74 : decode cX4_findBest 74 = .ok (.iload_n 2, 1) := by decide +kernel
theorem dX4_findBest_75 : decode cX4_findBest 75 = .ok (.iload 5, 2) := by decide +kernel
theorem dX4_findBest_77 : decode cX4_findBest 77 = .ok (.iconst (-1), 1) := by decide +kernel
theorem dX4_findBest_78 : decode cX4_findBest 78 = .ok (.ixor, 1) := by decide +kernel
theorem dX4_findBest_79 : decode cX4_findBest 79 = .ok (.iand, 1) := by decide +kernel
theorem dX4_findBest_80 : decode cX4_findBest 80 = .ok (.ifCond .ne 39, 3) := by decide +kernel
theorem dX4_findBest_83 : decode cX4_findBest 83 = .ok (.iload 4, 2) := by decide +kernel
theorem dX4_findBest_85 : decode cX4_findBest 85 = .ok (.iload 5, 2) := by decide +kernel
theorem dX4_findBest_87 : decode cX4_findBest 87 = .ok (.invokestatic 46, 3) := by decide +kernel
theorem dX4_findBest_90 : decode cX4_findBest 90 = .ok (.iadd, 1) := by decide +kernel
theorem dX4_findBest_91 : decode cX4_findBest 91 = .ok (.iload_n 3, 1) := by decide +kernel
theorem dX4_findBest_92 : decode cX4_findBest 92 = .ok (.isub, 1) := by decide +kernel
theorem dX4_findBest_93 : decode cX4_findBest 93 = .ok (.istore 6, 2) := by decide +kernel
theorem dX4_findBest_95 : decode cX4_findBest 95 = .ok (.aload_n 0, 1) := by decide +kernel
theorem dX4_findBest_96 : decode cX4_findBest 96 = .ok (.getfield 27, 3) := by decide +kernel
theorem dX4_findBest_99 : decode cX4_findBest 99 = .ok (.iload 6, 2) := by decide +kernel
theorem dX4_findBest_101 : decode cX4_findBest 101 = .ok (.aload_n 0, 1) := by decide +kernel
theorem dX4_findBest_102 : decode cX4_findBest 102 = .ok (.getfield 27, 3) := by decide +kernel
theorem dX4_findBest_105 : decode cX4_findBest 105 = .ok (.iload 6, 2) := by decide +kernel
theorem dX4_findBest_107 : decode cX4_findBest 107 = .ok (.iaload, 1) := by decide +kernel
theorem dX4_findBest_108 : decode cX4_findBest 108 = .ok (.aload_n 0, 1) := by decide +kernel
theorem dX4_findBest_109 : decode cX4_findBest 109 = .ok (.getfield 23, 3) := by decide +kernel
theorem dX4_findBest_112 : decode cX4_findBest 112 = .ok (.iload 5, 2) := by decide +kernel
theorem dX4_findBest_114 : decode cX4_findBest 114 = .ok (.iaload, 1) := by decide +kernel
theorem dX4_findBest_115 : decode cX4_findBest 115 = .ok (.invokestatic 52, 3) := by decide +kernel
theorem dX4_findBest_118 : decode cX4_findBest 118 = .ok (.iastore, 1) := by decide +kernel
theorem dX4_findBest_119 : decode cX4_findBest 119 = .ok (.iinc 5 1, 3) := by decide +kernel
theorem dX4_findBest_122 : decode cX4_findBest 122 = .ok (.goto (-56), 3) := by decide +kernel
theorem dX4_findBest_125 : decode cX4_findBest 125 = .ok (.bipush 10, 2) := by decide +kernel
theorem dX4_findBest_127 : decode cX4_findBest 127 = .ok (.iload_n 3, 1) := by decide +kernel
theorem dX4_findBest_128 : decode cX4_findBest 128 = .ok (.isub, 1) := by decide +kernel
theorem dX4_findBest_129 : decode cX4_findBest 129 = .ok (.iconst 1, 1) := by decide +kernel
theorem dX4_findBest_130 : decode cX4_findBest 130 = .ok (.iadd, 1) := by decide +kernel
theorem dX4_findBest_131 : decode cX4_findBest 131 = .ok (.istore 5, 2) := by decide +kernel
theorem dX4_findBest_133 : decode cX4_findBest 133 = .ok (.iload 5, 2) := by decide +kernel
theorem dX4_findBest_135 : decode cX4_findBest 135 = .ok (.bipush 12, 2) := by decide +kernel
theorem dX4_findBest_137 : decode cX4_findBest 137 = .ok (.if_icmp .gt 27, 3) := by decide +kernel
theorem dX4_findBest_140 : decode cX4_findBest 140 = .ok (.aload_n 0, 1) := by decide +kernel
theorem dX4_findBest_141 : decode cX4_findBest 141 = .ok (.getfield 27, 3) := by decide +kernel
theorem dX4_findBest_144 : decode cX4_findBest 144 = .ok (.iload 4, 2) := by decide +kernel
theorem dX4_findBest_146 : decode cX4_findBest 146 = .ok (.iload 5, 2) := by decide +kernel
theorem dX4_findBest_148 : decode cX4_findBest 148 = .ok (.iadd, 1) := by decide +kernel
theorem dX4_findBest_149 : decode cX4_findBest 149 = .ok (.aload_n 0, 1) := by decide +kernel
theorem dX4_findBest_150 : decode cX4_findBest 150 = .ok (.getfield 23, 3) := by decide +kernel
theorem dX4_findBest_153 : decode cX4_findBest 153 = .ok (.sipush 1023, 3) := by decide +kernel
theorem dX4_findBest_156 : decode cX4_findBest 156 = .ok (.iaload, 1) := by decide +kernel
theorem dX4_findBest_157 : decode cX4_findBest 157 = .ok (.iastore, 1) := by decide +kernel
theorem dX4_findBest_158 : decode cX4_findBest 158 = .ok (.iinc 5 1, 3) := by decide +kernel
theorem dX4_findBest_161 : decode cX4_findBest 161 = .ok (.goto (-28), 3) := by decide +kernel
theorem dX4_findBest_164 : decode cX4_findBest 164 = .ok (.aload_n 0, 1) := by decide +kernel
theorem dX4_findBest_165 : decode cX4_findBest 165 = .ok (.getfield 30, 3) := by decide +kernel
theorem dX4_findBest_168 : decode cX4_findBest 168 = .ok (.iload_n 1, 1) := by decide +kernel
theorem dX4_findBest_169 : decode cX4_findBest 169 = .ok (.iconst 1, 1) := by decide +kernel
theorem dX4_findBest_170 : decode cX4_findBest 170 = .ok (.bastore, 1) := by decide +kernel
theorem dX4_findBest_171 : decode cX4_findBest 171 = .ok (.return_, 1) := by decide +kernel
theorem dX4_findShares_0 : decode cX4_findShares 0 = .ok (.aload_n 0, 1) := by decide +kernel
theorem dX4_findShares_1 : decode cX4_findShares 1 = .ok (.getfield 23, 3) := by decide +kernel
theorem dX4_findShares_4 : decode cX4_findShares 4 = .ok (.iconst 0, 1) := by decide +kernel
theorem dX4_findShares_5 : decode cX4_findShares 5 = .ok (.invokestatic 58, 3) := by decide +kernel
theorem dX4_findShares_8 : decode cX4_findShares 8 = .ok (.iconst 0, 1) := by decide +kernel
theorem dX4_findShares_9 : decode cX4_findShares 9 = .ok (.istore_n 2, 1) := by decide +kernel
theorem dX4_findShares_10 : decode cX4_findShares 10 = .ok (.iload_n 2, 1) := by decide +kernel
theorem dX4_findShares_11 : decode cX4_findShares 11 = .ok (.aload_n 0, 1) := by decide +kernel
theorem dX4_findShares_12 : decode cX4_findShares 12 = .ok (.getfield 9, 3) := by decide +kernel
theorem dX4_findShares_15 : decode cX4_findShares 15 = .ok (.getfield 64, 3) := by decide +kernel
theorem dX4_findShares_18 : decode cX4_findShares 18 = .ok (.if_icmp .ge 129, 3) := by decide +kernel
theorem dX4_findShares_21 : decode cX4_findShares 21 = .ok (.aload_n 0, 1) := by decide +kernel
theorem dX4_findShares_22 : decode cX4_findShares 22 = .ok (.getfield 9, 3) := by decide +kernel
theorem dX4_findShares_25 : decode cX4_findShares 25 = .ok (.getfield 70, 3) := by decide +kernel
theorem dX4_findShares_28 : decode cX4_findShares 28 = .ok (.iload_n 2, 1) := by decide +kernel
theorem dX4_findShares_29 : decode cX4_findShares 29 = .ok (.iaload, 1) := by decide +kernel
theorem dX4_findShares_30 : decode cX4_findShares 30 = .ok (.istore_n 3, 1) := by decide +kernel
theorem dX4_findShares_31 : decode cX4_findShares 31 = .ok (.aload_n 0, 1) := by decide +kernel
theorem dX4_findShares_32 : decode cX4_findShares 32 = .ok (.getfield 15, 3) := by decide +kernel
theorem dX4_findShares_35 : decode cX4_findShares 35 = .ok (.getfield 73, 3) := by decide +kernel
theorem dX4_findShares_38 : decode cX4_findShares 38 = .ok (.iload_n 1, 1) := by decide +kernel
theorem dX4_findShares_39 : decode cX4_findShares 39 = .ok (.iaload, 1) := by decide +kernel
theorem dX4_findShares_40 : decode cX4_findShares 40 = .ok (.iload_n 2, 1) := by decide +kernel
theorem dX4_findShares_41 : decode cX4_findShares 41 = .ok (.invokestatic 76, 3) := by decide +kernel
theorem dX4_findShares_44 : decode cX4_findShares 44 = .ok (.ifCond .eq 16, 3) := by decide +kernel
theorem dX4_findShares_47 : decode cX4_findShares 47 = .ok (.aload_n 0, 1) := by decide +kernel
theorem dX4_findShares_48 : decode cX4_findShares 48 = .ok (.getfield 23, 3) := by decide +kernel
theorem dX4_findShares_51 : decode cX4_findShares 51 = .ok (.iconst 0, 1) := by decide +kernel
theorem dX4_findShares_52 : decode cX4_findShares 52 = .ok (.dup2, 1) := by decide +kernel
theorem dX4_findShares_53 : decode cX4_findShares 53 = .ok (.iaload, 1) := by decide +kernel
theorem dX4_findShares_54 : decode cX4_findShares 54 = .ok (.iload_n 3, 1) := by decide +kernel
theorem dX4_findShares_55 : decode cX4_findShares 55 = .ok (.iadd, 1) := by decide +kernel
theorem dX4_findShares_56 : decode cX4_findShares 56 = .ok (.iastore, 1) := by decide +kernel
theorem dX4_findShares_57 : decode cX4_findShares 57 = .ok (.goto 84, 3) := by decide +kernel
theorem dX4_findShares_60 : decode cX4_findShares 60 = .ok (.aload_n 0, 1) := by decide +kernel
theorem dX4_findShares_61 : decode cX4_findShares 61 = .ok (.getfield 19, 3) := by decide +kernel
theorem dX4_findShares_64 : decode cX4_findShares 64 = .ok (.iload_n 2, 1) := by decide +kernel
theorem dX4_findShares_65 : decode cX4_findShares 65 = .ok (.invokevirtual 80, 3) := by decide +kernel
theorem dX4_findShares_68 : decode cX4_findShares 68 = .ok (.iload_n 2, 1) := by decide +kernel
theorem dX4_findShares_69 : decode cX4_findShares 69 = .ok (.if_icmp .ne 7, 3) := by decide +kernel
theorem dX4_findShares_72 : decode cX4_findShares 72 = .ok (.iload_n 3, 1) := by decide +kernel
theorem dX4_findShares_73 : decode cX4_findShares 73 = .ok (.goto 4, 3) := by decide +kernel
theorem dX4_findShares_76 : decode cX4_findShares 76 = .ok (.iconst 0, 1) := by decide +kernel
theorem dX4_findShares_77 : decode cX4_findShares 77 = .ok (.istore 4, 2) := by decide +kernel
theorem dX4_findShares_79 : decode cX4_findShares 79 = .ok (.aload_n 0, 1) := by decide +kernel
theorem dX4_findShares_80 : decode cX4_findShares 80 = .ok (.getfield 19, 3) := by decide +kernel
theorem dX4_findShares_83 : decode cX4_findShares 83 = .ok (.iload_n 1, 1) := by decide +kernel
theorem dX4_findShares_84 : decode cX4_findShares 84 = .ok (.iload_n 2, 1) := by decide +kernel
theorem dX4_findShares_85 : decode cX4_findShares 85 = .ok (.invokevirtual 85, 3) := by decide +kernel
theorem dX4_findShares_88 : decode cX4_findShares 88 = .ok (.iload_n 2, 1) := by decide +kernel
theorem dX4_findShares_89 : decode cX4_findShares 89 = .ok (.if_icmp .ne 7, 3) := by decide +kernel
theorem dX4_findShares_92 : decode cX4_findShares 92 = .ok (.iload_n 3, 1) := by decide +kernel
theorem dX4_findShares_93 : decode cX4_findShares 93 = .ok (.goto 4, 3) := by decide +kernel
theorem dX4_findShares_96 : decode cX4_findShares 96 = .ok (.iconst 0, 1) := by decide +kernel
theorem dX4_findShares_97 : decode cX4_findShares 97 = .ok (.istore 5, 2) := by decide +kernel
theorem dX4_findShares_99 : decode cX4_findShares 99 = .ok (.aload_n 0, 1) := by decide +kernel
theorem dX4_findShares_100 : decode cX4_findShares 100 = .ok (.getfield 23, 3) := by decide +kernel
theorem dX4_findShares_103 : decode cX4_findShares 103 = .ok (.iconst 1, 1) := by decide +kernel
theorem dX4_findShares_104 : decode cX4_findShares 104 = .ok (.aload_n 0, 1) := by decide +kernel
theorem dX4_findShares_105 : decode cX4_findShares 105 = .ok (.getfield 9, 3) := by decide +kernel
theorem dX4_findShares_108 : decode cX4_findShares 108 = .ok (.iload_n 2, 1) := by decide +kernel
theorem dX4_findShares_109 : decode cX4_findShares 109 = .ok (.invokevirtual 88, 3) := by decide +kernel
theorem dX4_findShares_112 : decode cX4_findShares 112 = .ok (.ishl, 1) := by decide +kernel
theorem dX4_findShares_113 : decode cX4_findShares 113 = .ok (.dup2, 1) := by decide +kernel
theorem dX4_findShares_114 : decode cX4_findShares 114 = .ok (.iaload, 1) := by decide +kernel
theorem dX4_findShares_115 : decode cX4_findShares 115 = .ok (.iload 4, 2) := by decide +kernel
theorem dX4_findShares_117 : decode cX4_findShares 117 = .ok (.iadd, 1) := by decide +kernel
theorem dX4_findShares_118 : decode cX4_findShares 118 = .ok (.iastore, 1) := by decide +kernel
theorem dX4_findShares_119 : decode cX4_findShares 119 = .ok (.aload_n 0, 1) := by decide +kernel
theorem dX4_findShares_120 : decode cX4_findShares 120 = .ok (.getfield 23, 3) := by decide +kernel
theorem dX4_findShares_123 : decode cX4_findShares 123 = .ok (.aload_n 0, 1) := by decide +kernel
theorem dX4_findShares_124 : decode cX4_findShares 124 = .ok (.getfield 9, 3) := by decide +kernel
theorem dX4_findShares_127 : decode cX4_findShares 127 = .ok (.getfield 91, 3) := by decide +kernel
theorem dX4_findShares_130 : decode cX4_findShares 130 = .ok (.iload_n 2, 1) := by decide +kernel
theorem dX4_findShares_131 : decode cX4_findShares 131 = .ok (.iaload, 1) := by decide +kernel
theorem dX4_findShares_132 : decode cX4_findShares 132 = .ok (.dup2, 1) := by decide +kernel
theorem dX4_findShares_133 : decode cX4_findShares 133 = .ok (.iaload, 1) := by decide +kernel
theorem dX4_findShares_134 : decode cX4_findShares 134 = .ok (.iload 5, 2) := by decide +kernel
theorem dX4_findShares_136 : decode cX4_findShares 136 = .ok (.iload 4, 2) := by decide +kernel
theorem dX4_findShares_138 : decode cX4_findShares 138 = .ok (.isub, 1) := by decide +kernel
theorem dX4_findShares_139 : decode cX4_findShares 139 = .ok (.iadd, 1) := by decide +kernel
theorem dX4_findShares_140 : decode cX4_findShares 140 = .ok (.iastore, 1) := by decide +kernel
theorem dX4_findShares_141 : decode cX4_findShares 141 = .ok (.iinc 2 1, 3) := by decide +kernel
theorem dX4_findShares_144 : decode cX4_findShares 144 = .ok (.goto (-134), 3) := by decide +kernel
theorem dX4_findShares_147 : decode cX4_findShares 147 = .ok (.aload_n 0, 1) := by decide +kernel
theorem dX4_findShares_148 : decode cX4_findShares 148 = .ok (.getfield 23, 3) := by decide +kernel
theorem dX4_findShares_151 : decode cX4_findShares 151 = .ok (.invokestatic 94, 3) := by decide +kernel
theorem dX4_findShares_154 : decode cX4_findShares 154 = .ok (.return_, 1) := by decide +kernel
theorem dX4_split_0 : decode cX4_split 0 = .ok (.iconst 0, 1) := by decide +kernel
theorem dX4_split_1 : decode cX4_split 1 = .ok (.istore_n 2, 1) := by decide +kernel
theorem dX4_split_2 : decode cX4_split 2 = .ok (.iload_n 2, 1) := by decide +kernel
theorem dX4_split_3 : decode cX4_split 3 = .ok (.iconst 4, 1) := by decide +kernel
theorem dX4_split_4 : decode cX4_split 4 = .ok (.if_icmp .ge 14, 3) := by decide +kernel
theorem dX4_split_7 : decode cX4_split 7 = .ok (.aload_n 0, 1) := by decide +kernel
theorem dX4_split_8 : decode cX4_split 8 = .ok (.iload_n 2, 1) := by decide +kernel
theorem dX4_split_9 : decode cX4_split 9 = .ok (.invokevirtual 98, 3) := by decide +kernel
theorem dX4_split_12 : decode cX4_split 12 = .ok (.iinc 2 1, 3) := by decide +kernel
theorem dX4_split_15 : decode cX4_split 15 = .ok (.goto (-13), 3) := by decide +kernel
theorem dX4_split_18 : decode cX4_split 18 = .ok (.aload_n 0, 1) := by decide +kernel
theorem dX4_split_19 : decode cX4_split 19 = .ok (.iconst (-1), 1) := by decide +kernel
theorem dX4_split_20 : decode cX4_split 20 = .ok (.putfield 101, 3) := by decide +kernel
theorem dX4_split_23 : decode cX4_split 23 = .ok (.iconst 0, 1) := by decide +kernel
theorem dX4_split_24 : decode cX4_split 24 = .ok (.istore_n 2, 1) := by decide +kernel
theorem dX4_split_25 : decode cX4_split 25 = .ok (.iload_n 2, 1) := by decide +kernel
theorem dX4_split_26 : decode cX4_split 26 = .ok (.iload_n 1, 1) := by decide +kernel
theorem dX4_split_27 : decode cX4_split 27 = .ok (.if_icmp .gt 59, 3) := by decide +kernel
theorem dX4_split_30 : decode cX4_split 30 = .ok (.iconst 0, 1) := by decide +kernel
theorem dX4_split_31 : decode cX4_split 31 = .ok (.istore_n 3, 1) := by decide +kernel
theorem dX4_split_32 : decode cX4_split 32 = .ok (.iload_n 2, 1) := by decide +kernel
theorem dX4_split_33 : decode cX4_split 33 = .ok (.iload_n 3, 1) := by decide +kernel
theorem dX4_split_34 : decode cX4_split 34 = .ok (.iadd, 1) := by decide +kernel
theorem dX4_split_35 : decode cX4_split 35 = .ok (.iload_n 1, 1) := by decide +kernel
theorem dX4_split_36 : decode cX4_split 36 = .ok (.if_icmp .gt 44, 3) := by decide +kernel
theorem dX4_split_39 : decode cX4_split 39 = .ok (.iconst 0, 1) := by decide +kernel
theorem dX4_split_40 : decode cX4_split 40 = .ok (.istore 4, 2) := by decide +kernel
theorem dX4_split_42 : decode cX4_split 42 = .ok (.iload_n 2, 1) := by decide +kernel
theorem dX4_split_43 : decode cX4_split 43 = .ok (.iload_n 3, 1) := by decide +kernel
theorem dX4_split_44 : decode cX4_split 44 = .ok (.iadd, 1) := by decide +kernel
theorem dX4_split_45 : decode cX4_split 45 = .ok (.iload 4, 2) := by decide +kernel
theorem dX4_split_47 : decode cX4_split 47 = .ok (.iadd, 1) := by decide +kernel
theorem dX4_split_48 : decode cX4_split 48 = .ok (.iload_n 1, 1) := by decide +kernel
theorem dX4_split_49 : decode cX4_split 49 = .ok (.if_icmp .gt 25, 3) := by decide +kernel
theorem dX4_split_52 : decode cX4_split 52 = .ok (.aload_n 0, 1) := by decide +kernel
theorem dX4_split_53 : decode cX4_split 53 = .ok (.iload_n 2, 1) := by decide +kernel
theorem dX4_split_54 : decode cX4_split 54 = .ok (.iload_n 3, 1) := by decide +kernel
theorem dX4_split_55 : decode cX4_split 55 = .ok (.iload 4, 2) := by decide +kernel
theorem dX4_split_57 : decode cX4_split 57 = .ok (.iload_n 1, 1) := by decide +kernel
theorem dX4_split_58 : decode cX4_split 58 = .ok (.iload_n 2, 1) := by decide +kernel
theorem dX4_split_59 : decode cX4_split 59 = .ok (.isub, 1) := by decide +kernel
theorem dX4_split_60 : decode cX4_split 60 = .ok (.iload_n 3, 1) := by decide +kernel
theorem dX4_split_61 : decode cX4_split 61 = .ok (.isub, 1) := by decide +kernel
theorem dX4_split_62 : decode cX4_split 62 = .ok (.iload 4, 2) := by decide +kernel
theorem dX4_split_64 : decode cX4_split 64 = .ok (.isub, 1) := by decide +kernel
theorem dX4_split_65 : decode cX4_split 65 = .ok (.invokevirtual 104, 3) := by decide +kernel
theorem dX4_split_68 : decode cX4_split 68 = .ok (.iinc 4 1, 3) := by decide +kernel
theorem dX4_split_71 : decode cX4_split 71 = .ok (.goto (-29), 3) := by decide +kernel
theorem dX4_split_74 : decode cX4_split 74 = .ok (.iinc 3 1, 3) := by decide +kernel
theorem dX4_split_77 : decode cX4_split 77 = .ok (.goto (-45), 3) := by decide +kernel
theorem dX4_split_80 : decode cX4_split 80 = .ok (.iinc 2 1, 3) := by decide +kernel
theorem dX4_split_83 : decode cX4_split 83 = .ok (.goto (-58), 3) := by decide +kernel
theorem dX4_split_86 : decode cX4_split 86 = .ok (.return_, 1) := by decide +kernel
theorem dX4_trySplit_0 : decode cX4_trySplit 0 = .ok (.aload_n 0, 1) := by decide +kernel
theorem dX4_trySplit_1 : decode cX4_trySplit 1 = .ok (.iconst 0, 1) := by decide +kernel
theorem dX4_trySplit_2 : decode cX4_trySplit 2 = .ok (.iload_n 1, 1) := by decide +kernel
theorem dX4_trySplit_3 : decode cX4_trySplit 3 = .ok (.invokevirtual 108, 3) := by decide +kernel
theorem dX4_trySplit_6 : decode cX4_trySplit 6 = .ok (.aload_n 0, 1) := by decide +kernel
theorem dX4_trySplit_7 : decode cX4_trySplit 7 = .ok (.iconst 1, 1) := by decide +kernel
theorem dX4_trySplit_8 : decode cX4_trySplit 8 = .ok (.iload_n 2, 1) := by decide +kernel
theorem dX4_trySplit_9 : decode cX4_trySplit 9 = .ok (.invokevirtual 108, 3) := by decide +kernel
theorem dX4_trySplit_12 : decode cX4_trySplit 12 = .ok (.iadd, 1) := by decide +kernel
theorem dX4_trySplit_13 : decode cX4_trySplit 13 = .ok (.aload_n 0, 1) := by decide +kernel
theorem dX4_trySplit_14 : decode cX4_trySplit 14 = .ok (.iconst 2, 1) := by decide +kernel
theorem dX4_trySplit_15 : decode cX4_trySplit 15 = .ok (.iload_n 3, 1) := by decide +kernel
theorem dX4_trySplit_16 : decode cX4_trySplit 16 = .ok (.invokevirtual 108, 3) := by decide +kernel
theorem dX4_trySplit_19 : decode cX4_trySplit 19 = .ok (.iadd, 1) := by decide +kernel
theorem dX4_trySplit_20 : decode cX4_trySplit 20 = .ok (.aload_n 0, 1) := by decide +kernel
theorem dX4_trySplit_21 : decode cX4_trySplit 21 = .ok (.iconst 3, 1) := by decide +kernel
theorem dX4_trySplit_22 : decode cX4_trySplit 22 = .ok (.iload 4, 2) := by decide +kernel
theorem dX4_trySplit_24 : decode cX4_trySplit 24 = .ok (.invokevirtual 108, 3) := by decide +kernel
theorem dX4_trySplit_27 : decode cX4_trySplit 27 = .ok (.iadd, 1) := by decide +kernel
theorem dX4_trySplit_28 : decode cX4_trySplit 28 = .ok (.istore 5, 2) := by decide +kernel
theorem dX4_trySplit_30 : decode cX4_trySplit 30 = .ok (.iload 5, 2) := by decide +kernel
theorem dX4_trySplit_32 : decode cX4_trySplit 32 = .ok (.aload_n 0, 1) := by decide +kernel
theorem dX4_trySplit_33 : decode cX4_trySplit 33 = .ok (.getfield 101, 3) := by decide +kernel
theorem dX4_trySplit_36 : decode cX4_trySplit 36 = .ok (.if_icmp .le 38, 3) := by decide +kernel
theorem dX4_trySplit_39 : decode cX4_trySplit 39 = .ok (.aload_n 0, 1) := by decide +kernel
theorem dX4_trySplit_40 : decode cX4_trySplit 40 = .ok (.iload 5, 2) := by decide +kernel
theorem dX4_trySplit_42 : decode cX4_trySplit 42 = .ok (.putfield 101, 3) := by decide +kernel
theorem dX4_trySplit_45 : decode cX4_trySplit 45 = .ok (.aload_n 0, 1) := by decide +kernel
theorem dX4_trySplit_46 : decode cX4_trySplit 46 = .ok (.getfield 34, 3) := by decide +kernel
theorem dX4_trySplit_49 : decode cX4_trySplit 49 = .ok (.iconst 0, 1) := by decide +kernel
theorem dX4_trySplit_50 : decode cX4_trySplit 50 = .ok (.iload_n 1, 1) := by decide +kernel
theorem dX4_trySplit_51 : decode cX4_trySplit 51 = .ok (.iastore, 1) := by decide +kernel
theorem dX4_trySplit_52 : decode cX4_trySplit 52 = .ok (.aload_n 0, 1) := by decide +kernel
theorem dX4_trySplit_53 : decode cX4_trySplit 53 = .ok (.getfield 34, 3) := by decide +kernel
theorem dX4_trySplit_56 : decode cX4_trySplit 56 = .ok (.iconst 1, 1) := by decide +kernel
theorem dX4_trySplit_57 : decode cX4_trySplit 57 = .ok (.iload_n 2, 1) := by decide +kernel
theorem dX4_trySplit_58 : decode cX4_trySplit 58 = .ok (.iastore, 1) := by decide +kernel
theorem dX4_trySplit_59 : decode cX4_trySplit 59 = .ok (.aload_n 0, 1) := by decide +kernel
theorem dX4_trySplit_60 : decode cX4_trySplit 60 = .ok (.getfield 34, 3) := by decide +kernel
theorem dX4_trySplit_63 : decode cX4_trySplit 63 = .ok (.iconst 2, 1) := by decide +kernel
theorem dX4_trySplit_64 : decode cX4_trySplit 64 = .ok (.iload_n 3, 1) := by decide +kernel
theorem dX4_trySplit_65 : decode cX4_trySplit 65 = .ok (.iastore, 1) := by decide +kernel
theorem dX4_trySplit_66 : decode cX4_trySplit 66 = .ok (.aload_n 0, 1) := by decide +kernel
theorem dX4_trySplit_67 : decode cX4_trySplit 67 = .ok (.getfield 34, 3) := by decide +kernel
theorem dX4_trySplit_70 : decode cX4_trySplit 70 = .ok (.iconst 3, 1) := by decide +kernel
theorem dX4_trySplit_71 : decode cX4_trySplit 71 = .ok (.iload 4, 2) := by decide +kernel
theorem dX4_trySplit_73 : decode cX4_trySplit 73 = .ok (.iastore, 1) := by decide +kernel
theorem dX4_trySplit_74 : decode cX4_trySplit 74 = .ok (.return_, 1) := by decide +kernel
theorem dX5_init_0 : decode cX5_init 0 = .ok (.aload_n 0, 1) := by decide +kernel
theorem dX5_init_1 : decode cX5_init 1 = .ok (.invokespecial 3, 3) := by decide +kernel
theorem dX5_init_4 : decode cX5_init 4 = .ok (.aload_n 0, 1) := by decide +kernel
theorem dX5_init_5 : decode cX5_init 5 = .ok (.bipush 14, 2) := by decide +kernel
theorem dX5_init_7 : decode cX5_init 7 = .ok (.newarray .int, 2) := by decide +kernel
theorem dX5_init_9 : decode cX5_init 9 = .ok (.putfield 9, 3) := by decide +kernel
theorem dX5_init_12 : decode cX5_init 12 = .ok (.return_, 1) := by decide +kernel
theorem dX5_findFault_0 : decode cX5_findFault 0 = .ok (.iconst 0, 1) := by decide +kernel
theorem dX5_findFault_1 : decode cX5_findFault 1 = .ok (.istore_n 1, 1) := by decide +kernel
theorem dX5_findFault_2 : decode cX5_findFault 2 = .ok (.iconst 0, 1) := by decide +kernel
theorem dX5_findFault_3 : decode cX5_findFault 3 = .ok (.istore_n 2, 1) := by decide +kernel
theorem dX5_findFault_4 : decode cX5_findFault 4 = .ok (.iconst 0, 1) := by decide +kernel
theorem dX5_findFault_5 : decode cX5_findFault 5 = .ok (.istore_n 3, 1) := by decide +kernel
theorem dX5_findFault_6 : decode cX5_findFault 6 = .ok (.iconst 0, 1) := by decide +kernel
theorem dX5_findFault_7 : decode cX5_findFault 7 = .ok (.istore 4, 2) := by decide +kernel
theorem dX5_findFault_9 : decode cX5_findFault 9 = .ok (.iload 4, 2) := by decide +kernel
theorem dX5_findFault_11 : decode cX5_findFault 11 = .ok (.aload_n 0, 1) := by decide +kernel
theorem dX5_findFault_12 : decode cX5_findFault 12 = .ok (.getfield 15, 3) := by decide +kernel
theorem dX5_findFault_15 : decode cX5_findFault 15 = .ok (.if_icmp .ge 91, 3) := by decide +kernel
theorem dX5_findFault_18 : decode cX5_findFault 18 = .ok (.aload_n 0, 1) := by decide +kernel
theorem dX5_findFault_19 : decode cX5_findFault 19 = .ok (.getfield 9, 3) := by decide +kernel
theorem dX5_findFault_22 : decode cX5_findFault 22 = .ok (.iload 4, 2) := by decide +kernel
theorem dX5_findFault_24 : decode cX5_findFault 24 = .ok (.iaload, 1) := by decide +kernel
theorem dX5_findFault_25 : decode cX5_findFault 25 = .ok (.istore 5, 2) := by decide +kernel
theorem dX5_findFault_27 : decode cX5_findFault 27 = .ok (.iload_n 3, 1) := by decide +kernel
theorem dX5_findFault_28 : decode cX5_findFault 28 = .ok (.ifCond .eq 31, 3) := by decide +kernel
theorem dX5_findFault_31 : decode cX5_findFault 31 = .ok (.iload 5, 2) := by decide +kernel
theorem dX5_findFault_33 : decode cX5_findFault 33 = .ok (.bipush 48, 2) := by decide +kernel
theorem dX5_findFault_35 : decode cX5_findFault 35 = .ok (.if_icmp .lt 15, 3) := by decide +kernel
theorem dX5_findFault_38 : decode cX5_findFault 38 = .ok (.iload 5, 2) := by decide +kernel
theorem dX5_findFault_40 : decode cX5_findFault 40 = .ok (.bipush 57, 2) := by decide +kernel
theorem dX5_findFault_42 : decode cX5_findFault 42 = .ok (.if_icmp .gt 8, 3) := by decide +kernel
theorem dX5_findFault_45 : decode cX5_findFault 45 = .ok (.iload_n 2, 1) := by decide +kernel
theorem dX5_findFault_46 : decode cX5_findFault 46 = .ok (.iload_n 1, 1) := by decide +kernel
theorem dX5_findFault_47 : decode cX5_findFault 47 = .ok (.if_icmp .ne 6, 3) := by decide +kernel
theorem dX5_findFault_50 : decode cX5_findFault 50 = .ok (.iload 4, 2) := by decide +kernel
theorem dX5_findFault_52 : decode cX5_findFault 52 = .ok (.ireturn, 1) := by decide +kernel
theorem dX5_findFault_53 : decode cX5_findFault 53 = .ok (.iinc 2 1, 3) := by decide +kernel
theorem dX5_findFault_56 : decode cX5_findFault 56 = .ok (.goto 44, 3) := by decide +kernel
theorem dX5_findFault_59 : decode cX5_findFault 59 = .ok (.iload 5, 2) := by decide +kernel
theorem dX5_findFault_61 : decode cX5_findFault 61 = .ok (.bipush 61, 2) := by decide +kernel
theorem dX5_findFault_63 : decode cX5_findFault 63 = .ok (.if_icmp .ne 12, 3) := by decide +kernel
theorem dX5_findFault_66 : decode cX5_findFault 66 = .ok (.iload_n 1, 1) := by decide +kernel
theorem dX5_findFault_67 : decode cX5_findFault 67 = .ok (.ifCond .le 8, 3) := by decide +kernel
theorem dX5_findFault_70 : decode cX5_findFault 70 = .ok (.iconst 1, 1) := by decide +kernel
theorem dX5_findFault_71 : decode cX5_findFault 71 = .ok (.istore_n 3, 1) := by decide +kernel
theorem dX5_findFault_72 : decode cX5_findFault 72 = .ok (.goto 28, 3) := by decide +kernel
theorem dX5_findFault_75 : decode cX5_findFault 75 = .ok (.iload 5, 2) := by decide +kernel
theorem dX5_findFault_77 : decode cX5_findFault 77 = .ok (.bipush 97, 2) := by decide +kernel
theorem dX5_findFault_79 : decode cX5_findFault 79 = .ok (.if_icmp .lt 15, 3) := by decide +kernel
theorem dX5_findFault_82 : decode cX5_findFault 82 = .ok (.iload 5, 2) := by decide +kernel
theorem dX5_findFault_84 : decode cX5_findFault 84 = .ok (.bipush 106, 2) := by decide +kernel
theorem dX5_findFault_86 : decode cX5_findFault 86 = .ok (.if_icmp .gt 8, 3) := by decide +kernel
theorem dX5_findFault_89 : decode cX5_findFault 89 = .ok (.iload_n 1, 1) := by decide +kernel
theorem dX5_findFault_90 : decode cX5_findFault 90 = .ok (.iconst 5, 1) := by decide +kernel
theorem dX5_findFault_91 : decode cX5_findFault 91 = .ok (.if_icmp .ne 6, 3) := by decide +kernel
theorem dX5_findFault_94 : decode cX5_findFault 94 = .ok (.iload 4, 2) := by decide +kernel
theorem dX5_findFault_96 : decode cX5_findFault 96 = .ok (.ireturn, 1) := by decide +kernel
theorem dX5_findFault_97 : decode cX5_findFault 97 = .ok (.iinc 1 1, 3) := by decide +kernel
theorem dX5_findFault_100 : decode cX5_findFault 100 = .ok (.iinc 4 1, 3) := by decide +kernel
theorem dX5_findFault_103 : decode cX5_findFault 103 = .ok (.goto (-94), 3) := by decide +kernel
theorem dX5_findFault_106 : decode cX5_findFault 106 = .ok (.iload_n 3, 1) := by decide +kernel
theorem dX5_findFault_107 : decode cX5_findFault 107 = .ok (.ifCond .eq 13, 3) := by decide +kernel
theorem dX5_findFault_110 : decode cX5_findFault 110 = .ok (.iload_n 2, 1) := by decide +kernel
theorem dX5_findFault_111 : decode cX5_findFault 111 = .ok (.iload_n 1, 1) := by decide +kernel
theorem dX5_findFault_112 : decode cX5_findFault 112 = .ok (.if_icmp .ne 8, 3) := by decide +kernel
theorem dX5_findFault_115 : decode cX5_findFault 115 = .ok (.bipush (-6), 2) := by decide +kernel
theorem dX5_findFault_117 : decode cX5_findFault 117 = .ok (.goto 7, 3) := by decide +kernel
theorem dX5_findFault_120 : decode cX5_findFault 120 = .ok (.aload_n 0, 1) := by decide +kernel
theorem dX5_findFault_121 : decode cX5_findFault 121 = .ok (.getfield 15, 3) := by decide +kernel
theorem dX5_findFault_124 : decode cX5_findFault 124 = .ok (.ireturn, 1) := by decide +kernel
theorem dX5_letterCount_0 : decode cX5_letterCount 0 = .ok (.aload_n 0, 1) := by decide +kernel
theorem dX5_letterCount_1 : decode cX5_letterCount 1 = .ok (.getfield 15, 3) := by decide +kernel
theorem dX5_letterCount_4 : decode cX5_letterCount 4 = .ok (.iconst 2, 1) := by decide +kernel
theorem dX5_letterCount_5 : decode cX5_letterCount 5 = .ok (.idiv, 1) := by decide +kernel
theorem dX5_letterCount_6 : decode cX5_letterCount 6 = .ok (.ireturn, 1) := by decide +kernel
theorem dX5_letterAt_0 : decode cX5_letterAt 0 = .ok (.aload_n 0, 1) := by decide +kernel
theorem dX5_letterAt_1 : decode cX5_letterAt 1 = .ok (.getfield 9, 3) := by decide +kernel
theorem dX5_letterAt_4 : decode cX5_letterAt 4 = .ok (.iload_n 1, 1) := by decide +kernel
theorem dX5_letterAt_5 : decode cX5_letterAt 5 = .ok (.iaload, 1) := by decide +kernel
theorem dX5_letterAt_6 : decode cX5_letterAt 6 = .ok (.bipush 97, 2) := by decide +kernel
theorem dX5_letterAt_8 : decode cX5_letterAt 8 = .ok (.isub, 1) := by decide +kernel
theorem dX5_letterAt_9 : decode cX5_letterAt 9 = .ok (.ireturn, 1) := by decide +kernel
theorem dX5_digitAt_0 : decode cX5_digitAt 0 = .ok (.aload_n 0, 1) := by decide +kernel
theorem dX5_digitAt_1 : decode cX5_digitAt 1 = .ok (.getfield 9, 3) := by decide +kernel
theorem dX5_digitAt_4 : decode cX5_digitAt 4 = .ok (.aload_n 0, 1) := by decide +kernel
theorem dX5_digitAt_5 : decode cX5_digitAt 5 = .ok (.invokevirtual 19, 3) := by decide +kernel
theorem dX5_digitAt_8 : decode cX5_digitAt 8 = .ok (.iconst 1, 1) := by decide +kernel
theorem dX5_digitAt_9 : decode cX5_digitAt 9 = .ok (.iadd, 1) := by decide +kernel
theorem dX5_digitAt_10 : decode cX5_digitAt 10 = .ok (.iload_n 1, 1) := by decide +kernel
theorem dX5_digitAt_11 : decode cX5_digitAt 11 = .ok (.iadd, 1) := by decide +kernel
theorem dX5_digitAt_12 : decode cX5_digitAt 12 = .ok (.iaload, 1) := by decide +kernel
theorem dX5_digitAt_13 : decode cX5_digitAt 13 = .ok (.bipush 48, 2) := by decide +kernel
theorem dX5_digitAt_15 : decode cX5_digitAt 15 = .ok (.isub, 1) := by decide +kernel
theorem dX5_digitAt_16 : decode cX5_digitAt 16 = .ok (.ireturn, 1) := by decide +kernel
theorem dX6_init_0 : decode cX6_init 0 = .ok (.aload_n 0, 1) := by decide +kernel
theorem dX6_init_1 : decode cX6_init 1 = .ok (.invokespecial 3, 3) := by decide +kernel
theorem dX6_init_4 : decode cX6_init 4 = .ok (.aload_n 0, 1) := by decide +kernel
theorem dX6_init_5 : decode cX6_init 5 = .ok (.aload_n 1, 1) := by decide +kernel
theorem dX6_init_6 : decode cX6_init 6 = .ok (.putfield 9, 3) := by decide +kernel
theorem dX6_init_9 : decode cX6_init 9 = .ok (.aload_n 0, 1) := by decide +kernel
theorem dX6_init_10 : decode cX6_init 10 = .ok (.aload_n 2, 1) := by decide +kernel
theorem dX6_init_11 : decode cX6_init 11 = .ok (.putfield 15, 3) := by decide +kernel
theorem dX6_init_14 : decode cX6_init 14 = .ok (.aload_n 0, 1) := by decide +kernel
theorem dX6_init_15 : decode cX6_init 15 = .ok (.aload_n 3, 1) := by decide +kernel
theorem dX6_init_16 : decode cX6_init 16 = .ok (.putfield 19, 3) := by decide +kernel
theorem dX6_init_19 : decode cX6_init 19 = .ok (.aload_n 0, 1) := by decide +kernel
theorem dX6_init_20 : decode cX6_init 20 = .ok (.iconst 5, 1) := by decide +kernel
theorem dX6_init_21 : decode cX6_init 21 = .ok (.newarray .int, 2) := by decide +kernel
theorem dX6_init_23 : decode cX6_init 23 = .ok (.putfield 23, 3) := by decide +kernel
theorem dX6_init_26 : decode cX6_init 26 = .ok (.return_, 1) := by decide +kernel
theorem dX6_wayOf_0 : decode cX6_wayOf 0 = .ok (.aload_n 0, 1) := by decide +kernel
theorem dX6_wayOf_1 : decode cX6_wayOf 1 = .ok (.getfield 19, 3) := by decide +kernel
theorem dX6_wayOf_4 : decode cX6_wayOf 4 = .ok (.getfield 27, 3) := by decide +kernel
theorem dX6_wayOf_7 : decode cX6_wayOf 7 = .ok (.iload_n 1, 1) := by decide +kernel
theorem dX6_wayOf_8 : decode cX6_wayOf 8 = .ok (.iaload, 1) := by decide +kernel
theorem dX6_wayOf_9 : decode cX6_wayOf 9 = .ok (.istore_n 3, 1) := by decide +kernel
theorem dX6_wayOf_10 : decode cX6_wayOf 10 = .ok (.aload_n 0, 1) := by decide +kernel
theorem dX6_wayOf_11 : decode cX6_wayOf 11 = .ok (.getfield 19, 3) := by decide +kernel
theorem dX6_wayOf_14 : decode cX6_wayOf 14 = .ok (.getfield 32, 3) := by decide +kernel
theorem dX6_wayOf_17 : decode cX6_wayOf 17 = .ok (.iload_n 1, 1) := by decide +kernel
theorem dX6_wayOf_18 : decode cX6_wayOf 18 = .ok (.iaload, 1) := by decide +kernel
theorem dX6_wayOf_19 : decode cX6_wayOf 19 = .ok (.iload_n 2, 1) := by decide +kernel
theorem dX6_wayOf_20 : decode cX6_wayOf 20 = .ok (.invokestatic 35, 3) := by decide +kernel
theorem dX6_wayOf_23 : decode cX6_wayOf 23 = .ok (.ifCond .eq 5, 3) := by decide +kernel
theorem dX6_wayOf_26 : decode cX6_wayOf 26 = .ok (.iconst 0, 1) := by decide +kernel
theorem dX6_wayOf_27 : decode cX6_wayOf 27 = .ok (.ireturn, 1) := by decide +kernel
theorem dX6_wayOf_28 : decode cX6_wayOf 28 = .ok (.aload_n 0, 1) := by decide +kernel
theorem dX6_wayOf_29 : decode cX6_wayOf 29 = .ok (.getfield 9, 3) := by decide +kernel
theorem dX6_wayOf_32 : decode cX6_wayOf 32 = .ok (.getfield 39, 3) := by decide +kernel
theorem dX6_wayOf_35 : decode cX6_wayOf 35 = .ok (.iload_n 2, 1) := by decide +kernel
theorem dX6_wayOf_36 : decode cX6_wayOf 36 = .ok (.iaload, 1) := by decide +kernel
theorem dX6_wayOf_37 : decode cX6_wayOf 37 = .ok (.iload_n 3, 1) := by decide +kernel
theorem dX6_wayOf_38 : decode cX6_wayOf 38 = .ok (.iconst (-1), 1) := by decide +kernel
theorem dX6_wayOf_39 : decode cX6_wayOf 39 = .ok (.ixor, 1) := by decide +kernel
theorem dX6_wayOf_40 : decode cX6_wayOf 40 = .ok (.iand, 1) := by decide +kernel
theorem dX6_wayOf_41 : decode cX6_wayOf 41 = .ok (.ifCond .ne 5, 3) := by decide +kernel
theorem dX6_wayOf_44 : decode cX6_wayOf 44 = .ok (.iconst 1, 1) := by decide +kernel
theorem dX6_wayOf_45 : decode cX6_wayOf 45 = .ok (.ireturn, 1) := by decide +kernel
theorem dX6_wayOf_46 : decode cX6_wayOf 46 = .ok (.iload_n 3, 1) := by decide +kernel
theorem dX6_wayOf_47 : decode cX6_wayOf 47 = .ok (.aload_n 0, 1) := by decide +kernel
theorem dX6_wayOf_48 : decode cX6_wayOf 48 = .ok (.getfield 9, 3) := by decide +kernel
theorem dX6_wayOf_51 : decode cX6_wayOf 51 = .ok (.iload_n 2, 1) := by decide +kernel
theorem dX6_wayOf_52 : decode cX6_wayOf 52 = .ok (.invokevirtual 44, 3) := by decide +kernel
theorem dX6_wayOf_55 : decode cX6_wayOf 55 = .ok (.invokestatic 35, 3) := by decide +kernel
theorem dX6_wayOf_58 : decode cX6_wayOf 58 = .ok (.ifCond .eq 7, 3) := by decide +kernel
theorem dX6_wayOf_61 : decode cX6_wayOf 61 = .ok (.iconst 2, 1) := by decide +kernel
theorem dX6_wayOf_62 : decode cX6_wayOf 62 = .ok (.goto 4, 3) := by decide +kernel
theorem dX6_wayOf_65 : decode cX6_wayOf 65 = .ok (.iconst 3, 1) := by decide +kernel
theorem dX6_wayOf_66 : decode cX6_wayOf 66 = .ok (.ireturn, 1) := by decide +kernel
theorem dX6_readAs_0 : decode cX6_readAs 0 = .ok (.aload_n 0, 1) := by decide +kernel
theorem dX6_readAs_1 : decode cX6_readAs 1 = .ok (.iload_n 1, 1) := by decide +kernel
theorem dX6_readAs_2 : decode cX6_readAs 2 = .ok (.iload_n 2, 1) := by decide +kernel
theorem dX6_readAs_3 : decode cX6_readAs 3 = .ok (.invokevirtual 48, 3) := by decide +kernel
theorem dX6_readAs_6 : decode cX6_readAs 6 = .ok (.tableswitch 41 0 2 #[26, 28, 35], 26) := by decide +kernel
theorem dX6_readAs_32 : decode cX6_readAs 32 = .ok (.iload_n 2, 1) := by decide +kernel
theorem dX6_readAs_33 : decode cX6_readAs 33 = .ok (.ireturn, 1) := by decide +kernel
theorem dX6_readAs_34 : decode cX6_readAs 34 = .ok (.aload_n 0, 1) := by decide +kernel
theorem dX6_readAs_35 : decode cX6_readAs 35 = .ok (.iload_n 1, 1) := by decide +kernel
theorem dX6_readAs_36 : decode cX6_readAs 36 = .ok (.iload_n 2, 1) := by decide +kernel
theorem dX6_readAs_37 : decode cX6_readAs 37 = .ok (.invokevirtual 52, 3) := by decide +kernel
theorem dX6_readAs_40 : decode cX6_readAs 40 = .ok (.ireturn, 1) := by decide +kernel
theorem dX6_readAs_41 : decode cX6_readAs 41 = .ok (.aload_n 0, 1) := by decide +kernel
theorem dX6_readAs_42 : decode cX6_readAs 42 = .ok (.iload_n 2, 1) := by decide +kernel
theorem dX6_readAs_43 : decode cX6_readAs 43 = .ok (.invokevirtual 55, 3) := by decide +kernel
theorem dX6_readAs_46 : decode cX6_readAs 46 = .ok (.ireturn, 1) := by decide +kernel
theorem dX6_readAs_47 : decode cX6_readAs 47 = .ok (.bipush (-6), 2) := by decide +kernel
theorem dX6_readAs_49 : decode cX6_readAs 49 = .ok (.ireturn, 1) := by decide +kernel
theorem dX6_guessedAs_0 : decode cX6_guessedAs 0 = .ok (.aload_n 0, 1) := by decide +kernel
theorem dX6_guessedAs_1 : decode cX6_guessedAs 1 = .ok (.getfield 15, 3) := by decide +kernel
theorem dX6_guessedAs_4 : decode cX6_guessedAs 4 = .ok (.getfield 58, 3) := by decide +kernel
theorem dX6_guessedAs_7 : decode cX6_guessedAs 7 = .ok (.aload_n 0, 1) := by decide +kernel
theorem dX6_guessedAs_8 : decode cX6_guessedAs 8 = .ok (.getfield 9, 3) := by decide +kernel
theorem dX6_guessedAs_11 : decode cX6_guessedAs 11 = .ok (.iload_n 1, 1) := by decide +kernel
theorem dX6_guessedAs_12 : decode cX6_guessedAs 12 = .ok (.invokevirtual 44, 3) := by decide +kernel
theorem dX6_guessedAs_15 : decode cX6_guessedAs 15 = .ok (.iaload, 1) := by decide +kernel
theorem dX6_guessedAs_16 : decode cX6_guessedAs 16 = .ok (.ireturn, 1) := by decide +kernel
theorem dX6_soundedAs_0 : decode cX6_soundedAs 0 = .ok (.aload_n 0, 1) := by decide +kernel
theorem dX6_soundedAs_1 : decode cX6_soundedAs 1 = .ok (.getfield 9, 3) := by decide +kernel
theorem dX6_soundedAs_4 : decode cX6_soundedAs 4 = .ok (.getfield 63, 3) := by decide +kernel
theorem dX6_soundedAs_7 : decode cX6_soundedAs 7 = .ok (.iload_n 2, 1) := by decide +kernel
theorem dX6_soundedAs_8 : decode cX6_soundedAs 8 = .ok (.iaload, 1) := by decide +kernel
theorem dX6_soundedAs_9 : decode cX6_soundedAs 9 = .ok (.istore_n 3, 1) := by decide +kernel
theorem dX6_soundedAs_10 : decode cX6_soundedAs 10 = .ok (.iconst 0, 1) := by decide +kernel
theorem dX6_soundedAs_11 : decode cX6_soundedAs 11 = .ok (.istore 4, 2) := by decide +kernel
theorem dX6_soundedAs_13 : decode cX6_soundedAs 13 = .ok (.iload 4, 2) := by decide +kernel
theorem dX6_soundedAs_15 : decode cX6_soundedAs 15 = .ok (.iload_n 3, 1) := by decide +kernel
theorem dX6_soundedAs_16 : decode cX6_soundedAs 16 = .ok (.if_icmp .ge 61, 3) := by decide +kernel
theorem dX6_soundedAs_19 : decode cX6_soundedAs 19 = .ok (.aload_n 0, 1) := by decide +kernel
theorem dX6_soundedAs_20 : decode cX6_soundedAs 20 = .ok (.getfield 19, 3) := by decide +kernel
theorem dX6_soundedAs_23 : decode cX6_soundedAs 23 = .ok (.iload_n 1, 1) := by decide +kernel
theorem dX6_soundedAs_24 : decode cX6_soundedAs 24 = .ok (.aload_n 0, 1) := by decide +kernel
theorem dX6_soundedAs_25 : decode cX6_soundedAs 25 = .ok (.getfield 9, 3) := by decide +kernel
theorem dX6_soundedAs_28 : decode cX6_soundedAs 28 = .ok (.iload_n 2, 1) := by decide +kernel
theorem dX6_soundedAs_29 : decode cX6_soundedAs 29 = .ok (.iload 4, 2) := by decide +kernel
theorem dX6_soundedAs_31 : decode cX6_soundedAs 31 = .ok (.invokevirtual 66, 3) := by decide +kernel
theorem dX6_soundedAs_34 : decode cX6_soundedAs 34 = .ok (.invokevirtual 69, 3) := by decide +kernel
theorem dX6_soundedAs_37 : decode cX6_soundedAs 37 = .ok (.istore 5, 2) := by decide +kernel
theorem dX6_soundedAs_39 : decode cX6_soundedAs 39 = .ok (.aload_n 0, 1) := by decide +kernel
theorem dX6_soundedAs_40 : decode cX6_soundedAs 40 = .ok (.getfield 23, 3) := by decide +kernel
theorem dX6_soundedAs_43 : decode cX6_soundedAs 43 = .ok (.iload 4, 2) := by decide +kernel
theorem dX6_soundedAs_45 : decode cX6_soundedAs 45 = .ok (.aload_n 0, 1) := by decide +kernel
theorem dX6_soundedAs_46 : decode cX6_soundedAs 46 = .ok (.getfield 15, 3) := by decide +kernel
theorem dX6_soundedAs_49 : decode cX6_soundedAs 49 = .ok (.getfield 72, 3) := by decide +kernel
theorem dX6_soundedAs_52 : decode cX6_soundedAs 52 = .ok (.iload 5, 2) := by decide +kernel
theorem dX6_soundedAs_54 : decode cX6_soundedAs 54 = .ok (.iaload, 1) := by decide +kernel
theorem dX6_soundedAs_55 : decode cX6_soundedAs 55 = .ok (.iastore, 1) := by decide +kernel
theorem dX6_soundedAs_56 : decode cX6_soundedAs 56 = .ok (.aload_n 0, 1) := by decide +kernel
theorem dX6_soundedAs_57 : decode cX6_soundedAs 57 = .ok (.getfield 23, 3) := by decide +kernel
theorem dX6_soundedAs_60 : decode cX6_soundedAs 60 = .ok (.iload 4, 2) := by decide +kernel
theorem dX6_soundedAs_62 : decode cX6_soundedAs 62 = .ok (.iaload, 1) := by decide +kernel
theorem dX6_soundedAs_63 : decode cX6_soundedAs 63 = .ok (.bipush (-6), 2) := by decide +kernel
theorem dX6_soundedAs_65 : decode cX6_soundedAs 65 = .ok (.if_icmp .ne 6, 3) := by decide +kernel
theorem dX6_soundedAs_68 : decode cX6_soundedAs 68 = .ok (.bipush (-6), 2) := by decide +kernel
theorem dX6_soundedAs_70 : decode cX6_soundedAs 70 = .ok (.ireturn, 1) := by decide +kernel
theorem dX6_soundedAs_71 : decode cX6_soundedAs 71 = .ok (.iinc 4 1, 3) := by decide +kernel
theorem dX6_soundedAs_74 : decode cX6_soundedAs 74 = .ok (.goto (-61), 3) := by decide +kernel
theorem dX6_soundedAs_77 : decode cX6_soundedAs 77 = .ok (.aload_n 0, 1) := by decide +kernel
theorem dX6_soundedAs_78 : decode cX6_soundedAs 78 = .ok (.iload_n 2, 1) := by decide +kernel
theorem dX6_soundedAs_79 : decode cX6_soundedAs 79 = .ok (.iload_n 3, 1) := by decide +kernel
theorem dX6_soundedAs_80 : decode cX6_soundedAs 80 = .ok (.invokevirtual 75, 3) := by decide +kernel
theorem dX6_soundedAs_83 : decode cX6_soundedAs 83 = .ok (.ifCond .eq 5, 3) := by decide +kernel
theorem dX6_soundedAs_86 : decode cX6_soundedAs 86 = .ok (.iload_n 2, 1) := by decide +kernel
theorem dX6_soundedAs_87 : decode cX6_soundedAs 87 = .ok (.ireturn, 1) := by decide +kernel
theorem dX6_soundedAs_88 : decode cX6_soundedAs 88 = .ok (.iconst 0, 1) := by decide +kernel
theorem dX6_soundedAs_89 : decode cX6_soundedAs 89 = .ok (.istore 4, 2) := by decide +kernel
theorem dX6_soundedAs_91 : decode cX6_soundedAs 91 = .ok (.iload 4, 2) := by decide +kernel
theorem dX6_soundedAs_93 : decode cX6_soundedAs 93 = .ok (.aload_n 0, 1) := by decide +kernel
theorem dX6_soundedAs_94 : decode cX6_soundedAs 94 = .ok (.getfield 9, 3) := by decide +kernel
theorem dX6_soundedAs_97 : decode cX6_soundedAs 97 = .ok (.getfield 78, 3) := by decide +kernel
theorem dX6_soundedAs_100 : decode cX6_soundedAs 100 = .ok (.if_icmp .ge 22, 3) := by decide +kernel
theorem dX6_soundedAs_103 : decode cX6_soundedAs 103 = .ok (.aload_n 0, 1) := by decide +kernel
theorem dX6_soundedAs_104 : decode cX6_soundedAs 104 = .ok (.iload 4, 2) := by decide +kernel
theorem dX6_soundedAs_106 : decode cX6_soundedAs 106 = .ok (.iload_n 3, 1) := by decide +kernel
theorem dX6_soundedAs_107 : decode cX6_soundedAs 107 = .ok (.invokevirtual 75, 3) := by decide +kernel
theorem dX6_soundedAs_110 : decode cX6_soundedAs 110 = .ok (.ifCond .eq 6, 3) := by decide +kernel
theorem dX6_soundedAs_113 : decode cX6_soundedAs 113 = .ok (.iload 4, 2) := by decide +kernel
theorem dX6_soundedAs_115 : decode cX6_soundedAs 115 = .ok (.ireturn, 1) := by decide +kernel
theorem dX6_soundedAs_116 : decode cX6_soundedAs 116 = .ok (.iinc 4 1, 3) := by decide +kernel
theorem dX6_soundedAs_119 : decode cX6_soundedAs 119 = .ok (.goto (-28), 3) := by decide +kernel
theorem dX6_soundedAs_122 : decode cX6_soundedAs 122 = .ok (.bipush (-6), 2) := by decide +kernel
theorem dX6_soundedAs_124 : decode cX6_soundedAs 124 = .ok (.ireturn, 1) := by decide +kernel
theorem dX6_hasSoundRow_0 : decode cX6_hasSoundRow 0 = .ok (.aload_n 0, 1) := by decide +kernel
theorem dX6_hasSoundRow_1 : decode cX6_hasSoundRow 1 = .ok (.getfield 9, 3) := by decide +kernel
theorem dX6_hasSoundRow_4 : decode cX6_hasSoundRow 4 = .ok (.getfield 63, 3) := by decide +kernel
theorem dX6_hasSoundRow_7 : decode cX6_hasSoundRow 7 = .ok (.iload_n 1, 1) := by decide +kernel
theorem dX6_hasSoundRow_8 : decode cX6_hasSoundRow 8 = .ok (.iaload, 1) := by decide +kernel
theorem dX6_hasSoundRow_9 : decode cX6_hasSoundRow 9 = .ok (.iload_n 2, 1) := by decide +kernel
theorem dX6_hasSoundRow_10 : decode cX6_hasSoundRow 10 = .ok (.if_icmp .eq 5, 3) := by decide +kernel
theorem dX6_hasSoundRow_13 : decode cX6_hasSoundRow 13 = .ok (.iconst 0, 1) := by decide +kernel
theorem dX6_hasSoundRow_14 : decode cX6_hasSoundRow 14 = .ok (.ireturn, 1) := by decide +kernel
theorem dX6_hasSoundRow_15 : decode cX6_hasSoundRow 15 = .ok (.iconst 0, 1) := by decide +kernel
theorem dX6_hasSoundRow_16 : decode cX6_hasSoundRow 16 = .ok (.istore_n 3, 1) := by decide +kernel
theorem dX6_hasSoundRow_17 : decode cX6_hasSoundRow 17 = .ok (.iload_n 3, 1) := by decide +kernel
theorem dX6_hasSoundRow_18 : decode cX6_hasSoundRow 18 = .ok (.iload_n 2, 1) := by decide +kernel
theorem dX6_hasSoundRow_19 : decode cX6_hasSoundRow 19 = .ok (.if_icmp .ge 29, 3) := by decide +kernel
theorem dX6_hasSoundRow_22 : decode cX6_hasSoundRow 22 = .ok (.aload_n 0, 1) := by decide +kernel
theorem dX6_hasSoundRow_23 : decode cX6_hasSoundRow 23 = .ok (.getfield 9, 3) := by decide +kernel
theorem dX6_hasSoundRow_26 : decode cX6_hasSoundRow 26 = .ok (.iload_n 1, 1) := by decide +kernel
theorem dX6_hasSoundRow_27 : decode cX6_hasSoundRow 27 = .ok (.iload_n 3, 1) := by decide +kernel
theorem dX6_hasSoundRow_28 : decode cX6_hasSoundRow 28 = .ok (.invokevirtual 82, 3) := by decide +kernel
theorem dX6_hasSoundRow_31 : decode cX6_hasSoundRow 31 = .ok (.aload_n 0, 1) := by decide +kernel
theorem dX6_hasSoundRow_32 : decode cX6_hasSoundRow 32 = .ok (.getfield 23, 3) := by decide +kernel
theorem dX6_hasSoundRow_35 : decode cX6_hasSoundRow 35 = .ok (.iload_n 3, 1) := by decide +kernel
theorem dX6_hasSoundRow_36 : decode cX6_hasSoundRow 36 = .ok (.iaload, 1) := by decide +kernel
theorem dX6_hasSoundRow_37 : decode cX6_hasSoundRow 37 = .ok (.if_icmp .eq 5, 3) := by decide +kernel
theorem dX6_hasSoundRow_40 : decode cX6_hasSoundRow 40 = .ok (.iconst 0, 1) := by decide +kernel
theorem dX6_hasSoundRow_41 : decode cX6_hasSoundRow 41 = .ok (.ireturn, 1) := by decide +kernel
theorem dX6_hasSoundRow_42 : decode cX6_hasSoundRow 42 = .ok (.iinc 3 1, 3) := by decide +kernel
theorem dX6_hasSoundRow_45 : decode cX6_hasSoundRow 45 = .ok (.goto (-28), 3) := by decide +kernel
theorem dX6_hasSoundRow_48 : decode cX6_hasSoundRow 48 = .ok (.iconst 1, 1) := by decide +kernel
theorem dX6_hasSoundRow_49 : decode cX6_hasSoundRow 49 = .ok (.ireturn, 1) := by decide +kernel
theorem dX6_readable_0 : decode cX6_readable 0 = .ok (.iconst 0, 1) := by decide +kernel
theorem dX6_readable_1 : decode cX6_readable 1 = .ok (.istore_n 2, 1) := by decide +kernel
theorem dX6_readable_2 : decode cX6_readable 2 = .ok (.iconst 0, 1) := by decide +kernel
theorem dX6_readable_3 : decode cX6_readable 3 = .ok (.istore_n 3, 1) := by decide +kernel
theorem dX6_readable_4 : decode cX6_readable 4 = .ok (.iload_n 3, 1) := by decide +kernel
theorem dX6_readable_5 : decode cX6_readable 5 = .ok (.aload_n 0, 1) := by decide +kernel
theorem dX6_readable_6 : decode cX6_readable 6 = .ok (.getfield 9, 3) := by decide +kernel
theorem dX6_readable_9 : decode cX6_readable 9 = .ok (.getfield 78, 3) := by decide +kernel
theorem dX6_readable_12 : decode cX6_readable 12 = .ok (.if_icmp .ge 25, 3) := by decide +kernel
theorem dX6_readable_15 : decode cX6_readable 15 = .ok (.aload_n 0, 1) := by decide +kernel
theorem dX6_readable_16 : decode cX6_readable 16 = .ok (.iload_n 1, 1) := by decide +kernel
theorem dX6_readable_17 : decode cX6_readable 17 = .ok (.iload_n 3, 1) := by decide +kernel
theorem dX6_readable_18 : decode cX6_readable 18 = .ok (.invokevirtual 85, 3) := by decide +kernel
theorem dX6_readable_21 : decode cX6_readable 21 = .ok (.iload_n 3, 1) := by decide +kernel
theorem dX6_readable_22 : decode cX6_readable 22 = .ok (.if_icmp .ne 9, 3) := by decide +kernel
theorem dX6_readable_25 : decode cX6_readable 25 = .ok (.iload_n 2, 1) := by decide +kernel
theorem dX6_readable_26 : decode cX6_readable 26 = .ok (.iconst 1, 1) := by decide +kernel
theorem dX6_readable_27 : decode cX6_readable 27 = .ok (.iload_n 3, 1) := by decide +kernel
theorem dX6_readable_28 : decode cX6_readable 28 = .ok (.ishl, 1) := by decide +kernel
theorem dX6_readable_29 : decode cX6_readable 29 = .ok (.ior, 1) := by decide +kernel
theorem dX6_readable_30 : decode cX6_readable 30 = .ok (.istore_n 2, 1) := by decide +kernel
theorem dX6_readable_31 : decode cX6_readable 31 = .ok (.iinc 3 1, 3) := by decide +kernel
theorem dX6_readable_34 : decode cX6_readable 34 = .ok (.goto (-30), 3) := by decide +kernel
theorem dX6_readable_37 : decode cX6_readable 37 = .ok (.iload_n 2, 1) := by decide +kernel
theorem dX6_readable_38 : decode cX6_readable 38 = .ok (.ireturn, 1) := by decide +kernel
theorem dX6_readableAtLast_0 : decode cX6_readableAtLast 0 = .ok (.aload_n 0, 1) := by decide +kernel
theorem dX6_readableAtLast_1 : decode cX6_readableAtLast 1 = .ok (.getfield 9, 3) := by decide +kernel
theorem dX6_readableAtLast_4 : decode cX6_readableAtLast 4 = .ok (.aload_n 0, 1) := by decide +kernel
theorem dX6_readableAtLast_5 : decode cX6_readableAtLast 5 = .ok (.getfield 9, 3) := by decide +kernel
theorem dX6_readableAtLast_8 : decode cX6_readableAtLast 8 = .ok (.invokevirtual 88, 3) := by decide +kernel
theorem dX6_readableAtLast_11 : decode cX6_readableAtLast 11 = .ok (.invokevirtual 92, 3) := by decide +kernel
theorem dX6_readableAtLast_14 : decode cX6_readableAtLast 14 = .ok (.istore_n 3, 1) := by decide +kernel
theorem dX6_readableAtLast_15 : decode cX6_readableAtLast 15 = .ok (.iload_n 1, 1) := by decide +kernel
theorem dX6_readableAtLast_16 : decode cX6_readableAtLast 16 = .ok (.istore 4, 2) := by decide +kernel
theorem dX6_readableAtLast_18 : decode cX6_readableAtLast 18 = .ok (.iconst 0, 1) := by decide +kernel
theorem dX6_readableAtLast_19 : decode cX6_readableAtLast 19 = .ok (.istore 5, 2) := by decide +kernel
theorem dX6_readableAtLast_21 : decode cX6_readableAtLast 21 = .ok (.iload 5, 2) := by decide +kernel
theorem dX6_readableAtLast_23 : decode cX6_readableAtLast 23 = .ok (.aload_n 0, 1) := by decide +kernel
theorem dX6_readableAtLast_24 : decode cX6_readableAtLast 24 = .ok (.getfield 9, 3) := by decide +kernel
theorem dX6_readableAtLast_27 : decode cX6_readableAtLast 27 = .ok (.getfield 78, 3) := by decide +kernel
theorem dX6_readableAtLast_30 : decode cX6_readableAtLast 30 = .ok (.if_icmp .ge 65, 3) := by decide +kernel
theorem dX6_readableAtLast_33 : decode cX6_readableAtLast 33 = .ok (.aload_n 0, 1) := by decide +kernel
theorem dX6_readableAtLast_34 : decode cX6_readableAtLast 34 = .ok (.getfield 15, 3) := by decide +kernel
theorem dX6_readableAtLast_37 : decode cX6_readableAtLast 37 = .ok (.getfield 95, 3) := by decide +kernel
theorem dX6_readableAtLast_40 : decode cX6_readableAtLast 40 = .ok (.iload 5, 2) := by decide +kernel
theorem dX6_readableAtLast_42 : decode cX6_readableAtLast 42 = .ok (.iaload, 1) := by decide +kernel
theorem dX6_readableAtLast_43 : decode cX6_readableAtLast 43 = .ok (.istore 6, 2) := by decide +kernel
theorem dX6_readableAtLast_45 : decode cX6_readableAtLast 45 = .ok (.iload 4, 2) := by decide +kernel
theorem dX6_readableAtLast_47 : decode cX6_readableAtLast 47 = .ok (.iload 6, 2) := by decide +kernel
theorem dX6_readableAtLast_49 : decode cX6_readableAtLast 49 = .ok (.invokestatic 35, 3) := by decide +kernel
theorem dX6_readableAtLast_52 : decode cX6_readableAtLast 52 = .ok (.ifCond .eq 6, 3) := by decide +kernel
theorem dX6_readableAtLast_55 : decode cX6_readableAtLast 55 = .ok (.goto 34, 3) := by decide +kernel
theorem dX6_readableAtLast_58 : decode cX6_readableAtLast 58 = .ok (.aload_n 0, 1) := by decide +kernel
theorem dX6_readableAtLast_59 : decode cX6_readableAtLast 59 = .ok (.getfield 9, 3) := by decide +kernel
theorem dX6_readableAtLast_62 : decode cX6_readableAtLast 62 = .ok (.iload 4, 2) := by decide +kernel
theorem dX6_readableAtLast_64 : decode cX6_readableAtLast 64 = .ok (.invokevirtual 92, 3) := by decide +kernel
theorem dX6_readableAtLast_67 : decode cX6_readableAtLast 67 = .ok (.sipush 1000, 3) := by decide +kernel
theorem dX6_readableAtLast_70 : decode cX6_readableAtLast 70 = .ok (.imul, 1) := by decide +kernel
theorem dX6_readableAtLast_71 : decode cX6_readableAtLast 71 = .ok (.iload_n 2, 1) := by decide +kernel
theorem dX6_readableAtLast_72 : decode cX6_readableAtLast 72 = .ok (.iload_n 3, 1) := by decide +kernel
theorem dX6_readableAtLast_73 : decode cX6_readableAtLast 73 = .ok (.imul, 1) := by decide +kernel
theorem dX6_readableAtLast_74 : decode cX6_readableAtLast 74 = .ok (.if_icmp .ge 6, 3) := by decide +kernel
theorem dX6_readableAtLast_77 : decode cX6_readableAtLast 77 = .ok (.goto 18, 3) := by decide +kernel
theorem dX6_readableAtLast_80 : decode cX6_readableAtLast 80 = .ok (.iload 4, 2) := by decide +kernel
theorem dX6_readableAtLast_82 : decode cX6_readableAtLast 82 = .ok (.iconst 1, 1) := by decide +kernel
theorem dX6_readableAtLast_83 : decode cX6_readableAtLast 83 = .ok (.iload 6, 2) := by decide +kernel
theorem dX6_readableAtLast_85 : decode cX6_readableAtLast 85 = .ok (.ishl, 1) := by decide +kernel
theorem dX6_readableAtLast_86 : decode cX6_readableAtLast 86 = .ok (.ior, 1) := by decide +kernel
theorem dX6_readableAtLast_87 : decode cX6_readableAtLast 87 = .ok (.istore 4, 2) := by decide +kernel
theorem dX6_readableAtLast_89 : decode cX6_readableAtLast 89 = .ok (.iinc 5 1, 3) := by decide +kernel
theorem dX6_readableAtLast_92 : decode cX6_readableAtLast 92 = .ok (.goto (-71), 3) := by decide +kernel
theorem dX6_readableAtLast_95 : decode cX6_readableAtLast 95 = .ok (.iload 4, 2) := by decide +kernel
theorem dX6_readableAtLast_97 : decode cX6_readableAtLast 97 = .ok (.ireturn, 1) := by decide +kernel
theorem dX6_highestLine_0 : decode cX6_highestLine 0 = .ok (.aload_n 0, 1) := by decide +kernel
theorem dX6_highestLine_1 : decode cX6_highestLine 1 = .ok (.getfield 9, 3) := by decide +kernel
theorem dX6_highestLine_4 : decode cX6_highestLine 4 = .ok (.aload_n 0, 1) := by decide +kernel
theorem dX6_highestLine_5 : decode cX6_highestLine 5 = .ok (.getfield 9, 3) := by decide +kernel
theorem dX6_highestLine_8 : decode cX6_highestLine 8 = .ok (.invokevirtual 88, 3) := by decide +kernel
theorem dX6_highestLine_11 : decode cX6_highestLine 11 = .ok (.invokevirtual 92, 3) := by decide +kernel
theorem dX6_highestLine_14 : decode cX6_highestLine 14 = .ok (.istore_n 2, 1) := by decide +kernel
theorem dX6_highestLine_15 : decode cX6_highestLine 15 = .ok (.iload_n 1, 1) := by decide +kernel
theorem dX6_highestLine_16 : decode cX6_highestLine 16 = .ok (.aload_n 0, 1) := by decide +kernel
theorem dX6_highestLine_17 : decode cX6_highestLine 17 = .ok (.getfield 9, 3) := by decide +kernel
theorem dX6_highestLine_20 : decode cX6_highestLine 20 = .ok (.invokevirtual 88, 3) := by decide +kernel
theorem dX6_highestLine_23 : decode cX6_highestLine 23 = .ok (.if_icmp .eq 7, 3) := by decide +kernel
theorem dX6_highestLine_26 : decode cX6_highestLine 26 = .ok (.iload_n 2, 1) := by decide +kernel
theorem dX6_highestLine_27 : decode cX6_highestLine 27 = .ok (.ifCond .gt 7, 3) := by decide +kernel
theorem dX6_highestLine_30 : decode cX6_highestLine 30 = .ok (.sipush 1000, 3) := by decide +kernel
theorem dX6_highestLine_33 : decode cX6_highestLine 33 = .ok (.ireturn, 1) := by decide +kernel
theorem dX6_highestLine_34 : decode cX6_highestLine 34 = .ok (.aload_n 0, 1) := by decide +kernel
theorem dX6_highestLine_35 : decode cX6_highestLine 35 = .ok (.getfield 9, 3) := by decide +kernel
theorem dX6_highestLine_38 : decode cX6_highestLine 38 = .ok (.iload_n 1, 1) := by decide +kernel
theorem dX6_highestLine_39 : decode cX6_highestLine 39 = .ok (.invokevirtual 92, 3) := by decide +kernel
theorem dX6_highestLine_42 : decode cX6_highestLine 42 = .ok (.sipush 1000, 3) := by decide +kernel
theorem dX6_highestLine_45 : decode cX6_highestLine 45 = .ok (.imul, 1) := by decide +kernel
theorem dX6_highestLine_46 : decode cX6_highestLine 46 = .ok (.iload_n 2, 1) := by decide +kernel
theorem dX6_highestLine_47 : decode cX6_highestLine 47 = .ok (.idiv, 1) := by decide +kernel
theorem dX6_highestLine_48 : decode cX6_highestLine 48 = .ok (.ireturn, 1) := by decide +kernel
theorem dX7_init_0 : decode cX7_init 0 = .ok (.aload_n 0, 1) := by decide +kernel
theorem dX7_init_1 : decode cX7_init 1 = .ok (.invokespecial 1, 3) := by decide +kernel
theorem dX7_init_4 : decode cX7_init 4 = .ok (.aload_n 0, 1) := by decide +kernel
theorem dX7_init_5 : decode cX7_init 5 = .ok (.new 7, 3) := by decide +kernel
theorem dX7_init_8 : decode cX7_init 8 = .ok (.dup, 1) := by decide +kernel
theorem dX7_init_9 : decode cX7_init 9 = .ok (.invokespecial 9, 3) := by decide +kernel
theorem dX7_init_12 : decode cX7_init 12 = .ok (.putfield 10, 3) := by decide +kernel
theorem dX7_init_15 : decode cX7_init 15 = .ok (.aload_n 0, 1) := by decide +kernel
theorem dX7_init_16 : decode cX7_init 16 = .ok (.new 16, 3) := by decide +kernel
theorem dX7_init_19 : decode cX7_init 19 = .ok (.dup, 1) := by decide +kernel
theorem dX7_init_20 : decode cX7_init 20 = .ok (.invokespecial 18, 3) := by decide +kernel
theorem dX7_init_23 : decode cX7_init 23 = .ok (.putfield 19, 3) := by decide +kernel
theorem dX7_init_26 : decode cX7_init 26 = .ok (.aload_n 0, 1) := by decide +kernel
theorem dX7_init_27 : decode cX7_init 27 = .ok (.new 23, 3) := by decide +kernel
theorem dX7_init_30 : decode cX7_init 30 = .ok (.dup, 1) := by decide +kernel
theorem dX7_init_31 : decode cX7_init 31 = .ok (.invokespecial 25, 3) := by decide +kernel
theorem dX7_init_34 : decode cX7_init 34 = .ok (.putfield 26, 3) := by decide +kernel
theorem dX7_init_37 : decode cX7_init 37 = .ok (.return_, 1) := by decide +kernel
theorem dX7_copyFrom_0 : decode cX7_copyFrom 0 = .ok (.aload_n 0, 1) := by decide +kernel
theorem dX7_copyFrom_1 : decode cX7_copyFrom 1 = .ok (.getfield 10, 3) := by decide +kernel
theorem dX7_copyFrom_4 : decode cX7_copyFrom 4 = .ok (.aload_n 1, 1) := by decide +kernel
theorem dX7_copyFrom_5 : decode cX7_copyFrom 5 = .ok (.getfield 10, 3) := by decide +kernel
theorem dX7_copyFrom_8 : decode cX7_copyFrom 8 = .ok (.invokevirtual 30, 3) := by decide +kernel
theorem dX7_copyFrom_11 : decode cX7_copyFrom 11 = .ok (.aload_n 0, 1) := by decide +kernel
theorem dX7_copyFrom_12 : decode cX7_copyFrom 12 = .ok (.getfield 19, 3) := by decide +kernel
theorem dX7_copyFrom_15 : decode cX7_copyFrom 15 = .ok (.aload_n 1, 1) := by decide +kernel
theorem dX7_copyFrom_16 : decode cX7_copyFrom 16 = .ok (.getfield 19, 3) := by decide +kernel
theorem dX7_copyFrom_19 : decode cX7_copyFrom 19 = .ok (.invokevirtual 34, 3) := by decide +kernel
theorem dX7_copyFrom_22 : decode cX7_copyFrom 22 = .ok (.aload_n 0, 1) := by decide +kernel
theorem dX7_copyFrom_23 : decode cX7_copyFrom 23 = .ok (.getfield 26, 3) := by decide +kernel
theorem dX7_copyFrom_26 : decode cX7_copyFrom 26 = .ok (.aload_n 1, 1) := by decide +kernel
theorem dX7_copyFrom_27 : decode cX7_copyFrom 27 = .ok (.getfield 26, 3) := by decide +kernel
theorem dX7_copyFrom_30 : decode cX7_copyFrom 30 = .ok (.invokevirtual 37, 3) := by decide +kernel
theorem dX7_copyFrom_33 : decode cX7_copyFrom 33 = .ok (.return_, 1) := by decide +kernel
theorem dX8_init_0 : decode cX8_init 0 = .ok (.aload_n 0, 1) := by decide +kernel
theorem dX8_init_1 : decode cX8_init 1 = .ok (.invokespecial 3, 3) := by decide +kernel
theorem dX8_init_4 : decode cX8_init 4 = .ok (.aload_n 0, 1) := by decide +kernel
theorem dX8_init_5 : decode cX8_init 5 = .ok (.aload_n 1, 1) := by decide +kernel
theorem dX8_init_6 : decode cX8_init 6 = .ok (.putfield 9, 3) := by decide +kernel
theorem dX8_init_9 : decode cX8_init 9 = .ok (.aload_n 0, 1) := by decide +kernel
theorem dX8_init_10 : decode cX8_init 10 = .ok (.bipush 100, 2) := by decide +kernel
theorem dX8_init_12 : decode cX8_init 12 = .ok (.newarray .int, 2) := by decide +kernel
theorem dX8_init_14 : decode cX8_init 14 = .ok (.putfield 15, 3) := by decide +kernel
theorem dX8_init_17 : decode cX8_init 17 = .ok (.aload_n 0, 1) := by decide +kernel
theorem dX8_init_18 : decode cX8_init 18 = .ok (.bipush 10, 2) := by decide +kernel
theorem dX8_init_20 : decode cX8_init 20 = .ok (.newarray .int, 2) := by decide +kernel
theorem dX8_init_22 : decode cX8_init 22 = .ok (.putfield 19, 3) := by decide +kernel
theorem dX8_init_25 : decode cX8_init 25 = .ok (.aload_n 0, 1) := by decide +kernel
theorem dX8_init_26 : decode cX8_init 26 = .ok (.bipush 10, 2) := by decide +kernel
theorem dX8_init_28 : decode cX8_init 28 = .ok (.newarray .int, 2) := by decide +kernel
theorem dX8_init_30 : decode cX8_init 30 = .ok (.putfield 22, 3) := by decide +kernel
theorem dX8_init_33 : decode cX8_init 33 = .ok (.aload_n 0, 1) := by decide +kernel
theorem dX8_init_34 : decode cX8_init 34 = .ok (.bipush 10, 2) := by decide +kernel
theorem dX8_init_36 : decode cX8_init 36 = .ok (.newarray .int, 2) := by decide +kernel
theorem dX8_init_38 : decode cX8_init 38 = .ok (.putfield 25, 3) := by decide +kernel
theorem dX8_init_41 : decode cX8_init 41 = .ok (.aload_n 0, 1) := by decide +kernel
theorem dX8_init_42 : decode cX8_init 42 = .ok (.bipush 12, 2) := by decide +kernel
theorem dX8_init_44 : decode cX8_init 44 = .ok (.newarray .int, 2) := by decide +kernel
theorem dX8_init_46 : decode cX8_init 46 = .ok (.putfield 28, 3) := by decide +kernel
theorem dX8_init_49 : decode cX8_init 49 = .ok (.aload_n 0, 1) := by decide +kernel
theorem dX8_init_50 : decode cX8_init 50 = .ok (.bipush 10, 2) := by decide +kernel
theorem dX8_init_52 : decode cX8_init 52 = .ok (.newarray .int, 2) := by decide +kernel
theorem dX8_init_54 : decode cX8_init 54 = .ok (.putfield 31, 3) := by decide +kernel
theorem dX8_init_57 : decode cX8_init 57 = .ok (.return_, 1) := by decide +kernel
theorem dX8_refresh_0 : decode cX8_refresh 0 = .ok (.aload_n 0, 1) := by decide +kernel
theorem dX8_refresh_1 : decode cX8_refresh 1 = .ok (.invokevirtual 34, 3) := by decide +kernel
theorem dX8_refresh_4 : decode cX8_refresh 4 = .ok (.iconst 0, 1) := by decide +kernel
theorem dX8_refresh_5 : decode cX8_refresh 5 = .ok (.istore_n 1, 1) := by decide +kernel
theorem dX8_refresh_6 : decode cX8_refresh 6 = .ok (.iload_n 1, 1) := by decide +kernel
theorem dX8_refresh_7 : decode cX8_refresh 7 = .ok (.bipush 10, 2) := by decide +kernel
theorem dX8_refresh_9 : decode cX8_refresh 9 = .ok (.if_icmp .ge 37, 3) := by decide +kernel
theorem dX8_refresh_12 : decode cX8_refresh 12 = .ok (.aload_n 0, 1) := by decide +kernel
theorem dX8_refresh_13 : decode cX8_refresh 13 = .ok (.getfield 22, 3) := by decide +kernel
theorem dX8_refresh_16 : decode cX8_refresh 16 = .ok (.iload_n 1, 1) := by decide +kernel
theorem dX8_refresh_17 : decode cX8_refresh 17 = .ok (.aload_n 0, 1) := by decide +kernel
theorem dX8_refresh_18 : decode cX8_refresh 18 = .ok (.iload_n 1, 1) := by decide +kernel
theorem dX8_refresh_19 : decode cX8_refresh 19 = .ok (.bipush 10, 2) := by decide +kernel
theorem dX8_refresh_21 : decode cX8_refresh 21 = .ok (.imul, 1) := by decide +kernel
theorem dX8_refresh_22 : decode cX8_refresh 22 = .ok (.iconst 1, 1) := by decide +kernel
theorem dX8_refresh_23 : decode cX8_refresh 23 = .ok (.invokevirtual 37, 3) := by decide +kernel
theorem dX8_refresh_26 : decode cX8_refresh 26 = .ok (.iastore, 1) := by decide +kernel
theorem dX8_refresh_27 : decode cX8_refresh 27 = .ok (.aload_n 0, 1) := by decide +kernel
theorem dX8_refresh_28 : decode cX8_refresh 28 = .ok (.getfield 25, 3) := by decide +kernel
theorem dX8_refresh_31 : decode cX8_refresh 31 = .ok (.iload_n 1, 1) := by decide +kernel
theorem dX8_refresh_32 : decode cX8_refresh 32 = .ok (.aload_n 0, 1) := by decide +kernel
theorem dX8_refresh_33 : decode cX8_refresh 33 = .ok (.iload_n 1, 1) := by decide +kernel
theorem dX8_refresh_34 : decode cX8_refresh 34 = .ok (.bipush 10, 2) := by decide +kernel
theorem dX8_refresh_36 : decode cX8_refresh 36 = .ok (.invokevirtual 37, 3) := by decide +kernel
theorem dX8_refresh_39 : decode cX8_refresh 39 = .ok (.iastore, 1) := by decide +kernel
theorem dX8_refresh_40 : decode cX8_refresh 40 = .ok (.iinc 1 1, 3) := by decide +kernel
theorem dX8_refresh_43 : decode cX8_refresh 43 = .ok (.goto (-37), 3) := by decide +kernel
theorem dX8_refresh_46 : decode cX8_refresh 46 = .ok (.aload_n 0, 1) := by decide +kernel
theorem dX8_refresh_47 : decode cX8_refresh 47 = .ok (.invokevirtual 41, 3) := by decide +kernel
theorem dX8_refresh_50 : decode cX8_refresh 50 = .ok (.aload_n 0, 1) := by decide +kernel
theorem dX8_refresh_51 : decode cX8_refresh 51 = .ok (.invokevirtual 44, 3) := by decide +kernel
theorem dX8_refresh_54 : decode cX8_refresh 54 = .ok (.aload_n 0, 1) := by decide +kernel
theorem dX8_refresh_55 : decode cX8_refresh 55 = .ok (.invokevirtual 47, 3) := by decide +kernel
theorem dX8_refresh_58 : decode cX8_refresh 58 = .ok (.return_, 1) := by decide +kernel
theorem dX8_countPlaces_0 : decode cX8_countPlaces 0 = .ok (.aload_n 0, 1) := by decide +kernel
theorem dX8_countPlaces_1 : decode cX8_countPlaces 1 = .ok (.getfield 15, 3) := by decide +kernel
theorem dX8_countPlaces_4 : decode cX8_countPlaces 4 = .ok (.iconst 0, 1) := by decide +kernel
theorem dX8_countPlaces_5 : decode cX8_countPlaces 5 = .ok (.invokestatic 50, 3) := by decide +kernel
theorem dX8_countPlaces_8 : decode cX8_countPlaces 8 = .ok (.aload_n 0, 1) := by decide +kernel
theorem dX8_countPlaces_9 : decode cX8_countPlaces 9 = .ok (.getfield 19, 3) := by decide +kernel
theorem dX8_countPlaces_12 : decode cX8_countPlaces 12 = .ok (.iconst 0, 1) := by decide +kernel
theorem dX8_countPlaces_13 : decode cX8_countPlaces 13 = .ok (.invokestatic 50, 3) := by decide +kernel
theorem dX8_countPlaces_16 : decode cX8_countPlaces 16 = .ok (.iconst 0, 1) := by decide +kernel
theorem dX8_countPlaces_17 : decode cX8_countPlaces 17 = .ok (.istore_n 1, 1) := by decide +kernel
theorem dX8_countPlaces_18 : decode cX8_countPlaces 18 = .ok (.iload_n 1, 1) := by decide +kernel
theorem dX8_countPlaces_19 : decode cX8_countPlaces 19 = .ok (.aload_n 0, 1) := by decide +kernel
theorem dX8_countPlaces_20 : decode cX8_countPlaces 20 = .ok (.getfield 9, 3) := by decide +kernel
theorem dX8_countPlaces_23 : decode cX8_countPlaces 23 = .ok (.getfield 56, 3) := by decide +kernel
theorem dX8_countPlaces_26 : decode cX8_countPlaces 26 = .ok (.if_icmp .ge 89, 3) := by decide +kernel
theorem dX8_countPlaces_29 : decode cX8_countPlaces 29 = .ok (.iconst 0, 1) := by decide +kernel
theorem dX8_countPlaces_30 : decode cX8_countPlaces 30 = .ok (.istore_n 2, 1) := by decide +kernel
theorem dX8_countPlaces_31 : decode cX8_countPlaces 31 = .ok (.iload_n 2, 1) := by decide +kernel
theorem dX8_countPlaces_32 : decode cX8_countPlaces 32 = .ok (.aload_n 0, 1) := by decide +kernel
theorem dX8_countPlaces_33 : decode cX8_countPlaces 33 = .ok (.getfield 9, 3) := by decide +kernel
theorem dX8_countPlaces_36 : decode cX8_countPlaces 36 = .ok (.getfield 62, 3) := by decide +kernel
theorem dX8_countPlaces_39 : decode cX8_countPlaces 39 = .ok (.iload_n 1, 1) := by decide +kernel
theorem dX8_countPlaces_40 : decode cX8_countPlaces 40 = .ok (.iaload, 1) := by decide +kernel
theorem dX8_countPlaces_41 : decode cX8_countPlaces 41 = .ok (.if_icmp .ge 68, 3) := by decide +kernel
theorem dX8_countPlaces_44 : decode cX8_countPlaces 44 = .ok (.aload_n 0, 1) := by decide +kernel
theorem dX8_countPlaces_45 : decode cX8_countPlaces 45 = .ok (.getfield 9, 3) := by decide +kernel
theorem dX8_countPlaces_48 : decode cX8_countPlaces 48 = .ok (.iload_n 1, 1) := by decide +kernel
theorem dX8_countPlaces_49 : decode cX8_countPlaces 49 = .ok (.iload_n 2, 1) := by decide +kernel
theorem dX8_countPlaces_50 : decode cX8_countPlaces 50 = .ok (.invokevirtual 65, 3) := by decide +kernel
theorem dX8_countPlaces_53 : decode cX8_countPlaces 53 = .ok (.istore_n 3, 1) := by decide +kernel
theorem dX8_countPlaces_54 : decode cX8_countPlaces 54 = .ok (.aload_n 0, 1) := by decide +kernel
theorem dX8_countPlaces_55 : decode cX8_countPlaces 55 = .ok (.getfield 15, 3) := by decide +kernel
theorem dX8_countPlaces_58 : decode cX8_countPlaces 58 = .ok (.iload_n 3, 1) := by decide +kernel
theorem dX8_countPlaces_59 : decode cX8_countPlaces 59 = .ok (.bipush 10, 2) := by decide +kernel
theorem dX8_countPlaces_61 : decode cX8_countPlaces 61 = .ok (.imul, 1) := by decide +kernel
theorem dX8_countPlaces_62 : decode cX8_countPlaces 62 = .ok (.aload_n 0, 1) := by decide +kernel
theorem dX8_countPlaces_63 : decode cX8_countPlaces 63 = .ok (.getfield 9, 3) := by decide +kernel
theorem dX8_countPlaces_66 : decode cX8_countPlaces 66 = .ok (.iload_n 1, 1) := by decide +kernel
theorem dX8_countPlaces_67 : decode cX8_countPlaces 67 = .ok (.iload_n 2, 1) := by decide +kernel
theorem dX8_countPlaces_68 : decode cX8_countPlaces 68 = .ok (.invokevirtual 68, 3) := by decide +kernel
theorem dX8_countPlaces_71 : decode cX8_countPlaces 71 = .ok (.iadd, 1) := by decide +kernel
theorem dX8_countPlaces_72 : decode cX8_countPlaces 72 = .ok (.dup2, 1) := by decide +kernel
theorem dX8_countPlaces_73 : decode cX8_countPlaces 73 = .ok (.iaload, 1) := by decide +kernel
theorem dX8_countPlaces_74 : decode cX8_countPlaces 74 = .ok (.aload_n 0, 1) := by decide +kernel
theorem dX8_countPlaces_75 : decode cX8_countPlaces 75 = .ok (.getfield 9, 3) := by decide +kernel
theorem dX8_countPlaces_78 : decode cX8_countPlaces 78 = .ok (.getfield 71, 3) := by decide +kernel
theorem dX8_countPlaces_81 : decode cX8_countPlaces 81 = .ok (.iload_n 1, 1) := by decide +kernel
theorem dX8_countPlaces_82 : decode cX8_countPlaces 82 = .ok (.iaload, 1) := by decide +kernel
theorem dX8_countPlaces_83 : decode cX8_countPlaces 83 = .ok (.iadd, 1) := by decide +kernel
theorem dX8_countPlaces_84 : decode cX8_countPlaces 84 = .ok (.iastore, 1) := by decide +kernel
theorem dX8_countPlaces_85 : decode cX8_countPlaces 85 = .ok (.aload_n 0, 1) := by decide +kernel
theorem dX8_countPlaces_86 : decode cX8_countPlaces 86 = .ok (.getfield 19, 3) := by decide +kernel
theorem dX8_countPlaces_89 : decode cX8_countPlaces 89 = .ok (.iload_n 3, 1) := by decide +kernel
theorem dX8_countPlaces_90 : decode cX8_countPlaces 90 = .ok (.dup2, 1) := by decide +kernel
theorem dX8_countPlaces_91 : decode cX8_countPlaces 91 = .ok (.iaload, 1) := by decide +kernel
theorem dX8_countPlaces_92 : decode cX8_countPlaces 92 = .ok (.aload_n 0, 1) := by decide +kernel
theorem dX8_countPlaces_93 : decode cX8_countPlaces 93 = .ok (.getfield 9, 3) := by decide +kernel
theorem dX8_countPlaces_96 : decode cX8_countPlaces 96 = .ok (.getfield 71, 3) := by decide +kernel
theorem dX8_countPlaces_99 : decode cX8_countPlaces 99 = .ok (.iload_n 1, 1) := by decide +kernel
theorem dX8_countPlaces_100 : decode cX8_countPlaces 100 = .ok (.iaload, 1) := by decide +kernel
theorem dX8_countPlaces_101 : decode cX8_countPlaces 101 = .ok (.iadd, 1) := by decide +kernel
theorem dX8_countPlaces_102 : decode cX8_countPlaces 102 = .ok (.iastore, 1) := by decide +kernel
theorem dX8_countPlaces_103 : decode cX8_countPlaces 103 = .ok (.iinc 2 1, 3) := by decide +kernel
theorem dX8_countPlaces_106 : decode cX8_countPlaces 106 = .ok (.goto (-75), 3) := by decide +kernel
theorem dX8_countPlaces_109 : decode cX8_countPlaces 109 = .ok (.iinc 1 1, 3) := by decide +kernel
theorem dX8_countPlaces_112 : decode cX8_countPlaces 112 = .ok (.goto (-94), 3) := by decide +kernel
theorem dX8_countPlaces_115 : decode cX8_countPlaces 115 = .ok (.return_, 1) := by decide +kernel
theorem dX8_greatestAt_0 : decode cX8_greatestAt 0 = .ok (.iconst 0, 1) := by decide +kernel
theorem dX8_greatestAt_1 : decode cX8_greatestAt 1 = .ok (.istore_n 3, 1) := by decide +kernel
theorem dX8_greatestAt_2 : decode cX8_greatestAt 2 = .ok (.bipush (-6), 2) := by decide +kernel
theorem dX8_greatestAt_4 : decode cX8_greatestAt 4 = .ok (.istore 4, 2) := by decide +kernel
theorem dX8_greatestAt_6 : decode cX8_greatestAt 6 = .ok (.iconst 0, 1) := by decide +kernel
theorem dX8_greatestAt_7 : decode cX8_greatestAt 7 = .ok (.istore 5, 2) := by decide +kernel
theorem dX8_greatestAt_9 : decode cX8_greatestAt 9 = .ok (.iload 5, 2) := by decide +kernel
theorem dX8_greatestAt_11 : decode cX8_greatestAt 11 = .ok (.bipush 10, 2) := by decide +kernel
theorem dX8_greatestAt_13 : decode cX8_greatestAt 13 = .ok (.if_icmp .ge 35, 3) := by decide +kernel
theorem dX8_greatestAt_16 : decode cX8_greatestAt 16 = .ok (.aload_n 0, 1) := by decide +kernel
theorem dX8_greatestAt_17 : decode cX8_greatestAt 17 = .ok (.getfield 15, 3) := by decide +kernel
theorem dX8_greatestAt_20 : decode cX8_greatestAt 20 = .ok (.iload_n 1, 1) := by decide +kernel
theorem dX8_greatestAt_21 : decode cX8_greatestAt 21 = .ok (.iload 5, 2) := by decide +kernel
theorem dX8_greatestAt_23 : decode cX8_greatestAt 23 = .ok (.iload_n 2, 1) := by decide +kernel
theorem dX8_greatestAt_24 : decode cX8_greatestAt 24 = .ok (.imul, 1) := by decide +kernel
theorem dX8_greatestAt_25 : decode cX8_greatestAt 25 = .ok (.iadd, 1) := by decide +kernel
theorem dX8_greatestAt_26 : decode cX8_greatestAt 26 = .ok (.iaload, 1) := by decide +kernel
theorem dX8_greatestAt_27 : decode cX8_greatestAt 27 = .ok (.istore 6, 2) := by decide +kernel
theorem dX8_greatestAt_29 : decode cX8_greatestAt 29 = .ok (.iload 6, 2) := by decide +kernel
theorem dX8_greatestAt_31 : decode cX8_greatestAt 31 = .ok (.iload_n 3, 1) := by decide +kernel
theorem dX8_greatestAt_32 : decode cX8_greatestAt 32 = .ok (.if_icmp .le 10, 3) := by decide +kernel
theorem dX8_greatestAt_35 : decode cX8_greatestAt 35 = .ok (.iload 6, 2) := by decide +kernel
theorem dX8_greatestAt_37 : decode cX8_greatestAt 37 = .ok (.istore_n 3, 1) := by decide +kernel
theorem dX8_greatestAt_38 : decode cX8_greatestAt 38 = .ok (.iload 5, 2) := by decide +kernel
theorem dX8_greatestAt_40 : decode cX8_greatestAt 40 = .ok (.istore 4, 2) := by decide +kernel
theorem dX8_greatestAt_42 : decode cX8_greatestAt 42 = .ok (.iinc 5 1, 3) := by decide +kernel
theorem dX8_greatestAt_45 : decode cX8_greatestAt 45 = .ok (.goto (-36), 3) := by decide +kernel
theorem dX8_greatestAt_48 : decode cX8_greatestAt 48 = .ok (.iload 4, 2) := by decide +kernel
theorem dX8_greatestAt_50 : decode cX8_greatestAt 50 = .ok (.ireturn, 1) := by decide +kernel
theorem dX8_findRegular_0 : decode cX8_findRegular 0 = .ok (.aload_n 0, 1) := by decide +kernel
theorem dX8_findRegular_1 : decode cX8_findRegular 1 = .ok (.iconst 0, 1) := by decide +kernel
theorem dX8_findRegular_2 : decode cX8_findRegular 2 = .ok (.putfield 74, 3) := by decide +kernel
theorem dX8_findRegular_5 : decode cX8_findRegular 5 = .ok (.iconst 0, 1) := by decide +kernel
theorem dX8_findRegular_6 : decode cX8_findRegular 6 = .ok (.istore_n 1, 1) := by decide +kernel
theorem dX8_findRegular_7 : decode cX8_findRegular 7 = .ok (.iload_n 1, 1) := by decide +kernel
theorem dX8_findRegular_8 : decode cX8_findRegular 8 = .ok (.aload_n 0, 1) := by decide +kernel
theorem dX8_findRegular_9 : decode cX8_findRegular 9 = .ok (.getfield 9, 3) := by decide +kernel
theorem dX8_findRegular_12 : decode cX8_findRegular 12 = .ok (.getfield 56, 3) := by decide +kernel
theorem dX8_findRegular_15 : decode cX8_findRegular 15 = .ok (.if_icmp .ge 29, 3) := by decide +kernel
theorem dX8_findRegular_18 : decode cX8_findRegular 18 = .ok (.aload_n 0, 1) := by decide +kernel
theorem dX8_findRegular_19 : decode cX8_findRegular 19 = .ok (.iload_n 1, 1) := by decide +kernel
theorem dX8_findRegular_20 : decode cX8_findRegular 20 = .ok (.invokevirtual 77, 3) := by decide +kernel
theorem dX8_findRegular_23 : decode cX8_findRegular 23 = .ok (.ifCond .eq 15, 3) := by decide +kernel
theorem dX8_findRegular_26 : decode cX8_findRegular 26 = .ok (.aload_n 0, 1) := by decide +kernel
theorem dX8_findRegular_27 : decode cX8_findRegular 27 = .ok (.dup, 1) := by decide +kernel
theorem dX8_findRegular_28 : decode cX8_findRegular 28 = .ok (.getfield 74, 3) := by decide +kernel
theorem dX8_findRegular_31 : decode cX8_findRegular 31 = .ok (.iconst 1, 1) := by decide +kernel
theorem dX8_findRegular_32 : decode cX8_findRegular 32 = .ok (.iload_n 1, 1) := by decide +kernel
theorem dX8_findRegular_33 : decode cX8_findRegular 33 = .ok (.ishl, 1) := by decide +kernel
theorem dX8_findRegular_34 : decode cX8_findRegular 34 = .ok (.ior, 1) := by decide +kernel
theorem dX8_findRegular_35 : decode cX8_findRegular 35 = .ok (.putfield 74, 3) := by decide +kernel
theorem dX8_findRegular_38 : decode cX8_findRegular 38 = .ok (.iinc 1 1, 3) := by decide +kernel
theorem dX8_findRegular_41 : decode cX8_findRegular 41 = .ok (.goto (-34), 3) := by decide +kernel
theorem dX8_findRegular_44 : decode cX8_findRegular 44 = .ok (.return_, 1) := by decide +kernel
theorem dX8_goesByRule_0 : decode cX8_goesByRule 0 = .ok (.iconst 0, 1) := by decide +kernel
theorem dX8_goesByRule_1 : decode cX8_goesByRule 1 = .ok (.istore_n 2, 1) := by decide +kernel
theorem dX8_goesByRule_2 : decode cX8_goesByRule 2 = .ok (.iload_n 2, 1) := by decide +kernel
theorem dX8_goesByRule_3 : decode cX8_goesByRule 3 = .ok (.aload_n 0, 1) := by decide +kernel
theorem dX8_goesByRule_4 : decode cX8_goesByRule 4 = .ok (.getfield 9, 3) := by decide +kernel
theorem dX8_goesByRule_7 : decode cX8_goesByRule 7 = .ok (.getfield 62, 3) := by decide +kernel
theorem dX8_goesByRule_10 : decode cX8_goesByRule 10 = .ok (.iload_n 1, 1) := by decide +kernel
theorem dX8_goesByRule_11 : decode cX8_goesByRule 11 = .ok (.iaload, 1) := by decide +kernel
theorem dX8_goesByRule_12 : decode cX8_goesByRule 12 = .ok (.if_icmp .ge 37, 3) := by decide +kernel
theorem dX8_goesByRule_15 : decode cX8_goesByRule 15 = .ok (.aload_n 0, 1) := by decide +kernel
theorem dX8_goesByRule_16 : decode cX8_goesByRule 16 = .ok (.getfield 22, 3) := by decide +kernel
theorem dX8_goesByRule_19 : decode cX8_goesByRule 19 = .ok (.aload_n 0, 1) := by decide +kernel
theorem dX8_goesByRule_20 : decode cX8_goesByRule 20 = .ok (.getfield 9, 3) := by decide +kernel
theorem dX8_goesByRule_23 : decode cX8_goesByRule 23 = .ok (.iload_n 1, 1) := by decide +kernel
theorem dX8_goesByRule_24 : decode cX8_goesByRule 24 = .ok (.iload_n 2, 1) := by decide +kernel
theorem dX8_goesByRule_25 : decode cX8_goesByRule 25 = .ok (.invokevirtual 65, 3) := by decide +kernel
theorem dX8_goesByRule_28 : decode cX8_goesByRule 28 = .ok (.iaload, 1) := by decide +kernel
theorem dX8_goesByRule_29 : decode cX8_goesByRule 29 = .ok (.aload_n 0, 1) := by decide +kernel
theorem dX8_goesByRule_30 : decode cX8_goesByRule 30 = .ok (.getfield 9, 3) := by decide +kernel
theorem dX8_goesByRule_33 : decode cX8_goesByRule 33 = .ok (.iload_n 1, 1) := by decide +kernel
theorem dX8_goesByRule_34 : decode cX8_goesByRule 34 = .ok (.iload_n 2, 1) := by decide +kernel
theorem dX8_goesByRule_35 : decode cX8_goesByRule 35 = .ok (.invokevirtual 68, 3) := by decide +kernel
theorem dX8_goesByRule_38 : decode cX8_goesByRule 38 = .ok (.if_icmp .eq 5, 3) := by decide +kernel
theorem dX8_goesByRule_41 : decode cX8_goesByRule 41 = .ok (.iconst 0, 1) := by decide +kernel
theorem dX8_goesByRule_42 : decode cX8_goesByRule 42 = .ok (.ireturn, 1) := by decide +kernel
theorem dX8_goesByRule_43 : decode cX8_goesByRule 43 = .ok (.iinc 2 1, 3) := by decide +kernel
theorem dX8_goesByRule_46 : decode cX8_goesByRule 46 = .ok (.goto (-44), 3) := by decide +kernel
theorem dX8_goesByRule_49 : decode cX8_goesByRule 49 = .ok (.iconst 1, 1) := by decide +kernel
theorem dX8_goesByRule_50 : decode cX8_goesByRule 50 = .ok (.ireturn, 1) := by decide +kernel
theorem dX8_sortByTimes_0 : decode cX8_sortByTimes 0 = .ok (.iconst 0, 1) := by decide +kernel
theorem dX8_sortByTimes_1 : decode cX8_sortByTimes 1 = .ok (.istore_n 1, 1) := by decide +kernel
theorem dX8_sortByTimes_2 : decode cX8_sortByTimes 2 = .ok (.iload_n 1, 1) := by decide +kernel
theorem dX8_sortByTimes_3 : decode cX8_sortByTimes 3 = .ok (.aload_n 0, 1) := by decide +kernel
theorem dX8_sortByTimes_4 : decode cX8_sortByTimes 4 = .ok (.getfield 9, 3) := by decide +kernel
theorem dX8_sortByTimes_7 : decode cX8_sortByTimes 7 = .ok (.getfield 56, 3) := by decide +kernel
theorem dX8_sortByTimes_10 : decode cX8_sortByTimes 10 = .ok (.if_icmp .ge 70, 3) := by decide +kernel
theorem dX8_sortByTimes_13 : decode cX8_sortByTimes 13 = .ok (.iload_n 1, 1) := by decide +kernel
theorem dX8_sortByTimes_14 : decode cX8_sortByTimes 14 = .ok (.istore_n 2, 1) := by decide +kernel
theorem dX8_sortByTimes_15 : decode cX8_sortByTimes 15 = .ok (.iload_n 2, 1) := by decide +kernel
theorem dX8_sortByTimes_16 : decode cX8_sortByTimes 16 = .ok (.ifCond .le 51, 3) := by decide +kernel
theorem dX8_sortByTimes_19 : decode cX8_sortByTimes 19 = .ok (.aload_n 0, 1) := by decide +kernel
theorem dX8_sortByTimes_20 : decode cX8_sortByTimes 20 = .ok (.getfield 9, 3) := by decide +kernel
theorem dX8_sortByTimes_23 : decode cX8_sortByTimes 23 = .ok (.getfield 71, 3) := by decide +kernel
theorem dX8_sortByTimes_26 : decode cX8_sortByTimes 26 = .ok (.aload_n 0, 1) := by decide +kernel
theorem dX8_sortByTimes_27 : decode cX8_sortByTimes 27 = .ok (.getfield 28, 3) := by decide +kernel
theorem dX8_sortByTimes_30 : decode cX8_sortByTimes 30 = .ok (.iload_n 2, 1) := by decide +kernel
theorem dX8_sortByTimes_31 : decode cX8_sortByTimes 31 = .ok (.iconst 1, 1) := by decide +kernel
theorem dX8_sortByTimes_32 : decode cX8_sortByTimes 32 = .ok (.isub, 1) := by decide +kernel
theorem dX8_sortByTimes_33 : decode cX8_sortByTimes 33 = .ok (.iaload, 1) := by decide +kernel
theorem dX8_sortByTimes_34 : decode cX8_sortByTimes 34 = .ok (.iaload, 1) := by decide +kernel
theorem dX8_sortByTimes_35 : decode cX8_sortByTimes 35 = .ok (.aload_n 0, 1) := by decide +kernel
theorem dX8_sortByTimes_36 : decode cX8_sortByTimes 36 = .ok (.getfield 9, 3) := by decide +kernel
theorem dX8_sortByTimes_39 : decode cX8_sortByTimes 39 = .ok (.getfield 71, 3) := by decide +kernel
theorem dX8_sortByTimes_42 : decode cX8_sortByTimes 42 = .ok (.iload_n 1, 1) := by decide +kernel
theorem dX8_sortByTimes_43 : decode cX8_sortByTimes 43 = .ok (.iaload, 1) := by decide +kernel
theorem dX8_sortByTimes_44 : decode cX8_sortByTimes 44 = .ok (.if_icmp .ge 23, 3) := by decide +kernel
theorem dX8_sortByTimes_47 : decode cX8_sortByTimes 47 = .ok (.aload_n 0, 1) := by decide +kernel
theorem dX8_sortByTimes_48 : decode cX8_sortByTimes 48 = .ok (.getfield 28, 3) := by decide +kernel
theorem dX8_sortByTimes_51 : decode cX8_sortByTimes 51 = .ok (.iload_n 2, 1) := by decide +kernel
theorem dX8_sortByTimes_52 : decode cX8_sortByTimes 52 = .ok (.aload_n 0, 1) := by decide +kernel
theorem dX8_sortByTimes_53 : decode cX8_sortByTimes 53 = .ok (.getfield 28, 3) := by decide +kernel
theorem dX8_sortByTimes_56 : decode cX8_sortByTimes 56 = .ok (.iload_n 2, 1) := by decide +kernel
theorem dX8_sortByTimes_57 : decode cX8_sortByTimes 57 = .ok (.iconst 1, 1) := by decide +kernel
theorem dX8_sortByTimes_58 : decode cX8_sortByTimes 58 = .ok (.isub, 1) := by decide +kernel
theorem dX8_sortByTimes_59 : decode cX8_sortByTimes 59 = .ok (.iaload, 1) := by decide +kernel
theorem dX8_sortByTimes_60 : decode cX8_sortByTimes 60 = .ok (.iastore, 1) := by decide +kernel
theorem dX8_sortByTimes_61 : decode cX8_sortByTimes 61 = .ok (.iinc 2 (-1), 3) := by decide +kernel
theorem dX8_sortByTimes_64 : decode cX8_sortByTimes 64 = .ok (.goto (-49), 3) := by decide +kernel
theorem dX8_sortByTimes_67 : decode cX8_sortByTimes 67 = .ok (.aload_n 0, 1) := by decide +kernel
theorem dX8_sortByTimes_68 : decode cX8_sortByTimes 68 = .ok (.getfield 28, 3) := by decide +kernel
theorem dX8_sortByTimes_71 : decode cX8_sortByTimes 71 = .ok (.iload_n 2, 1) := by decide +kernel
theorem dX8_sortByTimes_72 : decode cX8_sortByTimes 72 = .ok (.iload_n 1, 1) := by decide +kernel
theorem dX8_sortByTimes_73 : decode cX8_sortByTimes 73 = .ok (.iastore, 1) := by decide +kernel
theorem dX8_sortByTimes_74 : decode cX8_sortByTimes 74 = .ok (.iinc 1 1, 3) := by decide +kernel
theorem dX8_sortByTimes_77 : decode cX8_sortByTimes 77 = .ok (.goto (-75), 3) := by decide +kernel
theorem dX8_sortByTimes_80 : decode cX8_sortByTimes 80 = .ok (.return_, 1) := by decide +kernel
theorem dX8_findGuesses_0 : decode cX8_findGuesses 0 = .ok (.aload_n 0, 1) := by decide +kernel
theorem dX8_findGuesses_1 : decode cX8_findGuesses 1 = .ok (.getfield 31, 3) := by decide +kernel
theorem dX8_findGuesses_4 : decode cX8_findGuesses 4 = .ok (.bipush (-6), 2) := by decide +kernel
theorem dX8_findGuesses_6 : decode cX8_findGuesses 6 = .ok (.invokestatic 50, 3) := by decide +kernel
theorem dX8_findGuesses_9 : decode cX8_findGuesses 9 = .ok (.iconst 0, 1) := by decide +kernel
theorem dX8_findGuesses_10 : decode cX8_findGuesses 10 = .ok (.istore_n 1, 1) := by decide +kernel
theorem dX8_findGuesses_11 : decode cX8_findGuesses 11 = .ok (.iload_n 1, 1) := by decide +kernel
theorem dX8_findGuesses_12 : decode cX8_findGuesses 12 = .ok (.aload_n 0, 1) := by decide +kernel
theorem dX8_findGuesses_13 : decode cX8_findGuesses 13 = .ok (.getfield 9, 3) := by decide +kernel
theorem dX8_findGuesses_16 : decode cX8_findGuesses 16 = .ok (.getfield 56, 3) := by decide +kernel
theorem dX8_findGuesses_19 : decode cX8_findGuesses 19 = .ok (.if_icmp .ge 46, 3) := by decide +kernel
theorem dX8_findGuesses_22 : decode cX8_findGuesses 22 = .ok (.aload_n 0, 1) := by decide +kernel
theorem dX8_findGuesses_23 : decode cX8_findGuesses 23 = .ok (.getfield 9, 3) := by decide +kernel
theorem dX8_findGuesses_26 : decode cX8_findGuesses 26 = .ok (.aload_n 0, 1) := by decide +kernel
theorem dX8_findGuesses_27 : decode cX8_findGuesses 27 = .ok (.getfield 28, 3) := by decide +kernel
theorem dX8_findGuesses_30 : decode cX8_findGuesses 30 = .ok (.iload_n 1, 1) := by decide +kernel
theorem dX8_findGuesses_31 : decode cX8_findGuesses 31 = .ok (.iaload, 1) := by decide +kernel
theorem dX8_findGuesses_32 : decode cX8_findGuesses 32 = .ok (.invokevirtual 81, 3) := by decide +kernel
theorem dX8_findGuesses_35 : decode cX8_findGuesses 35 = .ok (.istore_n 2, 1) := by decide +kernel
theorem dX8_findGuesses_36 : decode cX8_findGuesses 36 = .ok (.aload_n 0, 1) := by decide +kernel
theorem dX8_findGuesses_37 : decode cX8_findGuesses 37 = .ok (.getfield 31, 3) := by decide +kernel
theorem dX8_findGuesses_40 : decode cX8_findGuesses 40 = .ok (.iload_n 2, 1) := by decide +kernel
theorem dX8_findGuesses_41 : decode cX8_findGuesses 41 = .ok (.iaload, 1) := by decide +kernel
theorem dX8_findGuesses_42 : decode cX8_findGuesses 42 = .ok (.bipush (-6), 2) := by decide +kernel
theorem dX8_findGuesses_44 : decode cX8_findGuesses 44 = .ok (.if_icmp .ne 15, 3) := by decide +kernel
theorem dX8_findGuesses_47 : decode cX8_findGuesses 47 = .ok (.aload_n 0, 1) := by decide +kernel
theorem dX8_findGuesses_48 : decode cX8_findGuesses 48 = .ok (.getfield 31, 3) := by decide +kernel
theorem dX8_findGuesses_51 : decode cX8_findGuesses 51 = .ok (.iload_n 2, 1) := by decide +kernel
theorem dX8_findGuesses_52 : decode cX8_findGuesses 52 = .ok (.aload_n 0, 1) := by decide +kernel
theorem dX8_findGuesses_53 : decode cX8_findGuesses 53 = .ok (.getfield 28, 3) := by decide +kernel
theorem dX8_findGuesses_56 : decode cX8_findGuesses 56 = .ok (.iload_n 1, 1) := by decide +kernel
theorem dX8_findGuesses_57 : decode cX8_findGuesses 57 = .ok (.iaload, 1) := by decide +kernel
theorem dX8_findGuesses_58 : decode cX8_findGuesses 58 = .ok (.iastore, 1) := by decide +kernel
theorem dX8_findGuesses_59 : decode cX8_findGuesses 59 = .ok (.iinc 1 1, 3) := by decide +kernel
theorem dX8_findGuesses_62 : decode cX8_findGuesses 62 = .ok (.goto (-51), 3) := by decide +kernel
theorem dX8_findGuesses_65 : decode cX8_findGuesses 65 = .ok (.return_, 1) := by decide +kernel
theorem dX8_isRegular_0 : decode cX8_isRegular 0 = .ok (.aload_n 0, 1) := by decide +kernel
theorem dX8_isRegular_1 : decode cX8_isRegular 1 = .ok (.getfield 74, 3) := by decide +kernel
theorem dX8_isRegular_4 : decode cX8_isRegular 4 = .ok (.iload_n 1, 1) := by decide +kernel
theorem dX8_isRegular_5 : decode cX8_isRegular 5 = .ok (.invokestatic 85, 3) := by decide +kernel
theorem dX8_isRegular_8 : decode cX8_isRegular 8 = .ok (.ireturn, 1) := by decide +kernel
theorem dX8_placesByRule_0 : decode cX8_placesByRule 0 = .ok (.iconst 0, 1) := by decide +kernel
theorem dX8_placesByRule_1 : decode cX8_placesByRule 1 = .ok (.istore_n 1, 1) := by decide +kernel
theorem dX8_placesByRule_2 : decode cX8_placesByRule 2 = .ok (.iconst 0, 1) := by decide +kernel
theorem dX8_placesByRule_3 : decode cX8_placesByRule 3 = .ok (.istore_n 2, 1) := by decide +kernel
theorem dX8_placesByRule_4 : decode cX8_placesByRule 4 = .ok (.iload_n 2, 1) := by decide +kernel
theorem dX8_placesByRule_5 : decode cX8_placesByRule 5 = .ok (.bipush 10, 2) := by decide +kernel
theorem dX8_placesByRule_7 : decode cX8_placesByRule 7 = .ok (.if_icmp .ge 39, 3) := by decide +kernel
theorem dX8_placesByRule_10 : decode cX8_placesByRule 10 = .ok (.aload_n 0, 1) := by decide +kernel
theorem dX8_placesByRule_11 : decode cX8_placesByRule 11 = .ok (.getfield 22, 3) := by decide +kernel
theorem dX8_placesByRule_14 : decode cX8_placesByRule 14 = .ok (.iload_n 2, 1) := by decide +kernel
theorem dX8_placesByRule_15 : decode cX8_placesByRule 15 = .ok (.iaload, 1) := by decide +kernel
theorem dX8_placesByRule_16 : decode cX8_placesByRule 16 = .ok (.bipush (-6), 2) := by decide +kernel
theorem dX8_placesByRule_18 : decode cX8_placesByRule 18 = .ok (.if_icmp .eq 22, 3) := by decide +kernel
theorem dX8_placesByRule_21 : decode cX8_placesByRule 21 = .ok (.iload_n 1, 1) := by decide +kernel
theorem dX8_placesByRule_22 : decode cX8_placesByRule 22 = .ok (.aload_n 0, 1) := by decide +kernel
theorem dX8_placesByRule_23 : decode cX8_placesByRule 23 = .ok (.getfield 15, 3) := by decide +kernel
theorem dX8_placesByRule_26 : decode cX8_placesByRule 26 = .ok (.iload_n 2, 1) := by decide +kernel
theorem dX8_placesByRule_27 : decode cX8_placesByRule 27 = .ok (.bipush 10, 2) := by decide +kernel
theorem dX8_placesByRule_29 : decode cX8_placesByRule 29 = .ok (.imul, 1) := by decide +kernel
theorem dX8_placesByRule_30 : decode cX8_placesByRule 30 = .ok (.aload_n 0, 1) := by decide +kernel
theorem dX8_placesByRule_31 : decode cX8_placesByRule 31 = .ok (.getfield 22, 3) := by decide +kernel
theorem dX8_placesByRule_34 : decode cX8_placesByRule 34 = .ok (.iload_n 2, 1) := by decide +kernel
theorem dX8_placesByRule_35 : decode cX8_placesByRule 35 = .ok (.iaload, 1) := by decide +kernel
theorem dX8_placesByRule_36 : decode cX8_placesByRule 36 = .ok (.iadd, 1) := by decide +kernel
theorem dX8_placesByRule_37 : decode cX8_placesByRule 37 = .ok (.iaload, 1) := by decide +kernel
theorem dX8_placesByRule_38 : decode cX8_placesByRule 38 = .ok (.iadd, 1) := by decide +kernel
theorem dX8_placesByRule_39 : decode cX8_placesByRule 39 = .ok (.istore_n 1, 1) := by decide +kernel
theorem dX8_placesByRule_40 : decode cX8_placesByRule 40 = .ok (.iinc 2 1, 3) := by decide +kernel
theorem dX8_placesByRule_43 : decode cX8_placesByRule 43 = .ok (.goto (-39), 3) := by decide +kernel
theorem dX8_placesByRule_46 : decode cX8_placesByRule 46 = .ok (.iload_n 1, 1) := by decide +kernel
theorem dX8_placesByRule_47 : decode cX8_placesByRule 47 = .ok (.ireturn, 1) := by decide +kernel
theorem dX8_placesInAll_0 : decode cX8_placesInAll 0 = .ok (.iconst 0, 1) := by decide +kernel
theorem dX8_placesInAll_1 : decode cX8_placesInAll 1 = .ok (.istore_n 1, 1) := by decide +kernel
theorem dX8_placesInAll_2 : decode cX8_placesInAll 2 = .ok (.iconst 0, 1) := by decide +kernel
theorem dX8_placesInAll_3 : decode cX8_placesInAll 3 = .ok (.istore_n 2, 1) := by decide +kernel
theorem dX8_placesInAll_4 : decode cX8_placesInAll 4 = .ok (.iload_n 2, 1) := by decide +kernel
theorem dX8_placesInAll_5 : decode cX8_placesInAll 5 = .ok (.bipush 10, 2) := by decide +kernel
theorem dX8_placesInAll_7 : decode cX8_placesInAll 7 = .ok (.if_icmp .ge 18, 3) := by decide +kernel
theorem dX8_placesInAll_10 : decode cX8_placesInAll 10 = .ok (.iload_n 1, 1) := by decide +kernel
theorem dX8_placesInAll_11 : decode cX8_placesInAll 11 = .ok (.aload_n 0, 1) := by decide +kernel
theorem dX8_placesInAll_12 : decode cX8_placesInAll 12 = .ok (.getfield 19, 3) := by decide +kernel
theorem dX8_placesInAll_15 : decode cX8_placesInAll 15 = .ok (.iload_n 2, 1) := by decide +kernel
theorem dX8_placesInAll_16 : decode cX8_placesInAll 16 = .ok (.iaload, 1) := by decide +kernel
theorem dX8_placesInAll_17 : decode cX8_placesInAll 17 = .ok (.iadd, 1) := by decide +kernel
theorem dX8_placesInAll_18 : decode cX8_placesInAll 18 = .ok (.istore_n 1, 1) := by decide +kernel
theorem dX8_placesInAll_19 : decode cX8_placesInAll 19 = .ok (.iinc 2 1, 3) := by decide +kernel
theorem dX8_placesInAll_22 : decode cX8_placesInAll 22 = .ok (.goto (-18), 3) := by decide +kernel
theorem dX8_placesInAll_25 : decode cX8_placesInAll 25 = .ok (.iload_n 1, 1) := by decide +kernel
theorem dX8_placesInAll_26 : decode cX8_placesInAll 26 = .ok (.ireturn, 1) := by decide +kernel
theorem dX8_isGiven_0 : decode cX8_isGiven 0 = .ok (.aload_n 0, 1) := by decide +kernel
theorem dX8_isGiven_1 : decode cX8_isGiven 1 = .ok (.iload_n 1, 1) := by decide +kernel
theorem dX8_isGiven_2 : decode cX8_isGiven 2 = .ok (.invokevirtual 89, 3) := by decide +kernel
theorem dX8_isGiven_5 : decode cX8_isGiven 5 = .ok (.ifCond .eq 23, 3) := by decide +kernel
theorem dX8_isGiven_8 : decode cX8_isGiven 8 = .ok (.aload_n 0, 1) := by decide +kernel
theorem dX8_isGiven_9 : decode cX8_isGiven 9 = .ok (.getfield 9, 3) := by decide +kernel
theorem dX8_isGiven_12 : decode cX8_isGiven 12 = .ok (.getfield 92, 3) := by decide +kernel
theorem dX8_isGiven_15 : decode cX8_isGiven 15 = .ok (.iload_n 1, 1) := by decide +kernel
theorem dX8_isGiven_16 : decode cX8_isGiven 16 = .ok (.iaload, 1) := by decide +kernel
theorem dX8_isGiven_17 : decode cX8_isGiven 17 = .ok (.iload_n 2, 1) := by decide +kernel
theorem dX8_isGiven_18 : decode cX8_isGiven 18 = .ok (.iconst (-1), 1) := by decide +kernel
theorem dX8_isGiven_19 : decode cX8_isGiven 19 = .ok (.ixor, 1) := by decide +kernel
theorem dX8_isGiven_20 : decode cX8_isGiven 20 = .ok (.iand, 1) := by decide +kernel
theorem dX8_isGiven_21 : decode cX8_isGiven 21 = .ok (.ifCond .ne 7, 3) := by decide +kernel
theorem dX8_isGiven_24 : decode cX8_isGiven 24 = .ok (.iconst 1, 1) := by decide +kernel
theorem dX8_isGiven_25 : decode cX8_isGiven 25 = .ok (.goto 4, 3) := by decide +kernel
theorem dX8_isGiven_28 : decode cX8_isGiven 28 = .ok (.iconst 0, 1) := by decide +kernel
theorem dX8_isGiven_29 : decode cX8_isGiven 29 = .ok (.ireturn, 1) := by decide +kernel
theorem dX8_givenBy_0 : decode cX8_givenBy 0 = .ok (.iconst 0, 1) := by decide +kernel
theorem dX8_givenBy_1 : decode cX8_givenBy 1 = .ok (.istore_n 2, 1) := by decide +kernel
theorem dX8_givenBy_2 : decode cX8_givenBy 2 = .ok (.iconst 0, 1) := by decide +kernel
theorem dX8_givenBy_3 : decode cX8_givenBy 3 = .ok (.istore_n 3, 1) := by decide +kernel
theorem dX8_givenBy_4 : decode cX8_givenBy 4 = .ok (.iload_n 3, 1) := by decide +kernel
theorem dX8_givenBy_5 : decode cX8_givenBy 5 = .ok (.aload_n 0, 1) := by decide +kernel
theorem dX8_givenBy_6 : decode cX8_givenBy 6 = .ok (.getfield 9, 3) := by decide +kernel
theorem dX8_givenBy_9 : decode cX8_givenBy 9 = .ok (.getfield 56, 3) := by decide +kernel
theorem dX8_givenBy_12 : decode cX8_givenBy 12 = .ok (.if_icmp .ge 24, 3) := by decide +kernel
theorem dX8_givenBy_15 : decode cX8_givenBy 15 = .ok (.aload_n 0, 1) := by decide +kernel
theorem dX8_givenBy_16 : decode cX8_givenBy 16 = .ok (.iload_n 3, 1) := by decide +kernel
theorem dX8_givenBy_17 : decode cX8_givenBy 17 = .ok (.iload_n 1, 1) := by decide +kernel
theorem dX8_givenBy_18 : decode cX8_givenBy 18 = .ok (.invokevirtual 95, 3) := by decide +kernel
theorem dX8_givenBy_21 : decode cX8_givenBy 21 = .ok (.ifCond .eq 9, 3) := by decide +kernel
theorem dX8_givenBy_24 : decode cX8_givenBy 24 = .ok (.iload_n 2, 1) := by decide +kernel
theorem dX8_givenBy_25 : decode cX8_givenBy 25 = .ok (.iconst 1, 1) := by decide +kernel
theorem dX8_givenBy_26 : decode cX8_givenBy 26 = .ok (.iload_n 3, 1) := by decide +kernel
theorem dX8_givenBy_27 : decode cX8_givenBy 27 = .ok (.ishl, 1) := by decide +kernel
theorem dX8_givenBy_28 : decode cX8_givenBy 28 = .ok (.ior, 1) := by decide +kernel
theorem dX8_givenBy_29 : decode cX8_givenBy 29 = .ok (.istore_n 2, 1) := by decide +kernel
theorem dX8_givenBy_30 : decode cX8_givenBy 30 = .ok (.iinc 3 1, 3) := by decide +kernel
theorem dX8_givenBy_33 : decode cX8_givenBy 33 = .ok (.goto (-29), 3) := by decide +kernel
theorem dX8_givenBy_36 : decode cX8_givenBy 36 = .ok (.iload_n 2, 1) := by decide +kernel
theorem dX8_givenBy_37 : decode cX8_givenBy 37 = .ok (.ireturn, 1) := by decide +kernel
theorem dX8_newSign_0 : decode cX8_newSign 0 = .ok (.aload_n 0, 1) := by decide +kernel
theorem dX8_newSign_1 : decode cX8_newSign 1 = .ok (.getfield 25, 3) := by decide +kernel
theorem dX8_newSign_4 : decode cX8_newSign 4 = .ok (.aload_n 0, 1) := by decide +kernel
theorem dX8_newSign_5 : decode cX8_newSign 5 = .ok (.getfield 9, 3) := by decide +kernel
theorem dX8_newSign_8 : decode cX8_newSign 8 = .ok (.iload_n 1, 1) := by decide +kernel
theorem dX8_newSign_9 : decode cX8_newSign 9 = .ok (.iload_n 2, 1) := by decide +kernel
theorem dX8_newSign_10 : decode cX8_newSign 10 = .ok (.invokevirtual 68, 3) := by decide +kernel
theorem dX8_newSign_13 : decode cX8_newSign 13 = .ok (.iaload, 1) := by decide +kernel
theorem dX8_newSign_14 : decode cX8_newSign 14 = .ok (.ireturn, 1) := by decide +kernel
theorem dX8_changedPlaces_0 : decode cX8_changedPlaces 0 = .ok (.iconst 0, 1) := by decide +kernel
theorem dX8_changedPlaces_1 : decode cX8_changedPlaces 1 = .ok (.istore_n 1, 1) := by decide +kernel
theorem dX8_changedPlaces_2 : decode cX8_changedPlaces 2 = .ok (.iconst 0, 1) := by decide +kernel
theorem dX8_changedPlaces_3 : decode cX8_changedPlaces 3 = .ok (.istore_n 2, 1) := by decide +kernel
theorem dX8_changedPlaces_4 : decode cX8_changedPlaces 4 = .ok (.iload_n 2, 1) := by decide +kernel
theorem dX8_changedPlaces_5 : decode cX8_changedPlaces 5 = .ok (.aload_n 0, 1) := by decide +kernel
theorem dX8_changedPlaces_6 : decode cX8_changedPlaces 6 = .ok (.getfield 9, 3) := by decide +kernel
theorem dX8_changedPlaces_9 : decode cX8_changedPlaces 9 = .ok (.getfield 56, 3) := by decide +kernel
theorem dX8_changedPlaces_12 : decode cX8_changedPlaces 12 = .ok (.if_icmp .ge 60, 3) := by decide +kernel
theorem dX8_changedPlaces_15 : decode cX8_changedPlaces 15 = .ok (.iconst 0, 1) := by decide +kernel
theorem dX8_changedPlaces_16 : decode cX8_changedPlaces 16 = .ok (.istore_n 3, 1) := by decide +kernel
theorem dX8_changedPlaces_17 : decode cX8_changedPlaces 17 = .ok (.iload_n 3, 1) := by decide +kernel
theorem dX8_changedPlaces_18 : decode cX8_changedPlaces 18 = .ok (.aload_n 0, 1) := by decide +kernel
theorem dX8_changedPlaces_19 : decode cX8_changedPlaces 19 = .ok (.getfield 9, 3) := by decide +kernel
theorem dX8_changedPlaces_22 : decode cX8_changedPlaces 22 = .ok (.getfield 62, 3) := by decide +kernel
theorem dX8_changedPlaces_25 : decode cX8_changedPlaces 25 = .ok (.iload_n 2, 1) := by decide +kernel
theorem dX8_changedPlaces_26 : decode cX8_changedPlaces 26 = .ok (.iaload, 1) := by decide +kernel
theorem dX8_changedPlaces_27 : decode cX8_changedPlaces 27 = .ok (.if_icmp .ge 39, 3) := by decide +kernel
theorem dX8_changedPlaces_30 : decode cX8_changedPlaces 30 = .ok (.aload_n 0, 1) := by decide +kernel
theorem dX8_changedPlaces_31 : decode cX8_changedPlaces 31 = .ok (.iload_n 2, 1) := by decide +kernel
theorem dX8_changedPlaces_32 : decode cX8_changedPlaces 32 = .ok (.iload_n 3, 1) := by decide +kernel
theorem dX8_changedPlaces_33 : decode cX8_changedPlaces 33 = .ok (.invokevirtual 98, 3) := by decide +kernel
theorem dX8_changedPlaces_36 : decode cX8_changedPlaces 36 = .ok (.aload_n 0, 1) := by decide +kernel
theorem dX8_changedPlaces_37 : decode cX8_changedPlaces 37 = .ok (.getfield 9, 3) := by decide +kernel
theorem dX8_changedPlaces_40 : decode cX8_changedPlaces 40 = .ok (.iload_n 2, 1) := by decide +kernel
theorem dX8_changedPlaces_41 : decode cX8_changedPlaces 41 = .ok (.iload_n 3, 1) := by decide +kernel
theorem dX8_changedPlaces_42 : decode cX8_changedPlaces 42 = .ok (.invokevirtual 65, 3) := by decide +kernel
theorem dX8_changedPlaces_45 : decode cX8_changedPlaces 45 = .ok (.if_icmp .eq 15, 3) := by decide +kernel
theorem dX8_changedPlaces_48 : decode cX8_changedPlaces 48 = .ok (.iload_n 1, 1) := by decide +kernel
theorem dX8_changedPlaces_49 : decode cX8_changedPlaces 49 = .ok (.aload_n 0, 1) := by decide +kernel
theorem dX8_changedPlaces_50 : decode cX8_changedPlaces 50 = .ok (.getfield 9, 3) := by decide +kernel
theorem dX8_changedPlaces_53 : decode cX8_changedPlaces 53 = .ok (.getfield 71, 3) := by decide +kernel
theorem dX8_changedPlaces_56 : decode cX8_changedPlaces 56 = .ok (.iload_n 2, 1) := by decide +kernel
theorem dX8_changedPlaces_57 : decode cX8_changedPlaces 57 = .ok (.iaload, 1) := by decide +kernel
theorem dX8_changedPlaces_58 : decode cX8_changedPlaces 58 = .ok (.iadd, 1) := by decide +kernel
theorem dX8_changedPlaces_59 : decode cX8_changedPlaces 59 = .ok (.istore_n 1, 1) := by decide +kernel
theorem dX8_changedPlaces_60 : decode cX8_changedPlaces 60 = .ok (.iinc 3 1, 3) := by decide +kernel
theorem dX8_changedPlaces_63 : decode cX8_changedPlaces 63 = .ok (.goto (-46), 3) := by decide +kernel
theorem dX8_changedPlaces_66 : decode cX8_changedPlaces 66 = .ok (.iinc 2 1, 3) := by decide +kernel
theorem dX8_changedPlaces_69 : decode cX8_changedPlaces 69 = .ok (.goto (-65), 3) := by decide +kernel
theorem dX8_changedPlaces_72 : decode cX8_changedPlaces 72 = .ok (.iload_n 1, 1) := by decide +kernel
theorem dX8_changedPlaces_73 : decode cX8_changedPlaces 73 = .ok (.ireturn, 1) := by decide +kernel
theorem dX8_firstClash_0 : decode cX8_firstClash 0 = .ok (.iconst 0, 1) := by decide +kernel
theorem dX8_firstClash_1 : decode cX8_firstClash 1 = .ok (.istore_n 1, 1) := by decide +kernel
theorem dX8_firstClash_2 : decode cX8_firstClash 2 = .ok (.iload_n 1, 1) := by decide +kernel
theorem dX8_firstClash_3 : decode cX8_firstClash 3 = .ok (.aload_n 0, 1) := by decide +kernel
theorem dX8_firstClash_4 : decode cX8_firstClash 4 = .ok (.getfield 9, 3) := by decide +kernel
theorem dX8_firstClash_7 : decode cX8_firstClash 7 = .ok (.getfield 56, 3) := by decide +kernel
theorem dX8_firstClash_10 : decode cX8_firstClash 10 = .ok (.if_icmp .ge 46, 3) := by decide +kernel
theorem dX8_firstClash_13 : decode cX8_firstClash 13 = .ok (.iload_n 1, 1) := by decide +kernel
theorem dX8_firstClash_14 : decode cX8_firstClash 14 = .ok (.iconst 1, 1) := by decide +kernel
theorem dX8_firstClash_15 : decode cX8_firstClash 15 = .ok (.iadd, 1) := by decide +kernel
theorem dX8_firstClash_16 : decode cX8_firstClash 16 = .ok (.istore_n 2, 1) := by decide +kernel
theorem dX8_firstClash_17 : decode cX8_firstClash 17 = .ok (.iload_n 2, 1) := by decide +kernel
theorem dX8_firstClash_18 : decode cX8_firstClash 18 = .ok (.aload_n 0, 1) := by decide +kernel
theorem dX8_firstClash_19 : decode cX8_firstClash 19 = .ok (.getfield 9, 3) := by decide +kernel
theorem dX8_firstClash_22 : decode cX8_firstClash 22 = .ok (.getfield 56, 3) := by decide +kernel
theorem dX8_firstClash_25 : decode cX8_firstClash 25 = .ok (.if_icmp .ge 25, 3) := by decide +kernel
theorem dX8_firstClash_28 : decode cX8_firstClash 28 = .ok (.aload_n 0, 1) := by decide +kernel
theorem dX8_firstClash_29 : decode cX8_firstClash 29 = .ok (.iload_n 1, 1) := by decide +kernel
theorem dX8_firstClash_30 : decode cX8_firstClash 30 = .ok (.iload_n 2, 1) := by decide +kernel
theorem dX8_firstClash_31 : decode cX8_firstClash 31 = .ok (.invokevirtual 101, 3) := by decide +kernel
theorem dX8_firstClash_34 : decode cX8_firstClash 34 = .ok (.ifCond .eq 10, 3) := by decide +kernel
theorem dX8_firstClash_37 : decode cX8_firstClash 37 = .ok (.bipush 100, 2) := by decide +kernel
theorem dX8_firstClash_39 : decode cX8_firstClash 39 = .ok (.iload_n 1, 1) := by decide +kernel
theorem dX8_firstClash_40 : decode cX8_firstClash 40 = .ok (.imul, 1) := by decide +kernel
theorem dX8_firstClash_41 : decode cX8_firstClash 41 = .ok (.iload_n 2, 1) := by decide +kernel
theorem dX8_firstClash_42 : decode cX8_firstClash 42 = .ok (.iadd, 1) := by decide +kernel
theorem dX8_firstClash_43 : decode cX8_firstClash 43 = .ok (.ireturn, 1) := by decide +kernel
theorem dX8_firstClash_44 : decode cX8_firstClash 44 = .ok (.iinc 2 1, 3) := by decide +kernel
theorem dX8_firstClash_47 : decode cX8_firstClash 47 = .ok (.goto (-30), 3) := by decide +kernel
theorem dX8_firstClash_50 : decode cX8_firstClash 50 = .ok (.iinc 1 1, 3) := by decide +kernel
theorem dX8_firstClash_53 : decode cX8_firstClash 53 = .ok (.goto (-51), 3) := by decide +kernel
theorem dX8_firstClash_56 : decode cX8_firstClash 56 = .ok (.bipush (-6), 2) := by decide +kernel
theorem dX8_firstClash_58 : decode cX8_firstClash 58 = .ok (.ireturn, 1) := by decide +kernel
theorem dX8_areRespeltAlike_0 : decode cX8_areRespeltAlike 0 = .ok (.aload_n 0, 1) := by decide +kernel
theorem dX8_areRespeltAlike_1 : decode cX8_areRespeltAlike 1 = .ok (.getfield 9, 3) := by decide +kernel
theorem dX8_areRespeltAlike_4 : decode cX8_areRespeltAlike 4 = .ok (.getfield 62, 3) := by decide +kernel
theorem dX8_areRespeltAlike_7 : decode cX8_areRespeltAlike 7 = .ok (.iload_n 1, 1) := by decide +kernel
theorem dX8_areRespeltAlike_8 : decode cX8_areRespeltAlike 8 = .ok (.iaload, 1) := by decide +kernel
theorem dX8_areRespeltAlike_9 : decode cX8_areRespeltAlike 9 = .ok (.aload_n 0, 1) := by decide +kernel
theorem dX8_areRespeltAlike_10 : decode cX8_areRespeltAlike 10 = .ok (.getfield 9, 3) := by decide +kernel
theorem dX8_areRespeltAlike_13 : decode cX8_areRespeltAlike 13 = .ok (.getfield 62, 3) := by decide +kernel
theorem dX8_areRespeltAlike_16 : decode cX8_areRespeltAlike 16 = .ok (.iload_n 2, 1) := by decide +kernel
theorem dX8_areRespeltAlike_17 : decode cX8_areRespeltAlike 17 = .ok (.iaload, 1) := by decide +kernel
theorem dX8_areRespeltAlike_18 : decode cX8_areRespeltAlike 18 = .ok (.if_icmp .eq 5, 3) := by decide +kernel
theorem dX8_areRespeltAlike_21 : decode cX8_areRespeltAlike 21 = .ok (.iconst 0, 1) := by decide +kernel
theorem dX8_areRespeltAlike_22 : decode cX8_areRespeltAlike 22 = .ok (.ireturn, 1) := by decide +kernel
theorem dX8_areRespeltAlike_23 : decode cX8_areRespeltAlike 23 = .ok (.iconst 0, 1) := by decide +kernel
theorem dX8_areRespeltAlike_24 : decode cX8_areRespeltAlike 24 = .ok (.istore_n 3, 1) := by decide +kernel
theorem dX8_areRespeltAlike_25 : decode cX8_areRespeltAlike 25 = .ok (.iload_n 3, 1) := by decide +kernel
theorem dX8_areRespeltAlike_26 : decode cX8_areRespeltAlike 26 = .ok (.aload_n 0, 1) := by decide +kernel
theorem dX8_areRespeltAlike_27 : decode cX8_areRespeltAlike 27 = .ok (.getfield 9, 3) := by decide +kernel
theorem dX8_areRespeltAlike_30 : decode cX8_areRespeltAlike 30 = .ok (.getfield 62, 3) := by decide +kernel
theorem dX8_areRespeltAlike_33 : decode cX8_areRespeltAlike 33 = .ok (.iload_n 1, 1) := by decide +kernel
theorem dX8_areRespeltAlike_34 : decode cX8_areRespeltAlike 34 = .ok (.iaload, 1) := by decide +kernel
theorem dX8_areRespeltAlike_35 : decode cX8_areRespeltAlike 35 = .ok (.if_icmp .ge 26, 3) := by decide +kernel
theorem dX8_areRespeltAlike_38 : decode cX8_areRespeltAlike 38 = .ok (.aload_n 0, 1) := by decide +kernel
theorem dX8_areRespeltAlike_39 : decode cX8_areRespeltAlike 39 = .ok (.iload_n 1, 1) := by decide +kernel
theorem dX8_areRespeltAlike_40 : decode cX8_areRespeltAlike 40 = .ok (.iload_n 3, 1) := by decide +kernel
theorem dX8_areRespeltAlike_41 : decode cX8_areRespeltAlike 41 = .ok (.invokevirtual 98, 3) := by decide +kernel
theorem dX8_areRespeltAlike_44 : decode cX8_areRespeltAlike 44 = .ok (.aload_n 0, 1) := by decide +kernel
theorem dX8_areRespeltAlike_45 : decode cX8_areRespeltAlike 45 = .ok (.iload_n 2, 1) := by decide +kernel
theorem dX8_areRespeltAlike_46 : decode cX8_areRespeltAlike 46 = .ok (.iload_n 3, 1) := by decide +kernel
theorem dX8_areRespeltAlike_47 : decode cX8_areRespeltAlike 47 = .ok (.invokevirtual 98, 3) := by decide +kernel
theorem dX8_areRespeltAlike_50 : decode cX8_areRespeltAlike 50 = .ok (.if_icmp .eq 5, 3) := by decide +kernel
theorem dX8_areRespeltAlike_53 : decode cX8_areRespeltAlike 53 = .ok (.iconst 0, 1) := by decide +kernel
theorem dX8_areRespeltAlike_54 : decode cX8_areRespeltAlike 54 = .ok (.ireturn, 1) := by decide +kernel
theorem dX8_areRespeltAlike_55 : decode cX8_areRespeltAlike 55 = .ok (.iinc 3 1, 3) := by decide +kernel
theorem dX8_areRespeltAlike_58 : decode cX8_areRespeltAlike 58 = .ok (.goto (-33), 3) := by decide +kernel
theorem dX8_areRespeltAlike_61 : decode cX8_areRespeltAlike 61 = .ok (.iconst 1, 1) := by decide +kernel
theorem dX8_areRespeltAlike_62 : decode cX8_areRespeltAlike 62 = .ok (.ireturn, 1) := by decide +kernel
theorem dX9_init_0 : decode cX9_init 0 = .ok (.aload_n 0, 1) := by decide +kernel
theorem dX9_init_1 : decode cX9_init 1 = .ok (.invokespecial 3, 3) := by decide +kernel
theorem dX9_init_4 : decode cX9_init 4 = .ok (.aload_n 0, 1) := by decide +kernel
theorem dX9_init_5 : decode cX9_init 5 = .ok (.aload_n 1, 1) := by decide +kernel
theorem dX9_init_6 : decode cX9_init 6 = .ok (.putfield 9, 3) := by decide +kernel
theorem dX9_init_9 : decode cX9_init 9 = .ok (.aload_n 0, 1) := by decide +kernel
theorem dX9_init_10 : decode cX9_init 10 = .ok (.aload_n 2, 1) := by decide +kernel
theorem dX9_init_11 : decode cX9_init 11 = .ok (.putfield 15, 3) := by decide +kernel
theorem dX9_init_14 : decode cX9_init 14 = .ok (.aload_n 0, 1) := by decide +kernel
theorem dX9_init_15 : decode cX9_init 15 = .ok (.sipush 1024, 3) := by decide +kernel
theorem dX9_init_18 : decode cX9_init 18 = .ok (.newarray .int, 2) := by decide +kernel
theorem dX9_init_20 : decode cX9_init 20 = .ok (.putfield 19, 3) := by decide +kernel
theorem dX9_init_23 : decode cX9_init 23 = .ok (.aload_n 0, 1) := by decide +kernel
theorem dX9_init_24 : decode cX9_init 24 = .ok (.sipush 1024, 3) := by decide +kernel
theorem dX9_init_27 : decode cX9_init 27 = .ok (.newarray .int, 2) := by decide +kernel
theorem dX9_init_29 : decode cX9_init 29 = .ok (.putfield 23, 3) := by decide +kernel
theorem dX9_init_32 : decode cX9_init 32 = .ok (.aload_n 0, 1) := by decide +kernel
theorem dX9_init_33 : decode cX9_init 33 = .ok (.bipush 10, 2) := by decide +kernel
theorem dX9_init_35 : decode cX9_init 35 = .ok (.newarray .int, 2) := by decide +kernel
theorem dX9_init_37 : decode cX9_init 37 = .ok (.putfield 26, 3) := by decide +kernel
theorem dX9_init_40 : decode cX9_init 40 = .ok (.return_, 1) := by decide +kernel
theorem dX9_findOrder_0 : decode cX9_findOrder 0 = .ok (.aload_n 0, 1) := by decide +kernel
theorem dX9_findOrder_1 : decode cX9_findOrder 1 = .ok (.getfield 29, 3) := by decide +kernel
theorem dX9_findOrder_4 : decode cX9_findOrder 4 = .ok (.ifCond .eq 4, 3) := by decide +kernel
theorem dX9_findOrder_7 : decode cX9_findOrder 7 = .ok (.return_, 1) := by decide +kernel
theorem dX9_findOrder_8 : decode cX9_findOrder 8 = .ok (.aload_n 0, 1) := by decide +kernel
theorem dX9_findOrder_9 : decode cX9_findOrder 9 = .ok (.invokevirtual 33, 3) := by decide +kernel
theorem dX9_findOrder_12 : decode cX9_findOrder 12 = .ok (.aload_n 0, 1) := by decide +kernel
theorem dX9_findOrder_13 : decode cX9_findOrder 13 = .ok (.getfield 23, 3) := by decide +kernel
theorem dX9_findOrder_16 : decode cX9_findOrder 16 = .ok (.sipush 1023, 3) := by decide +kernel
theorem dX9_findOrder_19 : decode cX9_findOrder 19 = .ok (.iconst 0, 1) := by decide +kernel
theorem dX9_findOrder_20 : decode cX9_findOrder 20 = .ok (.iastore, 1) := by decide +kernel
theorem dX9_findOrder_21 : decode cX9_findOrder 21 = .ok (.sipush 1022, 3) := by decide +kernel
theorem dX9_findOrder_24 : decode cX9_findOrder 24 = .ok (.istore_n 1, 1) := by decide +kernel
theorem dX9_findOrder_25 : decode cX9_findOrder 25 = .ok (.iload_n 1, 1) := by decide +kernel
theorem dX9_findOrder_26 : decode cX9_findOrder 26 = .ok (.ifCond .lt 20, 3) := by decide +kernel
theorem dX9_findOrder_29 : decode cX9_findOrder 29 = .ok (.aload_n 0, 1) := by decide +kernel
theorem dX9_findOrder_30 : decode cX9_findOrder 30 = .ok (.getfield 23, 3) := by decide +kernel
theorem dX9_findOrder_33 : decode cX9_findOrder 33 = .ok (.iload_n 1, 1) := by decide +kernel
theorem dX9_findOrder_34 : decode cX9_findOrder 34 = .ok (.aload_n 0, 1) := by decide +kernel
theorem dX9_findOrder_35 : decode cX9_findOrder 35 = .ok (.iload_n 1, 1) := by decide +kernel
theorem dX9_findOrder_36 : decode cX9_findOrder 36 = .ok (.invokevirtual 36, 3) := by decide +kernel
theorem dX9_findOrder_39 : decode cX9_findOrder 39 = .ok (.iastore, 1) := by decide +kernel
theorem dX9_findOrder_40 : decode cX9_findOrder 40 = .ok (.iinc 1 (-1), 3) := by decide +kernel
theorem dX9_findOrder_43 : decode cX9_findOrder 43 = .ok (.goto (-18), 3) := by decide +kernel
theorem dX9_findOrder_46 : decode cX9_findOrder 46 = .ok (.aload_n 0, 1) := by decide +kernel
theorem dX9_findOrder_47 : decode cX9_findOrder 47 = .ok (.aload_n 0, 1) := by decide +kernel
theorem dX9_findOrder_48 : decode cX9_findOrder 48 = .ok (.getfield 23, 3) := by decide +kernel
theorem dX9_findOrder_51 : decode cX9_findOrder 51 = .ok (.iconst 0, 1) := by decide +kernel
theorem dX9_findOrder_52 : decode cX9_findOrder 52 = .ok (.iaload, 1) := by decide +kernel
theorem dX9_findOrder_53 : decode cX9_findOrder 53 = .ok (.putfield 40, 3) := by decide +kernel
theorem dX9_findOrder_56 : decode cX9_findOrder 56 = .ok (.aload_n 0, 1) := by decide +kernel
theorem dX9_findOrder_57 : decode cX9_findOrder 57 = .ok (.invokevirtual 44, 3) := by decide +kernel
theorem dX9_findOrder_60 : decode cX9_findOrder 60 = .ok (.aload_n 0, 1) := by decide +kernel
theorem dX9_findOrder_61 : decode cX9_findOrder 61 = .ok (.iconst 1, 1) := by decide +kernel
theorem dX9_findOrder_62 : decode cX9_findOrder 62 = .ok (.putfield 29, 3) := by decide +kernel
theorem dX9_findOrder_65 : decode cX9_findOrder 65 = .ok (.return_, 1) := by decide +kernel
theorem dX9_bestAhead_0 : decode cX9_bestAhead 0 = .ok (.iconst 0, 1) := by decide +kernel
theorem dX9_bestAhead_1 : decode cX9_bestAhead 1 = .ok (.istore_n 2, 1) := by decide +kernel
theorem dX9_bestAhead_2 : decode cX9_bestAhead 2 = .ok (.iconst 0, 1) := by decide +kernel
theorem dX9_bestAhead_3 : decode cX9_bestAhead 3 = .ok (.istore_n 3, 1) := by decide +kernel
theorem dX9_bestAhead_4 : decode cX9_bestAhead 4 = .ok (.iload_n 3, 1) := by decide +kernel
theorem dX9_bestAhead_5 : decode cX9_bestAhead 5 = .ok (.bipush 10, 2) := by decide +kernel
theorem dX9_bestAhead_7 : decode cX9_bestAhead 7 = .ok (.if_icmp .ge 42, 3) := by decide +kernel
theorem dX9_bestAhead_10 : decode cX9_bestAhead 10 = .ok (.iload_n 1, 1) := by decide +kernel
theorem dX9_bestAhead_11 : decode cX9_bestAhead 11 = .ok (.iconst 1, 1) := by decide +kernel
theorem dX9_bestAhead_12 : decode cX9_bestAhead 12 = .ok (.iload_n 3, 1) := by decide +kernel
theorem dX9_bestAhead_13 : decode cX9_bestAhead 13 = .ok (.ishl, 1) := by decide +kernel
theorem dX9_bestAhead_14 : decode cX9_bestAhead 14 = .ok (.ior, 1) := by decide +kernel
theorem dX9_bestAhead_15 : decode cX9_bestAhead 15 = .ok (.istore 4, 2) := by decide +kernel
theorem dX9_bestAhead_17 : decode cX9_bestAhead 17 = .ok (.iload 4, 2) := by decide +kernel
theorem dX9_bestAhead_19 : decode cX9_bestAhead 19 = .ok (.iload_n 1, 1) := by decide +kernel
theorem dX9_bestAhead_20 : decode cX9_bestAhead 20 = .ok (.if_icmp .eq 23, 3) := by decide +kernel
theorem dX9_bestAhead_23 : decode cX9_bestAhead 23 = .ok (.iload_n 2, 1) := by decide +kernel
theorem dX9_bestAhead_24 : decode cX9_bestAhead 24 = .ok (.aload_n 0, 1) := by decide +kernel
theorem dX9_bestAhead_25 : decode cX9_bestAhead 25 = .ok (.getfield 19, 3) := by decide +kernel
theorem dX9_bestAhead_28 : decode cX9_bestAhead 28 = .ok (.iload 4, 2) := by decide +kernel
theorem dX9_bestAhead_30 : decode cX9_bestAhead 30 = .ok (.iaload, 1) := by decide +kernel
theorem dX9_bestAhead_31 : decode cX9_bestAhead 31 = .ok (.aload_n 0, 1) := by decide +kernel
theorem dX9_bestAhead_32 : decode cX9_bestAhead 32 = .ok (.getfield 23, 3) := by decide +kernel
theorem dX9_bestAhead_35 : decode cX9_bestAhead 35 = .ok (.iload 4, 2) := by decide +kernel
theorem dX9_bestAhead_37 : decode cX9_bestAhead 37 = .ok (.iaload, 1) := by decide +kernel
theorem dX9_bestAhead_38 : decode cX9_bestAhead 38 = .ok (.iadd, 1) := by decide +kernel
theorem dX9_bestAhead_39 : decode cX9_bestAhead 39 = .ok (.invokestatic 47, 3) := by decide +kernel
theorem dX9_bestAhead_42 : decode cX9_bestAhead 42 = .ok (.istore_n 2, 1) := by decide +kernel
theorem dX9_bestAhead_43 : decode cX9_bestAhead 43 = .ok (.iinc 3 1, 3) := by decide +kernel
theorem dX9_bestAhead_46 : decode cX9_bestAhead 46 = .ok (.goto (-42), 3) := by decide +kernel
theorem dX9_bestAhead_49 : decode cX9_bestAhead 49 = .ok (.iload_n 2, 1) := by decide +kernel
theorem dX9_bestAhead_50 : decode cX9_bestAhead 50 = .ok (.ireturn, 1) := by decide +kernel
theorem dX9_weighSets_0 : decode cX9_weighSets 0 = .ok (.aload_n 0, 1) := by decide +kernel
theorem dX9_weighSets_1 : decode cX9_weighSets 1 = .ok (.getfield 19, 3) := by decide +kernel
theorem dX9_weighSets_4 : decode cX9_weighSets 4 = .ok (.iconst 0, 1) := by decide +kernel
theorem dX9_weighSets_5 : decode cX9_weighSets 5 = .ok (.invokestatic 53, 3) := by decide +kernel
theorem dX9_weighSets_8 : decode cX9_weighSets 8 = .ok (.iconst 0, 1) := by decide +kernel
theorem dX9_weighSets_9 : decode cX9_weighSets 9 = .ok (.istore_n 1, 1) := by decide +kernel
theorem dX9_weighSets_10 : decode cX9_weighSets 10 = .ok (.iload_n 1, 1) := by decide +kernel
theorem dX9_weighSets_11 : decode cX9_weighSets 11 = .ok (.aload_n 0, 1) := by decide +kernel
theorem dX9_weighSets_12 : decode cX9_weighSets 12 = .ok (.getfield 9, 3) := by decide +kernel
theorem dX9_weighSets_15 : decode cX9_weighSets 15 = .ok (.getfield 59, 3) := by decide +kernel
theorem dX9_weighSets_18 : decode cX9_weighSets 18 = .ok (.if_icmp .ge 46, 3) := by decide +kernel
theorem dX9_weighSets_21 : decode cX9_weighSets 21 = .ok (.aload_n 0, 1) := by decide +kernel
theorem dX9_weighSets_22 : decode cX9_weighSets 22 = .ok (.getfield 15, 3) := by decide +kernel
theorem dX9_weighSets_25 : decode cX9_weighSets 25 = .ok (.iload_n 1, 1) := by decide +kernel
theorem dX9_weighSets_26 : decode cX9_weighSets 26 = .ok (.invokevirtual 64, 3) := by decide +kernel
theorem dX9_weighSets_29 : decode cX9_weighSets 29 = .ok (.ifCond .eq 29, 3) := by decide +kernel
theorem dX9_weighSets_32 : decode cX9_weighSets 32 = .ok (.aload_n 0, 1) := by decide +kernel
theorem dX9_weighSets_33 : decode cX9_weighSets 33 = .ok (.getfield 19, 3) := by decide +kernel
theorem dX9_weighSets_36 : decode cX9_weighSets 36 = .ok (.aload_n 0, 1) := by decide +kernel
theorem dX9_weighSets_37 : decode cX9_weighSets 37 = .ok (.getfield 9, 3) := by decide +kernel
theorem dX9_weighSets_40 : decode cX9_weighSets 40 = .ok (.getfield 70, 3) := by decide +kernel
theorem dX9_weighSets_43 : decode cX9_weighSets 43 = .ok (.iload_n 1, 1) := by decide +kernel
theorem dX9_weighSets_44 : decode cX9_weighSets 44 = .ok (.iaload, 1) := by decide +kernel
theorem dX9_weighSets_45 : decode cX9_weighSets 45 = .ok (.dup2, 1) := by decide +kernel
theorem dX9_weighSets_46 : decode cX9_weighSets 46 = .ok (.iaload, 1) := by decide +kernel
theorem dX9_weighSets_47 : decode cX9_weighSets 47 = .ok (.aload_n 0, 1) := by decide +kernel
theorem dX9_weighSets_48 : decode cX9_weighSets 48 = .ok (.getfield 9, 3) := by decide +kernel
theorem dX9_weighSets_51 : decode cX9_weighSets 51 = .ok (.getfield 73, 3) := by decide +kernel
theorem dX9_weighSets_54 : decode cX9_weighSets 54 = .ok (.iload_n 1, 1) := by decide +kernel
theorem dX9_weighSets_55 : decode cX9_weighSets 55 = .ok (.iaload, 1) := by decide +kernel
theorem dX9_weighSets_56 : decode cX9_weighSets 56 = .ok (.iadd, 1) := by decide +kernel
theorem dX9_weighSets_57 : decode cX9_weighSets 57 = .ok (.iastore, 1) := by decide +kernel
theorem dX9_weighSets_58 : decode cX9_weighSets 58 = .ok (.iinc 1 1, 3) := by decide +kernel
theorem dX9_weighSets_61 : decode cX9_weighSets 61 = .ok (.goto (-51), 3) := by decide +kernel
theorem dX9_weighSets_64 : decode cX9_weighSets 64 = .ok (.aload_n 0, 1) := by decide +kernel
theorem dX9_weighSets_65 : decode cX9_weighSets 65 = .ok (.getfield 19, 3) := by decide +kernel
theorem dX9_weighSets_68 : decode cX9_weighSets 68 = .ok (.invokestatic 76, 3) := by decide +kernel
theorem dX9_weighSets_71 : decode cX9_weighSets 71 = .ok (.return_, 1) := by decide +kernel
theorem dX9_pickOrder_0 : decode cX9_pickOrder 0 = .ok (.iconst 0, 1) := by decide +kernel
theorem dX9_pickOrder_1 : decode cX9_pickOrder 1 = .ok (.istore_n 1, 1) := by decide +kernel
theorem dX9_pickOrder_2 : decode cX9_pickOrder 2 = .ok (.iconst 0, 1) := by decide +kernel
theorem dX9_pickOrder_3 : decode cX9_pickOrder 3 = .ok (.istore_n 2, 1) := by decide +kernel
theorem dX9_pickOrder_4 : decode cX9_pickOrder 4 = .ok (.iload_n 2, 1) := by decide +kernel
theorem dX9_pickOrder_5 : decode cX9_pickOrder 5 = .ok (.bipush 10, 2) := by decide +kernel
theorem dX9_pickOrder_7 : decode cX9_pickOrder 7 = .ok (.if_icmp .ge 28, 3) := by decide +kernel
theorem dX9_pickOrder_10 : decode cX9_pickOrder 10 = .ok (.aload_n 0, 1) := by decide +kernel
theorem dX9_pickOrder_11 : decode cX9_pickOrder 11 = .ok (.iload_n 1, 1) := by decide +kernel
theorem dX9_pickOrder_12 : decode cX9_pickOrder 12 = .ok (.invokevirtual 80, 3) := by decide +kernel
theorem dX9_pickOrder_15 : decode cX9_pickOrder 15 = .ok (.istore_n 3, 1) := by decide +kernel
theorem dX9_pickOrder_16 : decode cX9_pickOrder 16 = .ok (.aload_n 0, 1) := by decide +kernel
theorem dX9_pickOrder_17 : decode cX9_pickOrder 17 = .ok (.getfield 26, 3) := by decide +kernel
theorem dX9_pickOrder_20 : decode cX9_pickOrder 20 = .ok (.iload_n 2, 1) := by decide +kernel
theorem dX9_pickOrder_21 : decode cX9_pickOrder 21 = .ok (.iload_n 3, 1) := by decide +kernel
theorem dX9_pickOrder_22 : decode cX9_pickOrder 22 = .ok (.iastore, 1) := by decide +kernel
theorem dX9_pickOrder_23 : decode cX9_pickOrder 23 = .ok (.iload_n 1, 1) := by decide +kernel
theorem dX9_pickOrder_24 : decode cX9_pickOrder 24 = .ok (.iconst 1, 1) := by decide +kernel
theorem dX9_pickOrder_25 : decode cX9_pickOrder 25 = .ok (.iload_n 3, 1) := by decide +kernel
theorem dX9_pickOrder_26 : decode cX9_pickOrder 26 = .ok (.ishl, 1) := by decide +kernel
theorem dX9_pickOrder_27 : decode cX9_pickOrder 27 = .ok (.ior, 1) := by decide +kernel
theorem dX9_pickOrder_28 : decode cX9_pickOrder 28 = .ok (.istore_n 1, 1) := by decide +kernel
theorem dX9_pickOrder_29 : decode cX9_pickOrder 29 = .ok (.iinc 2 1, 3) := by decide +kernel
theorem dX9_pickOrder_32 : decode cX9_pickOrder 32 = .ok (.goto (-28), 3) := by decide +kernel
theorem dX9_pickOrder_35 : decode cX9_pickOrder 35 = .ok (.return_, 1) := by decide +kernel
theorem dX9_nextSign_0 : decode cX9_nextSign 0 = .ok (.iconst 0, 1) := by decide +kernel
theorem dX9_nextSign_1 : decode cX9_nextSign 1 = .ok (.istore_n 2, 1) := by decide +kernel
theorem dX9_nextSign_2 : decode cX9_nextSign 2 = .ok (.iload_n 2, 1) := by decide +kernel
theorem dX9_nextSign_3 : decode cX9_nextSign 3 = .ok (.bipush 10, 2) := by decide +kernel
theorem dX9_nextSign_5 : decode cX9_nextSign 5 = .ok (.if_icmp .ge 44, 3) := by decide +kernel
theorem dX9_nextSign_8 : decode cX9_nextSign 8 = .ok (.iload_n 1, 1) := by decide +kernel
theorem dX9_nextSign_9 : decode cX9_nextSign 9 = .ok (.iconst 1, 1) := by decide +kernel
theorem dX9_nextSign_10 : decode cX9_nextSign 10 = .ok (.iload_n 2, 1) := by decide +kernel
theorem dX9_nextSign_11 : decode cX9_nextSign 11 = .ok (.ishl, 1) := by decide +kernel
theorem dX9_nextSign_12 : decode cX9_nextSign 12 = .ok (.ior, 1) := by decide +kernel
theorem dX9_nextSign_13 : decode cX9_nextSign 13 = .ok (.istore_n 3, 1) := by decide +kernel
theorem dX9_nextSign_14 : decode cX9_nextSign 14 = .ok (.iload_n 3, 1) := by decide +kernel
theorem dX9_nextSign_15 : decode cX9_nextSign 15 = .ok (.iload_n 1, 1) := by decide +kernel
theorem dX9_nextSign_16 : decode cX9_nextSign 16 = .ok (.if_icmp .eq 27, 3) := by decide +kernel
theorem dX9_nextSign_19 : decode cX9_nextSign 19 = .ok (.aload_n 0, 1) := by decide +kernel
theorem dX9_nextSign_20 : decode cX9_nextSign 20 = .ok (.getfield 19, 3) := by decide +kernel
theorem dX9_nextSign_23 : decode cX9_nextSign 23 = .ok (.iload_n 3, 1) := by decide +kernel
theorem dX9_nextSign_24 : decode cX9_nextSign 24 = .ok (.iaload, 1) := by decide +kernel
theorem dX9_nextSign_25 : decode cX9_nextSign 25 = .ok (.aload_n 0, 1) := by decide +kernel
theorem dX9_nextSign_26 : decode cX9_nextSign 26 = .ok (.getfield 23, 3) := by decide +kernel
theorem dX9_nextSign_29 : decode cX9_nextSign 29 = .ok (.iload_n 3, 1) := by decide +kernel
theorem dX9_nextSign_30 : decode cX9_nextSign 30 = .ok (.iaload, 1) := by decide +kernel
theorem dX9_nextSign_31 : decode cX9_nextSign 31 = .ok (.iadd, 1) := by decide +kernel
theorem dX9_nextSign_32 : decode cX9_nextSign 32 = .ok (.aload_n 0, 1) := by decide +kernel
theorem dX9_nextSign_33 : decode cX9_nextSign 33 = .ok (.getfield 23, 3) := by decide +kernel
theorem dX9_nextSign_36 : decode cX9_nextSign 36 = .ok (.iload_n 1, 1) := by decide +kernel
theorem dX9_nextSign_37 : decode cX9_nextSign 37 = .ok (.iaload, 1) := by decide +kernel
theorem dX9_nextSign_38 : decode cX9_nextSign 38 = .ok (.if_icmp .ne 5, 3) := by decide +kernel
theorem dX9_nextSign_41 : decode cX9_nextSign 41 = .ok (.iload_n 2, 1) := by decide +kernel
theorem dX9_nextSign_42 : decode cX9_nextSign 42 = .ok (.ireturn, 1) := by decide +kernel
theorem dX9_nextSign_43 : decode cX9_nextSign 43 = .ok (.iinc 2 1, 3) := by decide +kernel
theorem dX9_nextSign_46 : decode cX9_nextSign 46 = .ok (.goto (-44), 3) := by decide +kernel
theorem dX9_nextSign_49 : decode cX9_nextSign 49 = .ok (.iconst 0, 1) := by decide +kernel
theorem dX9_nextSign_50 : decode cX9_nextSign 50 = .ok (.ireturn, 1) := by decide +kernel
theorem dX9_bestSigns_0 : decode cX9_bestSigns 0 = .ok (.iconst (-1), 1) := by decide +kernel
theorem dX9_bestSigns_1 : decode cX9_bestSigns 1 = .ok (.istore_n 3, 1) := by decide +kernel
theorem dX9_bestSigns_2 : decode cX9_bestSigns 2 = .ok (.iconst 0, 1) := by decide +kernel
theorem dX9_bestSigns_3 : decode cX9_bestSigns 3 = .ok (.istore 4, 2) := by decide +kernel
theorem dX9_bestSigns_5 : decode cX9_bestSigns 5 = .ok (.iconst 0, 1) := by decide +kernel
theorem dX9_bestSigns_6 : decode cX9_bestSigns 6 = .ok (.istore 5, 2) := by decide +kernel
theorem dX9_bestSigns_8 : decode cX9_bestSigns 8 = .ok (.iload 5, 2) := by decide +kernel
theorem dX9_bestSigns_10 : decode cX9_bestSigns 10 = .ok (.sipush 1024, 3) := by decide +kernel
theorem dX9_bestSigns_13 : decode cX9_bestSigns 13 = .ok (.if_icmp .ge 40, 3) := by decide +kernel
theorem dX9_bestSigns_16 : decode cX9_bestSigns 16 = .ok (.iload 5, 2) := by decide +kernel
theorem dX9_bestSigns_18 : decode cX9_bestSigns 18 = .ok (.invokestatic 83, 3) := by decide +kernel
theorem dX9_bestSigns_21 : decode cX9_bestSigns 21 = .ok (.iload_n 1, 1) := by decide +kernel
theorem dX9_bestSigns_22 : decode cX9_bestSigns 22 = .ok (.if_icmp .ne 25, 3) := by decide +kernel
theorem dX9_bestSigns_25 : decode cX9_bestSigns 25 = .ok (.aload_n 0, 1) := by decide +kernel
theorem dX9_bestSigns_26 : decode cX9_bestSigns 26 = .ok (.iload 5, 2) := by decide +kernel
theorem dX9_bestSigns_28 : decode cX9_bestSigns 28 = .ok (.iload_n 2, 1) := by decide +kernel
theorem dX9_bestSigns_29 : decode cX9_bestSigns 29 = .ok (.invokevirtual 88, 3) := by decide +kernel
theorem dX9_bestSigns_32 : decode cX9_bestSigns 32 = .ok (.istore 6, 2) := by decide +kernel
theorem dX9_bestSigns_34 : decode cX9_bestSigns 34 = .ok (.iload 6, 2) := by decide +kernel
theorem dX9_bestSigns_36 : decode cX9_bestSigns 36 = .ok (.iload_n 3, 1) := by decide +kernel
theorem dX9_bestSigns_37 : decode cX9_bestSigns 37 = .ok (.if_icmp .le 10, 3) := by decide +kernel
theorem dX9_bestSigns_40 : decode cX9_bestSigns 40 = .ok (.iload 6, 2) := by decide +kernel
theorem dX9_bestSigns_42 : decode cX9_bestSigns 42 = .ok (.istore_n 3, 1) := by decide +kernel
theorem dX9_bestSigns_43 : decode cX9_bestSigns 43 = .ok (.iload 5, 2) := by decide +kernel
theorem dX9_bestSigns_45 : decode cX9_bestSigns 45 = .ok (.istore 4, 2) := by decide +kernel
theorem dX9_bestSigns_47 : decode cX9_bestSigns 47 = .ok (.iinc 5 1, 3) := by decide +kernel
theorem dX9_bestSigns_50 : decode cX9_bestSigns 50 = .ok (.goto (-42), 3) := by decide +kernel
theorem dX9_bestSigns_53 : decode cX9_bestSigns 53 = .ok (.iload 4, 2) := by decide +kernel
theorem dX9_bestSigns_55 : decode cX9_bestSigns 55 = .ok (.ireturn, 1) := by decide +kernel
theorem dX9_worthWith_0 : decode cX9_worthWith 0 = .ok (.iconst 0, 1) := by decide +kernel
theorem dX9_worthWith_1 : decode cX9_worthWith 1 = .ok (.istore_n 3, 1) := by decide +kernel
theorem dX9_worthWith_2 : decode cX9_worthWith 2 = .ok (.iload_n 2, 1) := by decide +kernel
theorem dX9_worthWith_3 : decode cX9_worthWith 3 = .ok (.istore 4, 2) := by decide +kernel
theorem dX9_worthWith_5 : decode cX9_worthWith 5 = .ok (.iconst 0, 1) := by decide +kernel
theorem dX9_worthWith_6 : decode cX9_worthWith 6 = .ok (.istore 5, 2) := by decide +kernel
theorem dX9_worthWith_8 : decode cX9_worthWith 8 = .ok (.iload 5, 2) := by decide +kernel
theorem dX9_worthWith_10 : decode cX9_worthWith 10 = .ok (.aload_n 0, 1) := by decide +kernel
theorem dX9_worthWith_11 : decode cX9_worthWith 11 = .ok (.getfield 9, 3) := by decide +kernel
theorem dX9_worthWith_14 : decode cX9_worthWith 14 = .ok (.getfield 59, 3) := by decide +kernel
theorem dX9_worthWith_17 : decode cX9_worthWith 17 = .ok (.if_icmp .ge 71, 3) := by decide +kernel
theorem dX9_worthWith_20 : decode cX9_worthWith 20 = .ok (.aload_n 0, 1) := by decide +kernel
theorem dX9_worthWith_21 : decode cX9_worthWith 21 = .ok (.getfield 15, 3) := by decide +kernel
theorem dX9_worthWith_24 : decode cX9_worthWith 24 = .ok (.getfield 91, 3) := by decide +kernel
theorem dX9_worthWith_27 : decode cX9_worthWith 27 = .ok (.iload 5, 2) := by decide +kernel
theorem dX9_worthWith_29 : decode cX9_worthWith 29 = .ok (.iaload, 1) := by decide +kernel
theorem dX9_worthWith_30 : decode cX9_worthWith 30 = .ok (.istore 6, 2) := by decide +kernel
theorem dX9_worthWith_32 : decode cX9_worthWith 32 = .ok (.aload_n 0, 1) := by decide +kernel
theorem dX9_worthWith_33 : decode cX9_worthWith 33 = .ok (.getfield 15, 3) := by decide +kernel
theorem dX9_worthWith_36 : decode cX9_worthWith 36 = .ok (.iload 6, 2) := by decide +kernel
theorem dX9_worthWith_38 : decode cX9_worthWith 38 = .ok (.iload_n 1, 1) := by decide +kernel
theorem dX9_worthWith_39 : decode cX9_worthWith 39 = .ok (.invokevirtual 94, 3) := by decide +kernel
theorem dX9_worthWith_42 : decode cX9_worthWith 42 = .ok (.ifCond .eq 19, 3) := by decide +kernel
theorem dX9_worthWith_45 : decode cX9_worthWith 45 = .ok (.iload_n 3, 1) := by decide +kernel
theorem dX9_worthWith_46 : decode cX9_worthWith 46 = .ok (.aload_n 0, 1) := by decide +kernel
theorem dX9_worthWith_47 : decode cX9_worthWith 47 = .ok (.getfield 9, 3) := by decide +kernel
theorem dX9_worthWith_50 : decode cX9_worthWith 50 = .ok (.getfield 73, 3) := by decide +kernel
theorem dX9_worthWith_53 : decode cX9_worthWith 53 = .ok (.iload 6, 2) := by decide +kernel
theorem dX9_worthWith_55 : decode cX9_worthWith 55 = .ok (.iaload, 1) := by decide +kernel
theorem dX9_worthWith_56 : decode cX9_worthWith 56 = .ok (.iadd, 1) := by decide +kernel
theorem dX9_worthWith_57 : decode cX9_worthWith 57 = .ok (.istore_n 3, 1) := by decide +kernel
theorem dX9_worthWith_58 : decode cX9_worthWith 58 = .ok (.goto 24, 3) := by decide +kernel
theorem dX9_worthWith_61 : decode cX9_worthWith 61 = .ok (.iload 4, 2) := by decide +kernel
theorem dX9_worthWith_63 : decode cX9_worthWith 63 = .ok (.ifCond .le 19, 3) := by decide +kernel
theorem dX9_worthWith_66 : decode cX9_worthWith 66 = .ok (.iload_n 3, 1) := by decide +kernel
theorem dX9_worthWith_67 : decode cX9_worthWith 67 = .ok (.aload_n 0, 1) := by decide +kernel
theorem dX9_worthWith_68 : decode cX9_worthWith 68 = .ok (.getfield 9, 3) := by decide +kernel
theorem dX9_worthWith_71 : decode cX9_worthWith 71 = .ok (.getfield 73, 3) := by decide +kernel
theorem dX9_worthWith_74 : decode cX9_worthWith 74 = .ok (.iload 6, 2) := by decide +kernel
theorem dX9_worthWith_76 : decode cX9_worthWith 76 = .ok (.iaload, 1) := by decide +kernel
theorem dX9_worthWith_77 : decode cX9_worthWith 77 = .ok (.iadd, 1) := by decide +kernel
theorem dX9_worthWith_78 : decode cX9_worthWith 78 = .ok (.istore_n 3, 1) := by decide +kernel
theorem dX9_worthWith_79 : decode cX9_worthWith 79 = .ok (.iinc 4 (-1), 3) := by decide +kernel
theorem dX9_worthWith_82 : decode cX9_worthWith 82 = .ok (.iinc 5 1, 3) := by decide +kernel
theorem dX9_worthWith_85 : decode cX9_worthWith 85 = .ok (.goto (-77), 3) := by decide +kernel
theorem dX9_worthWith_88 : decode cX9_worthWith 88 = .ok (.iload_n 3, 1) := by decide +kernel
theorem dX9_worthWith_89 : decode cX9_worthWith 89 = .ok (.ireturn, 1) := by decide +kernel
theorem dX9_bestWholes_0 : decode cX9_bestWholes 0 = .ok (.iconst 0, 1) := by decide +kernel
theorem dX9_bestWholes_1 : decode cX9_bestWholes 1 = .ok (.istore_n 3, 1) := by decide +kernel
theorem dX9_bestWholes_2 : decode cX9_bestWholes 2 = .ok (.iload_n 2, 1) := by decide +kernel
theorem dX9_bestWholes_3 : decode cX9_bestWholes 3 = .ok (.istore 4, 2) := by decide +kernel
theorem dX9_bestWholes_5 : decode cX9_bestWholes 5 = .ok (.iconst 0, 1) := by decide +kernel
theorem dX9_bestWholes_6 : decode cX9_bestWholes 6 = .ok (.istore 5, 2) := by decide +kernel
theorem dX9_bestWholes_8 : decode cX9_bestWholes 8 = .ok (.iload 5, 2) := by decide +kernel
theorem dX9_bestWholes_10 : decode cX9_bestWholes 10 = .ok (.aload_n 0, 1) := by decide +kernel
theorem dX9_bestWholes_11 : decode cX9_bestWholes 11 = .ok (.getfield 9, 3) := by decide +kernel
theorem dX9_bestWholes_14 : decode cX9_bestWholes 14 = .ok (.getfield 59, 3) := by decide +kernel
theorem dX9_bestWholes_17 : decode cX9_bestWholes 17 = .ok (.if_icmp .ge 49, 3) := by decide +kernel
theorem dX9_bestWholes_20 : decode cX9_bestWholes 20 = .ok (.iload 4, 2) := by decide +kernel
theorem dX9_bestWholes_22 : decode cX9_bestWholes 22 = .ok (.ifCond .le 44, 3) := by decide +kernel
theorem dX9_bestWholes_25 : decode cX9_bestWholes 25 = .ok (.aload_n 0, 1) := by decide +kernel
theorem dX9_bestWholes_26 : decode cX9_bestWholes 26 = .ok (.getfield 15, 3) := by decide +kernel
theorem dX9_bestWholes_29 : decode cX9_bestWholes 29 = .ok (.getfield 91, 3) := by decide +kernel
theorem dX9_bestWholes_32 : decode cX9_bestWholes 32 = .ok (.iload 5, 2) := by decide +kernel
theorem dX9_bestWholes_34 : decode cX9_bestWholes 34 = .ok (.iaload, 1) := by decide +kernel
theorem dX9_bestWholes_35 : decode cX9_bestWholes 35 = .ok (.istore 6, 2) := by decide +kernel
theorem dX9_bestWholes_37 : decode cX9_bestWholes 37 = .ok (.aload_n 0, 1) := by decide +kernel
theorem dX9_bestWholes_38 : decode cX9_bestWholes 38 = .ok (.getfield 15, 3) := by decide +kernel
theorem dX9_bestWholes_41 : decode cX9_bestWholes 41 = .ok (.iload 6, 2) := by decide +kernel
theorem dX9_bestWholes_43 : decode cX9_bestWholes 43 = .ok (.iload_n 1, 1) := by decide +kernel
theorem dX9_bestWholes_44 : decode cX9_bestWholes 44 = .ok (.invokevirtual 94, 3) := by decide +kernel
theorem dX9_bestWholes_47 : decode cX9_bestWholes 47 = .ok (.ifCond .ne 13, 3) := by decide +kernel
theorem dX9_bestWholes_50 : decode cX9_bestWholes 50 = .ok (.iload_n 3, 1) := by decide +kernel
theorem dX9_bestWholes_51 : decode cX9_bestWholes 51 = .ok (.iconst 1, 1) := by decide +kernel
theorem dX9_bestWholes_52 : decode cX9_bestWholes 52 = .ok (.iload 6, 2) := by decide +kernel
theorem dX9_bestWholes_54 : decode cX9_bestWholes 54 = .ok (.ishl, 1) := by decide +kernel
theorem dX9_bestWholes_55 : decode cX9_bestWholes 55 = .ok (.ior, 1) := by decide +kernel
theorem dX9_bestWholes_56 : decode cX9_bestWholes 56 = .ok (.istore_n 3, 1) := by decide +kernel
theorem dX9_bestWholes_57 : decode cX9_bestWholes 57 = .ok (.iinc 4 (-1), 3) := by decide +kernel
theorem dX9_bestWholes_60 : decode cX9_bestWholes 60 = .ok (.iinc 5 1, 3) := by decide +kernel
theorem dX9_bestWholes_63 : decode cX9_bestWholes 63 = .ok (.goto (-55), 3) := by decide +kernel
theorem dX9_bestWholes_66 : decode cX9_bestWholes 66 = .ok (.iload_n 3, 1) := by decide +kernel
theorem dX9_bestWholes_67 : decode cX9_bestWholes 67 = .ok (.ireturn, 1) := by decide +kernel
theorem dX10_init_0 : decode cX10_init 0 = .ok (.aload_n 0, 1) := by decide +kernel
theorem dX10_init_1 : decode cX10_init 1 = .ok (.invokespecial 3, 3) := by decide +kernel
theorem dX10_init_4 : decode cX10_init 4 = .ok (.aload_n 0, 1) := by decide +kernel
theorem dX10_init_5 : decode cX10_init 5 = .ok (.aload_n 1, 1) := by decide +kernel
theorem dX10_init_6 : decode cX10_init 6 = .ok (.putfield 9, 3) := by decide +kernel
theorem dX10_init_9 : decode cX10_init 9 = .ok (.aload_n 0, 1) := by decide +kernel
theorem dX10_init_10 : decode cX10_init 10 = .ok (.sipush 4096, 3) := by decide +kernel
theorem dX10_init_13 : decode cX10_init 13 = .ok (.newarray .int, 2) := by decide +kernel
theorem dX10_init_15 : decode cX10_init 15 = .ok (.putfield 15, 3) := by decide +kernel
theorem dX10_init_18 : decode cX10_init 18 = .ok (.aload_n 0, 1) := by decide +kernel
theorem dX10_init_19 : decode cX10_init 19 = .ok (.bipush 12, 2) := by decide +kernel
theorem dX10_init_21 : decode cX10_init 21 = .ok (.newarray .int, 2) := by decide +kernel
theorem dX10_init_23 : decode cX10_init 23 = .ok (.putfield 19, 3) := by decide +kernel
theorem dX10_init_26 : decode cX10_init 26 = .ok (.aload_n 0, 1) := by decide +kernel
theorem dX10_init_27 : decode cX10_init 27 = .ok (.bipush 12, 2) := by decide +kernel
theorem dX10_init_29 : decode cX10_init 29 = .ok (.newarray .int, 2) := by decide +kernel
theorem dX10_init_31 : decode cX10_init 31 = .ok (.putfield 22, 3) := by decide +kernel
theorem dX10_init_34 : decode cX10_init 34 = .ok (.aload_n 0, 1) := by decide +kernel
theorem dX10_init_35 : decode cX10_init 35 = .ok (.bipush (-6), 2) := by decide +kernel
theorem dX10_init_37 : decode cX10_init 37 = .ok (.putfield 25, 3) := by decide +kernel
theorem dX10_init_40 : decode cX10_init 40 = .ok (.return_, 1) := by decide +kernel
theorem dX10_find_0 : decode cX10_find 0 = .ok (.aload_n 0, 1) := by decide +kernel
theorem dX10_find_1 : decode cX10_find 1 = .ok (.invokevirtual 29, 3) := by decide +kernel
theorem dX10_find_4 : decode cX10_find 4 = .ok (.aload_n 0, 1) := by decide +kernel
theorem dX10_find_5 : decode cX10_find 5 = .ok (.iconst 0, 1) := by decide +kernel
theorem dX10_find_6 : decode cX10_find 6 = .ok (.putfield 32, 3) := by decide +kernel
theorem dX10_find_9 : decode cX10_find 9 = .ok (.iconst 0, 1) := by decide +kernel
theorem dX10_find_10 : decode cX10_find 10 = .ok (.istore_n 2, 1) := by decide +kernel
theorem dX10_find_11 : decode cX10_find 11 = .ok (.iconst 1, 1) := by decide +kernel
theorem dX10_find_12 : decode cX10_find 12 = .ok (.istore_n 3, 1) := by decide +kernel
theorem dX10_find_13 : decode cX10_find 13 = .ok (.iload_n 3, 1) := by decide +kernel
theorem dX10_find_14 : decode cX10_find 14 = .ok (.sipush 4096, 3) := by decide +kernel
theorem dX10_find_17 : decode cX10_find 17 = .ok (.if_icmp .ge 55, 3) := by decide +kernel
theorem dX10_find_20 : decode cX10_find 20 = .ok (.iload_n 2, 1) := by decide +kernel
theorem dX10_find_21 : decode cX10_find 21 = .ok (.iload_n 1, 1) := by decide +kernel
theorem dX10_find_22 : decode cX10_find 22 = .ok (.if_icmp .eq 50, 3) := by decide +kernel
theorem dX10_find_25 : decode cX10_find 25 = .ok (.iload_n 2, 1) := by decide +kernel
theorem dX10_find_26 : decode cX10_find 26 = .ok (.iload_n 1, 1) := by decide +kernel
theorem dX10_find_27 : decode cX10_find 27 = .ok (.invokestatic 35, 3) := by decide +kernel
theorem dX10_find_30 : decode cX10_find 30 = .ok (.istore_n 2, 1) := by decide +kernel
theorem dX10_find_31 : decode cX10_find 31 = .ok (.aload_n 0, 1) := by decide +kernel
theorem dX10_find_32 : decode cX10_find 32 = .ok (.getfield 15, 3) := by decide +kernel
theorem dX10_find_35 : decode cX10_find 35 = .ok (.iload_n 2, 1) := by decide +kernel
theorem dX10_find_36 : decode cX10_find 36 = .ok (.aload_n 0, 1) := by decide +kernel
theorem dX10_find_37 : decode cX10_find 37 = .ok (.iload_n 2, 1) := by decide +kernel
theorem dX10_find_38 : decode cX10_find 38 = .ok (.invokevirtual 39, 3) := by decide +kernel
theorem dX10_find_41 : decode cX10_find 41 = .ok (.iastore, 1) := by decide +kernel
theorem dX10_find_42 : decode cX10_find 42 = .ok (.aload_n 0, 1) := by decide +kernel
theorem dX10_find_43 : decode cX10_find 43 = .ok (.getfield 15, 3) := by decide +kernel
theorem dX10_find_46 : decode cX10_find 46 = .ok (.iload_n 2, 1) := by decide +kernel
theorem dX10_find_47 : decode cX10_find 47 = .ok (.iaload, 1) := by decide +kernel
theorem dX10_find_48 : decode cX10_find 48 = .ok (.ifCond .eq 18, 3) := by decide +kernel
theorem dX10_find_51 : decode cX10_find 51 = .ok (.aload_n 0, 1) := by decide +kernel
theorem dX10_find_52 : decode cX10_find 52 = .ok (.aload_n 0, 1) := by decide +kernel
theorem dX10_find_53 : decode cX10_find 53 = .ok (.getfield 32, 3) := by decide +kernel
theorem dX10_find_56 : decode cX10_find 56 = .ok (.iload_n 2, 1) := by decide +kernel
theorem dX10_find_57 : decode cX10_find 57 = .ok (.invokestatic 43, 3) := by decide +kernel
theorem dX10_find_60 : decode cX10_find 60 = .ok (.invokestatic 48, 3) := by decide +kernel
theorem dX10_find_63 : decode cX10_find 63 = .ok (.putfield 32, 3) := by decide +kernel
theorem dX10_find_66 : decode cX10_find 66 = .ok (.iinc 3 1, 3) := by decide +kernel
theorem dX10_find_69 : decode cX10_find 69 = .ok (.goto (-56), 3) := by decide +kernel
theorem dX10_find_72 : decode cX10_find 72 = .ok (.aload_n 0, 1) := by decide +kernel
theorem dX10_find_73 : decode cX10_find 73 = .ok (.iload_n 1, 1) := by decide +kernel
theorem dX10_find_74 : decode cX10_find 74 = .ok (.invokevirtual 53, 3) := by decide +kernel
theorem dX10_find_77 : decode cX10_find 77 = .ok (.return_, 1) := by decide +kernel
theorem dX10_nextWithin_0 : decode cX10_nextWithin 0 = .ok (.iload_n 0, 1) := by decide +kernel
theorem dX10_nextWithin_1 : decode cX10_nextWithin 1 = .ok (.iload_n 1, 1) := by decide +kernel
theorem dX10_nextWithin_2 : decode cX10_nextWithin 2 = .ok (.isub, 1) := by decide +kernel
theorem dX10_nextWithin_3 : decode cX10_nextWithin 3 = .ok (.iload_n 1, 1) := by decide +kernel
theorem dX10_nextWithin_4 : decode cX10_nextWithin 4 = .ok (.iand, 1) := by decide +kernel
theorem dX10_nextWithin_5 : decode cX10_nextWithin 5 = .ok (.ireturn, 1) := by decide +kernel
theorem dX10_findBehind_0 : decode cX10_findBehind 0 = .ok (.iconst 0, 1) := by decide +kernel
theorem dX10_findBehind_1 : decode cX10_findBehind 1 = .ok (.istore_n 1, 1) := by decide +kernel
theorem dX10_findBehind_2 : decode cX10_findBehind 2 = .ok (.iload_n 1, 1) := by decide +kernel
theorem dX10_findBehind_3 : decode cX10_findBehind 3 = .ok (.aload_n 0, 1) := by decide +kernel
theorem dX10_findBehind_4 : decode cX10_findBehind 4 = .ok (.getfield 9, 3) := by decide +kernel
theorem dX10_findBehind_7 : decode cX10_findBehind 7 = .ok (.getfield 57, 3) := by decide +kernel
theorem dX10_findBehind_10 : decode cX10_findBehind 10 = .ok (.if_icmp .ge 66, 3) := by decide +kernel
theorem dX10_findBehind_13 : decode cX10_findBehind 13 = .ok (.aload_n 0, 1) := by decide +kernel
theorem dX10_findBehind_14 : decode cX10_findBehind 14 = .ok (.getfield 19, 3) := by decide +kernel
theorem dX10_findBehind_17 : decode cX10_findBehind 17 = .ok (.iload_n 1, 1) := by decide +kernel
theorem dX10_findBehind_18 : decode cX10_findBehind 18 = .ok (.iconst 0, 1) := by decide +kernel
theorem dX10_findBehind_19 : decode cX10_findBehind 19 = .ok (.iastore, 1) := by decide +kernel
theorem dX10_findBehind_20 : decode cX10_findBehind 20 = .ok (.iconst 0, 1) := by decide +kernel
theorem dX10_findBehind_21 : decode cX10_findBehind 21 = .ok (.istore_n 2, 1) := by decide +kernel
theorem dX10_findBehind_22 : decode cX10_findBehind 22 = .ok (.iload_n 2, 1) := by decide +kernel
theorem dX10_findBehind_23 : decode cX10_findBehind 23 = .ok (.aload_n 0, 1) := by decide +kernel
theorem dX10_findBehind_24 : decode cX10_findBehind 24 = .ok (.getfield 9, 3) := by decide +kernel
theorem dX10_findBehind_27 : decode cX10_findBehind 27 = .ok (.getfield 57, 3) := by decide +kernel
theorem dX10_findBehind_30 : decode cX10_findBehind 30 = .ok (.if_icmp .ge 40, 3) := by decide +kernel
theorem dX10_findBehind_33 : decode cX10_findBehind 33 = .ok (.aload_n 0, 1) := by decide +kernel
theorem dX10_findBehind_34 : decode cX10_findBehind 34 = .ok (.getfield 9, 3) := by decide +kernel
theorem dX10_findBehind_37 : decode cX10_findBehind 37 = .ok (.iload_n 2, 1) := by decide +kernel
theorem dX10_findBehind_38 : decode cX10_findBehind 38 = .ok (.invokevirtual 60, 3) := by decide +kernel
theorem dX10_findBehind_41 : decode cX10_findBehind 41 = .ok (.aload_n 0, 1) := by decide +kernel
theorem dX10_findBehind_42 : decode cX10_findBehind 42 = .ok (.getfield 9, 3) := by decide +kernel
theorem dX10_findBehind_45 : decode cX10_findBehind 45 = .ok (.iload_n 1, 1) := by decide +kernel
theorem dX10_findBehind_46 : decode cX10_findBehind 46 = .ok (.invokevirtual 63, 3) := by decide +kernel
theorem dX10_findBehind_49 : decode cX10_findBehind 49 = .ok (.if_icmp .ne 15, 3) := by decide +kernel
theorem dX10_findBehind_52 : decode cX10_findBehind 52 = .ok (.aload_n 0, 1) := by decide +kernel
theorem dX10_findBehind_53 : decode cX10_findBehind 53 = .ok (.getfield 19, 3) := by decide +kernel
theorem dX10_findBehind_56 : decode cX10_findBehind 56 = .ok (.iload_n 1, 1) := by decide +kernel
theorem dX10_findBehind_57 : decode cX10_findBehind 57 = .ok (.dup2, 1) := by decide +kernel
theorem dX10_findBehind_58 : decode cX10_findBehind 58 = .ok (.iaload, 1) := by decide +kernel
theorem dX10_findBehind_59 : decode cX10_findBehind 59 = .ok (.iconst 1, 1) := by decide +kernel
theorem dX10_findBehind_60 : decode cX10_findBehind 60 = .ok (.iload_n 2, 1) := by decide +kernel
theorem dX10_findBehind_61 : decode cX10_findBehind 61 = .ok (.ishl, 1) := by decide +kernel
theorem dX10_findBehind_62 : decode cX10_findBehind 62 = .ok (.ior, 1) := by decide +kernel
theorem dX10_findBehind_63 : decode cX10_findBehind 63 = .ok (.iastore, 1) := by decide +kernel
theorem dX10_findBehind_64 : decode cX10_findBehind 64 = .ok (.iinc 2 1, 3) := by decide +kernel
theorem dX10_findBehind_67 : decode cX10_findBehind 67 = .ok (.goto (-45), 3) := by decide +kernel
theorem dX10_findBehind_70 : decode cX10_findBehind 70 = .ok (.iinc 1 1, 3) := by decide +kernel
theorem dX10_findBehind_73 : decode cX10_findBehind 73 = .ok (.goto (-71), 3) := by decide +kernel
theorem dX10_findBehind_76 : decode cX10_findBehind 76 = .ok (.return_, 1) := by decide +kernel
theorem dX10_startsOf_0 : decode cX10_startsOf 0 = .ok (.iconst 0, 1) := by decide +kernel
theorem dX10_startsOf_1 : decode cX10_startsOf 1 = .ok (.istore_n 2, 1) := by decide +kernel
theorem dX10_startsOf_2 : decode cX10_startsOf 2 = .ok (.iconst 0, 1) := by decide +kernel
theorem dX10_startsOf_3 : decode cX10_startsOf 3 = .ok (.istore_n 3, 1) := by decide +kernel
theorem dX10_startsOf_4 : decode cX10_startsOf 4 = .ok (.iload_n 3, 1) := by decide +kernel
theorem dX10_startsOf_5 : decode cX10_startsOf 5 = .ok (.aload_n 0, 1) := by decide +kernel
theorem dX10_startsOf_6 : decode cX10_startsOf 6 = .ok (.getfield 9, 3) := by decide +kernel
theorem dX10_startsOf_9 : decode cX10_startsOf 9 = .ok (.getfield 57, 3) := by decide +kernel
theorem dX10_startsOf_12 : decode cX10_startsOf 12 = .ok (.if_icmp .ge 54, 3) := by decide +kernel
theorem dX10_startsOf_15 : decode cX10_startsOf 15 = .ok (.iconst 1, 1) := by decide +kernel
theorem dX10_startsOf_16 : decode cX10_startsOf 16 = .ok (.iload_n 3, 1) := by decide +kernel
theorem dX10_startsOf_17 : decode cX10_startsOf 17 = .ok (.ishl, 1) := by decide +kernel
theorem dX10_startsOf_18 : decode cX10_startsOf 18 = .ok (.istore 4, 2) := by decide +kernel
theorem dX10_startsOf_20 : decode cX10_startsOf 20 = .ok (.iload_n 1, 1) := by decide +kernel
theorem dX10_startsOf_21 : decode cX10_startsOf 21 = .ok (.iload 4, 2) := by decide +kernel
theorem dX10_startsOf_23 : decode cX10_startsOf 23 = .ok (.iand, 1) := by decide +kernel
theorem dX10_startsOf_24 : decode cX10_startsOf 24 = .ok (.ifCond .eq 36, 3) := by decide +kernel
theorem dX10_startsOf_27 : decode cX10_startsOf 27 = .ok (.iload_n 1, 1) := by decide +kernel
theorem dX10_startsOf_28 : decode cX10_startsOf 28 = .ok (.iload 4, 2) := by decide +kernel
theorem dX10_startsOf_30 : decode cX10_startsOf 30 = .ok (.ixor, 1) := by decide +kernel
theorem dX10_startsOf_31 : decode cX10_startsOf 31 = .ok (.istore 5, 2) := by decide +kernel
theorem dX10_startsOf_33 : decode cX10_startsOf 33 = .ok (.iload 5, 2) := by decide +kernel
theorem dX10_startsOf_35 : decode cX10_startsOf 35 = .ok (.ifCond .eq 20, 3) := by decide +kernel
theorem dX10_startsOf_38 : decode cX10_startsOf 38 = .ok (.aload_n 0, 1) := by decide +kernel
theorem dX10_startsOf_39 : decode cX10_startsOf 39 = .ok (.getfield 15, 3) := by decide +kernel
theorem dX10_startsOf_42 : decode cX10_startsOf 42 = .ok (.iload 5, 2) := by decide +kernel
theorem dX10_startsOf_44 : decode cX10_startsOf 44 = .ok (.iaload, 1) := by decide +kernel
theorem dX10_startsOf_45 : decode cX10_startsOf 45 = .ok (.aload_n 0, 1) := by decide +kernel
theorem dX10_startsOf_46 : decode cX10_startsOf 46 = .ok (.getfield 19, 3) := by decide +kernel
theorem dX10_startsOf_49 : decode cX10_startsOf 49 = .ok (.iload_n 3, 1) := by decide +kernel
theorem dX10_startsOf_50 : decode cX10_startsOf 50 = .ok (.iaload, 1) := by decide +kernel
theorem dX10_startsOf_51 : decode cX10_startsOf 51 = .ok (.iand, 1) := by decide +kernel
theorem dX10_startsOf_52 : decode cX10_startsOf 52 = .ok (.ifCond .eq 8, 3) := by decide +kernel
theorem dX10_startsOf_55 : decode cX10_startsOf 55 = .ok (.iload_n 2, 1) := by decide +kernel
theorem dX10_startsOf_56 : decode cX10_startsOf 56 = .ok (.iload 4, 2) := by decide +kernel
theorem dX10_startsOf_58 : decode cX10_startsOf 58 = .ok (.ior, 1) := by decide +kernel
theorem dX10_startsOf_59 : decode cX10_startsOf 59 = .ok (.istore_n 2, 1) := by decide +kernel
theorem dX10_startsOf_60 : decode cX10_startsOf 60 = .ok (.iinc 3 1, 3) := by decide +kernel
theorem dX10_startsOf_63 : decode cX10_startsOf 63 = .ok (.goto (-59), 3) := by decide +kernel
theorem dX10_startsOf_66 : decode cX10_startsOf 66 = .ok (.iload_n 2, 1) := by decide +kernel
theorem dX10_startsOf_67 : decode cX10_startsOf 67 = .ok (.ireturn, 1) := by decide +kernel
theorem dX10_pickRow_0 : decode cX10_pickRow 0 = .ok (.iload_n 1, 1) := by decide +kernel
theorem dX10_pickRow_1 : decode cX10_pickRow 1 = .ok (.istore_n 2, 1) := by decide +kernel
theorem dX10_pickRow_2 : decode cX10_pickRow 2 = .ok (.iload_n 1, 1) := by decide +kernel
theorem dX10_pickRow_3 : decode cX10_pickRow 3 = .ok (.istore_n 3, 1) := by decide +kernel
theorem dX10_pickRow_4 : decode cX10_pickRow 4 = .ok (.iconst 0, 1) := by decide +kernel
theorem dX10_pickRow_5 : decode cX10_pickRow 5 = .ok (.istore 4, 2) := by decide +kernel
theorem dX10_pickRow_7 : decode cX10_pickRow 7 = .ok (.iload 4, 2) := by decide +kernel
theorem dX10_pickRow_9 : decode cX10_pickRow 9 = .ok (.aload_n 0, 1) := by decide +kernel
theorem dX10_pickRow_10 : decode cX10_pickRow 10 = .ok (.getfield 32, 3) := by decide +kernel
theorem dX10_pickRow_13 : decode cX10_pickRow 13 = .ok (.if_icmp .ge 50, 3) := by decide +kernel
theorem dX10_pickRow_16 : decode cX10_pickRow 16 = .ok (.aload_n 0, 1) := by decide +kernel
theorem dX10_pickRow_17 : decode cX10_pickRow 17 = .ok (.iload_n 2, 1) := by decide +kernel
theorem dX10_pickRow_18 : decode cX10_pickRow 18 = .ok (.aload_n 0, 1) := by decide +kernel
theorem dX10_pickRow_19 : decode cX10_pickRow 19 = .ok (.getfield 32, 3) := by decide +kernel
theorem dX10_pickRow_22 : decode cX10_pickRow 22 = .ok (.iload 4, 2) := by decide +kernel
theorem dX10_pickRow_24 : decode cX10_pickRow 24 = .ok (.isub, 1) := by decide +kernel
theorem dX10_pickRow_25 : decode cX10_pickRow 25 = .ok (.iload_n 3, 1) := by decide +kernel
theorem dX10_pickRow_26 : decode cX10_pickRow 26 = .ok (.invokevirtual 66, 3) := by decide +kernel
theorem dX10_pickRow_29 : decode cX10_pickRow 29 = .ok (.istore 5, 2) := by decide +kernel
theorem dX10_pickRow_31 : decode cX10_pickRow 31 = .ok (.aload_n 0, 1) := by decide +kernel
theorem dX10_pickRow_32 : decode cX10_pickRow 32 = .ok (.getfield 22, 3) := by decide +kernel
theorem dX10_pickRow_35 : decode cX10_pickRow 35 = .ok (.iload 4, 2) := by decide +kernel
theorem dX10_pickRow_37 : decode cX10_pickRow 37 = .ok (.iload 5, 2) := by decide +kernel
theorem dX10_pickRow_39 : decode cX10_pickRow 39 = .ok (.iastore, 1) := by decide +kernel
theorem dX10_pickRow_40 : decode cX10_pickRow 40 = .ok (.iload_n 2, 1) := by decide +kernel
theorem dX10_pickRow_41 : decode cX10_pickRow 41 = .ok (.iconst 1, 1) := by decide +kernel
theorem dX10_pickRow_42 : decode cX10_pickRow 42 = .ok (.iload 5, 2) := by decide +kernel
theorem dX10_pickRow_44 : decode cX10_pickRow 44 = .ok (.ishl, 1) := by decide +kernel
theorem dX10_pickRow_45 : decode cX10_pickRow 45 = .ok (.iconst (-1), 1) := by decide +kernel
theorem dX10_pickRow_46 : decode cX10_pickRow 46 = .ok (.ixor, 1) := by decide +kernel
theorem dX10_pickRow_47 : decode cX10_pickRow 47 = .ok (.iand, 1) := by decide +kernel
theorem dX10_pickRow_48 : decode cX10_pickRow 48 = .ok (.istore_n 2, 1) := by decide +kernel
theorem dX10_pickRow_49 : decode cX10_pickRow 49 = .ok (.aload_n 0, 1) := by decide +kernel
theorem dX10_pickRow_50 : decode cX10_pickRow 50 = .ok (.getfield 19, 3) := by decide +kernel
theorem dX10_pickRow_53 : decode cX10_pickRow 53 = .ok (.iload 5, 2) := by decide +kernel
theorem dX10_pickRow_55 : decode cX10_pickRow 55 = .ok (.iaload, 1) := by decide +kernel
theorem dX10_pickRow_56 : decode cX10_pickRow 56 = .ok (.istore_n 3, 1) := by decide +kernel
theorem dX10_pickRow_57 : decode cX10_pickRow 57 = .ok (.iinc 4 1, 3) := by decide +kernel
theorem dX10_pickRow_60 : decode cX10_pickRow 60 = .ok (.goto (-53), 3) := by decide +kernel
theorem dX10_pickRow_63 : decode cX10_pickRow 63 = .ok (.return_, 1) := by decide +kernel
theorem dX10_leastStart_0 : decode cX10_leastStart 0 = .ok (.iconst 0, 1) := by decide +kernel
theorem dX10_leastStart_1 : decode cX10_leastStart 1 = .ok (.istore 4, 2) := by decide +kernel
theorem dX10_leastStart_3 : decode cX10_leastStart 3 = .ok (.iconst 0, 1) := by decide +kernel
theorem dX10_leastStart_4 : decode cX10_leastStart 4 = .ok (.istore 5, 2) := by decide +kernel
theorem dX10_leastStart_6 : decode cX10_leastStart 6 = .ok (.iconst 1, 1) := by decide +kernel
theorem dX10_leastStart_7 : decode cX10_leastStart 7 = .ok (.istore 6, 2) := by decide +kernel
theorem dX10_leastStart_9 : decode cX10_leastStart 9 = .ok (.iload 6, 2) := by decide +kernel
theorem dX10_leastStart_11 : decode cX10_leastStart 11 = .ok (.sipush 4096, 3) := by decide +kernel
theorem dX10_leastStart_14 : decode cX10_leastStart 14 = .ok (.if_icmp .ge 46, 3) := by decide +kernel
theorem dX10_leastStart_17 : decode cX10_leastStart 17 = .ok (.iload 5, 2) := by decide +kernel
theorem dX10_leastStart_19 : decode cX10_leastStart 19 = .ok (.iload_n 1, 1) := by decide +kernel
theorem dX10_leastStart_20 : decode cX10_leastStart 20 = .ok (.if_icmp .eq 40, 3) := by decide +kernel
theorem dX10_leastStart_23 : decode cX10_leastStart 23 = .ok (.iload 5, 2) := by decide +kernel
theorem dX10_leastStart_25 : decode cX10_leastStart 25 = .ok (.iload_n 1, 1) := by decide +kernel
theorem dX10_leastStart_26 : decode cX10_leastStart 26 = .ok (.invokestatic 35, 3) := by decide +kernel
theorem dX10_leastStart_29 : decode cX10_leastStart 29 = .ok (.istore 5, 2) := by decide +kernel
theorem dX10_leastStart_31 : decode cX10_leastStart 31 = .ok (.iload 5, 2) := by decide +kernel
theorem dX10_leastStart_33 : decode cX10_leastStart 33 = .ok (.invokestatic 43, 3) := by decide +kernel
theorem dX10_leastStart_36 : decode cX10_leastStart 36 = .ok (.iload_n 2, 1) := by decide +kernel
theorem dX10_leastStart_37 : decode cX10_leastStart 37 = .ok (.if_icmp .ne 17, 3) := by decide +kernel
theorem dX10_leastStart_40 : decode cX10_leastStart 40 = .ok (.iload 4, 2) := by decide +kernel
end
section
theorem dX10_leastStart_42 : decode cX10_leastStart 42 = .ok (.aload_n 0, 1) := by decide +kernel
theorem dX10_leastStart_43 : decode cX10_leastStart 43 = .ok (.getfield 15, 3) := by decide +kernel
theorem dX10_leastStart_46 : decode cX10_leastStart 46 = .ok (.iload 5, 2) := by decide +kernel
theorem dX10_leastStart_48 : decode cX10_leastStart 48 = .ok (.iaload, 1) := by decide +kernel
theorem dX10_leastStart_49 : decode cX10_leastStart 49 = .ok (.iload_n 3, 1) := by decide +kernel
theorem dX10_leastStart_50 : decode cX10_leastStart 50 = .ok (.iand, 1) := by decide +kernel
theorem dX10_leastStart_51 : decode cX10_leastStart 51 = .ok (.ior, 1) := by decide +kernel
theorem dX10_leastStart_52 : decode cX10_leastStart 52 = .ok (.istore 4, 2) := by decide +kernel
theorem dX10_leastStart_54 : decode cX10_leastStart 54 = .ok (.iinc 6 1, 3) := by decide +kernel
theorem dX10_leastStart_57 : decode cX10_leastStart 57 = .ok (.goto (-48), 3) := by decide +kernel
theorem dX10_leastStart_60 : decode cX10_leastStart 60 = .ok (.iconst 0, 1) := by decide +kernel
theorem dX10_leastStart_61 : decode cX10_leastStart 61 = .ok (.istore 6, 2) := by decide +kernel
theorem dX10_leastStart_63 : decode cX10_leastStart 63 = .ok (.iload 6, 2) := by decide +kernel
theorem dX10_leastStart_65 : decode cX10_leastStart 65 = .ok (.bipush 12, 2) := by decide +kernel
theorem dX10_leastStart_67 : decode cX10_leastStart 67 = .ok (.if_icmp .ge 22, 3) := by decide +kernel
theorem dX10_leastStart_70 : decode cX10_leastStart 70 = .ok (.iload 4, 2) := by decide +kernel
theorem dX10_leastStart_72 : decode cX10_leastStart 72 = .ok (.iload 6, 2) := by decide +kernel
theorem dX10_leastStart_74 : decode cX10_leastStart 74 = .ok (.invokestatic 70, 3) := by decide +kernel
theorem dX10_leastStart_77 : decode cX10_leastStart 77 = .ok (.ifCond .eq 6, 3) := by decide +kernel
theorem dX10_leastStart_80 : decode cX10_leastStart 80 = .ok (.iload 6, 2) := by decide +kernel
theorem dX10_leastStart_82 : decode cX10_leastStart 82 = .ok (.ireturn, 1) := by decide +kernel
theorem dX10_leastStart_83 : decode cX10_leastStart 83 = .ok (.iinc 6 1, 3) := by decide +kernel
theorem dX10_leastStart_86 : decode cX10_leastStart 86 = .ok (.goto (-23), 3) := by decide +kernel
theorem dX10_leastStart_89 : decode cX10_leastStart 89 = .ok (.iconst 0, 1) := by decide +kernel
theorem dX10_leastStart_90 : decode cX10_leastStart 90 = .ok (.ireturn, 1) := by decide +kernel
theorem dX11_init_0 : decode cX11_init 0 = .ok (.aload_n 0, 1) := by decide +kernel
theorem dX11_init_1 : decode cX11_init 1 = .ok (.invokespecial 1, 3) := by decide +kernel
theorem dX11_init_4 : decode cX11_init 4 = .ok (.aload_n 0, 1) := by decide +kernel
theorem dX11_init_5 : decode cX11_init 5 = .ok (.new 7, 3) := by decide +kernel
theorem dX11_init_8 : decode cX11_init 8 = .ok (.dup, 1) := by decide +kernel
theorem dX11_init_9 : decode cX11_init 9 = .ok (.invokespecial 9, 3) := by decide +kernel
theorem dX11_init_12 : decode cX11_init 12 = .ok (.putfield 10, 3) := by decide +kernel
theorem dX11_init_15 : decode cX11_init 15 = .ok (.aload_n 0, 1) := by decide +kernel
theorem dX11_init_16 : decode cX11_init 16 = .ok (.new 16, 3) := by decide +kernel
theorem dX11_init_19 : decode cX11_init 19 = .ok (.dup, 1) := by decide +kernel
theorem dX11_init_20 : decode cX11_init 20 = .ok (.invokespecial 18, 3) := by decide +kernel
theorem dX11_init_23 : decode cX11_init 23 = .ok (.putfield 19, 3) := by decide +kernel
theorem dX11_init_26 : decode cX11_init 26 = .ok (.aload_n 0, 1) := by decide +kernel
theorem dX11_init_27 : decode cX11_init 27 = .ok (.new 23, 3) := by decide +kernel
theorem dX11_init_30 : decode cX11_init 30 = .ok (.dup, 1) := by decide +kernel
theorem dX11_init_31 : decode cX11_init 31 = .ok (.aload_n 0, 1) := by decide +kernel
theorem dX11_init_32 : decode cX11_init 32 = .ok (.getfield 19, 3) := by decide +kernel
theorem dX11_init_35 : decode cX11_init 35 = .ok (.getfield 25, 3) := by decide +kernel
theorem dX11_init_38 : decode cX11_init 38 = .ok (.invokespecial 29, 3) := by decide +kernel
theorem dX11_init_41 : decode cX11_init 41 = .ok (.putfield 32, 3) := by decide +kernel
theorem dX11_init_44 : decode cX11_init 44 = .ok (.aload_n 0, 1) := by decide +kernel
theorem dX11_init_45 : decode cX11_init 45 = .ok (.new 36, 3) := by decide +kernel
theorem dX11_init_48 : decode cX11_init 48 = .ok (.dup, 1) := by decide +kernel
theorem dX11_init_49 : decode cX11_init 49 = .ok (.aload_n 0, 1) := by decide +kernel
theorem dX11_init_50 : decode cX11_init 50 = .ok (.getfield 19, 3) := by decide +kernel
theorem dX11_init_53 : decode cX11_init 53 = .ok (.getfield 25, 3) := by decide +kernel
theorem dX11_init_56 : decode cX11_init 56 = .ok (.aload_n 0, 1) := by decide +kernel
theorem dX11_init_57 : decode cX11_init 57 = .ok (.getfield 32, 3) := by decide +kernel
theorem dX11_init_60 : decode cX11_init 60 = .ok (.aload_n 0, 1) := by decide +kernel
theorem dX11_init_61 : decode cX11_init 61 = .ok (.getfield 19, 3) := by decide +kernel
theorem dX11_init_64 : decode cX11_init 64 = .ok (.getfield 38, 3) := by decide +kernel
theorem dX11_init_67 : decode cX11_init 67 = .ok (.invokespecial 42, 3) := by decide +kernel
theorem dX11_init_70 : decode cX11_init 70 = .ok (.putfield 45, 3) := by decide +kernel
theorem dX11_init_73 : decode cX11_init 73 = .ok (.aload_n 0, 1) := by decide +kernel
theorem dX11_init_74 : decode cX11_init 74 = .ok (.new 49, 3) := by decide +kernel
theorem dX11_init_77 : decode cX11_init 77 = .ok (.dup, 1) := by decide +kernel
theorem dX11_init_78 : decode cX11_init 78 = .ok (.aload_n 0, 1) := by decide +kernel
theorem dX11_init_79 : decode cX11_init 79 = .ok (.getfield 19, 3) := by decide +kernel
theorem dX11_init_82 : decode cX11_init 82 = .ok (.getfield 25, 3) := by decide +kernel
theorem dX11_init_85 : decode cX11_init 85 = .ok (.aload_n 0, 1) := by decide +kernel
theorem dX11_init_86 : decode cX11_init 86 = .ok (.getfield 32, 3) := by decide +kernel
theorem dX11_init_89 : decode cX11_init 89 = .ok (.invokespecial 51, 3) := by decide +kernel
theorem dX11_init_92 : decode cX11_init 92 = .ok (.putfield 54, 3) := by decide +kernel
theorem dX11_init_95 : decode cX11_init 95 = .ok (.aload_n 0, 1) := by decide +kernel
theorem dX11_init_96 : decode cX11_init 96 = .ok (.new 58, 3) := by decide +kernel
theorem dX11_init_99 : decode cX11_init 99 = .ok (.dup, 1) := by decide +kernel
theorem dX11_init_100 : decode cX11_init 100 = .ok (.aload_n 0, 1) := by decide +kernel
theorem dX11_init_101 : decode cX11_init 101 = .ok (.getfield 19, 3) := by decide +kernel
theorem dX11_init_104 : decode cX11_init 104 = .ok (.getfield 25, 3) := by decide +kernel
theorem dX11_init_107 : decode cX11_init 107 = .ok (.invokespecial 60, 3) := by decide +kernel
theorem dX11_init_110 : decode cX11_init 110 = .ok (.putfield 61, 3) := by decide +kernel
theorem dX11_init_113 : decode cX11_init 113 = .ok (.aload_n 0, 1) := by decide +kernel
theorem dX11_init_114 : decode cX11_init 114 = .ok (.new 65, 3) := by decide +kernel
theorem dX11_init_117 : decode cX11_init 117 = .ok (.dup, 1) := by decide +kernel
theorem dX11_init_118 : decode cX11_init 118 = .ok (.aload_n 0, 1) := by decide +kernel
theorem dX11_init_119 : decode cX11_init 119 = .ok (.getfield 19, 3) := by decide +kernel
theorem dX11_init_122 : decode cX11_init 122 = .ok (.getfield 25, 3) := by decide +kernel
theorem dX11_init_125 : decode cX11_init 125 = .ok (.aload_n 0, 1) := by decide +kernel
theorem dX11_init_126 : decode cX11_init 126 = .ok (.getfield 32, 3) := by decide +kernel
theorem dX11_init_129 : decode cX11_init 129 = .ok (.aload_n 0, 1) := by decide +kernel
theorem dX11_init_130 : decode cX11_init 130 = .ok (.getfield 19, 3) := by decide +kernel
theorem dX11_init_133 : decode cX11_init 133 = .ok (.getfield 67, 3) := by decide +kernel
theorem dX11_init_136 : decode cX11_init 136 = .ok (.invokespecial 71, 3) := by decide +kernel
theorem dX11_init_139 : decode cX11_init 139 = .ok (.putfield 74, 3) := by decide +kernel
theorem dX11_init_142 : decode cX11_init 142 = .ok (.aload_n 0, 1) := by decide +kernel
theorem dX11_init_143 : decode cX11_init 143 = .ok (.new 78, 3) := by decide +kernel
theorem dX11_init_146 : decode cX11_init 146 = .ok (.dup, 1) := by decide +kernel
theorem dX11_init_147 : decode cX11_init 147 = .ok (.aload_n 0, 1) := by decide +kernel
theorem dX11_init_148 : decode cX11_init 148 = .ok (.getfield 19, 3) := by decide +kernel
theorem dX11_init_151 : decode cX11_init 151 = .ok (.getfield 25, 3) := by decide +kernel
theorem dX11_init_154 : decode cX11_init 154 = .ok (.aload_n 0, 1) := by decide +kernel
theorem dX11_init_155 : decode cX11_init 155 = .ok (.getfield 19, 3) := by decide +kernel
theorem dX11_init_158 : decode cX11_init 158 = .ok (.getfield 38, 3) := by decide +kernel
theorem dX11_init_161 : decode cX11_init 161 = .ok (.aload_n 0, 1) := by decide +kernel
theorem dX11_init_162 : decode cX11_init 162 = .ok (.getfield 45, 3) := by decide +kernel
theorem dX11_init_165 : decode cX11_init 165 = .ok (.invokespecial 80, 3) := by decide +kernel
theorem dX11_init_168 : decode cX11_init 168 = .ok (.putfield 83, 3) := by decide +kernel
theorem dX11_init_171 : decode cX11_init 171 = .ok (.aload_n 0, 1) := by decide +kernel
theorem dX11_init_172 : decode cX11_init 172 = .ok (.iconst 2, 1) := by decide +kernel
theorem dX11_init_173 : decode cX11_init 173 = .ok (.anewarray 16, 3) := by decide +kernel
theorem dX11_init_176 : decode cX11_init 176 = .ok (.putfield 87, 3) := by decide +kernel
theorem dX11_init_179 : decode cX11_init 179 = .ok (.iconst 0, 1) := by decide +kernel
theorem dX11_init_180 : decode cX11_init 180 = .ok (.istore_n 1, 1) := by decide +kernel
theorem dX11_init_181 : decode cX11_init 181 = .ok (.iload_n 1, 1) := by decide +kernel
theorem dX11_init_182 : decode cX11_init 182 = .ok (.iconst 2, 1) := by decide +kernel
theorem dX11_init_183 : decode cX11_init 183 = .ok (.if_icmp .ge 22, 3) := by decide +kernel
theorem dX11_init_186 : decode cX11_init 186 = .ok (.aload_n 0, 1) := by decide +kernel
theorem dX11_init_187 : decode cX11_init 187 = .ok (.getfield 87, 3) := by decide +kernel
theorem dX11_init_190 : decode cX11_init 190 = .ok (.iload_n 1, 1) := by decide +kernel
theorem dX11_init_191 : decode cX11_init 191 = .ok (.new 16, 3) := by decide +kernel
theorem dX11_init_194 : decode cX11_init 194 = .ok (.dup, 1) := by decide +kernel
theorem dX11_init_195 : decode cX11_init 195 = .ok (.invokespecial 18, 3) := by decide +kernel
theorem dX11_init_198 : decode cX11_init 198 = .ok (.aastore, 1) := by decide +kernel
theorem dX11_init_199 : decode cX11_init 199 = .ok (.iinc 1 1, 3) := by decide +kernel
theorem dX11_init_202 : decode cX11_init 202 = .ok (.goto (-21), 3) := by decide +kernel
theorem dX11_init_205 : decode cX11_init 205 = .ok (.aload_n 0, 1) := by decide +kernel
theorem dX11_init_206 : decode cX11_init 206 = .ok (.iconst 2, 1) := by decide +kernel
theorem dX11_init_207 : decode cX11_init 207 = .ok (.newarray .boolean, 2) := by decide +kernel
theorem dX11_init_209 : decode cX11_init 209 = .ok (.putfield 91, 3) := by decide +kernel
theorem dX11_init_212 : decode cX11_init 212 = .ok (.aload_n 0, 1) := by decide +kernel
theorem dX11_init_213 : decode cX11_init 213 = .ok (.getfield 32, 3) := by decide +kernel
theorem dX11_init_216 : decode cX11_init 216 = .ok (.invokevirtual 95, 3) := by decide +kernel
theorem dX11_init_219 : decode cX11_init 219 = .ok (.return_, 1) := by decide +kernel
theorem dX11_say_0 : decode cX11_say 0 = .ok (.iload_n 1, 1) := by decide +kernel
theorem dX11_say_1 : decode cX11_say 1 = .ok (.bipush 33, 2) := by decide +kernel
theorem dX11_say_3 : decode cX11_say 3 = .ok (.if_icmp .lt 9, 3) := by decide +kernel
theorem dX11_say_6 : decode cX11_say 6 = .ok (.iload_n 1, 1) := by decide +kernel
theorem dX11_say_7 : decode cX11_say 7 = .ok (.bipush 126, 2) := by decide +kernel
theorem dX11_say_9 : decode cX11_say 9 = .ok (.if_icmp .le 6, 3) := by decide +kernel
theorem dX11_say_12 : decode cX11_say 12 = .ok (.bipush (-2), 2) := by decide +kernel
theorem dX11_say_14 : decode cX11_say 14 = .ok (.ireturn, 1) := by decide +kernel
theorem dX11_say_15 : decode cX11_say 15 = .ok (.aload_n 0, 1) := by decide +kernel
theorem dX11_say_16 : decode cX11_say 16 = .ok (.getfield 10, 3) := by decide +kernel
theorem dX11_say_19 : decode cX11_say 19 = .ok (.getfield 98, 3) := by decide +kernel
theorem dX11_say_22 : decode cX11_say 22 = .ok (.bipush 14, 2) := by decide +kernel
theorem dX11_say_24 : decode cX11_say 24 = .ok (.if_icmp .lt 6, 3) := by decide +kernel
theorem dX11_say_27 : decode cX11_say 27 = .ok (.bipush (-4), 2) := by decide +kernel
theorem dX11_say_29 : decode cX11_say 29 = .ok (.ireturn, 1) := by decide +kernel
theorem dX11_say_30 : decode cX11_say 30 = .ok (.aload_n 0, 1) := by decide +kernel
theorem dX11_say_31 : decode cX11_say 31 = .ok (.getfield 10, 3) := by decide +kernel
theorem dX11_say_34 : decode cX11_say 34 = .ok (.getfield 102, 3) := by decide +kernel
theorem dX11_say_37 : decode cX11_say 37 = .ok (.aload_n 0, 1) := by decide +kernel
theorem dX11_say_38 : decode cX11_say 38 = .ok (.getfield 10, 3) := by decide +kernel
theorem dX11_say_41 : decode cX11_say 41 = .ok (.getfield 98, 3) := by decide +kernel
theorem dX11_say_44 : decode cX11_say 44 = .ok (.iload_n 1, 1) := by decide +kernel
theorem dX11_say_45 : decode cX11_say 45 = .ok (.iastore, 1) := by decide +kernel
theorem dX11_say_46 : decode cX11_say 46 = .ok (.aload_n 0, 1) := by decide +kernel
theorem dX11_say_47 : decode cX11_say 47 = .ok (.getfield 10, 3) := by decide +kernel
theorem dX11_say_50 : decode cX11_say 50 = .ok (.dup, 1) := by decide +kernel
theorem dX11_say_51 : decode cX11_say 51 = .ok (.getfield 98, 3) := by decide +kernel
theorem dX11_say_54 : decode cX11_say 54 = .ok (.iconst 1, 1) := by decide +kernel
theorem dX11_say_55 : decode cX11_say 55 = .ok (.iadd, 1) := by decide +kernel
theorem dX11_say_56 : decode cX11_say 56 = .ok (.putfield 98, 3) := by decide +kernel
theorem dX11_say_59 : decode cX11_say 59 = .ok (.aload_n 0, 1) := by decide +kernel
theorem dX11_say_60 : decode cX11_say 60 = .ok (.getfield 10, 3) := by decide +kernel
theorem dX11_say_63 : decode cX11_say 63 = .ok (.getfield 98, 3) := by decide +kernel
theorem dX11_say_66 : decode cX11_say 66 = .ok (.ireturn, 1) := by decide +kernel
theorem dX11_wipe_0 : decode cX11_wipe 0 = .ok (.aload_n 0, 1) := by decide +kernel
theorem dX11_wipe_1 : decode cX11_wipe 1 = .ok (.getfield 10, 3) := by decide +kernel
theorem dX11_wipe_4 : decode cX11_wipe 4 = .ok (.getfield 98, 3) := by decide +kernel
theorem dX11_wipe_7 : decode cX11_wipe 7 = .ok (.istore_n 1, 1) := by decide +kernel
theorem dX11_wipe_8 : decode cX11_wipe 8 = .ok (.aload_n 0, 1) := by decide +kernel
theorem dX11_wipe_9 : decode cX11_wipe 9 = .ok (.getfield 10, 3) := by decide +kernel
theorem dX11_wipe_12 : decode cX11_wipe 12 = .ok (.iconst 0, 1) := by decide +kernel
theorem dX11_wipe_13 : decode cX11_wipe 13 = .ok (.putfield 98, 3) := by decide +kernel
theorem dX11_wipe_16 : decode cX11_wipe 16 = .ok (.iload_n 1, 1) := by decide +kernel
theorem dX11_wipe_17 : decode cX11_wipe 17 = .ok (.ireturn, 1) := by decide +kernel
theorem dX11_fault_0 : decode cX11_fault 0 = .ok (.aload_n 0, 1) := by decide +kernel
theorem dX11_fault_1 : decode cX11_fault 1 = .ok (.getfield 10, 3) := by decide +kernel
theorem dX11_fault_4 : decode cX11_fault 4 = .ok (.invokevirtual 106, 3) := by decide +kernel
theorem dX11_fault_7 : decode cX11_fault 7 = .ok (.ireturn, 1) := by decide +kernel
theorem dX11_word_0 : decode cX11_word 0 = .ok (.iload_n 1, 1) := by decide +kernel
theorem dX11_word_1 : decode cX11_word 1 = .ok (.iconst 1, 1) := by decide +kernel
theorem dX11_word_2 : decode cX11_word 2 = .ok (.if_icmp .lt 10, 3) := by decide +kernel
theorem dX11_word_5 : decode cX11_word 5 = .ok (.iload_n 1, 1) := by decide +kernel
theorem dX11_word_6 : decode cX11_word 6 = .ok (.sipush 999, 3) := by decide +kernel
theorem dX11_word_9 : decode cX11_word 9 = .ok (.if_icmp .le 6, 3) := by decide +kernel
theorem dX11_word_12 : decode cX11_word 12 = .ok (.bipush (-2), 2) := by decide +kernel
theorem dX11_word_14 : decode cX11_word 14 = .ok (.ireturn, 1) := by decide +kernel
theorem dX11_word_15 : decode cX11_word 15 = .ok (.aload_n 0, 1) := by decide +kernel
theorem dX11_word_16 : decode cX11_word 16 = .ok (.getfield 10, 3) := by decide +kernel
theorem dX11_word_19 : decode cX11_word 19 = .ok (.invokevirtual 106, 3) := by decide +kernel
theorem dX11_word_22 : decode cX11_word 22 = .ok (.bipush (-6), 2) := by decide +kernel
theorem dX11_word_24 : decode cX11_word 24 = .ok (.if_icmp .ne 20, 3) := by decide +kernel
theorem dX11_word_27 : decode cX11_word 27 = .ok (.aload_n 0, 1) := by decide +kernel
theorem dX11_word_28 : decode cX11_word 28 = .ok (.getfield 19, 3) := by decide +kernel
theorem dX11_word_31 : decode cX11_word 31 = .ok (.getfield 25, 3) := by decide +kernel
theorem dX11_word_34 : decode cX11_word 34 = .ok (.aload_n 0, 1) := by decide +kernel
theorem dX11_word_35 : decode cX11_word 35 = .ok (.getfield 10, 3) := by decide +kernel
theorem dX11_word_38 : decode cX11_word 38 = .ok (.invokevirtual 110, 3) := by decide +kernel
theorem dX11_word_41 : decode cX11_word 41 = .ok (.ifCond .eq 6, 3) := by decide +kernel
theorem dX11_word_44 : decode cX11_word 44 = .ok (.bipush (-5), 2) := by decide +kernel
theorem dX11_word_46 : decode cX11_word 46 = .ok (.ireturn, 1) := by decide +kernel
theorem dX11_word_47 : decode cX11_word 47 = .ok (.aload_n 0, 1) := by decide +kernel
theorem dX11_word_48 : decode cX11_word 48 = .ok (.getfield 19, 3) := by decide +kernel
theorem dX11_word_51 : decode cX11_word 51 = .ok (.getfield 25, 3) := by decide +kernel
theorem dX11_word_54 : decode cX11_word 54 = .ok (.getfield 116, 3) := by decide +kernel
theorem dX11_word_57 : decode cX11_word 57 = .ok (.bipush 12, 2) := by decide +kernel
theorem dX11_word_59 : decode cX11_word 59 = .ok (.if_icmp .lt 6, 3) := by decide +kernel
theorem dX11_word_62 : decode cX11_word 62 = .ok (.bipush (-4), 2) := by decide +kernel
theorem dX11_word_64 : decode cX11_word 64 = .ok (.ireturn, 1) := by decide +kernel
theorem dX11_word_65 : decode cX11_word 65 = .ok (.aload_n 0, 1) := by decide +kernel
theorem dX11_word_66 : decode cX11_word 66 = .ok (.getfield 19, 3) := by decide +kernel
theorem dX11_word_69 : decode cX11_word 69 = .ok (.getfield 25, 3) := by decide +kernel
theorem dX11_word_72 : decode cX11_word 72 = .ok (.aload_n 0, 1) := by decide +kernel
theorem dX11_word_73 : decode cX11_word 73 = .ok (.getfield 10, 3) := by decide +kernel
theorem dX11_word_76 : decode cX11_word 76 = .ok (.iload_n 1, 1) := by decide +kernel
theorem dX11_word_77 : decode cX11_word 77 = .ok (.invokevirtual 117, 3) := by decide +kernel
theorem dX11_word_80 : decode cX11_word 80 = .ok (.aload_n 0, 1) := by decide +kernel
theorem dX11_word_81 : decode cX11_word 81 = .ok (.getfield 10, 3) := by decide +kernel
theorem dX11_word_84 : decode cX11_word 84 = .ok (.iconst 0, 1) := by decide +kernel
theorem dX11_word_85 : decode cX11_word 85 = .ok (.putfield 98, 3) := by decide +kernel
theorem dX11_word_88 : decode cX11_word 88 = .ok (.aload_n 0, 1) := by decide +kernel
theorem dX11_word_89 : decode cX11_word 89 = .ok (.invokevirtual 121, 3) := by decide +kernel
theorem dX11_word_92 : decode cX11_word 92 = .ok (.aload_n 0, 1) := by decide +kernel
theorem dX11_word_93 : decode cX11_word 93 = .ok (.getfield 19, 3) := by decide +kernel
theorem dX11_word_96 : decode cX11_word 96 = .ok (.getfield 25, 3) := by decide +kernel
theorem dX11_word_99 : decode cX11_word 99 = .ok (.getfield 116, 3) := by decide +kernel
theorem dX11_word_102 : decode cX11_word 102 = .ok (.iconst 1, 1) := by decide +kernel
theorem dX11_word_103 : decode cX11_word 103 = .ok (.isub, 1) := by decide +kernel
theorem dX11_word_104 : decode cX11_word 104 = .ok (.ireturn, 1) := by decide +kernel
theorem dX11_about_0 : decode cX11_about 0 = .ok (.aload_n 0, 1) := by decide +kernel
theorem dX11_about_1 : decode cX11_about 1 = .ok (.getfield 19, 3) := by decide +kernel
theorem dX11_about_4 : decode cX11_about 4 = .ok (.getfield 25, 3) := by decide +kernel
theorem dX11_about_7 : decode cX11_about 7 = .ok (.iload_n 1, 1) := by decide +kernel
theorem dX11_about_8 : decode cX11_about 8 = .ok (.invokevirtual 124, 3) := by decide +kernel
theorem dX11_about_11 : decode cX11_about 11 = .ok (.ifCond .ne 5, 3) := by decide +kernel
theorem dX11_about_14 : decode cX11_about 14 = .ok (.iconst (-1), 1) := by decide +kernel
theorem dX11_about_15 : decode cX11_about 15 = .ok (.ireturn, 1) := by decide +kernel
theorem dX11_about_16 : decode cX11_about 16 = .ok (.iload_n 2, 1) := by decide +kernel
theorem dX11_about_17 : decode cX11_about 17 = .ok (.bipush 10, 2) := by decide +kernel
theorem dX11_about_19 : decode cX11_about 19 = .ok (.if_icmp .lt 25, 3) := by decide +kernel
theorem dX11_about_22 : decode cX11_about 22 = .ok (.iload_n 2, 1) := by decide +kernel
theorem dX11_about_23 : decode cX11_about 23 = .ok (.bipush 15, 2) := by decide +kernel
theorem dX11_about_25 : decode cX11_about 25 = .ok (.if_icmp .ge 19, 3) := by decide +kernel
theorem dX11_about_28 : decode cX11_about 28 = .ok (.aload_n 0, 1) := by decide +kernel
theorem dX11_about_29 : decode cX11_about 29 = .ok (.getfield 19, 3) := by decide +kernel
theorem dX11_about_32 : decode cX11_about 32 = .ok (.getfield 25, 3) := by decide +kernel
theorem dX11_about_35 : decode cX11_about 35 = .ok (.iload_n 1, 1) := by decide +kernel
theorem dX11_about_36 : decode cX11_about 36 = .ok (.iload_n 2, 1) := by decide +kernel
theorem dX11_about_37 : decode cX11_about 37 = .ok (.bipush 10, 2) := by decide +kernel
theorem dX11_about_39 : decode cX11_about 39 = .ok (.isub, 1) := by decide +kernel
theorem dX11_about_40 : decode cX11_about 40 = .ok (.invokevirtual 128, 3) := by decide +kernel
theorem dX11_about_43 : decode cX11_about 43 = .ok (.ireturn, 1) := by decide +kernel
theorem dX11_about_44 : decode cX11_about 44 = .ok (.iload_n 2, 1) := by decide +kernel
theorem dX11_about_45 : decode cX11_about 45 = .ok (.bipush 20, 2) := by decide +kernel
theorem dX11_about_47 : decode cX11_about 47 = .ok (.if_icmp .lt 25, 3) := by decide +kernel
theorem dX11_about_50 : decode cX11_about 50 = .ok (.iload_n 2, 1) := by decide +kernel
theorem dX11_about_51 : decode cX11_about 51 = .ok (.bipush 25, 2) := by decide +kernel
theorem dX11_about_53 : decode cX11_about 53 = .ok (.if_icmp .ge 19, 3) := by decide +kernel
theorem dX11_about_56 : decode cX11_about 56 = .ok (.aload_n 0, 1) := by decide +kernel
theorem dX11_about_57 : decode cX11_about 57 = .ok (.getfield 19, 3) := by decide +kernel
theorem dX11_about_60 : decode cX11_about 60 = .ok (.getfield 25, 3) := by decide +kernel
theorem dX11_about_63 : decode cX11_about 63 = .ok (.iload_n 1, 1) := by decide +kernel
theorem dX11_about_64 : decode cX11_about 64 = .ok (.iload_n 2, 1) := by decide +kernel
theorem dX11_about_65 : decode cX11_about 65 = .ok (.bipush 20, 2) := by decide +kernel
theorem dX11_about_67 : decode cX11_about 67 = .ok (.isub, 1) := by decide +kernel
theorem dX11_about_68 : decode cX11_about 68 = .ok (.invokevirtual 132, 3) := by decide +kernel
theorem dX11_about_71 : decode cX11_about 71 = .ok (.ireturn, 1) := by decide +kernel
theorem dX11_about_72 : decode cX11_about 72 = .ok (.iload_n 2, 1) := by decide +kernel
theorem dX11_about_73 : decode cX11_about 73 = .ok (.tableswitch 87 0 3 #[31, 44, 57, 70], 31) := by decide +kernel
theorem dX11_about_104 : decode cX11_about 104 = .ok (.aload_n 0, 1) := by decide +kernel
theorem dX11_about_105 : decode cX11_about 105 = .ok (.getfield 19, 3) := by decide +kernel
theorem dX11_about_108 : decode cX11_about 108 = .ok (.getfield 25, 3) := by decide +kernel
theorem dX11_about_111 : decode cX11_about 111 = .ok (.getfield 135, 3) := by decide +kernel
theorem dX11_about_114 : decode cX11_about 114 = .ok (.iload_n 1, 1) := by decide +kernel
theorem dX11_about_115 : decode cX11_about 115 = .ok (.iaload, 1) := by decide +kernel
theorem dX11_about_116 : decode cX11_about 116 = .ok (.ireturn, 1) := by decide +kernel
theorem dX11_about_117 : decode cX11_about 117 = .ok (.aload_n 0, 1) := by decide +kernel
theorem dX11_about_118 : decode cX11_about 118 = .ok (.getfield 19, 3) := by decide +kernel
theorem dX11_about_121 : decode cX11_about 121 = .ok (.getfield 25, 3) := by decide +kernel
theorem dX11_about_124 : decode cX11_about 124 = .ok (.getfield 138, 3) := by decide +kernel
theorem dX11_about_127 : decode cX11_about 127 = .ok (.iload_n 1, 1) := by decide +kernel
theorem dX11_about_128 : decode cX11_about 128 = .ok (.iaload, 1) := by decide +kernel
theorem dX11_about_129 : decode cX11_about 129 = .ok (.ireturn, 1) := by decide +kernel
theorem dX11_about_130 : decode cX11_about 130 = .ok (.aload_n 0, 1) := by decide +kernel
theorem dX11_about_131 : decode cX11_about 131 = .ok (.getfield 19, 3) := by decide +kernel
theorem dX11_about_134 : decode cX11_about 134 = .ok (.getfield 25, 3) := by decide +kernel
theorem dX11_about_137 : decode cX11_about 137 = .ok (.getfield 141, 3) := by decide +kernel
theorem dX11_about_140 : decode cX11_about 140 = .ok (.iload_n 1, 1) := by decide +kernel
theorem dX11_about_141 : decode cX11_about 141 = .ok (.iaload, 1) := by decide +kernel
theorem dX11_about_142 : decode cX11_about 142 = .ok (.ireturn, 1) := by decide +kernel
theorem dX11_about_143 : decode cX11_about 143 = .ok (.aload_n 0, 1) := by decide +kernel
theorem dX11_about_144 : decode cX11_about 144 = .ok (.getfield 32, 3) := by decide +kernel
theorem dX11_about_147 : decode cX11_about 147 = .ok (.iload_n 1, 1) := by decide +kernel
theorem dX11_about_148 : decode cX11_about 148 = .ok (.invokevirtual 144, 3) := by decide +kernel
theorem dX11_about_151 : decode cX11_about 151 = .ok (.ifCond .eq 7, 3) := by decide +kernel
theorem dX11_about_154 : decode cX11_about 154 = .ok (.iconst 1, 1) := by decide +kernel
theorem dX11_about_155 : decode cX11_about 155 = .ok (.goto 4, 3) := by decide +kernel
theorem dX11_about_158 : decode cX11_about 158 = .ok (.iconst 0, 1) := by decide +kernel
theorem dX11_about_159 : decode cX11_about 159 = .ok (.ireturn, 1) := by decide +kernel
theorem dX11_about_160 : decode cX11_about 160 = .ok (.bipush (-2), 2) := by decide +kernel
theorem dX11_about_162 : decode cX11_about 162 = .ok (.ireturn, 1) := by decide +kernel
theorem dX11_often_0 : decode cX11_often 0 = .ok (.aload_n 0, 1) := by decide +kernel
theorem dX11_often_1 : decode cX11_often 1 = .ok (.getfield 19, 3) := by decide +kernel
theorem dX11_often_4 : decode cX11_often 4 = .ok (.getfield 25, 3) := by decide +kernel
theorem dX11_often_7 : decode cX11_often 7 = .ok (.iload_n 1, 1) := by decide +kernel
theorem dX11_often_8 : decode cX11_often 8 = .ok (.invokevirtual 124, 3) := by decide +kernel
theorem dX11_often_11 : decode cX11_often 11 = .ok (.ifCond .ne 5, 3) := by decide +kernel
theorem dX11_often_14 : decode cX11_often 14 = .ok (.iconst (-1), 1) := by decide +kernel
theorem dX11_often_15 : decode cX11_often 15 = .ok (.ireturn, 1) := by decide +kernel
theorem dX11_often_16 : decode cX11_often 16 = .ok (.iload_n 2, 1) := by decide +kernel
theorem dX11_often_17 : decode cX11_often 17 = .ok (.iconst 1, 1) := by decide +kernel
theorem dX11_often_18 : decode cX11_often 18 = .ok (.if_icmp .lt 10, 3) := by decide +kernel
theorem dX11_often_21 : decode cX11_often 21 = .ok (.iload_n 2, 1) := by decide +kernel
theorem dX11_often_22 : decode cX11_often 22 = .ok (.sipush 999, 3) := by decide +kernel
theorem dX11_often_25 : decode cX11_often 25 = .ok (.if_icmp .le 6, 3) := by decide +kernel
theorem dX11_often_28 : decode cX11_often 28 = .ok (.bipush (-2), 2) := by decide +kernel
theorem dX11_often_30 : decode cX11_often 30 = .ok (.ireturn, 1) := by decide +kernel
theorem dX11_often_31 : decode cX11_often 31 = .ok (.aload_n 0, 1) := by decide +kernel
theorem dX11_often_32 : decode cX11_often 32 = .ok (.getfield 19, 3) := by decide +kernel
theorem dX11_often_35 : decode cX11_often 35 = .ok (.getfield 25, 3) := by decide +kernel
theorem dX11_often_38 : decode cX11_often 38 = .ok (.getfield 138, 3) := by decide +kernel
theorem dX11_often_41 : decode cX11_often 41 = .ok (.iload_n 1, 1) := by decide +kernel
theorem dX11_often_42 : decode cX11_often 42 = .ok (.iaload, 1) := by decide +kernel
theorem dX11_often_43 : decode cX11_often 43 = .ok (.istore_n 3, 1) := by decide +kernel
theorem dX11_often_44 : decode cX11_often 44 = .ok (.aload_n 0, 1) := by decide +kernel
theorem dX11_often_45 : decode cX11_often 45 = .ok (.getfield 19, 3) := by decide +kernel
theorem dX11_often_48 : decode cX11_often 48 = .ok (.getfield 25, 3) := by decide +kernel
theorem dX11_often_51 : decode cX11_often 51 = .ok (.getfield 138, 3) := by decide +kernel
theorem dX11_often_54 : decode cX11_often 54 = .ok (.iload_n 1, 1) := by decide +kernel
theorem dX11_often_55 : decode cX11_often 55 = .ok (.iload_n 2, 1) := by decide +kernel
theorem dX11_often_56 : decode cX11_often 56 = .ok (.iastore, 1) := by decide +kernel
theorem dX11_often_57 : decode cX11_often 57 = .ok (.aload_n 0, 1) := by decide +kernel
theorem dX11_often_58 : decode cX11_often 58 = .ok (.invokevirtual 121, 3) := by decide +kernel
theorem dX11_often_61 : decode cX11_often 61 = .ok (.iload_n 3, 1) := by decide +kernel
theorem dX11_often_62 : decode cX11_often 62 = .ok (.ireturn, 1) := by decide +kernel
theorem dX11_has_0 : decode cX11_has 0 = .ok (.iload_n 1, 1) := by decide +kernel
theorem dX11_has_1 : decode cX11_has 1 = .ok (.invokestatic 147, 3) := by decide +kernel
theorem dX11_has_4 : decode cX11_has 4 = .ok (.ifCond .ne 7, 3) := by decide +kernel
theorem dX11_has_7 : decode cX11_has 7 = .ok (.ldc2_w 150, 3) := by decide +kernel
theorem dX11_has_10 : decode cX11_has 10 = .ok (.lreturn, 1) := by decide +kernel
theorem dX11_has_11 : decode cX11_has 11 = .ok (.iload_n 2, 1) := by decide +kernel
theorem dX11_has_12 : decode cX11_has 12 = .ok (.ifCond .lt 16, 3) := by decide +kernel
theorem dX11_has_15 : decode cX11_has 15 = .ok (.iload_n 2, 1) := by decide +kernel
theorem dX11_has_16 : decode cX11_has 16 = .ok (.bipush 10, 2) := by decide +kernel
theorem dX11_has_18 : decode cX11_has 18 = .ok (.if_icmp .ge 10, 3) := by decide +kernel
theorem dX11_has_21 : decode cX11_has 21 = .ok (.iload_n 3, 1) := by decide +kernel
theorem dX11_has_22 : decode cX11_has 22 = .ok (.invokestatic 152, 3) := by decide +kernel
theorem dX11_has_25 : decode cX11_has 25 = .ok (.ifCond .ne 7, 3) := by decide +kernel
theorem dX11_has_28 : decode cX11_has 28 = .ok (.ldc2_w 155, 3) := by decide +kernel
theorem dX11_has_31 : decode cX11_has 31 = .ok (.lreturn, 1) := by decide +kernel
theorem dX11_has_32 : decode cX11_has 32 = .ok (.aload_n 0, 1) := by decide +kernel
theorem dX11_has_33 : decode cX11_has 33 = .ok (.getfield 32, 3) := by decide +kernel
theorem dX11_has_36 : decode cX11_has 36 = .ok (.getfield 157, 3) := by decide +kernel
theorem dX11_has_39 : decode cX11_has 39 = .ok (.iload_n 1, 1) := by decide +kernel
theorem dX11_has_40 : decode cX11_has 40 = .ok (.bipush 10, 2) := by decide +kernel
theorem dX11_has_42 : decode cX11_has 42 = .ok (.imul, 1) := by decide +kernel
theorem dX11_has_43 : decode cX11_has 43 = .ok (.iload_n 2, 1) := by decide +kernel
theorem dX11_has_44 : decode cX11_has 44 = .ok (.iadd, 1) := by decide +kernel
theorem dX11_has_45 : decode cX11_has 45 = .ok (.iaload, 1) := by decide +kernel
theorem dX11_has_46 : decode cX11_has 46 = .ok (.aload_n 0, 1) := by decide +kernel
theorem dX11_has_47 : decode cX11_has 47 = .ok (.getfield 32, 3) := by decide +kernel
theorem dX11_has_50 : decode cX11_has 50 = .ok (.getfield 160, 3) := by decide +kernel
theorem dX11_has_53 : decode cX11_has 53 = .ok (.iload_n 1, 1) := by decide +kernel
theorem dX11_has_54 : decode cX11_has 54 = .ok (.iaload, 1) := by decide +kernel
theorem dX11_has_55 : decode cX11_has 55 = .ok (.iload_n 3, 1) := by decide +kernel
theorem dX11_has_56 : decode cX11_has 56 = .ok (.invokestatic 163, 3) := by decide +kernel
theorem dX11_has_59 : decode cX11_has 59 = .ok (.lreturn, 1) := by decide +kernel
theorem dX11_common_0 : decode cX11_common 0 = .ok (.iload_n 1, 1) := by decide +kernel
theorem dX11_common_1 : decode cX11_common 1 = .ok (.invokestatic 147, 3) := by decide +kernel
theorem dX11_common_4 : decode cX11_common 4 = .ok (.ifCond .eq 15, 3) := by decide +kernel
theorem dX11_common_7 : decode cX11_common 7 = .ok (.aload_n 0, 1) := by decide +kernel
theorem dX11_common_8 : decode cX11_common 8 = .ok (.getfield 32, 3) := by decide +kernel
theorem dX11_common_11 : decode cX11_common 11 = .ok (.getfield 167, 3) := by decide +kernel
theorem dX11_common_14 : decode cX11_common 14 = .ok (.iload_n 1, 1) := by decide +kernel
theorem dX11_common_15 : decode cX11_common 15 = .ok (.iaload, 1) := by decide +kernel
theorem dX11_common_16 : decode cX11_common 16 = .ok (.goto 4, 3) := by decide +kernel
theorem dX11_common_19 : decode cX11_common 19 = .ok (.iconst (-1), 1) := by decide +kernel
theorem dX11_common_20 : decode cX11_common 20 = .ok (.ireturn, 1) := by decide +kernel
theorem dX11_ruled_0 : decode cX11_ruled 0 = .ok (.iload_n 1, 1) := by decide +kernel
theorem dX11_ruled_1 : decode cX11_ruled 1 = .ok (.invokestatic 152, 3) := by decide +kernel
theorem dX11_ruled_4 : decode cX11_ruled 4 = .ok (.ifCond .ne 7, 3) := by decide +kernel
theorem dX11_ruled_7 : decode cX11_ruled 7 = .ok (.ldc2_w 155, 3) := by decide +kernel
theorem dX11_ruled_10 : decode cX11_ruled 10 = .ok (.lreturn, 1) := by decide +kernel
theorem dX11_ruled_11 : decode cX11_ruled 11 = .ok (.aload_n 0, 1) := by decide +kernel
theorem dX11_ruled_12 : decode cX11_ruled 12 = .ok (.getfield 32, 3) := by decide +kernel
theorem dX11_ruled_15 : decode cX11_ruled 15 = .ok (.invokevirtual 170, 3) := by decide +kernel
theorem dX11_ruled_18 : decode cX11_ruled 18 = .ok (.aload_n 0, 1) := by decide +kernel
theorem dX11_ruled_19 : decode cX11_ruled 19 = .ok (.getfield 32, 3) := by decide +kernel
theorem dX11_ruled_22 : decode cX11_ruled 22 = .ok (.invokevirtual 173, 3) := by decide +kernel
theorem dX11_ruled_25 : decode cX11_ruled 25 = .ok (.iload_n 1, 1) := by decide +kernel
theorem dX11_ruled_26 : decode cX11_ruled 26 = .ok (.invokestatic 163, 3) := by decide +kernel
theorem dX11_ruled_29 : decode cX11_ruled 29 = .ok (.lreturn, 1) := by decide +kernel
theorem dX11_knows_0 : decode cX11_knows 0 = .ok (.iload_n 1, 1) := by decide +kernel
theorem dX11_knows_1 : decode cX11_knows 1 = .ok (.invokestatic 176, 3) := by decide +kernel
theorem dX11_knows_4 : decode cX11_knows 4 = .ok (.ifCond .ne 5, 3) := by decide +kernel
theorem dX11_knows_7 : decode cX11_knows 7 = .ok (.iconst (-1), 1) := by decide +kernel
theorem dX11_knows_8 : decode cX11_knows 8 = .ok (.ireturn, 1) := by decide +kernel
theorem dX11_knows_9 : decode cX11_knows 9 = .ok (.iload_n 2, 1) := by decide +kernel
theorem dX11_knows_10 : decode cX11_knows 10 = .ok (.ifCond .eq 11, 3) := by decide +kernel
theorem dX11_knows_13 : decode cX11_knows 13 = .ok (.iload_n 2, 1) := by decide +kernel
theorem dX11_knows_14 : decode cX11_knows 14 = .ok (.iconst 1, 1) := by decide +kernel
theorem dX11_knows_15 : decode cX11_knows 15 = .ok (.if_icmp .eq 6, 3) := by decide +kernel
theorem dX11_knows_18 : decode cX11_knows 18 = .ok (.bipush (-2), 2) := by decide +kernel
theorem dX11_knows_20 : decode cX11_knows 20 = .ok (.ireturn, 1) := by decide +kernel
theorem dX11_knows_21 : decode cX11_knows 21 = .ok (.iload_n 2, 1) := by decide +kernel
theorem dX11_knows_22 : decode cX11_knows 22 = .ok (.ifCond .ne 13, 3) := by decide +kernel
theorem dX11_knows_25 : decode cX11_knows 25 = .ok (.iload_n 3, 1) := by decide +kernel
theorem dX11_knows_26 : decode cX11_knows 26 = .ok (.invokestatic 179, 3) := by decide +kernel
theorem dX11_knows_29 : decode cX11_knows 29 = .ok (.ifCond .ne 23, 3) := by decide +kernel
theorem dX11_knows_32 : decode cX11_knows 32 = .ok (.goto 17, 3) := by decide +kernel
theorem dX11_knows_35 : decode cX11_knows 35 = .ok (.aload_n 0, 1) := by decide +kernel
theorem dX11_knows_36 : decode cX11_knows 36 = .ok (.getfield 19, 3) := by decide +kernel
theorem dX11_knows_39 : decode cX11_knows 39 = .ok (.getfield 25, 3) := by decide +kernel
theorem dX11_knows_42 : decode cX11_knows 42 = .ok (.iload_n 3, 1) := by decide +kernel
theorem dX11_knows_43 : decode cX11_knows 43 = .ok (.invokevirtual 182, 3) := by decide +kernel
theorem dX11_knows_46 : decode cX11_knows 46 = .ok (.ifCond .ne 6, 3) := by decide +kernel
theorem dX11_knows_49 : decode cX11_knows 49 = .ok (.bipush (-2), 2) := by decide +kernel
theorem dX11_knows_51 : decode cX11_knows 51 = .ok (.ireturn, 1) := by decide +kernel
theorem dX11_knows_52 : decode cX11_knows 52 = .ok (.iload_n 2, 1) := by decide +kernel
theorem dX11_knows_53 : decode cX11_knows 53 = .ok (.ifCond .ne 16, 3) := by decide +kernel
theorem dX11_knows_56 : decode cX11_knows 56 = .ok (.aload_n 0, 1) := by decide +kernel
theorem dX11_knows_57 : decode cX11_knows 57 = .ok (.getfield 19, 3) := by decide +kernel
theorem dX11_knows_60 : decode cX11_knows 60 = .ok (.getfield 38, 3) := by decide +kernel
theorem dX11_knows_63 : decode cX11_knows 63 = .ok (.getfield 185, 3) := by decide +kernel
theorem dX11_knows_66 : decode cX11_knows 66 = .ok (.goto 13, 3) := by decide +kernel
theorem dX11_knows_69 : decode cX11_knows 69 = .ok (.aload_n 0, 1) := by decide +kernel
theorem dX11_knows_70 : decode cX11_knows 70 = .ok (.getfield 19, 3) := by decide +kernel
theorem dX11_knows_73 : decode cX11_knows 73 = .ok (.getfield 38, 3) := by decide +kernel
theorem dX11_knows_76 : decode cX11_knows 76 = .ok (.getfield 190, 3) := by decide +kernel
theorem dX11_knows_79 : decode cX11_knows 79 = .ok (.astore 4, 2) := by decide +kernel
theorem dX11_knows_81 : decode cX11_knows 81 = .ok (.aload 4, 2) := by decide +kernel
theorem dX11_knows_83 : decode cX11_knows 83 = .ok (.iload_n 1, 1) := by decide +kernel
theorem dX11_knows_84 : decode cX11_knows 84 = .ok (.iaload, 1) := by decide +kernel
theorem dX11_knows_85 : decode cX11_knows 85 = .ok (.istore 5, 2) := by decide +kernel
theorem dX11_knows_87 : decode cX11_knows 87 = .ok (.aload 4, 2) := by decide +kernel
theorem dX11_knows_89 : decode cX11_knows 89 = .ok (.iload_n 1, 1) := by decide +kernel
theorem dX11_knows_90 : decode cX11_knows 90 = .ok (.iload_n 3, 1) := by decide +kernel
theorem dX11_knows_91 : decode cX11_knows 91 = .ok (.iastore, 1) := by decide +kernel
theorem dX11_knows_92 : decode cX11_knows 92 = .ok (.aload_n 0, 1) := by decide +kernel
theorem dX11_knows_93 : decode cX11_knows 93 = .ok (.iload_n 1, 1) := by decide +kernel
theorem dX11_knows_94 : decode cX11_knows 94 = .ok (.invokevirtual 193, 3) := by decide +kernel
theorem dX11_knows_97 : decode cX11_knows 97 = .ok (.iload 5, 2) := by decide +kernel
theorem dX11_knows_99 : decode cX11_knows 99 = .ok (.ireturn, 1) := by decide +kernel
theorem dX11_mix_0 : decode cX11_mix 0 = .ok (.iload_n 1, 1) := by decide +kernel
theorem dX11_mix_1 : decode cX11_mix 1 = .ok (.invokestatic 176, 3) := by decide +kernel
theorem dX11_mix_4 : decode cX11_mix 4 = .ok (.ifCond .ne 5, 3) := by decide +kernel
theorem dX11_mix_7 : decode cX11_mix 7 = .ok (.iconst (-1), 1) := by decide +kernel
theorem dX11_mix_8 : decode cX11_mix 8 = .ok (.ireturn, 1) := by decide +kernel
theorem dX11_mix_9 : decode cX11_mix 9 = .ok (.iload_n 2, 1) := by decide +kernel
theorem dX11_mix_10 : decode cX11_mix 10 = .ok (.iconst (-1), 1) := by decide +kernel
theorem dX11_mix_11 : decode cX11_mix 11 = .ok (.if_icmp .ne 12, 3) := by decide +kernel
theorem dX11_mix_14 : decode cX11_mix 14 = .ok (.iload_n 3, 1) := by decide +kernel
theorem dX11_mix_15 : decode cX11_mix 15 = .ok (.iconst (-1), 1) := by decide +kernel
theorem dX11_mix_16 : decode cX11_mix 16 = .ok (.if_icmp .ne 7, 3) := by decide +kernel
theorem dX11_mix_19 : decode cX11_mix 19 = .ok (.iconst 1, 1) := by decide +kernel
theorem dX11_mix_20 : decode cX11_mix 20 = .ok (.goto 4, 3) := by decide +kernel
theorem dX11_mix_23 : decode cX11_mix 23 = .ok (.iconst 0, 1) := by decide +kernel
theorem dX11_mix_24 : decode cX11_mix 24 = .ok (.istore 4, 2) := by decide +kernel
theorem dX11_mix_26 : decode cX11_mix 26 = .ok (.iload 4, 2) := by decide +kernel
theorem dX11_mix_28 : decode cX11_mix 28 = .ok (.ifCond .ne 24, 3) := by decide +kernel
theorem dX11_mix_31 : decode cX11_mix 31 = .ok (.iload_n 2, 1) := by decide +kernel
theorem dX11_mix_32 : decode cX11_mix 32 = .ok (.invokestatic 147, 3) := by decide +kernel
theorem dX11_mix_35 : decode cX11_mix 35 = .ok (.ifCond .eq 15, 3) := by decide +kernel
theorem dX11_mix_38 : decode cX11_mix 38 = .ok (.iload_n 3, 1) := by decide +kernel
theorem dX11_mix_39 : decode cX11_mix 39 = .ok (.invokestatic 147, 3) := by decide +kernel
theorem dX11_mix_42 : decode cX11_mix 42 = .ok (.ifCond .eq 8, 3) := by decide +kernel
theorem dX11_mix_45 : decode cX11_mix 45 = .ok (.iload_n 2, 1) := by decide +kernel
theorem dX11_mix_46 : decode cX11_mix 46 = .ok (.iload_n 3, 1) := by decide +kernel
theorem dX11_mix_47 : decode cX11_mix 47 = .ok (.if_icmp .ne 5, 3) := by decide +kernel
theorem dX11_mix_50 : decode cX11_mix 50 = .ok (.iconst (-1), 1) := by decide +kernel
theorem dX11_mix_51 : decode cX11_mix 51 = .ok (.ireturn, 1) := by decide +kernel
theorem dX11_mix_52 : decode cX11_mix 52 = .ok (.aload_n 0, 1) := by decide +kernel
theorem dX11_mix_53 : decode cX11_mix 53 = .ok (.getfield 19, 3) := by decide +kernel
theorem dX11_mix_56 : decode cX11_mix 56 = .ok (.getfield 38, 3) := by decide +kernel
theorem dX11_mix_59 : decode cX11_mix 59 = .ok (.iload_n 1, 1) := by decide +kernel
theorem dX11_mix_60 : decode cX11_mix 60 = .ok (.invokevirtual 197, 3) := by decide +kernel
theorem dX11_mix_63 : decode cX11_mix 63 = .ok (.istore 5, 2) := by decide +kernel
theorem dX11_mix_65 : decode cX11_mix 65 = .ok (.aload_n 0, 1) := by decide +kernel
theorem dX11_mix_66 : decode cX11_mix 66 = .ok (.getfield 19, 3) := by decide +kernel
theorem dX11_mix_69 : decode cX11_mix 69 = .ok (.getfield 38, 3) := by decide +kernel
theorem dX11_mix_72 : decode cX11_mix 72 = .ok (.getfield 201, 3) := by decide +kernel
theorem dX11_mix_75 : decode cX11_mix 75 = .ok (.iload_n 1, 1) := by decide +kernel
theorem dX11_mix_76 : decode cX11_mix 76 = .ok (.iload_n 2, 1) := by decide +kernel
theorem dX11_mix_77 : decode cX11_mix 77 = .ok (.iload_n 3, 1) := by decide +kernel
theorem dX11_mix_78 : decode cX11_mix 78 = .ok (.invokestatic 204, 3) := by decide +kernel
theorem dX11_mix_81 : decode cX11_mix 81 = .ok (.iastore, 1) := by decide +kernel
theorem dX11_mix_82 : decode cX11_mix 82 = .ok (.aload_n 0, 1) := by decide +kernel
theorem dX11_mix_83 : decode cX11_mix 83 = .ok (.getfield 19, 3) := by decide +kernel
theorem dX11_mix_86 : decode cX11_mix 86 = .ok (.getfield 38, 3) := by decide +kernel
theorem dX11_mix_89 : decode cX11_mix 89 = .ok (.getfield 209, 3) := by decide +kernel
theorem dX11_mix_92 : decode cX11_mix 92 = .ok (.iload_n 1, 1) := by decide +kernel
theorem dX11_mix_93 : decode cX11_mix 93 = .ok (.iload_n 2, 1) := by decide +kernel
theorem dX11_mix_94 : decode cX11_mix 94 = .ok (.iload_n 3, 1) := by decide +kernel
theorem dX11_mix_95 : decode cX11_mix 95 = .ok (.invokestatic 212, 3) := by decide +kernel
theorem dX11_mix_98 : decode cX11_mix 98 = .ok (.iastore, 1) := by decide +kernel
theorem dX11_mix_99 : decode cX11_mix 99 = .ok (.aload_n 0, 1) := by decide +kernel
theorem dX11_mix_100 : decode cX11_mix 100 = .ok (.iload_n 1, 1) := by decide +kernel
theorem dX11_mix_101 : decode cX11_mix 101 = .ok (.invokevirtual 193, 3) := by decide +kernel
theorem dX11_mix_104 : decode cX11_mix 104 = .ok (.iload 5, 2) := by decide +kernel
theorem dX11_mix_106 : decode cX11_mix 106 = .ok (.ireturn, 1) := by decide +kernel
theorem dX11_read_0 : decode cX11_read 0 = .ok (.iload_n 1, 1) := by decide +kernel
theorem dX11_read_1 : decode cX11_read 1 = .ok (.invokestatic 176, 3) := by decide +kernel
theorem dX11_read_4 : decode cX11_read 4 = .ok (.ifCond .eq 17, 3) := by decide +kernel
theorem dX11_read_7 : decode cX11_read 7 = .ok (.aload_n 0, 1) := by decide +kernel
theorem dX11_read_8 : decode cX11_read 8 = .ok (.getfield 19, 3) := by decide +kernel
theorem dX11_read_11 : decode cX11_read 11 = .ok (.getfield 25, 3) := by decide +kernel
theorem dX11_read_14 : decode cX11_read 14 = .ok (.iload_n 2, 1) := by decide +kernel
theorem dX11_read_15 : decode cX11_read 15 = .ok (.invokevirtual 124, 3) := by decide +kernel
theorem dX11_read_18 : decode cX11_read 18 = .ok (.ifCond .ne 5, 3) := by decide +kernel
theorem dX11_read_21 : decode cX11_read 21 = .ok (.iconst (-1), 1) := by decide +kernel
theorem dX11_read_22 : decode cX11_read 22 = .ok (.ireturn, 1) := by decide +kernel
theorem dX11_read_23 : decode cX11_read 23 = .ok (.iload_n 3, 1) := by decide +kernel
theorem dX11_read_24 : decode cX11_read 24 = .ok (.ifCond .eq 11, 3) := by decide +kernel
theorem dX11_read_27 : decode cX11_read 27 = .ok (.iload_n 3, 1) := by decide +kernel
theorem dX11_read_28 : decode cX11_read 28 = .ok (.iconst 1, 1) := by decide +kernel
theorem dX11_read_29 : decode cX11_read 29 = .ok (.if_icmp .eq 6, 3) := by decide +kernel
theorem dX11_read_32 : decode cX11_read 32 = .ok (.bipush (-2), 2) := by decide +kernel
theorem dX11_read_34 : decode cX11_read 34 = .ok (.ireturn, 1) := by decide +kernel
theorem dX11_read_35 : decode cX11_read 35 = .ok (.iload_n 3, 1) := by decide +kernel
theorem dX11_read_36 : decode cX11_read 36 = .ok (.ifCond .ne 15, 3) := by decide +kernel
theorem dX11_read_39 : decode cX11_read 39 = .ok (.aload_n 0, 1) := by decide +kernel
theorem dX11_read_40 : decode cX11_read 40 = .ok (.getfield 45, 3) := by decide +kernel
theorem dX11_read_43 : decode cX11_read 43 = .ok (.iload_n 1, 1) := by decide +kernel
theorem dX11_read_44 : decode cX11_read 44 = .ok (.iload_n 2, 1) := by decide +kernel
theorem dX11_read_45 : decode cX11_read 45 = .ok (.invokevirtual 215, 3) := by decide +kernel
theorem dX11_read_48 : decode cX11_read 48 = .ok (.goto 12, 3) := by decide +kernel
theorem dX11_read_51 : decode cX11_read 51 = .ok (.aload_n 0, 1) := by decide +kernel
theorem dX11_read_52 : decode cX11_read 52 = .ok (.getfield 45, 3) := by decide +kernel
theorem dX11_read_55 : decode cX11_read 55 = .ok (.iload_n 1, 1) := by decide +kernel
theorem dX11_read_56 : decode cX11_read 56 = .ok (.iload_n 2, 1) := by decide +kernel
theorem dX11_read_57 : decode cX11_read 57 = .ok (.invokevirtual 218, 3) := by decide +kernel
theorem dX11_read_60 : decode cX11_read 60 = .ok (.ireturn, 1) := by decide +kernel
theorem dX11_share_0 : decode cX11_share 0 = .ok (.iload_n 1, 1) := by decide +kernel
theorem dX11_share_1 : decode cX11_share 1 = .ok (.invokestatic 176, 3) := by decide +kernel
theorem dX11_share_4 : decode cX11_share 4 = .ok (.ifCond .eq 24, 3) := by decide +kernel
theorem dX11_share_7 : decode cX11_share 7 = .ok (.aload_n 0, 1) := by decide +kernel
theorem dX11_share_8 : decode cX11_share 8 = .ok (.getfield 19, 3) := by decide +kernel
theorem dX11_share_11 : decode cX11_share 11 = .ok (.getfield 25, 3) := by decide +kernel
theorem dX11_share_14 : decode cX11_share 14 = .ok (.aload_n 0, 1) := by decide +kernel
theorem dX11_share_15 : decode cX11_share 15 = .ok (.getfield 45, 3) := by decide +kernel
theorem dX11_share_18 : decode cX11_share 18 = .ok (.iload_n 1, 1) := by decide +kernel
theorem dX11_share_19 : decode cX11_share 19 = .ok (.invokevirtual 221, 3) := by decide +kernel
theorem dX11_share_22 : decode cX11_share 22 = .ok (.invokevirtual 224, 3) := by decide +kernel
theorem dX11_share_25 : decode cX11_share 25 = .ok (.goto 4, 3) := by decide +kernel
theorem dX11_share_28 : decode cX11_share 28 = .ok (.iconst (-1), 1) := by decide +kernel
theorem dX11_share_29 : decode cX11_share 29 = .ok (.ireturn, 1) := by decide +kernel
theorem dX11_gives_0 : decode cX11_gives 0 = .ok (.iload_n 1, 1) := by decide +kernel
theorem dX11_gives_1 : decode cX11_gives 1 = .ok (.invokestatic 179, 3) := by decide +kernel
theorem dX11_gives_4 : decode cX11_gives 4 = .ok (.ifCond .eq 17, 3) := by decide +kernel
theorem dX11_gives_7 : decode cX11_gives 7 = .ok (.aload_n 0, 1) := by decide +kernel
theorem dX11_gives_8 : decode cX11_gives 8 = .ok (.getfield 19, 3) := by decide +kernel
theorem dX11_gives_11 : decode cX11_gives 11 = .ok (.getfield 25, 3) := by decide +kernel
theorem dX11_gives_14 : decode cX11_gives 14 = .ok (.iload_n 2, 1) := by decide +kernel
theorem dX11_gives_15 : decode cX11_gives 15 = .ok (.invokevirtual 182, 3) := by decide +kernel
theorem dX11_gives_18 : decode cX11_gives 18 = .ok (.ifCond .ne 6, 3) := by decide +kernel
theorem dX11_gives_21 : decode cX11_gives 21 = .ok (.bipush (-2), 2) := by decide +kernel
theorem dX11_gives_23 : decode cX11_gives 23 = .ok (.ireturn, 1) := by decide +kernel
theorem dX11_gives_24 : decode cX11_gives 24 = .ok (.aload_n 0, 1) := by decide +kernel
theorem dX11_gives_25 : decode cX11_gives 25 = .ok (.getfield 19, 3) := by decide +kernel
theorem dX11_gives_28 : decode cX11_gives 28 = .ok (.getfield 25, 3) := by decide +kernel
theorem dX11_gives_31 : decode cX11_gives 31 = .ok (.aload_n 0, 1) := by decide +kernel
theorem dX11_gives_32 : decode cX11_gives 32 = .ok (.getfield 32, 3) := by decide +kernel
theorem dX11_gives_35 : decode cX11_gives 35 = .ok (.iload_n 1, 1) := by decide +kernel
theorem dX11_gives_36 : decode cX11_gives 36 = .ok (.invokevirtual 227, 3) := by decide +kernel
theorem dX11_gives_39 : decode cX11_gives 39 = .ok (.iload_n 2, 1) := by decide +kernel
theorem dX11_gives_40 : decode cX11_gives 40 = .ok (.ior, 1) := by decide +kernel
theorem dX11_gives_41 : decode cX11_gives 41 = .ok (.invokevirtual 224, 3) := by decide +kernel
theorem dX11_gives_44 : decode cX11_gives 44 = .ok (.ireturn, 1) := by decide +kernel
theorem dX11_order_0 : decode cX11_order 0 = .ok (.iload_n 1, 1) := by decide +kernel
theorem dX11_order_1 : decode cX11_order 1 = .ok (.iconst (-1), 1) := by decide +kernel
theorem dX11_order_2 : decode cX11_order 2 = .ok (.if_icmp .lt 9, 3) := by decide +kernel
theorem dX11_order_5 : decode cX11_order 5 = .ok (.iload_n 1, 1) := by decide +kernel
theorem dX11_order_6 : decode cX11_order 6 = .ok (.bipush 10, 2) := by decide +kernel
theorem dX11_order_8 : decode cX11_order 8 = .ok (.if_icmp .lt 6, 3) := by decide +kernel
theorem dX11_order_11 : decode cX11_order 11 = .ok (.bipush (-6), 2) := by decide +kernel
theorem dX11_order_13 : decode cX11_order 13 = .ok (.ireturn, 1) := by decide +kernel
theorem dX11_order_14 : decode cX11_order 14 = .ok (.aload_n 0, 1) := by decide +kernel
theorem dX11_order_15 : decode cX11_order 15 = .ok (.getfield 54, 3) := by decide +kernel
theorem dX11_order_18 : decode cX11_order 18 = .ok (.invokevirtual 230, 3) := by decide +kernel
theorem dX11_order_21 : decode cX11_order 21 = .ok (.iload_n 1, 1) := by decide +kernel
theorem dX11_order_22 : decode cX11_order 22 = .ok (.iconst (-1), 1) := by decide +kernel
theorem dX11_order_23 : decode cX11_order 23 = .ok (.if_icmp .ne 13, 3) := by decide +kernel
theorem dX11_order_26 : decode cX11_order 26 = .ok (.aload_n 0, 1) := by decide +kernel
theorem dX11_order_27 : decode cX11_order 27 = .ok (.getfield 54, 3) := by decide +kernel
theorem dX11_order_30 : decode cX11_order 30 = .ok (.getfield 233, 3) := by decide +kernel
theorem dX11_order_33 : decode cX11_order 33 = .ok (.goto 12, 3) := by decide +kernel
theorem dX11_order_36 : decode cX11_order 36 = .ok (.aload_n 0, 1) := by decide +kernel
theorem dX11_order_37 : decode cX11_order 37 = .ok (.getfield 54, 3) := by decide +kernel
theorem dX11_order_40 : decode cX11_order 40 = .ok (.getfield 236, 3) := by decide +kernel
theorem dX11_order_43 : decode cX11_order 43 = .ok (.iload_n 1, 1) := by decide +kernel
theorem dX11_order_44 : decode cX11_order 44 = .ok (.iaload, 1) := by decide +kernel
theorem dX11_order_45 : decode cX11_order 45 = .ok (.ireturn, 1) := by decide +kernel
theorem dX11_most_0 : decode cX11_most 0 = .ok (.iload_n 1, 1) := by decide +kernel
theorem dX11_most_1 : decode cX11_most 1 = .ok (.ifCond .lt 36, 3) := by decide +kernel
theorem dX11_most_4 : decode cX11_most 4 = .ok (.iload_n 1, 1) := by decide +kernel
theorem dX11_most_5 : decode cX11_most 5 = .ok (.bipush 10, 2) := by decide +kernel
theorem dX11_most_7 : decode cX11_most 7 = .ok (.if_icmp .gt 30, 3) := by decide +kernel
theorem dX11_most_10 : decode cX11_most 10 = .ok (.iload_n 2, 1) := by decide +kernel
theorem dX11_most_11 : decode cX11_most 11 = .ok (.ifCond .lt 26, 3) := by decide +kernel
theorem dX11_most_14 : decode cX11_most 14 = .ok (.iload_n 2, 1) := by decide +kernel
theorem dX11_most_15 : decode cX11_most 15 = .ok (.aload_n 0, 1) := by decide +kernel
theorem dX11_most_16 : decode cX11_most 16 = .ok (.getfield 19, 3) := by decide +kernel
theorem dX11_most_19 : decode cX11_most 19 = .ok (.getfield 25, 3) := by decide +kernel
theorem dX11_most_22 : decode cX11_most 22 = .ok (.getfield 116, 3) := by decide +kernel
theorem dX11_most_25 : decode cX11_most 25 = .ok (.if_icmp .gt 12, 3) := by decide +kernel
theorem dX11_most_28 : decode cX11_most 28 = .ok (.iload_n 3, 1) := by decide +kernel
theorem dX11_most_29 : decode cX11_most 29 = .ok (.ifCond .lt 8, 3) := by decide +kernel
theorem dX11_most_32 : decode cX11_most 32 = .ok (.iload_n 3, 1) := by decide +kernel
theorem dX11_most_33 : decode cX11_most 33 = .ok (.iconst 2, 1) := by decide +kernel
theorem dX11_most_34 : decode cX11_most 34 = .ok (.if_icmp .le 6, 3) := by decide +kernel
theorem dX11_most_37 : decode cX11_most 37 = .ok (.bipush (-2), 2) := by decide +kernel
theorem dX11_most_39 : decode cX11_most 39 = .ok (.ireturn, 1) := by decide +kernel
theorem dX11_most_40 : decode cX11_most 40 = .ok (.aload_n 0, 1) := by decide +kernel
theorem dX11_most_41 : decode cX11_most 41 = .ok (.getfield 54, 3) := by decide +kernel
theorem dX11_most_44 : decode cX11_most 44 = .ok (.iload_n 1, 1) := by decide +kernel
theorem dX11_most_45 : decode cX11_most 45 = .ok (.iload_n 2, 1) := by decide +kernel
theorem dX11_most_46 : decode cX11_most 46 = .ok (.invokevirtual 239, 3) := by decide +kernel
theorem dX11_most_49 : decode cX11_most 49 = .ok (.istore 4, 2) := by decide +kernel
theorem dX11_most_51 : decode cX11_most 51 = .ok (.iload_n 3, 1) := by decide +kernel
theorem dX11_most_52 : decode cX11_most 52 = .ok (.iconst 1, 1) := by decide +kernel
theorem dX11_most_53 : decode cX11_most 53 = .ok (.if_icmp .ne 6, 3) := by decide +kernel
theorem dX11_most_56 : decode cX11_most 56 = .ok (.iload 4, 2) := by decide +kernel
theorem dX11_most_58 : decode cX11_most 58 = .ok (.ireturn, 1) := by decide +kernel
theorem dX11_most_59 : decode cX11_most 59 = .ok (.aload_n 0, 1) := by decide +kernel
theorem dX11_most_60 : decode cX11_most 60 = .ok (.getfield 54, 3) := by decide +kernel
theorem dX11_most_63 : decode cX11_most 63 = .ok (.iload 4, 2) := by decide +kernel
theorem dX11_most_65 : decode cX11_most 65 = .ok (.iload_n 2, 1) := by decide +kernel
theorem dX11_most_66 : decode cX11_most 66 = .ok (.invokevirtual 242, 3) := by decide +kernel
theorem dX11_most_69 : decode cX11_most 69 = .ok (.istore 5, 2) := by decide +kernel
theorem dX11_most_71 : decode cX11_most 71 = .ok (.iload_n 3, 1) := by decide +kernel
theorem dX11_most_72 : decode cX11_most 72 = .ok (.iconst 2, 1) := by decide +kernel
theorem dX11_most_73 : decode cX11_most 73 = .ok (.if_icmp .ne 8, 3) := by decide +kernel
theorem dX11_most_76 : decode cX11_most 76 = .ok (.iload 5, 2) := by decide +kernel
theorem dX11_most_78 : decode cX11_most 78 = .ok (.goto 25, 3) := by decide +kernel
theorem dX11_most_81 : decode cX11_most 81 = .ok (.aload_n 0, 1) := by decide +kernel
theorem dX11_most_82 : decode cX11_most 82 = .ok (.getfield 19, 3) := by decide +kernel
theorem dX11_most_85 : decode cX11_most 85 = .ok (.getfield 25, 3) := by decide +kernel
theorem dX11_most_88 : decode cX11_most 88 = .ok (.aload_n 0, 1) := by decide +kernel
theorem dX11_most_89 : decode cX11_most 89 = .ok (.getfield 32, 3) := by decide +kernel
theorem dX11_most_92 : decode cX11_most 92 = .ok (.iload 4, 2) := by decide +kernel
theorem dX11_most_94 : decode cX11_most 94 = .ok (.invokevirtual 227, 3) := by decide +kernel
theorem dX11_most_97 : decode cX11_most 97 = .ok (.iload 5, 2) := by decide +kernel
theorem dX11_most_99 : decode cX11_most 99 = .ok (.ior, 1) := by decide +kernel
theorem dX11_most_100 : decode cX11_most 100 = .ok (.invokevirtual 224, 3) := by decide +kernel
theorem dX11_most_103 : decode cX11_most 103 = .ok (.ireturn, 1) := by decide +kernel
theorem dX11_tale_0 : decode cX11_tale 0 = .ok (.iload_n 1, 1) := by decide +kernel
theorem dX11_tale_1 : decode cX11_tale 1 = .ok (.invokestatic 176, 3) := by decide +kernel
theorem dX11_tale_4 : decode cX11_tale 4 = .ok (.ifCond .ne 5, 3) := by decide +kernel
theorem dX11_tale_7 : decode cX11_tale 7 = .ok (.iconst (-1), 1) := by decide +kernel
theorem dX11_tale_8 : decode cX11_tale 8 = .ok (.ireturn, 1) := by decide +kernel
theorem dX11_tale_9 : decode cX11_tale 9 = .ok (.aload_n 0, 1) := by decide +kernel
theorem dX11_tale_10 : decode cX11_tale 10 = .ok (.getfield 61, 3) := by decide +kernel
theorem dX11_tale_13 : decode cX11_tale 13 = .ok (.getfield 245, 3) := by decide +kernel
theorem dX11_tale_16 : decode cX11_tale 16 = .ok (.iload_n 1, 1) := by decide +kernel
theorem dX11_tale_17 : decode cX11_tale 17 = .ok (.if_icmp .eq 26, 3) := by decide +kernel
theorem dX11_tale_20 : decode cX11_tale 20 = .ok (.aload_n 0, 1) := by decide +kernel
theorem dX11_tale_21 : decode cX11_tale 21 = .ok (.getfield 61, 3) := by decide +kernel
theorem dX11_tale_24 : decode cX11_tale 24 = .ok (.aload_n 0, 1) := by decide +kernel
theorem dX11_tale_25 : decode cX11_tale 25 = .ok (.getfield 45, 3) := by decide +kernel
theorem dX11_tale_28 : decode cX11_tale 28 = .ok (.iload_n 1, 1) := by decide +kernel
theorem dX11_tale_29 : decode cX11_tale 29 = .ok (.invokevirtual 221, 3) := by decide +kernel
theorem dX11_tale_32 : decode cX11_tale 32 = .ok (.invokevirtual 248, 3) := by decide +kernel
theorem dX11_tale_35 : decode cX11_tale 35 = .ok (.aload_n 0, 1) := by decide +kernel
theorem dX11_tale_36 : decode cX11_tale 36 = .ok (.getfield 61, 3) := by decide +kernel
theorem dX11_tale_39 : decode cX11_tale 39 = .ok (.iload_n 1, 1) := by decide +kernel
theorem dX11_tale_40 : decode cX11_tale 40 = .ok (.putfield 245, 3) := by decide +kernel
theorem dX11_tale_43 : decode cX11_tale 43 = .ok (.iload_n 2, 1) := by decide +kernel
theorem dX11_tale_44 : decode cX11_tale 44 = .ok (.iconst (-1), 1) := by decide +kernel
theorem dX11_tale_45 : decode cX11_tale 45 = .ok (.if_icmp .ne 11, 3) := by decide +kernel
theorem dX11_tale_48 : decode cX11_tale 48 = .ok (.aload_n 0, 1) := by decide +kernel
theorem dX11_tale_49 : decode cX11_tale 49 = .ok (.getfield 61, 3) := by decide +kernel
theorem dX11_tale_52 : decode cX11_tale 52 = .ok (.getfield 251, 3) := by decide +kernel
theorem dX11_tale_55 : decode cX11_tale 55 = .ok (.ireturn, 1) := by decide +kernel
theorem dX11_tale_56 : decode cX11_tale 56 = .ok (.iload_n 2, 1) := by decide +kernel
theorem dX11_tale_57 : decode cX11_tale 57 = .ok (.ifCond .lt 26, 3) := by decide +kernel
theorem dX11_tale_60 : decode cX11_tale 60 = .ok (.iload_n 2, 1) := by decide +kernel
theorem dX11_tale_61 : decode cX11_tale 61 = .ok (.aload_n 0, 1) := by decide +kernel
theorem dX11_tale_62 : decode cX11_tale 62 = .ok (.getfield 61, 3) := by decide +kernel
theorem dX11_tale_65 : decode cX11_tale 65 = .ok (.getfield 251, 3) := by decide +kernel
theorem dX11_tale_68 : decode cX11_tale 68 = .ok (.if_icmp .ge 15, 3) := by decide +kernel
theorem dX11_tale_71 : decode cX11_tale 71 = .ok (.aload_n 0, 1) := by decide +kernel
theorem dX11_tale_72 : decode cX11_tale 72 = .ok (.getfield 61, 3) := by decide +kernel
theorem dX11_tale_75 : decode cX11_tale 75 = .ok (.getfield 252, 3) := by decide +kernel
theorem dX11_tale_78 : decode cX11_tale 78 = .ok (.iload_n 2, 1) := by decide +kernel
theorem dX11_tale_79 : decode cX11_tale 79 = .ok (.iaload, 1) := by decide +kernel
theorem dX11_tale_80 : decode cX11_tale 80 = .ok (.goto 5, 3) := by decide +kernel
theorem dX11_tale_83 : decode cX11_tale 83 = .ok (.bipush (-6), 2) := by decide +kernel
theorem dX11_tale_85 : decode cX11_tale 85 = .ok (.ireturn, 1) := by decide +kernel
theorem dX11_answer_0 : decode cX11_answer 0 = .ok (.aload_n 0, 1) := by decide +kernel
theorem dX11_answer_1 : decode cX11_answer 1 = .ok (.getfield 19, 3) := by decide +kernel
theorem dX11_answer_4 : decode cX11_answer 4 = .ok (.getfield 25, 3) := by decide +kernel
theorem dX11_answer_7 : decode cX11_answer 7 = .ok (.iload_n 1, 1) := by decide +kernel
theorem dX11_answer_8 : decode cX11_answer 8 = .ok (.invokevirtual 124, 3) := by decide +kernel
theorem dX11_answer_11 : decode cX11_answer 11 = .ok (.ifCond .ne 5, 3) := by decide +kernel
theorem dX11_answer_14 : decode cX11_answer 14 = .ok (.iconst (-1), 1) := by decide +kernel
theorem dX11_answer_15 : decode cX11_answer 15 = .ok (.ireturn, 1) := by decide +kernel
theorem dX11_answer_16 : decode cX11_answer 16 = .ok (.aload_n 0, 1) := by decide +kernel
theorem dX11_answer_17 : decode cX11_answer 17 = .ok (.getfield 19, 3) := by decide +kernel
theorem dX11_answer_20 : decode cX11_answer 20 = .ok (.getfield 67, 3) := by decide +kernel
theorem dX11_answer_23 : decode cX11_answer 23 = .ok (.getfield 255, 3) := by decide +kernel
theorem dX11_answer_26 : decode cX11_answer 26 = .ok (.bipush 20, 2) := by decide +kernel
theorem dX11_answer_28 : decode cX11_answer 28 = .ok (.if_icmp .lt 6, 3) := by decide +kernel
theorem dX11_answer_31 : decode cX11_answer 31 = .ok (.bipush (-4), 2) := by decide +kernel
theorem dX11_answer_33 : decode cX11_answer 33 = .ok (.ireturn, 1) := by decide +kernel
theorem dX11_answer_34 : decode cX11_answer 34 = .ok (.aload_n 0, 1) := by decide +kernel
theorem dX11_answer_35 : decode cX11_answer 35 = .ok (.getfield 19, 3) := by decide +kernel
theorem dX11_answer_38 : decode cX11_answer 38 = .ok (.getfield 67, 3) := by decide +kernel
theorem dX11_answer_41 : decode cX11_answer 41 = .ok (.iload_n 1, 1) := by decide +kernel
theorem dX11_answer_42 : decode cX11_answer 42 = .ok (.iload_n 2, 1) := by decide +kernel
theorem dX11_answer_43 : decode cX11_answer 43 = .ok (.invokevirtual 258, 3) := by decide +kernel
theorem dX11_answer_46 : decode cX11_answer 46 = .ok (.aload_n 0, 1) := by decide +kernel
theorem dX11_answer_47 : decode cX11_answer 47 = .ok (.getfield 19, 3) := by decide +kernel
theorem dX11_answer_50 : decode cX11_answer 50 = .ok (.getfield 67, 3) := by decide +kernel
theorem dX11_answer_53 : decode cX11_answer 53 = .ok (.getfield 255, 3) := by decide +kernel
theorem dX11_answer_56 : decode cX11_answer 56 = .ok (.ireturn, 1) := by decide +kernel
theorem dX11_clear_0 : decode cX11_clear 0 = .ok (.aload_n 0, 1) := by decide +kernel
theorem dX11_clear_1 : decode cX11_clear 1 = .ok (.getfield 19, 3) := by decide +kernel
theorem dX11_clear_4 : decode cX11_clear 4 = .ok (.getfield 67, 3) := by decide +kernel
theorem dX11_clear_7 : decode cX11_clear 7 = .ok (.getfield 255, 3) := by decide +kernel
theorem dX11_clear_10 : decode cX11_clear 10 = .ok (.istore_n 1, 1) := by decide +kernel
theorem dX11_clear_11 : decode cX11_clear 11 = .ok (.aload_n 0, 1) := by decide +kernel
theorem dX11_clear_12 : decode cX11_clear 12 = .ok (.getfield 19, 3) := by decide +kernel
theorem dX11_clear_15 : decode cX11_clear 15 = .ok (.getfield 67, 3) := by decide +kernel
theorem dX11_clear_18 : decode cX11_clear 18 = .ok (.iconst 0, 1) := by decide +kernel
theorem dX11_clear_19 : decode cX11_clear 19 = .ok (.putfield 255, 3) := by decide +kernel
theorem dX11_clear_22 : decode cX11_clear 22 = .ok (.iload_n 1, 1) := by decide +kernel
theorem dX11_clear_23 : decode cX11_clear 23 = .ok (.ireturn, 1) := by decide +kernel
theorem dX11_may_0 : decode cX11_may 0 = .ok (.aload_n 0, 1) := by decide +kernel
theorem dX11_may_1 : decode cX11_may 1 = .ok (.getfield 74, 3) := by decide +kernel
theorem dX11_may_4 : decode cX11_may 4 = .ok (.invokevirtual 261, 3) := by decide +kernel
theorem dX11_may_7 : decode cX11_may 7 = .ok (.aload_n 0, 1) := by decide +kernel
theorem dX11_may_8 : decode cX11_may 8 = .ok (.getfield 74, 3) := by decide +kernel
theorem dX11_may_11 : decode cX11_may 11 = .ok (.iconst 0, 1) := by decide +kernel
theorem dX11_may_12 : decode cX11_may 12 = .ok (.invokevirtual 264, 3) := by decide +kernel
theorem dX11_may_15 : decode cX11_may 15 = .ok (.ireturn, 1) := by decide +kernel
theorem dX11_lacks_0 : decode cX11_lacks 0 = .ok (.iload_n 1, 1) := by decide +kernel
theorem dX11_lacks_1 : decode cX11_lacks 1 = .ok (.invokestatic 147, 3) := by decide +kernel
theorem dX11_lacks_4 : decode cX11_lacks 4 = .ok (.ifCond .ne 7, 3) := by decide +kernel
theorem dX11_lacks_7 : decode cX11_lacks 7 = .ok (.ldc2_w 150, 3) := by decide +kernel
theorem dX11_lacks_10 : decode cX11_lacks 10 = .ok (.lreturn, 1) := by decide +kernel
theorem dX11_lacks_11 : decode cX11_lacks 11 = .ok (.iload_n 2, 1) := by decide +kernel
theorem dX11_lacks_12 : decode cX11_lacks 12 = .ok (.invokestatic 152, 3) := by decide +kernel
theorem dX11_lacks_15 : decode cX11_lacks 15 = .ok (.ifCond .ne 7, 3) := by decide +kernel
theorem dX11_lacks_18 : decode cX11_lacks 18 = .ok (.ldc2_w 155, 3) := by decide +kernel
theorem dX11_lacks_21 : decode cX11_lacks 21 = .ok (.lreturn, 1) := by decide +kernel
theorem dX11_lacks_22 : decode cX11_lacks 22 = .ok (.aload_n 0, 1) := by decide +kernel
theorem dX11_lacks_23 : decode cX11_lacks 23 = .ok (.getfield 74, 3) := by decide +kernel
theorem dX11_lacks_26 : decode cX11_lacks 26 = .ok (.invokevirtual 261, 3) := by decide +kernel
theorem dX11_lacks_29 : decode cX11_lacks 29 = .ok (.aload_n 0, 1) := by decide +kernel
theorem dX11_lacks_30 : decode cX11_lacks 30 = .ok (.getfield 74, 3) := by decide +kernel
theorem dX11_lacks_33 : decode cX11_lacks 33 = .ok (.iconst 0, 1) := by decide +kernel
theorem dX11_lacks_34 : decode cX11_lacks 34 = .ok (.invokevirtual 264, 3) := by decide +kernel
theorem dX11_lacks_37 : decode cX11_lacks 37 = .ok (.istore_n 3, 1) := by decide +kernel
theorem dX11_lacks_38 : decode cX11_lacks 38 = .ok (.iload_n 3, 1) := by decide +kernel
theorem dX11_lacks_39 : decode cX11_lacks 39 = .ok (.ifCond .ne 7, 3) := by decide +kernel
theorem dX11_lacks_42 : decode cX11_lacks 42 = .ok (.ldc2_w 267, 3) := by decide +kernel
theorem dX11_lacks_45 : decode cX11_lacks 45 = .ok (.lreturn, 1) := by decide +kernel
theorem dX11_lacks_46 : decode cX11_lacks 46 = .ok (.aload_n 0, 1) := by decide +kernel
theorem dX11_lacks_47 : decode cX11_lacks 47 = .ok (.getfield 74, 3) := by decide +kernel
theorem dX11_lacks_50 : decode cX11_lacks 50 = .ok (.iconst 1, 1) := by decide +kernel
theorem dX11_lacks_51 : decode cX11_lacks 51 = .ok (.iload_n 1, 1) := by decide +kernel
theorem dX11_lacks_52 : decode cX11_lacks 52 = .ok (.ishl, 1) := by decide +kernel
theorem dX11_lacks_53 : decode cX11_lacks 53 = .ok (.invokevirtual 264, 3) := by decide +kernel
theorem dX11_lacks_56 : decode cX11_lacks 56 = .ok (.iload_n 3, 1) := by decide +kernel
theorem dX11_lacks_57 : decode cX11_lacks 57 = .ok (.iload_n 2, 1) := by decide +kernel
theorem dX11_lacks_58 : decode cX11_lacks 58 = .ok (.invokestatic 163, 3) := by decide +kernel
theorem dX11_lacks_61 : decode cX11_lacks 61 = .ok (.lreturn, 1) := by decide +kernel
theorem dX11_tells_0 : decode cX11_tells 0 = .ok (.aload_n 0, 1) := by decide +kernel
theorem dX11_tells_1 : decode cX11_tells 1 = .ok (.getfield 74, 3) := by decide +kernel
theorem dX11_tells_4 : decode cX11_tells 4 = .ok (.invokevirtual 261, 3) := by decide +kernel
theorem dX11_tells_7 : decode cX11_tells 7 = .ok (.aload_n 0, 1) := by decide +kernel
theorem dX11_tells_8 : decode cX11_tells 8 = .ok (.getfield 74, 3) := by decide +kernel
theorem dX11_tells_11 : decode cX11_tells 11 = .ok (.invokevirtual 269, 3) := by decide +kernel
theorem dX11_tells_14 : decode cX11_tells 14 = .ok (.ireturn, 1) := by decide +kernel
theorem dX11_test_0 : decode cX11_test 0 = .ok (.aload_n 0, 1) := by decide +kernel
theorem dX11_test_1 : decode cX11_test 1 = .ok (.getfield 74, 3) := by decide +kernel
theorem dX11_test_4 : decode cX11_test 4 = .ok (.invokevirtual 272, 3) := by decide +kernel
theorem dX11_test_7 : decode cX11_test 7 = .ok (.ireturn, 1) := by decide +kernel
theorem dX11_respelt_0 : decode cX11_respelt 0 = .ok (.aload_n 0, 1) := by decide +kernel
theorem dX11_respelt_1 : decode cX11_respelt 1 = .ok (.getfield 19, 3) := by decide +kernel
theorem dX11_respelt_4 : decode cX11_respelt 4 = .ok (.getfield 25, 3) := by decide +kernel
theorem dX11_respelt_7 : decode cX11_respelt 7 = .ok (.iload_n 1, 1) := by decide +kernel
theorem dX11_respelt_8 : decode cX11_respelt 8 = .ok (.invokevirtual 124, 3) := by decide +kernel
theorem dX11_respelt_11 : decode cX11_respelt 11 = .ok (.ifCond .ne 5, 3) := by decide +kernel
theorem dX11_respelt_14 : decode cX11_respelt 14 = .ok (.iconst (-1), 1) := by decide +kernel
theorem dX11_respelt_15 : decode cX11_respelt 15 = .ok (.ireturn, 1) := by decide +kernel
theorem dX11_respelt_16 : decode cX11_respelt 16 = .ok (.iload_n 2, 1) := by decide +kernel
theorem dX11_respelt_17 : decode cX11_respelt 17 = .ok (.ifCond .lt 8, 3) := by decide +kernel
theorem dX11_respelt_20 : decode cX11_respelt 20 = .ok (.iload_n 2, 1) := by decide +kernel
theorem dX11_respelt_21 : decode cX11_respelt 21 = .ok (.iconst 5, 1) := by decide +kernel
theorem dX11_respelt_22 : decode cX11_respelt 22 = .ok (.if_icmp .lt 6, 3) := by decide +kernel
theorem dX11_respelt_25 : decode cX11_respelt 25 = .ok (.bipush (-2), 2) := by decide +kernel
theorem dX11_respelt_27 : decode cX11_respelt 27 = .ok (.ireturn, 1) := by decide +kernel
theorem dX11_respelt_28 : decode cX11_respelt 28 = .ok (.iload_n 2, 1) := by decide +kernel
theorem dX11_respelt_29 : decode cX11_respelt 29 = .ok (.aload_n 0, 1) := by decide +kernel
theorem dX11_respelt_30 : decode cX11_respelt 30 = .ok (.getfield 19, 3) := by decide +kernel
theorem dX11_respelt_33 : decode cX11_respelt 33 = .ok (.getfield 25, 3) := by decide +kernel
theorem dX11_respelt_36 : decode cX11_respelt 36 = .ok (.getfield 135, 3) := by decide +kernel
theorem dX11_respelt_39 : decode cX11_respelt 39 = .ok (.iload_n 1, 1) := by decide +kernel
theorem dX11_respelt_40 : decode cX11_respelt 40 = .ok (.iaload, 1) := by decide +kernel
theorem dX11_respelt_41 : decode cX11_respelt 41 = .ok (.if_icmp .ge 15, 3) := by decide +kernel
theorem dX11_respelt_44 : decode cX11_respelt 44 = .ok (.aload_n 0, 1) := by decide +kernel
theorem dX11_respelt_45 : decode cX11_respelt 45 = .ok (.getfield 32, 3) := by decide +kernel
theorem dX11_respelt_48 : decode cX11_respelt 48 = .ok (.iload_n 1, 1) := by decide +kernel
theorem dX11_respelt_49 : decode cX11_respelt 49 = .ok (.iload_n 2, 1) := by decide +kernel
theorem dX11_respelt_50 : decode cX11_respelt 50 = .ok (.invokevirtual 275, 3) := by decide +kernel
theorem dX11_respelt_53 : decode cX11_respelt 53 = .ok (.goto 5, 3) := by decide +kernel
theorem dX11_respelt_56 : decode cX11_respelt 56 = .ok (.bipush (-6), 2) := by decide +kernel
theorem dX11_respelt_58 : decode cX11_respelt 58 = .ok (.ireturn, 1) := by decide +kernel
theorem dX11_price_0 : decode cX11_price 0 = .ok (.iload_n 1, 1) := by decide +kernel
theorem dX11_price_1 : decode cX11_price 1 = .ok (.lookupswitch 43 #[(0, 27), (1, 35)], 27) := by decide +kernel
theorem dX11_price_28 : decode cX11_price 28 = .ok (.aload_n 0, 1) := by decide +kernel
theorem dX11_price_29 : decode cX11_price 29 = .ok (.getfield 32, 3) := by decide +kernel
theorem dX11_price_32 : decode cX11_price 32 = .ok (.invokevirtual 278, 3) := by decide +kernel
theorem dX11_price_35 : decode cX11_price 35 = .ok (.ireturn, 1) := by decide +kernel
theorem dX11_price_36 : decode cX11_price 36 = .ok (.aload_n 0, 1) := by decide +kernel
theorem dX11_price_37 : decode cX11_price 37 = .ok (.getfield 32, 3) := by decide +kernel
theorem dX11_price_40 : decode cX11_price 40 = .ok (.invokevirtual 281, 3) := by decide +kernel
theorem dX11_price_43 : decode cX11_price 43 = .ok (.ireturn, 1) := by decide +kernel
theorem dX11_price_44 : decode cX11_price 44 = .ok (.bipush (-2), 2) := by decide +kernel
theorem dX11_price_46 : decode cX11_price 46 = .ok (.ireturn, 1) := by decide +kernel
theorem dX11_lessons_0 : decode cX11_lessons 0 = .ok (.iload_n 1, 1) := by decide +kernel
theorem dX11_lessons_1 : decode cX11_lessons 1 = .ok (.invokestatic 176, 3) := by decide +kernel
theorem dX11_lessons_4 : decode cX11_lessons 4 = .ok (.ifCond .ne 5, 3) := by decide +kernel
theorem dX11_lessons_7 : decode cX11_lessons 7 = .ok (.iconst (-1), 1) := by decide +kernel
theorem dX11_lessons_8 : decode cX11_lessons 8 = .ok (.ireturn, 1) := by decide +kernel
theorem dX11_lessons_9 : decode cX11_lessons 9 = .ok (.iload_n 2, 1) := by decide +kernel
theorem dX11_lessons_10 : decode cX11_lessons 10 = .ok (.ifCond .lt 9, 3) := by decide +kernel
theorem dX11_lessons_13 : decode cX11_lessons 13 = .ok (.iload_n 2, 1) := by decide +kernel
theorem dX11_lessons_14 : decode cX11_lessons 14 = .ok (.bipush 12, 2) := by decide +kernel
theorem dX11_lessons_16 : decode cX11_lessons 16 = .ok (.if_icmp .le 6, 3) := by decide +kernel
theorem dX11_lessons_19 : decode cX11_lessons 19 = .ok (.bipush (-2), 2) := by decide +kernel
theorem dX11_lessons_21 : decode cX11_lessons 21 = .ok (.ireturn, 1) := by decide +kernel
theorem dX11_lessons_22 : decode cX11_lessons 22 = .ok (.aload_n 0, 1) := by decide +kernel
theorem dX11_lessons_23 : decode cX11_lessons 23 = .ok (.getfield 83, 3) := by decide +kernel
theorem dX11_lessons_26 : decode cX11_lessons 26 = .ok (.iload_n 1, 1) := by decide +kernel
theorem dX11_lessons_27 : decode cX11_lessons 27 = .ok (.invokevirtual 284, 3) := by decide +kernel
theorem dX11_lessons_30 : decode cX11_lessons 30 = .ok (.aload_n 0, 1) := by decide +kernel
theorem dX11_lessons_31 : decode cX11_lessons 31 = .ok (.getfield 83, 3) := by decide +kernel
theorem dX11_lessons_34 : decode cX11_lessons 34 = .ok (.iload_n 1, 1) := by decide +kernel
theorem dX11_lessons_35 : decode cX11_lessons 35 = .ok (.iload_n 2, 1) := by decide +kernel
theorem dX11_lessons_36 : decode cX11_lessons 36 = .ok (.invokevirtual 287, 3) := by decide +kernel
theorem dX11_lessons_39 : decode cX11_lessons 39 = .ok (.ireturn, 1) := by decide +kernel
theorem dX11_shared_0 : decode cX11_shared 0 = .ok (.iload_n 2, 1) := by decide +kernel
theorem dX11_shared_1 : decode cX11_shared 1 = .ok (.iconst (-1), 1) := by decide +kernel
theorem dX11_shared_2 : decode cX11_shared 2 = .ok (.if_icmp .eq 12, 3) := by decide +kernel
theorem dX11_shared_5 : decode cX11_shared 5 = .ok (.iload_n 2, 1) := by decide +kernel
theorem dX11_shared_6 : decode cX11_shared 6 = .ok (.invokestatic 176, 3) := by decide +kernel
theorem dX11_shared_9 : decode cX11_shared 9 = .ok (.ifCond .ne 5, 3) := by decide +kernel
theorem dX11_shared_12 : decode cX11_shared 12 = .ok (.iconst (-1), 1) := by decide +kernel
theorem dX11_shared_13 : decode cX11_shared 13 = .ok (.ireturn, 1) := by decide +kernel
theorem dX11_shared_14 : decode cX11_shared 14 = .ok (.iload_n 1, 1) := by decide +kernel
theorem dX11_shared_15 : decode cX11_shared 15 = .ok (.ifCond .lt 9, 3) := by decide +kernel
theorem dX11_shared_18 : decode cX11_shared 18 = .ok (.iload_n 1, 1) := by decide +kernel
theorem dX11_shared_19 : decode cX11_shared 19 = .ok (.bipush 12, 2) := by decide +kernel
theorem dX11_shared_21 : decode cX11_shared 21 = .ok (.if_icmp .le 6, 3) := by decide +kernel
theorem dX11_shared_24 : decode cX11_shared 24 = .ok (.bipush (-2), 2) := by decide +kernel
theorem dX11_shared_26 : decode cX11_shared 26 = .ok (.ireturn, 1) := by decide +kernel
theorem dX11_shared_27 : decode cX11_shared 27 = .ok (.aload_n 0, 1) := by decide +kernel
theorem dX11_shared_28 : decode cX11_shared 28 = .ok (.getfield 83, 3) := by decide +kernel
theorem dX11_shared_31 : decode cX11_shared 31 = .ok (.iload_n 1, 1) := by decide +kernel
theorem dX11_shared_32 : decode cX11_shared 32 = .ok (.invokevirtual 290, 3) := by decide +kernel
theorem dX11_shared_35 : decode cX11_shared 35 = .ok (.iload_n 2, 1) := by decide +kernel
theorem dX11_shared_36 : decode cX11_shared 36 = .ok (.iconst (-1), 1) := by decide +kernel
theorem dX11_shared_37 : decode cX11_shared 37 = .ok (.if_icmp .ne 13, 3) := by decide +kernel
theorem dX11_shared_40 : decode cX11_shared 40 = .ok (.aload_n 0, 1) := by decide +kernel
theorem dX11_shared_41 : decode cX11_shared 41 = .ok (.getfield 83, 3) := by decide +kernel
theorem dX11_shared_44 : decode cX11_shared 44 = .ok (.getfield 293, 3) := by decide +kernel
theorem dX11_shared_47 : decode cX11_shared 47 = .ok (.goto 12, 3) := by decide +kernel
theorem dX11_shared_50 : decode cX11_shared 50 = .ok (.aload_n 0, 1) := by decide +kernel
theorem dX11_shared_51 : decode cX11_shared 51 = .ok (.getfield 83, 3) := by decide +kernel
theorem dX11_shared_54 : decode cX11_shared 54 = .ok (.getfield 296, 3) := by decide +kernel
theorem dX11_shared_57 : decode cX11_shared 57 = .ok (.iload_n 2, 1) := by decide +kernel
theorem dX11_shared_58 : decode cX11_shared 58 = .ok (.iaload, 1) := by decide +kernel
theorem dX11_shared_59 : decode cX11_shared 59 = .ok (.ireturn, 1) := by decide +kernel
theorem dX11_itself_0 : decode cX11_itself 0 = .ok (.iload_n 1, 1) := by decide +kernel
theorem dX11_itself_1 : decode cX11_itself 1 = .ok (.invokestatic 176, 3) := by decide +kernel
theorem dX11_itself_4 : decode cX11_itself 4 = .ok (.ifCond .ne 5, 3) := by decide +kernel
theorem dX11_itself_7 : decode cX11_itself 7 = .ok (.iconst (-1), 1) := by decide +kernel
theorem dX11_itself_8 : decode cX11_itself 8 = .ok (.ireturn, 1) := by decide +kernel
theorem dX11_itself_9 : decode cX11_itself 9 = .ok (.iload_n 2, 1) := by decide +kernel
theorem dX11_itself_10 : decode cX11_itself 10 = .ok (.ifCond .lt 19, 3) := by decide +kernel
theorem dX11_itself_13 : decode cX11_itself 13 = .ok (.iload_n 2, 1) := by decide +kernel
theorem dX11_itself_14 : decode cX11_itself 14 = .ok (.sipush 1000, 3) := by decide +kernel
theorem dX11_itself_17 : decode cX11_itself 17 = .ok (.if_icmp .gt 12, 3) := by decide +kernel
theorem dX11_itself_20 : decode cX11_itself 20 = .ok (.iload_n 3, 1) := by decide +kernel
theorem dX11_itself_21 : decode cX11_itself 21 = .ok (.ifCond .lt 8, 3) := by decide +kernel
theorem dX11_itself_24 : decode cX11_itself 24 = .ok (.iload_n 3, 1) := by decide +kernel
theorem dX11_itself_25 : decode cX11_itself 25 = .ok (.iconst 1, 1) := by decide +kernel
theorem dX11_itself_26 : decode cX11_itself 26 = .ok (.if_icmp .le 6, 3) := by decide +kernel
theorem dX11_itself_29 : decode cX11_itself 29 = .ok (.bipush (-2), 2) := by decide +kernel
theorem dX11_itself_31 : decode cX11_itself 31 = .ok (.ireturn, 1) := by decide +kernel
theorem dX11_itself_32 : decode cX11_itself 32 = .ok (.aload_n 0, 1) := by decide +kernel
theorem dX11_itself_33 : decode cX11_itself 33 = .ok (.getfield 45, 3) := by decide +kernel
theorem dX11_itself_36 : decode cX11_itself 36 = .ok (.iload_n 1, 1) := by decide +kernel
theorem dX11_itself_37 : decode cX11_itself 37 = .ok (.invokevirtual 221, 3) := by decide +kernel
theorem dX11_itself_40 : decode cX11_itself 40 = .ok (.istore 4, 2) := by decide +kernel
theorem dX11_itself_42 : decode cX11_itself 42 = .ok (.aload_n 0, 1) := by decide +kernel
theorem dX11_itself_43 : decode cX11_itself 43 = .ok (.getfield 45, 3) := by decide +kernel
theorem dX11_itself_46 : decode cX11_itself 46 = .ok (.iload 4, 2) := by decide +kernel
theorem dX11_itself_48 : decode cX11_itself 48 = .ok (.iload_n 2, 1) := by decide +kernel
theorem dX11_itself_49 : decode cX11_itself 49 = .ok (.invokevirtual 299, 3) := by decide +kernel
theorem dX11_itself_52 : decode cX11_itself 52 = .ok (.istore 5, 2) := by decide +kernel
theorem dX11_itself_54 : decode cX11_itself 54 = .ok (.iload_n 3, 1) := by decide +kernel
theorem dX11_itself_55 : decode cX11_itself 55 = .ok (.ifCond .ne 14, 3) := by decide +kernel
theorem dX11_itself_58 : decode cX11_itself 58 = .ok (.iload 5, 2) := by decide +kernel
theorem dX11_itself_60 : decode cX11_itself 60 = .ok (.iload 4, 2) := by decide +kernel
theorem dX11_itself_62 : decode cX11_itself 62 = .ok (.ixor, 1) := by decide +kernel
theorem dX11_itself_63 : decode cX11_itself 63 = .ok (.invokestatic 302, 3) := by decide +kernel
theorem dX11_itself_66 : decode cX11_itself 66 = .ok (.goto 15, 3) := by decide +kernel
theorem dX11_itself_69 : decode cX11_itself 69 = .ok (.aload_n 0, 1) := by decide +kernel
theorem dX11_itself_70 : decode cX11_itself 70 = .ok (.getfield 19, 3) := by decide +kernel
theorem dX11_itself_73 : decode cX11_itself 73 = .ok (.getfield 25, 3) := by decide +kernel
theorem dX11_itself_76 : decode cX11_itself 76 = .ok (.iload 5, 2) := by decide +kernel
theorem dX11_itself_78 : decode cX11_itself 78 = .ok (.invokevirtual 224, 3) := by decide +kernel
theorem dX11_itself_81 : decode cX11_itself 81 = .ok (.ireturn, 1) := by decide +kernel
theorem dX11_line_0 : decode cX11_line 0 = .ok (.iload_n 1, 1) := by decide +kernel
theorem dX11_line_1 : decode cX11_line 1 = .ok (.invokestatic 176, 3) := by decide +kernel
theorem dX11_line_4 : decode cX11_line 4 = .ok (.ifCond .eq 21, 3) := by decide +kernel
theorem dX11_line_7 : decode cX11_line 7 = .ok (.aload_n 0, 1) := by decide +kernel
theorem dX11_line_8 : decode cX11_line 8 = .ok (.getfield 45, 3) := by decide +kernel
theorem dX11_line_11 : decode cX11_line 11 = .ok (.aload_n 0, 1) := by decide +kernel
theorem dX11_line_12 : decode cX11_line 12 = .ok (.getfield 45, 3) := by decide +kernel
theorem dX11_line_15 : decode cX11_line 15 = .ok (.iload_n 1, 1) := by decide +kernel
theorem dX11_line_16 : decode cX11_line 16 = .ok (.invokevirtual 221, 3) := by decide +kernel
theorem dX11_line_19 : decode cX11_line 19 = .ok (.invokevirtual 307, 3) := by decide +kernel
theorem dX11_line_22 : decode cX11_line 22 = .ok (.goto 4, 3) := by decide +kernel
theorem dX11_line_25 : decode cX11_line 25 = .ok (.iconst (-1), 1) := by decide +kernel
theorem dX11_line_26 : decode cX11_line 26 = .ok (.ireturn, 1) := by decide +kernel
theorem dX11_image_0 : decode cX11_image 0 = .ok (.iload_n 1, 1) := by decide +kernel
theorem dX11_image_1 : decode cX11_image 1 = .ok (.ifCond .lt 8, 3) := by decide +kernel
theorem dX11_image_4 : decode cX11_image 4 = .ok (.iload_n 1, 1) := by decide +kernel
theorem dX11_image_5 : decode cX11_image 5 = .ok (.iconst 2, 1) := by decide +kernel
theorem dX11_image_6 : decode cX11_image 6 = .ok (.if_icmp .lt 6, 3) := by decide +kernel
theorem dX11_image_9 : decode cX11_image 9 = .ok (.bipush (-2), 2) := by decide +kernel
theorem dX11_image_11 : decode cX11_image 11 = .ok (.ireturn, 1) := by decide +kernel
theorem dX11_image_12 : decode cX11_image 12 = .ok (.aload_n 0, 1) := by decide +kernel
theorem dX11_image_13 : decode cX11_image 13 = .ok (.getfield 87, 3) := by decide +kernel
theorem dX11_image_16 : decode cX11_image 16 = .ok (.iload_n 1, 1) := by decide +kernel
theorem dX11_image_17 : decode cX11_image 17 = .ok (.aaload, 1) := by decide +kernel
theorem dX11_image_18 : decode cX11_image 18 = .ok (.aload_n 0, 1) := by decide +kernel
theorem dX11_image_19 : decode cX11_image 19 = .ok (.getfield 19, 3) := by decide +kernel
theorem dX11_image_22 : decode cX11_image 22 = .ok (.invokevirtual 310, 3) := by decide +kernel
theorem dX11_image_25 : decode cX11_image 25 = .ok (.aload_n 0, 1) := by decide +kernel
theorem dX11_image_26 : decode cX11_image 26 = .ok (.getfield 91, 3) := by decide +kernel
theorem dX11_image_29 : decode cX11_image 29 = .ok (.iload_n 1, 1) := by decide +kernel
theorem dX11_image_30 : decode cX11_image 30 = .ok (.iconst 1, 1) := by decide +kernel
theorem dX11_image_31 : decode cX11_image 31 = .ok (.bastore, 1) := by decide +kernel
theorem dX11_image_32 : decode cX11_image 32 = .ok (.iconst 1, 1) := by decide +kernel
theorem dX11_image_33 : decode cX11_image 33 = .ok (.ireturn, 1) := by decide +kernel
theorem dX11_restore_0 : decode cX11_restore 0 = .ok (.iload_n 1, 1) := by decide +kernel
theorem dX11_restore_1 : decode cX11_restore 1 = .ok (.ifCond .lt 8, 3) := by decide +kernel
theorem dX11_restore_4 : decode cX11_restore 4 = .ok (.iload_n 1, 1) := by decide +kernel
theorem dX11_restore_5 : decode cX11_restore 5 = .ok (.iconst 2, 1) := by decide +kernel
theorem dX11_restore_6 : decode cX11_restore 6 = .ok (.if_icmp .lt 6, 3) := by decide +kernel
theorem dX11_restore_9 : decode cX11_restore 9 = .ok (.bipush (-2), 2) := by decide +kernel
theorem dX11_restore_11 : decode cX11_restore 11 = .ok (.ireturn, 1) := by decide +kernel
theorem dX11_restore_12 : decode cX11_restore 12 = .ok (.aload_n 0, 1) := by decide +kernel
theorem dX11_restore_13 : decode cX11_restore 13 = .ok (.getfield 91, 3) := by decide +kernel
theorem dX11_restore_16 : decode cX11_restore 16 = .ok (.iload_n 1, 1) := by decide +kernel
theorem dX11_restore_17 : decode cX11_restore 17 = .ok (.baload, 1) := by decide +kernel
theorem dX11_restore_18 : decode cX11_restore 18 = .ok (.ifCond .ne 6, 3) := by decide +kernel
theorem dX11_restore_21 : decode cX11_restore 21 = .ok (.bipush (-3), 2) := by decide +kernel
theorem dX11_restore_23 : decode cX11_restore 23 = .ok (.ireturn, 1) := by decide +kernel
theorem dX11_restore_24 : decode cX11_restore 24 = .ok (.aload_n 0, 1) := by decide +kernel
theorem dX11_restore_25 : decode cX11_restore 25 = .ok (.getfield 19, 3) := by decide +kernel
theorem dX11_restore_28 : decode cX11_restore 28 = .ok (.aload_n 0, 1) := by decide +kernel
theorem dX11_restore_29 : decode cX11_restore 29 = .ok (.getfield 87, 3) := by decide +kernel
theorem dX11_restore_32 : decode cX11_restore 32 = .ok (.iload_n 1, 1) := by decide +kernel
theorem dX11_restore_33 : decode cX11_restore 33 = .ok (.aaload, 1) := by decide +kernel
theorem dX11_restore_34 : decode cX11_restore 34 = .ok (.invokevirtual 310, 3) := by decide +kernel
theorem dX11_restore_37 : decode cX11_restore 37 = .ok (.aload_n 0, 1) := by decide +kernel
theorem dX11_restore_38 : decode cX11_restore 38 = .ok (.invokevirtual 121, 3) := by decide +kernel
theorem dX11_restore_41 : decode cX11_restore 41 = .ok (.iconst 1, 1) := by decide +kernel
theorem dX11_restore_42 : decode cX11_restore 42 = .ok (.ireturn, 1) := by decide +kernel
theorem dX11_told_0 : decode cX11_told 0 = .ok (.iload_n 1, 1) := by decide +kernel
theorem dX11_told_1 : decode cX11_told 1 = .ok (.bipush 10, 2) := by decide +kernel
theorem dX11_told_3 : decode cX11_told 3 = .ok (.isub, 1) := by decide +kernel
theorem dX11_told_4 : decode cX11_told 4 = .ok (.invokestatic 176, 3) := by decide +kernel
theorem dX11_told_7 : decode cX11_told 7 = .ok (.ifCond .eq 19, 3) := by decide +kernel
theorem dX11_told_10 : decode cX11_told 10 = .ok (.aload_n 0, 1) := by decide +kernel
theorem dX11_told_11 : decode cX11_told 11 = .ok (.getfield 19, 3) := by decide +kernel
theorem dX11_told_14 : decode cX11_told 14 = .ok (.getfield 38, 3) := by decide +kernel
theorem dX11_told_17 : decode cX11_told 17 = .ok (.getfield 185, 3) := by decide +kernel
theorem dX11_told_20 : decode cX11_told 20 = .ok (.iload_n 1, 1) := by decide +kernel
theorem dX11_told_21 : decode cX11_told 21 = .ok (.bipush 10, 2) := by decide +kernel
theorem dX11_told_23 : decode cX11_told 23 = .ok (.isub, 1) := by decide +kernel
theorem dX11_told_24 : decode cX11_told 24 = .ok (.iaload, 1) := by decide +kernel
theorem dX11_told_25 : decode cX11_told 25 = .ok (.ireturn, 1) := by decide +kernel
theorem dX11_told_26 : decode cX11_told 26 = .ok (.iload_n 1, 1) := by decide +kernel
theorem dX11_told_27 : decode cX11_told 27 = .ok (.bipush 20, 2) := by decide +kernel
theorem dX11_told_29 : decode cX11_told 29 = .ok (.isub, 1) := by decide +kernel
theorem dX11_told_30 : decode cX11_told 30 = .ok (.invokestatic 176, 3) := by decide +kernel
theorem dX11_told_33 : decode cX11_told 33 = .ok (.ifCond .eq 19, 3) := by decide +kernel
theorem dX11_told_36 : decode cX11_told 36 = .ok (.aload_n 0, 1) := by decide +kernel
theorem dX11_told_37 : decode cX11_told 37 = .ok (.getfield 19, 3) := by decide +kernel
theorem dX11_told_40 : decode cX11_told 40 = .ok (.getfield 38, 3) := by decide +kernel
theorem dX11_told_43 : decode cX11_told 43 = .ok (.getfield 190, 3) := by decide +kernel
theorem dX11_told_46 : decode cX11_told 46 = .ok (.iload_n 1, 1) := by decide +kernel
theorem dX11_told_47 : decode cX11_told 47 = .ok (.bipush 20, 2) := by decide +kernel
theorem dX11_told_49 : decode cX11_told 49 = .ok (.isub, 1) := by decide +kernel
theorem dX11_told_50 : decode cX11_told 50 = .ok (.iaload, 1) := by decide +kernel
theorem dX11_told_51 : decode cX11_told 51 = .ok (.ireturn, 1) := by decide +kernel
theorem dX11_told_52 : decode cX11_told 52 = .ok (.iload_n 1, 1) := by decide +kernel
theorem dX11_told_53 : decode cX11_told 53 = .ok (.bipush 30, 2) := by decide +kernel
theorem dX11_told_55 : decode cX11_told 55 = .ok (.isub, 1) := by decide +kernel
theorem dX11_told_56 : decode cX11_told 56 = .ok (.invokestatic 176, 3) := by decide +kernel
theorem dX11_told_59 : decode cX11_told 59 = .ok (.ifCond .eq 18, 3) := by decide +kernel
theorem dX11_told_62 : decode cX11_told 62 = .ok (.aload_n 0, 1) := by decide +kernel
theorem dX11_told_63 : decode cX11_told 63 = .ok (.getfield 19, 3) := by decide +kernel
theorem dX11_told_66 : decode cX11_told 66 = .ok (.getfield 38, 3) := by decide +kernel
theorem dX11_told_69 : decode cX11_told 69 = .ok (.iload_n 1, 1) := by decide +kernel
theorem dX11_told_70 : decode cX11_told 70 = .ok (.bipush 30, 2) := by decide +kernel
theorem dX11_told_72 : decode cX11_told 72 = .ok (.isub, 1) := by decide +kernel
theorem dX11_told_73 : decode cX11_told 73 = .ok (.invokevirtual 197, 3) := by decide +kernel
theorem dX11_told_76 : decode cX11_told 76 = .ok (.ireturn, 1) := by decide +kernel
theorem dX11_told_77 : decode cX11_told 77 = .ok (.iload_n 1, 1) := by decide +kernel
theorem dX11_told_78 : decode cX11_told 78 = .ok (.tableswitch 81 0 3 #[30, 38, 49, 60], 30) := by decide +kernel
theorem dX11_told_108 : decode cX11_told 108 = .ok (.aload_n 0, 1) := by decide +kernel
theorem dX11_told_109 : decode cX11_told 109 = .ok (.getfield 10, 3) := by decide +kernel
theorem dX11_told_112 : decode cX11_told 112 = .ok (.getfield 98, 3) := by decide +kernel
theorem dX11_told_115 : decode cX11_told 115 = .ok (.ireturn, 1) := by decide +kernel
theorem dX11_told_116 : decode cX11_told 116 = .ok (.aload_n 0, 1) := by decide +kernel
theorem dX11_told_117 : decode cX11_told 117 = .ok (.getfield 19, 3) := by decide +kernel
theorem dX11_told_120 : decode cX11_told 120 = .ok (.getfield 25, 3) := by decide +kernel
theorem dX11_told_123 : decode cX11_told 123 = .ok (.getfield 116, 3) := by decide +kernel
theorem dX11_told_126 : decode cX11_told 126 = .ok (.ireturn, 1) := by decide +kernel
theorem dX11_told_127 : decode cX11_told 127 = .ok (.aload_n 0, 1) := by decide +kernel
theorem dX11_told_128 : decode cX11_told 128 = .ok (.getfield 19, 3) := by decide +kernel
theorem dX11_told_131 : decode cX11_told 131 = .ok (.getfield 67, 3) := by decide +kernel
theorem dX11_told_134 : decode cX11_told 134 = .ok (.getfield 255, 3) := by decide +kernel
theorem dX11_told_137 : decode cX11_told 137 = .ok (.ireturn, 1) := by decide +kernel
theorem dX11_told_138 : decode cX11_told 138 = .ok (.aload_n 0, 1) := by decide +kernel
theorem dX11_told_139 : decode cX11_told 139 = .ok (.getfield 19, 3) := by decide +kernel
theorem dX11_told_142 : decode cX11_told 142 = .ok (.getfield 25, 3) := by decide +kernel
theorem dX11_told_145 : decode cX11_told 145 = .ok (.aload_n 0, 1) := by decide +kernel
theorem dX11_told_146 : decode cX11_told 146 = .ok (.getfield 19, 3) := by decide +kernel
theorem dX11_told_149 : decode cX11_told 149 = .ok (.getfield 25, 3) := by decide +kernel
theorem dX11_told_152 : decode cX11_told 152 = .ok (.invokevirtual 314, 3) := by decide +kernel
theorem dX11_told_155 : decode cX11_told 155 = .ok (.invokevirtual 224, 3) := by decide +kernel
theorem dX11_told_158 : decode cX11_told 158 = .ok (.ireturn, 1) := by decide +kernel
theorem dX11_told_159 : decode cX11_told 159 = .ok (.bipush (-2), 2) := by decide +kernel
theorem dX11_told_161 : decode cX11_told 161 = .ok (.ireturn, 1) := by decide +kernel
theorem dX11_bookChanged_0 : decode cX11_bookChanged 0 = .ok (.aload_n 0, 1) := by decide +kernel
theorem dX11_bookChanged_1 : decode cX11_bookChanged 1 = .ok (.getfield 32, 3) := by decide +kernel
theorem dX11_bookChanged_4 : decode cX11_bookChanged 4 = .ok (.invokevirtual 95, 3) := by decide +kernel
theorem dX11_bookChanged_7 : decode cX11_bookChanged 7 = .ok (.aload_n 0, 1) := by decide +kernel
theorem dX11_bookChanged_8 : decode cX11_bookChanged 8 = .ok (.getfield 54, 3) := by decide +kernel
theorem dX11_bookChanged_11 : decode cX11_bookChanged 11 = .ok (.iconst 0, 1) := by decide +kernel
theorem dX11_bookChanged_12 : decode cX11_bookChanged 12 = .ok (.putfield 317, 3) := by decide +kernel
theorem dX11_bookChanged_15 : decode cX11_bookChanged 15 = .ok (.iconst 0, 1) := by decide +kernel
theorem dX11_bookChanged_16 : decode cX11_bookChanged 16 = .ok (.istore_n 1, 1) := by decide +kernel
theorem dX11_bookChanged_17 : decode cX11_bookChanged 17 = .ok (.iload_n 1, 1) := by decide +kernel
theorem dX11_bookChanged_18 : decode cX11_bookChanged 18 = .ok (.iconst 4, 1) := by decide +kernel
theorem dX11_bookChanged_19 : decode cX11_bookChanged 19 = .ok (.if_icmp .ge 14, 3) := by decide +kernel
theorem dX11_bookChanged_22 : decode cX11_bookChanged 22 = .ok (.aload_n 0, 1) := by decide +kernel
theorem dX11_bookChanged_23 : decode cX11_bookChanged 23 = .ok (.iload_n 1, 1) := by decide +kernel
theorem dX11_bookChanged_24 : decode cX11_bookChanged 24 = .ok (.invokevirtual 193, 3) := by decide +kernel
theorem dX11_bookChanged_27 : decode cX11_bookChanged 27 = .ok (.iinc 1 1, 3) := by decide +kernel
theorem dX11_bookChanged_30 : decode cX11_bookChanged 30 = .ok (.goto (-13), 3) := by decide +kernel
theorem dX11_bookChanged_33 : decode cX11_bookChanged 33 = .ok (.return_, 1) := by decide +kernel
theorem dX11_childChanged_0 : decode cX11_childChanged 0 = .ok (.aload_n 0, 1) := by decide +kernel
theorem dX11_childChanged_1 : decode cX11_childChanged 1 = .ok (.getfield 61, 3) := by decide +kernel
theorem dX11_childChanged_4 : decode cX11_childChanged 4 = .ok (.getfield 245, 3) := by decide +kernel
theorem dX11_childChanged_7 : decode cX11_childChanged 7 = .ok (.iload_n 1, 1) := by decide +kernel
theorem dX11_childChanged_8 : decode cX11_childChanged 8 = .ok (.if_icmp .ne 12, 3) := by decide +kernel
theorem dX11_childChanged_11 : decode cX11_childChanged 11 = .ok (.aload_n 0, 1) := by decide +kernel
theorem dX11_childChanged_12 : decode cX11_childChanged 12 = .ok (.getfield 61, 3) := by decide +kernel
theorem dX11_childChanged_15 : decode cX11_childChanged 15 = .ok (.bipush (-6), 2) := by decide +kernel
theorem dX11_childChanged_17 : decode cX11_childChanged 17 = .ok (.putfield 245, 3) := by decide +kernel
theorem dX11_childChanged_20 : decode cX11_childChanged 20 = .ok (.aload_n 0, 1) := by decide +kernel
theorem dX11_childChanged_21 : decode cX11_childChanged 21 = .ok (.getfield 83, 3) := by decide +kernel
theorem dX11_childChanged_24 : decode cX11_childChanged 24 = .ok (.iload_n 1, 1) := by decide +kernel
theorem dX11_childChanged_25 : decode cX11_childChanged 25 = .ok (.invokevirtual 321, 3) := by decide +kernel
theorem dX11_childChanged_28 : decode cX11_childChanged 28 = .ok (.return_, 1) := by decide +kernel
theorem dX11_isSign_0 : decode cX11_isSign 0 = .ok (.iload_n 0, 1) := by decide +kernel
theorem dX11_isSign_1 : decode cX11_isSign 1 = .ok (.ifCond .lt 13, 3) := by decide +kernel
theorem dX11_isSign_4 : decode cX11_isSign 4 = .ok (.iload_n 0, 1) := by decide +kernel
theorem dX11_isSign_5 : decode cX11_isSign 5 = .ok (.bipush 10, 2) := by decide +kernel
theorem dX11_isSign_7 : decode cX11_isSign 7 = .ok (.if_icmp .ge 7, 3) := by decide +kernel
theorem dX11_isSign_10 : decode cX11_isSign 10 = .ok (.iconst 1, 1) := by decide +kernel
theorem dX11_isSign_11 : decode cX11_isSign 11 = .ok (.goto 4, 3) := by decide +kernel
theorem dX11_isSign_14 : decode cX11_isSign 14 = .ok (.iconst 0, 1) := by decide +kernel
theorem dX11_isSign_15 : decode cX11_isSign 15 = .ok (.ireturn, 1) := by decide +kernel
theorem dX11_isChild_0 : decode cX11_isChild 0 = .ok (.iload_n 0, 1) := by decide +kernel
theorem dX11_isChild_1 : decode cX11_isChild 1 = .ok (.ifCond .lt 12, 3) := by decide +kernel
theorem dX11_isChild_4 : decode cX11_isChild 4 = .ok (.iload_n 0, 1) := by decide +kernel
theorem dX11_isChild_5 : decode cX11_isChild 5 = .ok (.iconst 4, 1) := by decide +kernel
theorem dX11_isChild_6 : decode cX11_isChild 6 = .ok (.if_icmp .ge 7, 3) := by decide +kernel
theorem dX11_isChild_9 : decode cX11_isChild 9 = .ok (.iconst 1, 1) := by decide +kernel
theorem dX11_isChild_10 : decode cX11_isChild 10 = .ok (.goto 4, 3) := by decide +kernel
theorem dX11_isChild_13 : decode cX11_isChild 13 = .ok (.iconst 0, 1) := by decide +kernel
theorem dX11_isChild_14 : decode cX11_isChild 14 = .ok (.ireturn, 1) := by decide +kernel
theorem dX11_isSignSet_0 : decode cX11_isSignSet 0 = .ok (.iload_n 0, 1) := by decide +kernel
theorem dX11_isSignSet_1 : decode cX11_isSignSet 1 = .ok (.ifCond .lt 14, 3) := by decide +kernel
theorem dX11_isSignSet_4 : decode cX11_isSignSet 4 = .ok (.iload_n 0, 1) := by decide +kernel
theorem dX11_isSignSet_5 : decode cX11_isSignSet 5 = .ok (.sipush 1024, 3) := by decide +kernel
theorem dX11_isSignSet_8 : decode cX11_isSignSet 8 = .ok (.if_icmp .ge 7, 3) := by decide +kernel
theorem dX11_isSignSet_11 : decode cX11_isSignSet 11 = .ok (.iconst 1, 1) := by decide +kernel
theorem dX11_isSignSet_12 : decode cX11_isSignSet 12 = .ok (.goto 4, 3) := by decide +kernel
theorem dX11_isSignSet_15 : decode cX11_isSignSet 15 = .ok (.iconst 0, 1) := by decide +kernel
theorem dX11_isSignSet_16 : decode cX11_isSignSet 16 = .ok (.ireturn, 1) := by decide +kernel
theorem dX11_isPart_0 : decode cX11_isPart 0 = .ok (.iload_n 0, 1) := by decide +kernel
theorem dX11_isPart_1 : decode cX11_isPart 1 = .ok (.ifCond .eq 8, 3) := by decide +kernel
theorem dX11_isPart_4 : decode cX11_isPart 4 = .ok (.iload_n 0, 1) := by decide +kernel
theorem dX11_isPart_5 : decode cX11_isPart 5 = .ok (.iconst 1, 1) := by decide +kernel
theorem dX11_isPart_6 : decode cX11_isPart 6 = .ok (.if_icmp .ne 7, 3) := by decide +kernel
theorem dX11_isPart_9 : decode cX11_isPart 9 = .ok (.iconst 1, 1) := by decide +kernel
theorem dX11_isPart_10 : decode cX11_isPart 10 = .ok (.goto 4, 3) := by decide +kernel
theorem dX11_isPart_13 : decode cX11_isPart 13 = .ok (.iconst 0, 1) := by decide +kernel
theorem dX11_isPart_14 : decode cX11_isPart 14 = .ok (.ireturn, 1) := by decide +kernel
theorem dX11_hasBit_0 : decode cX11_hasBit 0 = .ok (.iload_n 0, 1) := by decide +kernel
theorem dX11_hasBit_1 : decode cX11_hasBit 1 = .ok (.iload_n 1, 1) := by decide +kernel
theorem dX11_hasBit_2 : decode cX11_hasBit 2 = .ok (.ishr, 1) := by decide +kernel
theorem dX11_hasBit_3 : decode cX11_hasBit 3 = .ok (.iconst 1, 1) := by decide +kernel
theorem dX11_hasBit_4 : decode cX11_hasBit 4 = .ok (.iand, 1) := by decide +kernel
theorem dX11_hasBit_5 : decode cX11_hasBit 5 = .ok (.ifCond .eq 7, 3) := by decide +kernel
theorem dX11_hasBit_8 : decode cX11_hasBit 8 = .ok (.iconst 1, 1) := by decide +kernel
theorem dX11_hasBit_9 : decode cX11_hasBit 9 = .ok (.goto 4, 3) := by decide +kernel
theorem dX11_hasBit_12 : decode cX11_hasBit 12 = .ok (.iconst 0, 1) := by decide +kernel
theorem dX11_hasBit_13 : decode cX11_hasBit 13 = .ok (.ireturn, 1) := by decide +kernel
theorem dX11_fractionPart_0 : decode cX11_fractionPart 0 = .ok (.iload_n 0, 1) := by decide +kernel
theorem dX11_fractionPart_1 : decode cX11_fractionPart 1 = .ok (.ifCond .le 7, 3) := by decide +kernel
theorem dX11_fractionPart_4 : decode cX11_fractionPart 4 = .ok (.iload_n 1, 1) := by decide +kernel
theorem dX11_fractionPart_5 : decode cX11_fractionPart 5 = .ok (.ifCond .gt 13, 3) := by decide +kernel
theorem dX11_fractionPart_8 : decode cX11_fractionPart 8 = .ok (.iload_n 2, 1) := by decide +kernel
theorem dX11_fractionPart_9 : decode cX11_fractionPart 9 = .ok (.ifCond .ne 7, 3) := by decide +kernel
theorem dX11_fractionPart_12 : decode cX11_fractionPart 12 = .ok (.lconst 0, 1) := by decide +kernel
theorem dX11_fractionPart_13 : decode cX11_fractionPart 13 = .ok (.goto 4, 3) := by decide +kernel
theorem dX11_fractionPart_16 : decode cX11_fractionPart 16 = .ok (.lconst 1, 1) := by decide +kernel
theorem dX11_fractionPart_17 : decode cX11_fractionPart 17 = .ok (.lreturn, 1) := by decide +kernel
theorem dX11_fractionPart_18 : decode cX11_fractionPart 18 = .ok (.iload_n 0, 1) := by decide +kernel
theorem dX11_fractionPart_19 : decode cX11_fractionPart 19 = .ok (.iload_n 1, 1) := by decide +kernel
theorem dX11_fractionPart_20 : decode cX11_fractionPart 20 = .ok (.invokestatic 324, 3) := by decide +kernel
theorem dX11_fractionPart_23 : decode cX11_fractionPart 23 = .ok (.istore_n 3, 1) := by decide +kernel
theorem dX11_fractionPart_24 : decode cX11_fractionPart 24 = .ok (.iload_n 2, 1) := by decide +kernel
theorem dX11_fractionPart_25 : decode cX11_fractionPart 25 = .ok (.ifCond .ne 7, 3) := by decide +kernel
theorem dX11_fractionPart_28 : decode cX11_fractionPart 28 = .ok (.iload_n 0, 1) := by decide +kernel
theorem dX11_fractionPart_29 : decode cX11_fractionPart 29 = .ok (.goto 4, 3) := by decide +kernel
theorem dX11_fractionPart_32 : decode cX11_fractionPart 32 = .ok (.iload_n 1, 1) := by decide +kernel
theorem dX11_fractionPart_33 : decode cX11_fractionPart 33 = .ok (.istore 4, 2) := by decide +kernel
theorem dX11_fractionPart_35 : decode cX11_fractionPart 35 = .ok (.iload_n 3, 1) := by decide +kernel
theorem dX11_fractionPart_36 : decode cX11_fractionPart 36 = .ok (.iconst 1, 1) := by decide +kernel
theorem dX11_fractionPart_37 : decode cX11_fractionPart 37 = .ok (.if_icmp .le 11, 3) := by decide +kernel
theorem dX11_fractionPart_40 : decode cX11_fractionPart 40 = .ok (.iload 4, 2) := by decide +kernel
theorem dX11_fractionPart_42 : decode cX11_fractionPart 42 = .ok (.iload_n 3, 1) := by decide +kernel
theorem dX11_fractionPart_43 : decode cX11_fractionPart 43 = .ok (.idiv, 1) := by decide +kernel
theorem dX11_fractionPart_44 : decode cX11_fractionPart 44 = .ok (.i2l, 1) := by decide +kernel
theorem dX11_fractionPart_45 : decode cX11_fractionPart 45 = .ok (.goto 6, 3) := by decide +kernel
theorem dX11_fractionPart_48 : decode cX11_fractionPart 48 = .ok (.iload 4, 2) := by decide +kernel
theorem dX11_fractionPart_50 : decode cX11_fractionPart 50 = .ok (.i2l, 1) := by decide +kernel
theorem dX11_fractionPart_51 : decode cX11_fractionPart 51 = .ok (.lreturn, 1) := by decide +kernel
theorem dX11_greatestDivisor_0 : decode cX11_greatestDivisor 0 = .ok (.iload_n 0, 1) := by decide +kernel
theorem dX11_greatestDivisor_1 : decode cX11_greatestDivisor 1 = .ok (.istore_n 2, 1) := by decide +kernel
theorem dX11_greatestDivisor_2 : decode cX11_greatestDivisor 2 = .ok (.iload_n 1, 1) := by decide +kernel
theorem dX11_greatestDivisor_3 : decode cX11_greatestDivisor 3 = .ok (.istore_n 3, 1) := by decide +kernel
theorem dX11_greatestDivisor_4 : decode cX11_greatestDivisor 4 = .ok (.iconst 0, 1) := by decide +kernel
theorem dX11_greatestDivisor_5 : decode cX11_greatestDivisor 5 = .ok (.istore 4, 2) := by decide +kernel
theorem dX11_greatestDivisor_7 : decode cX11_greatestDivisor 7 = .ok (.iload 4, 2) := by decide +kernel
theorem dX11_greatestDivisor_9 : decode cX11_greatestDivisor 9 = .ok (.bipush 64, 2) := by decide +kernel
theorem dX11_greatestDivisor_11 : decode cX11_greatestDivisor 11 = .ok (.if_icmp .ge 23, 3) := by decide +kernel
theorem dX11_greatestDivisor_14 : decode cX11_greatestDivisor 14 = .ok (.iload_n 3, 1) := by decide +kernel
theorem dX11_greatestDivisor_15 : decode cX11_greatestDivisor 15 = .ok (.ifCond .eq 19, 3) := by decide +kernel
theorem dX11_greatestDivisor_18 : decode cX11_greatestDivisor 18 = .ok (.iload_n 2, 1) := by decide +kernel
theorem dX11_greatestDivisor_19 : decode cX11_greatestDivisor 19 = .ok (.iload_n 3, 1) := by decide +kernel
theorem dX11_greatestDivisor_20 : decode cX11_greatestDivisor 20 = .ok (.irem, 1) := by decide +kernel
theorem dX11_greatestDivisor_21 : decode cX11_greatestDivisor 21 = .ok (.istore 5, 2) := by decide +kernel
theorem dX11_greatestDivisor_23 : decode cX11_greatestDivisor 23 = .ok (.iload_n 3, 1) := by decide +kernel
theorem dX11_greatestDivisor_24 : decode cX11_greatestDivisor 24 = .ok (.istore_n 2, 1) := by decide +kernel
theorem dX11_greatestDivisor_25 : decode cX11_greatestDivisor 25 = .ok (.iload 5, 2) := by decide +kernel
theorem dX11_greatestDivisor_27 : decode cX11_greatestDivisor 27 = .ok (.istore_n 3, 1) := by decide +kernel
theorem dX11_greatestDivisor_28 : decode cX11_greatestDivisor 28 = .ok (.iinc 4 1, 3) := by decide +kernel
theorem dX11_greatestDivisor_31 : decode cX11_greatestDivisor 31 = .ok (.goto (-24), 3) := by decide +kernel
theorem dX11_greatestDivisor_34 : decode cX11_greatestDivisor 34 = .ok (.iload_n 2, 1) := by decide +kernel
theorem dX11_greatestDivisor_35 : decode cX11_greatestDivisor 35 = .ok (.ireturn, 1) := by decide +kernel
theorem dX11_addUpSubsets_0 : decode cX11_addUpSubsets 0 = .ok (.iconst 0, 1) := by decide +kernel
theorem dX11_addUpSubsets_1 : decode cX11_addUpSubsets 1 = .ok (.istore_n 1, 1) := by decide +kernel
theorem dX11_addUpSubsets_2 : decode cX11_addUpSubsets 2 = .ok (.iload_n 1, 1) := by decide +kernel
theorem dX11_addUpSubsets_3 : decode cX11_addUpSubsets 3 = .ok (.bipush 10, 2) := by decide +kernel
theorem dX11_addUpSubsets_5 : decode cX11_addUpSubsets 5 = .ok (.if_icmp .ge 51, 3) := by decide +kernel
theorem dX11_addUpSubsets_8 : decode cX11_addUpSubsets 8 = .ok (.iconst 1, 1) := by decide +kernel
theorem dX11_addUpSubsets_9 : decode cX11_addUpSubsets 9 = .ok (.iload_n 1, 1) := by decide +kernel
theorem dX11_addUpSubsets_10 : decode cX11_addUpSubsets 10 = .ok (.ishl, 1) := by decide +kernel
theorem dX11_addUpSubsets_11 : decode cX11_addUpSubsets 11 = .ok (.istore_n 2, 1) := by decide +kernel
theorem dX11_addUpSubsets_12 : decode cX11_addUpSubsets 12 = .ok (.iconst 0, 1) := by decide +kernel
theorem dX11_addUpSubsets_13 : decode cX11_addUpSubsets 13 = .ok (.istore_n 3, 1) := by decide +kernel
theorem dX11_addUpSubsets_14 : decode cX11_addUpSubsets 14 = .ok (.iload_n 3, 1) := by decide +kernel
theorem dX11_addUpSubsets_15 : decode cX11_addUpSubsets 15 = .ok (.sipush 1024, 3) := by decide +kernel
theorem dX11_addUpSubsets_18 : decode cX11_addUpSubsets 18 = .ok (.if_icmp .ge 32, 3) := by decide +kernel
theorem dX11_addUpSubsets_21 : decode cX11_addUpSubsets 21 = .ok (.iload_n 3, 1) := by decide +kernel
theorem dX11_addUpSubsets_22 : decode cX11_addUpSubsets 22 = .ok (.aload_n 0, 1) := by decide +kernel
theorem dX11_addUpSubsets_23 : decode cX11_addUpSubsets 23 = .ok (.arraylength, 1) := by decide +kernel
theorem dX11_addUpSubsets_24 : decode cX11_addUpSubsets 24 = .ok (.if_icmp .ge 26, 3) := by decide +kernel
theorem dX11_addUpSubsets_27 : decode cX11_addUpSubsets 27 = .ok (.iload_n 3, 1) := by decide +kernel
theorem dX11_addUpSubsets_28 : decode cX11_addUpSubsets 28 = .ok (.iload_n 2, 1) := by decide +kernel
theorem dX11_addUpSubsets_29 : decode cX11_addUpSubsets 29 = .ok (.iand, 1) := by decide +kernel
theorem dX11_addUpSubsets_30 : decode cX11_addUpSubsets 30 = .ok (.ifCond .eq 14, 3) := by decide +kernel
theorem dX11_addUpSubsets_33 : decode cX11_addUpSubsets 33 = .ok (.aload_n 0, 1) := by decide +kernel
theorem dX11_addUpSubsets_34 : decode cX11_addUpSubsets 34 = .ok (.iload_n 3, 1) := by decide +kernel
theorem dX11_addUpSubsets_35 : decode cX11_addUpSubsets 35 = .ok (.dup2, 1) := by decide +kernel
theorem dX11_addUpSubsets_36 : decode cX11_addUpSubsets 36 = .ok (.iaload, 1) := by decide +kernel
theorem dX11_addUpSubsets_37 : decode cX11_addUpSubsets 37 = .ok (.aload_n 0, 1) := by decide +kernel
theorem dX11_addUpSubsets_38 : decode cX11_addUpSubsets 38 = .ok (.iload_n 3, 1) := by decide +kernel
theorem dX11_addUpSubsets_39 : decode cX11_addUpSubsets 39 = .ok (.iload_n 2, 1) := by decide +kernel
theorem dX11_addUpSubsets_40 : decode cX11_addUpSubsets 40 = .ok (.ixor, 1) := by decide +kernel
theorem dX11_addUpSubsets_41 : decode cX11_addUpSubsets 41 = .ok (.iaload, 1) := by decide +kernel
theorem dX11_addUpSubsets_42 : decode cX11_addUpSubsets 42 = .ok (.iadd, 1) := by decide +kernel
theorem dX11_addUpSubsets_43 : decode cX11_addUpSubsets 43 = .ok (.iastore, 1) := by decide +kernel
theorem dX11_addUpSubsets_44 : decode cX11_addUpSubsets 44 = .ok (.iinc 3 1, 3) := by decide +kernel
theorem dX11_addUpSubsets_47 : decode cX11_addUpSubsets 47 = .ok (.goto (-33), 3) := by decide +kernel
theorem dX11_addUpSubsets_50 : decode cX11_addUpSubsets 50 = .ok (.iinc 1 1, 3) := by decide +kernel
theorem dX11_addUpSubsets_53 : decode cX11_addUpSubsets 53 = .ok (.goto (-51), 3) := by decide +kernel
theorem dX11_addUpSubsets_56 : decode cX11_addUpSubsets 56 = .ok (.return_, 1) := by decide +kernel
theorem dX12_init_0 : decode cX12_init 0 = .ok (.aload_n 0, 1) := by decide +kernel
theorem dX12_init_1 : decode cX12_init 1 = .ok (.invokespecial 1, 3) := by decide +kernel
theorem dX12_init_4 : decode cX12_init 4 = .ok (.aload_n 0, 1) := by decide +kernel
theorem dX12_init_5 : decode cX12_init 5 = .ok (.bipush 60, 2) := by decide +kernel
theorem dX12_init_7 : decode cX12_init 7 = .ok (.newarray .int, 2) := by decide +kernel
theorem dX12_init_9 : decode cX12_init 9 = .ok (.putfield 7, 3) := by decide +kernel
theorem dX12_init_12 : decode cX12_init 12 = .ok (.aload_n 0, 1) := by decide +kernel
theorem dX12_init_13 : decode cX12_init 13 = .ok (.bipush 60, 2) := by decide +kernel
theorem dX12_init_15 : decode cX12_init 15 = .ok (.newarray .int, 2) := by decide +kernel
theorem dX12_init_17 : decode cX12_init 17 = .ok (.putfield 13, 3) := by decide +kernel
theorem dX12_init_20 : decode cX12_init 20 = .ok (.aload_n 0, 1) := by decide +kernel
theorem dX12_init_21 : decode cX12_init 21 = .ok (.bipush 12, 2) := by decide +kernel
theorem dX12_init_23 : decode cX12_init 23 = .ok (.newarray .int, 2) := by decide +kernel
theorem dX12_init_25 : decode cX12_init 25 = .ok (.putfield 16, 3) := by decide +kernel
theorem dX12_init_28 : decode cX12_init 28 = .ok (.aload_n 0, 1) := by decide +kernel
theorem dX12_init_29 : decode cX12_init 29 = .ok (.bipush 12, 2) := by decide +kernel
theorem dX12_init_31 : decode cX12_init 31 = .ok (.newarray .int, 2) := by decide +kernel
theorem dX12_init_33 : decode cX12_init 33 = .ok (.putfield 19, 3) := by decide +kernel
theorem dX12_init_36 : decode cX12_init 36 = .ok (.aload_n 0, 1) := by decide +kernel
theorem dX12_init_37 : decode cX12_init 37 = .ok (.bipush 14, 2) := by decide +kernel
theorem dX12_init_39 : decode cX12_init 39 = .ok (.newarray .int, 2) := by decide +kernel
theorem dX12_init_41 : decode cX12_init 41 = .ok (.putfield 22, 3) := by decide +kernel
theorem dX12_init_44 : decode cX12_init 44 = .ok (.aload_n 0, 1) := by decide +kernel
theorem dX12_init_45 : decode cX12_init 45 = .ok (.bipush 100, 2) := by decide +kernel
theorem dX12_init_47 : decode cX12_init 47 = .ok (.newarray .int, 2) := by decide +kernel
theorem dX12_init_49 : decode cX12_init 49 = .ok (.putfield 25, 3) := by decide +kernel
theorem dX12_init_52 : decode cX12_init 52 = .ok (.aload_n 0, 1) := by decide +kernel
theorem dX12_init_53 : decode cX12_init 53 = .ok (.bipush 10, 2) := by decide +kernel
theorem dX12_init_55 : decode cX12_init 55 = .ok (.newarray .int, 2) := by decide +kernel
theorem dX12_init_57 : decode cX12_init 57 = .ok (.putfield 28, 3) := by decide +kernel
theorem dX12_init_60 : decode cX12_init 60 = .ok (.aload_n 0, 1) := by decide +kernel
theorem dX12_init_61 : decode cX12_init 61 = .ok (.bipush 12, 2) := by decide +kernel
theorem dX12_init_63 : decode cX12_init 63 = .ok (.newarray .int, 2) := by decide +kernel
theorem dX12_init_65 : decode cX12_init 65 = .ok (.putfield 31, 3) := by decide +kernel
theorem dX12_init_68 : decode cX12_init 68 = .ok (.aload_n 0, 1) := by decide +kernel
theorem dX12_init_69 : decode cX12_init 69 = .ok (.iconst 4, 1) := by decide +kernel
theorem dX12_init_70 : decode cX12_init 70 = .ok (.newarray .int, 2) := by decide +kernel
theorem dX12_init_72 : decode cX12_init 72 = .ok (.putfield 34, 3) := by decide +kernel
theorem dX12_init_75 : decode cX12_init 75 = .ok (.aload_n 0, 1) := by decide +kernel
theorem dX12_init_76 : decode cX12_init 76 = .ok (.iconst 4, 1) := by decide +kernel
theorem dX12_init_77 : decode cX12_init 77 = .ok (.newarray .int, 2) := by decide +kernel
theorem dX12_init_79 : decode cX12_init 79 = .ok (.putfield 37, 3) := by decide +kernel
theorem dX12_init_82 : decode cX12_init 82 = .ok (.aload_n 0, 1) := by decide +kernel
theorem dX12_init_83 : decode cX12_init 83 = .ok (.iconst 4, 1) := by decide +kernel
theorem dX12_init_84 : decode cX12_init 84 = .ok (.newarray .int, 2) := by decide +kernel
theorem dX12_init_86 : decode cX12_init 86 = .ok (.putfield 40, 3) := by decide +kernel
theorem dX12_init_89 : decode cX12_init 89 = .ok (.aload_n 0, 1) := by decide +kernel
theorem dX12_init_90 : decode cX12_init 90 = .ok (.sipush 1024, 3) := by decide +kernel
theorem dX12_init_93 : decode cX12_init 93 = .ok (.newarray .int, 2) := by decide +kernel
theorem dX12_init_95 : decode cX12_init 95 = .ok (.putfield 43, 3) := by decide +kernel
theorem dX12_init_98 : decode cX12_init 98 = .ok (.aload_n 0, 1) := by decide +kernel
theorem dX12_init_99 : decode cX12_init 99 = .ok (.sipush 1024, 3) := by decide +kernel
theorem dX12_init_102 : decode cX12_init 102 = .ok (.newarray .int, 2) := by decide +kernel
theorem dX12_init_104 : decode cX12_init 104 = .ok (.putfield 46, 3) := by decide +kernel
theorem dX12_init_107 : decode cX12_init 107 = .ok (.aload_n 0, 1) := by decide +kernel
theorem dX12_init_108 : decode cX12_init 108 = .ok (.ldc 49, 2) := by decide +kernel
theorem dX12_init_110 : decode cX12_init 110 = .ok (.newarray .int, 2) := by decide +kernel
theorem dX12_init_112 : decode cX12_init 112 = .ok (.putfield 50, 3) := by decide +kernel
theorem dX12_init_115 : decode cX12_init 115 = .ok (.aload_n 0, 1) := by decide +kernel
theorem dX12_init_116 : decode cX12_init 116 = .ok (.bipush 12, 2) := by decide +kernel
theorem dX12_init_118 : decode cX12_init 118 = .ok (.newarray .boolean, 2) := by decide +kernel
theorem dX12_init_120 : decode cX12_init 120 = .ok (.putfield 53, 3) := by decide +kernel
theorem dX12_init_123 : decode cX12_init 123 = .ok (.aload_n 0, 1) := by decide +kernel
theorem dX12_init_124 : decode cX12_init 124 = .ok (.bipush 20, 2) := by decide +kernel
theorem dX12_init_126 : decode cX12_init 126 = .ok (.newarray .int, 2) := by decide +kernel
theorem dX12_init_128 : decode cX12_init 128 = .ok (.putfield 57, 3) := by decide +kernel
theorem dX12_init_131 : decode cX12_init 131 = .ok (.aload_n 0, 1) := by decide +kernel
theorem dX12_init_132 : decode cX12_init 132 = .ok (.bipush 20, 2) := by decide +kernel
theorem dX12_init_134 : decode cX12_init 134 = .ok (.newarray .int, 2) := by decide +kernel
theorem dX12_init_136 : decode cX12_init 136 = .ok (.putfield 60, 3) := by decide +kernel
theorem dX12_init_139 : decode cX12_init 139 = .ok (.aload_n 0, 1) := by decide +kernel
theorem dX12_init_140 : decode cX12_init 140 = .ok (.bipush 11, 2) := by decide +kernel
theorem dX12_init_142 : decode cX12_init 142 = .ok (.newarray .int, 2) := by decide +kernel
theorem dX12_init_144 : decode cX12_init 144 = .ok (.putfield 63, 3) := by decide +kernel
theorem dX12_init_147 : decode cX12_init 147 = .ok (.aload_n 0, 1) := by decide +kernel
theorem dX12_init_148 : decode cX12_init 148 = .ok (.bipush 52, 2) := by decide +kernel
theorem dX12_init_150 : decode cX12_init 150 = .ok (.newarray .int, 2) := by decide +kernel
theorem dX12_init_152 : decode cX12_init 152 = .ok (.putfield 66, 3) := by decide +kernel
theorem dX12_init_155 : decode cX12_init 155 = .ok (.aload_n 0, 1) := by decide +kernel
theorem dX12_init_156 : decode cX12_init 156 = .ok (.iconst 4, 1) := by decide +kernel
theorem dX12_init_157 : decode cX12_init 157 = .ok (.newarray .int, 2) := by decide +kernel
theorem dX12_init_159 : decode cX12_init 159 = .ok (.putfield 69, 3) := by decide +kernel
theorem dX12_init_162 : decode cX12_init 162 = .ok (.aload_n 0, 1) := by decide +kernel
theorem dX12_init_163 : decode cX12_init 163 = .ok (.sipush 440, 3) := by decide +kernel
theorem dX12_init_166 : decode cX12_init 166 = .ok (.newarray .int, 2) := by decide +kernel
theorem dX12_init_168 : decode cX12_init 168 = .ok (.putfield 72, 3) := by decide +kernel
theorem dX12_init_171 : decode cX12_init 171 = .ok (.aload_n 0, 1) := by decide +kernel
theorem dX12_init_172 : decode cX12_init 172 = .ok (.iconst 2, 1) := by decide +kernel
theorem dX12_init_173 : decode cX12_init 173 = .ok (.newarray .boolean, 2) := by decide +kernel
theorem dX12_init_175 : decode cX12_init 175 = .ok (.putfield 75, 3) := by decide +kernel
theorem dX12_init_178 : decode cX12_init 178 = .ok (.iconst 0, 1) := by decide +kernel
theorem dX12_init_179 : decode cX12_init 179 = .ok (.istore_n 1, 1) := by decide +kernel
theorem dX12_init_180 : decode cX12_init 180 = .ok (.iload_n 1, 1) := by decide +kernel
theorem dX12_init_181 : decode cX12_init 181 = .ok (.iconst 4, 1) := by decide +kernel
theorem dX12_init_182 : decode cX12_init 182 = .ok (.if_icmp .ge 17, 3) := by decide +kernel
theorem dX12_init_185 : decode cX12_init 185 = .ok (.aload_n 0, 1) := by decide +kernel
theorem dX12_init_186 : decode cX12_init 186 = .ok (.getfield 40, 3) := by decide +kernel
theorem dX12_init_189 : decode cX12_init 189 = .ok (.iload_n 1, 1) := by decide +kernel
theorem dX12_init_190 : decode cX12_init 190 = .ok (.bipush (-6), 2) := by decide +kernel
theorem dX12_init_192 : decode cX12_init 192 = .ok (.iastore, 1) := by decide +kernel
theorem dX12_init_193 : decode cX12_init 193 = .ok (.iinc 1 1, 3) := by decide +kernel
theorem dX12_init_196 : decode cX12_init 196 = .ok (.goto (-16), 3) := by decide +kernel
theorem dX12_init_199 : decode cX12_init 199 = .ok (.return_, 1) := by decide +kernel
theorem dX12_in_0 : decode cX12_in 0 = .ok (.lload_n 0, 1) := by decide +kernel
theorem dX12_in_1 : decode cX12_in 1 = .ok (.lload_n 2, 1) := by decide +kernel
theorem dX12_in_2 : decode cX12_in 2 = .ok (.lcmp, 1) := by decide +kernel
theorem dX12_in_3 : decode cX12_in 3 = .ok (.ifCond .lt 14, 3) := by decide +kernel
theorem dX12_in_6 : decode cX12_in 6 = .ok (.lload_n 0, 1) := by decide +kernel
theorem dX12_in_7 : decode cX12_in 7 = .ok (.lload 4, 2) := by decide +kernel
theorem dX12_in_9 : decode cX12_in 9 = .ok (.lcmp, 1) := by decide +kernel
theorem dX12_in_10 : decode cX12_in 10 = .ok (.ifCond .gt 7, 3) := by decide +kernel
theorem dX12_in_13 : decode cX12_in 13 = .ok (.iconst 1, 1) := by decide +kernel
theorem dX12_in_14 : decode cX12_in 14 = .ok (.goto 4, 3) := by decide +kernel
theorem dX12_in_17 : decode cX12_in 17 = .ok (.iconst 0, 1) := by decide +kernel
theorem dX12_in_18 : decode cX12_in 18 = .ok (.ireturn, 1) := by decide +kernel
theorem dX12_isSign_0 : decode cX12_isSign 0 = .ok (.iload_n 0, 1) := by decide +kernel
theorem dX12_isSign_1 : decode cX12_isSign 1 = .ok (.i2l, 1) := by decide +kernel
theorem dX12_isSign_2 : decode cX12_isSign 2 = .ok (.lconst 0, 1) := by decide +kernel
theorem dX12_isSign_3 : decode cX12_isSign 3 = .ok (.ldc2_w 78, 3) := by decide +kernel
theorem dX12_isSign_6 : decode cX12_isSign 6 = .ok (.invokestatic 80, 3) := by decide +kernel
theorem dX12_isSign_9 : decode cX12_isSign 9 = .ok (.ireturn, 1) := by decide +kernel
theorem dX12_isChild_0 : decode cX12_isChild 0 = .ok (.iload_n 0, 1) := by decide +kernel
theorem dX12_isChild_1 : decode cX12_isChild 1 = .ok (.i2l, 1) := by decide +kernel
theorem dX12_isChild_2 : decode cX12_isChild 2 = .ok (.lconst 0, 1) := by decide +kernel
theorem dX12_isChild_3 : decode cX12_isChild 3 = .ok (.ldc2_w 84, 3) := by decide +kernel
theorem dX12_isChild_6 : decode cX12_isChild 6 = .ok (.invokestatic 80, 3) := by decide +kernel
theorem dX12_isChild_9 : decode cX12_isChild 9 = .ok (.ireturn, 1) := by decide +kernel
theorem dX12_isEnd_0 : decode cX12_isEnd 0 = .ok (.iload_n 0, 1) := by decide +kernel
theorem dX12_isEnd_1 : decode cX12_isEnd 1 = .ok (.i2l, 1) := by decide +kernel
theorem dX12_isEnd_2 : decode cX12_isEnd 2 = .ok (.lconst 0, 1) := by decide +kernel
theorem dX12_isEnd_3 : decode cX12_isEnd 3 = .ok (.lconst 1, 1) := by decide +kernel
theorem dX12_isEnd_4 : decode cX12_isEnd 4 = .ok (.invokestatic 80, 3) := by decide +kernel
theorem dX12_isEnd_7 : decode cX12_isEnd 7 = .ok (.ireturn, 1) := by decide +kernel
theorem dX12_ones_0 : decode cX12_ones 0 = .ok (.iconst 0, 1) := by decide +kernel
theorem dX12_ones_1 : decode cX12_ones 1 = .ok (.istore_n 1, 1) := by decide +kernel
theorem dX12_ones_2 : decode cX12_ones 2 = .ok (.iload_n 0, 1) := by decide +kernel
theorem dX12_ones_3 : decode cX12_ones 3 = .ok (.istore_n 2, 1) := by decide +kernel
theorem dX12_ones_4 : decode cX12_ones 4 = .ok (.iload_n 2, 1) := by decide +kernel
theorem dX12_ones_5 : decode cX12_ones 5 = .ok (.ifCond .eq 15, 3) := by decide +kernel
theorem dX12_ones_8 : decode cX12_ones 8 = .ok (.iinc 1 1, 3) := by decide +kernel
theorem dX12_ones_11 : decode cX12_ones 11 = .ok (.iload_n 2, 1) := by decide +kernel
theorem dX12_ones_12 : decode cX12_ones 12 = .ok (.iload_n 2, 1) := by decide +kernel
theorem dX12_ones_13 : decode cX12_ones 13 = .ok (.iconst 1, 1) := by decide +kernel
theorem dX12_ones_14 : decode cX12_ones 14 = .ok (.isub, 1) := by decide +kernel
theorem dX12_ones_15 : decode cX12_ones 15 = .ok (.iand, 1) := by decide +kernel
theorem dX12_ones_16 : decode cX12_ones 16 = .ok (.istore_n 2, 1) := by decide +kernel
theorem dX12_ones_17 : decode cX12_ones 17 = .ok (.goto (-13), 3) := by decide +kernel
theorem dX12_ones_20 : decode cX12_ones 20 = .ok (.iload_n 1, 1) := by decide +kernel
theorem dX12_ones_21 : decode cX12_ones 21 = .ok (.ireturn, 1) := by decide +kernel
theorem dX12_lowest_0 : decode cX12_lowest 0 = .ok (.lload_n 2, 1) := by decide +kernel
theorem dX12_lowest_1 : decode cX12_lowest 1 = .ok (.lconst 0, 1) := by decide +kernel
theorem dX12_lowest_2 : decode cX12_lowest 2 = .ok (.lcmp, 1) := by decide +kernel
theorem dX12_lowest_3 : decode cX12_lowest 3 = .ok (.ifCond .ne 7, 3) := by decide +kernel
theorem dX12_lowest_6 : decode cX12_lowest 6 = .ok (.iload 4, 2) := by decide +kernel
theorem dX12_lowest_8 : decode cX12_lowest 8 = .ok (.i2l, 1) := by decide +kernel
theorem dX12_lowest_9 : decode cX12_lowest 9 = .ok (.lreturn, 1) := by decide +kernel
theorem dX12_lowest_10 : decode cX12_lowest 10 = .ok (.lload_n 0, 1) := by decide +kernel
theorem dX12_lowest_11 : decode cX12_lowest 11 = .ok (.lstore 5, 2) := by decide +kernel
theorem dX12_lowest_13 : decode cX12_lowest 13 = .ok (.lload_n 2, 1) := by decide +kernel
theorem dX12_lowest_14 : decode cX12_lowest 14 = .ok (.lstore 7, 2) := by decide +kernel
theorem dX12_lowest_16 : decode cX12_lowest 16 = .ok (.lload 7, 2) := by decide +kernel
theorem dX12_lowest_18 : decode cX12_lowest 18 = .ok (.lconst 0, 1) := by decide +kernel
theorem dX12_lowest_19 : decode cX12_lowest 19 = .ok (.lcmp, 1) := by decide +kernel
theorem dX12_lowest_20 : decode cX12_lowest 20 = .ok (.ifCond .eq 21, 3) := by decide +kernel
theorem dX12_lowest_23 : decode cX12_lowest 23 = .ok (.lload 5, 2) := by decide +kernel
theorem dX12_lowest_25 : decode cX12_lowest 25 = .ok (.lload 7, 2) := by decide +kernel
theorem dX12_lowest_27 : decode cX12_lowest 27 = .ok (.lrem, 1) := by decide +kernel
theorem dX12_lowest_28 : decode cX12_lowest 28 = .ok (.lstore 9, 2) := by decide +kernel
theorem dX12_lowest_30 : decode cX12_lowest 30 = .ok (.lload 7, 2) := by decide +kernel
theorem dX12_lowest_32 : decode cX12_lowest 32 = .ok (.lstore 5, 2) := by decide +kernel
theorem dX12_lowest_34 : decode cX12_lowest 34 = .ok (.lload 9, 2) := by decide +kernel
theorem dX12_lowest_36 : decode cX12_lowest 36 = .ok (.lstore 7, 2) := by decide +kernel
theorem dX12_lowest_38 : decode cX12_lowest 38 = .ok (.goto (-22), 3) := by decide +kernel
theorem dX12_lowest_41 : decode cX12_lowest 41 = .ok (.iload 4, 2) := by decide +kernel
theorem dX12_lowest_43 : decode cX12_lowest 43 = .ok (.ifCond .ne 10, 3) := by decide +kernel
theorem dX12_lowest_46 : decode cX12_lowest 46 = .ok (.lload_n 0, 1) := by decide +kernel
theorem dX12_lowest_47 : decode cX12_lowest 47 = .ok (.lload 5, 2) := by decide +kernel
theorem dX12_lowest_49 : decode cX12_lowest 49 = .ok (.ldiv, 1) := by decide +kernel
theorem dX12_lowest_50 : decode cX12_lowest 50 = .ok (.goto 7, 3) := by decide +kernel
theorem dX12_lowest_53 : decode cX12_lowest 53 = .ok (.lload_n 2, 1) := by decide +kernel
theorem dX12_lowest_54 : decode cX12_lowest 54 = .ok (.lload 5, 2) := by decide +kernel
theorem dX12_lowest_56 : decode cX12_lowest 56 = .ok (.ldiv, 1) := by decide +kernel
theorem dX12_lowest_57 : decode cX12_lowest 57 = .ok (.lreturn, 1) := by decide +kernel
theorem dX12_say_0 : decode cX12_say 0 = .ok (.iload_n 1, 1) := by decide +kernel
theorem dX12_say_1 : decode cX12_say 1 = .ok (.i2l, 1) := by decide +kernel
theorem dX12_say_2 : decode cX12_say 2 = .ok (.ldc2_w 86, 3) := by decide +kernel
theorem dX12_say_5 : decode cX12_say 5 = .ok (.ldc2_w 88, 3) := by decide +kernel
theorem dX12_say_8 : decode cX12_say 8 = .ok (.invokestatic 80, 3) := by decide +kernel
theorem dX12_say_11 : decode cX12_say 11 = .ok (.ifCond .ne 6, 3) := by decide +kernel
theorem dX12_say_14 : decode cX12_say 14 = .ok (.bipush (-2), 2) := by decide +kernel
theorem dX12_say_16 : decode cX12_say 16 = .ok (.ireturn, 1) := by decide +kernel
theorem dX12_say_17 : decode cX12_say 17 = .ok (.aload_n 0, 1) := by decide +kernel
theorem dX12_say_18 : decode cX12_say 18 = .ok (.getfield 90, 3) := by decide +kernel
theorem dX12_say_21 : decode cX12_say 21 = .ok (.bipush 14, 2) := by decide +kernel
theorem dX12_say_23 : decode cX12_say 23 = .ok (.if_icmp .ne 6, 3) := by decide +kernel
theorem dX12_say_26 : decode cX12_say 26 = .ok (.bipush (-4), 2) := by decide +kernel
theorem dX12_say_28 : decode cX12_say 28 = .ok (.ireturn, 1) := by decide +kernel
theorem dX12_say_29 : decode cX12_say 29 = .ok (.aload_n 0, 1) := by decide +kernel
theorem dX12_say_30 : decode cX12_say 30 = .ok (.getfield 22, 3) := by decide +kernel
theorem dX12_say_33 : decode cX12_say 33 = .ok (.aload_n 0, 1) := by decide +kernel
theorem dX12_say_34 : decode cX12_say 34 = .ok (.getfield 90, 3) := by decide +kernel
theorem dX12_say_37 : decode cX12_say 37 = .ok (.iload_n 1, 1) := by decide +kernel
theorem dX12_say_38 : decode cX12_say 38 = .ok (.iastore, 1) := by decide +kernel
theorem dX12_say_39 : decode cX12_say 39 = .ok (.aload_n 0, 1) := by decide +kernel
theorem dX12_say_40 : decode cX12_say 40 = .ok (.dup, 1) := by decide +kernel
theorem dX12_say_41 : decode cX12_say 41 = .ok (.getfield 90, 3) := by decide +kernel
theorem dX12_say_44 : decode cX12_say 44 = .ok (.iconst 1, 1) := by decide +kernel
theorem dX12_say_45 : decode cX12_say 45 = .ok (.iadd, 1) := by decide +kernel
theorem dX12_say_46 : decode cX12_say 46 = .ok (.putfield 90, 3) := by decide +kernel
theorem dX12_say_49 : decode cX12_say 49 = .ok (.aload_n 0, 1) := by decide +kernel
theorem dX12_say_50 : decode cX12_say 50 = .ok (.getfield 90, 3) := by decide +kernel
theorem dX12_say_53 : decode cX12_say 53 = .ok (.ireturn, 1) := by decide +kernel
theorem dX12_wipe_0 : decode cX12_wipe 0 = .ok (.aload_n 0, 1) := by decide +kernel
theorem dX12_wipe_1 : decode cX12_wipe 1 = .ok (.getfield 90, 3) := by decide +kernel
theorem dX12_wipe_4 : decode cX12_wipe 4 = .ok (.istore_n 1, 1) := by decide +kernel
theorem dX12_wipe_5 : decode cX12_wipe 5 = .ok (.aload_n 0, 1) := by decide +kernel
theorem dX12_wipe_6 : decode cX12_wipe 6 = .ok (.iconst 0, 1) := by decide +kernel
theorem dX12_wipe_7 : decode cX12_wipe 7 = .ok (.putfield 90, 3) := by decide +kernel
theorem dX12_wipe_10 : decode cX12_wipe 10 = .ok (.iload_n 1, 1) := by decide +kernel
theorem dX12_wipe_11 : decode cX12_wipe 11 = .ok (.ireturn, 1) := by decide +kernel
theorem dX12_fault_0 : decode cX12_fault 0 = .ok (.aload_n 0, 1) := by decide +kernel
theorem dX12_fault_1 : decode cX12_fault 1 = .ok (.iconst 0, 1) := by decide +kernel
theorem dX12_fault_2 : decode cX12_fault 2 = .ok (.putfield 94, 3) := by decide +kernel
theorem dX12_fault_5 : decode cX12_fault 5 = .ok (.iconst 0, 1) := by decide +kernel
theorem dX12_fault_6 : decode cX12_fault 6 = .ok (.istore_n 1, 1) := by decide +kernel
theorem dX12_fault_7 : decode cX12_fault 7 = .ok (.iconst 0, 1) := by decide +kernel
theorem dX12_fault_8 : decode cX12_fault 8 = .ok (.istore_n 2, 1) := by decide +kernel
theorem dX12_fault_9 : decode cX12_fault 9 = .ok (.iconst 0, 1) := by decide +kernel
theorem dX12_fault_10 : decode cX12_fault 10 = .ok (.istore_n 3, 1) := by decide +kernel
theorem dX12_fault_11 : decode cX12_fault 11 = .ok (.iload_n 3, 1) := by decide +kernel
theorem dX12_fault_12 : decode cX12_fault 12 = .ok (.aload_n 0, 1) := by decide +kernel
theorem dX12_fault_13 : decode cX12_fault 13 = .ok (.getfield 90, 3) := by decide +kernel
theorem dX12_fault_16 : decode cX12_fault 16 = .ok (.if_icmp .ge 115, 3) := by decide +kernel
theorem dX12_fault_19 : decode cX12_fault 19 = .ok (.aload_n 0, 1) := by decide +kernel
theorem dX12_fault_20 : decode cX12_fault 20 = .ok (.getfield 22, 3) := by decide +kernel
theorem dX12_fault_23 : decode cX12_fault 23 = .ok (.iload_n 3, 1) := by decide +kernel
theorem dX12_fault_24 : decode cX12_fault 24 = .ok (.iaload, 1) := by decide +kernel
theorem dX12_fault_25 : decode cX12_fault 25 = .ok (.istore 4, 2) := by decide +kernel
theorem dX12_fault_27 : decode cX12_fault 27 = .ok (.iload_n 2, 1) := by decide +kernel
theorem dX12_fault_28 : decode cX12_fault 28 = .ok (.ifCond .ne 39, 3) := by decide +kernel
theorem dX12_fault_31 : decode cX12_fault 31 = .ok (.iload 4, 2) := by decide +kernel
theorem dX12_fault_33 : decode cX12_fault 33 = .ok (.i2l, 1) := by decide +kernel
theorem dX12_fault_34 : decode cX12_fault 34 = .ok (.ldc2_w 97, 3) := by decide +kernel
theorem dX12_fault_37 : decode cX12_fault 37 = .ok (.ldc2_w 99, 3) := by decide +kernel
theorem dX12_fault_40 : decode cX12_fault 40 = .ok (.invokestatic 80, 3) := by decide +kernel
theorem dX12_fault_43 : decode cX12_fault 43 = .ok (.ifCond .eq 24, 3) := by decide +kernel
theorem dX12_fault_46 : decode cX12_fault 46 = .ok (.aload_n 0, 1) := by decide +kernel
theorem dX12_fault_47 : decode cX12_fault 47 = .ok (.getfield 94, 3) := by decide +kernel
theorem dX12_fault_50 : decode cX12_fault 50 = .ok (.iconst 5, 1) := by decide +kernel
theorem dX12_fault_51 : decode cX12_fault 51 = .ok (.if_icmp .ge 16, 3) := by decide +kernel
theorem dX12_fault_54 : decode cX12_fault 54 = .ok (.aload_n 0, 1) := by decide +kernel
theorem dX12_fault_55 : decode cX12_fault 55 = .ok (.dup, 1) := by decide +kernel
theorem dX12_fault_56 : decode cX12_fault 56 = .ok (.getfield 94, 3) := by decide +kernel
theorem dX12_fault_59 : decode cX12_fault 59 = .ok (.iconst 1, 1) := by decide +kernel
theorem dX12_fault_60 : decode cX12_fault 60 = .ok (.iadd, 1) := by decide +kernel
theorem dX12_fault_61 : decode cX12_fault 61 = .ok (.putfield 94, 3) := by decide +kernel
theorem dX12_fault_64 : decode cX12_fault 64 = .ok (.goto 61, 3) := by decide +kernel
theorem dX12_fault_67 : decode cX12_fault 67 = .ok (.iload_n 2, 1) := by decide +kernel
theorem dX12_fault_68 : decode cX12_fault 68 = .ok (.ifCond .ne 22, 3) := by decide +kernel
theorem dX12_fault_71 : decode cX12_fault 71 = .ok (.iload 4, 2) := by decide +kernel
theorem dX12_fault_73 : decode cX12_fault 73 = .ok (.bipush 61, 2) := by decide +kernel
theorem dX12_fault_75 : decode cX12_fault 75 = .ok (.if_icmp .ne 15, 3) := by decide +kernel
theorem dX12_fault_78 : decode cX12_fault 78 = .ok (.aload_n 0, 1) := by decide +kernel
theorem dX12_fault_79 : decode cX12_fault 79 = .ok (.getfield 94, 3) := by decide +kernel
theorem dX12_fault_82 : decode cX12_fault 82 = .ok (.ifCond .le 8, 3) := by decide +kernel
theorem dX12_fault_85 : decode cX12_fault 85 = .ok (.iconst 1, 1) := by decide +kernel
theorem dX12_fault_86 : decode cX12_fault 86 = .ok (.istore_n 2, 1) := by decide +kernel
theorem dX12_fault_87 : decode cX12_fault 87 = .ok (.goto 38, 3) := by decide +kernel
theorem dX12_fault_90 : decode cX12_fault 90 = .ok (.iload_n 2, 1) := by decide +kernel
theorem dX12_fault_91 : decode cX12_fault 91 = .ok (.ifCond .eq 32, 3) := by decide +kernel
theorem dX12_fault_94 : decode cX12_fault 94 = .ok (.iload 4, 2) := by decide +kernel
theorem dX12_fault_96 : decode cX12_fault 96 = .ok (.i2l, 1) := by decide +kernel
theorem dX12_fault_97 : decode cX12_fault 97 = .ok (.ldc2_w 101, 3) := by decide +kernel
theorem dX12_fault_100 : decode cX12_fault 100 = .ok (.ldc2_w 103, 3) := by decide +kernel
theorem dX12_fault_103 : decode cX12_fault 103 = .ok (.invokestatic 80, 3) := by decide +kernel
theorem dX12_fault_106 : decode cX12_fault 106 = .ok (.ifCond .eq 17, 3) := by decide +kernel
theorem dX12_fault_109 : decode cX12_fault 109 = .ok (.iload_n 1, 1) := by decide +kernel
theorem dX12_fault_110 : decode cX12_fault 110 = .ok (.aload_n 0, 1) := by decide +kernel
theorem dX12_fault_111 : decode cX12_fault 111 = .ok (.getfield 94, 3) := by decide +kernel
theorem dX12_fault_114 : decode cX12_fault 114 = .ok (.if_icmp .ge 9, 3) := by decide +kernel
theorem dX12_fault_117 : decode cX12_fault 117 = .ok (.iinc 1 1, 3) := by decide +kernel
theorem dX12_fault_120 : decode cX12_fault 120 = .ok (.goto 5, 3) := by decide +kernel
theorem dX12_fault_123 : decode cX12_fault 123 = .ok (.iload_n 3, 1) := by decide +kernel
theorem dX12_fault_124 : decode cX12_fault 124 = .ok (.ireturn, 1) := by decide +kernel
theorem dX12_fault_125 : decode cX12_fault 125 = .ok (.iinc 3 1, 3) := by decide +kernel
theorem dX12_fault_128 : decode cX12_fault 128 = .ok (.goto (-117), 3) := by decide +kernel
theorem dX12_fault_131 : decode cX12_fault 131 = .ok (.iload_n 2, 1) := by decide +kernel
theorem dX12_fault_132 : decode cX12_fault 132 = .ok (.ifCond .eq 16, 3) := by decide +kernel
theorem dX12_fault_135 : decode cX12_fault 135 = .ok (.iload_n 1, 1) := by decide +kernel
theorem dX12_fault_136 : decode cX12_fault 136 = .ok (.aload_n 0, 1) := by decide +kernel
theorem dX12_fault_137 : decode cX12_fault 137 = .ok (.getfield 94, 3) := by decide +kernel
theorem dX12_fault_140 : decode cX12_fault 140 = .ok (.if_icmp .ne 8, 3) := by decide +kernel
theorem dX12_fault_143 : decode cX12_fault 143 = .ok (.bipush (-6), 2) := by decide +kernel
theorem dX12_fault_145 : decode cX12_fault 145 = .ok (.goto 7, 3) := by decide +kernel
theorem dX12_fault_148 : decode cX12_fault 148 = .ok (.aload_n 0, 1) := by decide +kernel
theorem dX12_fault_149 : decode cX12_fault 149 = .ok (.getfield 90, 3) := by decide +kernel
theorem dX12_fault_152 : decode cX12_fault 152 = .ok (.ireturn, 1) := by decide +kernel
theorem dX12_isThere_0 : decode cX12_isThere 0 = .ok (.iconst 0, 1) := by decide +kernel
theorem dX12_isThere_1 : decode cX12_isThere 1 = .ok (.istore_n 1, 1) := by decide +kernel
theorem dX12_isThere_2 : decode cX12_isThere 2 = .ok (.iload_n 1, 1) := by decide +kernel
theorem dX12_isThere_3 : decode cX12_isThere 3 = .ok (.aload_n 0, 1) := by decide +kernel
theorem dX12_isThere_4 : decode cX12_isThere 4 = .ok (.getfield 105, 3) := by decide +kernel
theorem dX12_isThere_7 : decode cX12_isThere 7 = .ok (.if_icmp .ge 82, 3) := by decide +kernel
theorem dX12_isThere_10 : decode cX12_isThere 10 = .ok (.aload_n 0, 1) := by decide +kernel
theorem dX12_isThere_11 : decode cX12_isThere 11 = .ok (.getfield 16, 3) := by decide +kernel
theorem dX12_isThere_14 : decode cX12_isThere 14 = .ok (.iload_n 1, 1) := by decide +kernel
theorem dX12_isThere_15 : decode cX12_isThere 15 = .ok (.iaload, 1) := by decide +kernel
theorem dX12_isThere_16 : decode cX12_isThere 16 = .ok (.aload_n 0, 1) := by decide +kernel
theorem dX12_isThere_17 : decode cX12_isThere 17 = .ok (.getfield 94, 3) := by decide +kernel
theorem dX12_isThere_20 : decode cX12_isThere 20 = .ok (.if_icmp .ne 7, 3) := by decide +kernel
theorem dX12_isThere_23 : decode cX12_isThere 23 = .ok (.iconst 1, 1) := by decide +kernel
theorem dX12_isThere_24 : decode cX12_isThere 24 = .ok (.goto 4, 3) := by decide +kernel
theorem dX12_isThere_27 : decode cX12_isThere 27 = .ok (.iconst 0, 1) := by decide +kernel
theorem dX12_isThere_28 : decode cX12_isThere 28 = .ok (.istore_n 2, 1) := by decide +kernel
theorem dX12_isThere_29 : decode cX12_isThere 29 = .ok (.iconst 0, 1) := by decide +kernel
theorem dX12_isThere_30 : decode cX12_isThere 30 = .ok (.istore_n 3, 1) := by decide +kernel
theorem dX12_isThere_31 : decode cX12_isThere 31 = .ok (.iload_n 3, 1) := by decide +kernel
theorem dX12_isThere_32 : decode cX12_isThere 32 = .ok (.aload_n 0, 1) := by decide +kernel
theorem dX12_isThere_33 : decode cX12_isThere 33 = .ok (.getfield 94, 3) := by decide +kernel
theorem dX12_isThere_36 : decode cX12_isThere 36 = .ok (.if_icmp .ge 41, 3) := by decide +kernel
theorem dX12_isThere_39 : decode cX12_isThere 39 = .ok (.iload_n 2, 1) := by decide +kernel
theorem dX12_isThere_40 : decode cX12_isThere 40 = .ok (.ifCond .eq 37, 3) := by decide +kernel
theorem dX12_isThere_43 : decode cX12_isThere 43 = .ok (.aload_n 0, 1) := by decide +kernel
theorem dX12_isThere_44 : decode cX12_isThere 44 = .ok (.getfield 7, 3) := by decide +kernel
theorem dX12_isThere_47 : decode cX12_isThere 47 = .ok (.iconst 5, 1) := by decide +kernel
theorem dX12_isThere_48 : decode cX12_isThere 48 = .ok (.iload_n 1, 1) := by decide +kernel
theorem dX12_isThere_49 : decode cX12_isThere 49 = .ok (.imul, 1) := by decide +kernel
theorem dX12_isThere_50 : decode cX12_isThere 50 = .ok (.iload_n 3, 1) := by decide +kernel
theorem dX12_isThere_51 : decode cX12_isThere 51 = .ok (.iadd, 1) := by decide +kernel
theorem dX12_isThere_52 : decode cX12_isThere 52 = .ok (.iaload, 1) := by decide +kernel
theorem dX12_isThere_53 : decode cX12_isThere 53 = .ok (.aload_n 0, 1) := by decide +kernel
theorem dX12_isThere_54 : decode cX12_isThere 54 = .ok (.getfield 22, 3) := by decide +kernel
theorem dX12_isThere_57 : decode cX12_isThere 57 = .ok (.iload_n 3, 1) := by decide +kernel
theorem dX12_isThere_58 : decode cX12_isThere 58 = .ok (.iaload, 1) := by decide +kernel
theorem dX12_isThere_59 : decode cX12_isThere 59 = .ok (.bipush 97, 2) := by decide +kernel
theorem dX12_isThere_61 : decode cX12_isThere 61 = .ok (.isub, 1) := by decide +kernel
theorem dX12_isThere_62 : decode cX12_isThere 62 = .ok (.if_icmp .ne 7, 3) := by decide +kernel
theorem dX12_isThere_65 : decode cX12_isThere 65 = .ok (.iconst 1, 1) := by decide +kernel
theorem dX12_isThere_66 : decode cX12_isThere 66 = .ok (.goto 4, 3) := by decide +kernel
theorem dX12_isThere_69 : decode cX12_isThere 69 = .ok (.iconst 0, 1) := by decide +kernel
theorem dX12_isThere_70 : decode cX12_isThere 70 = .ok (.istore_n 2, 1) := by decide +kernel
theorem dX12_isThere_71 : decode cX12_isThere 71 = .ok (.iinc 3 1, 3) := by decide +kernel
theorem dX12_isThere_74 : decode cX12_isThere 74 = .ok (.goto (-43), 3) := by decide +kernel
theorem dX12_isThere_77 : decode cX12_isThere 77 = .ok (.iload_n 2, 1) := by decide +kernel
theorem dX12_isThere_78 : decode cX12_isThere 78 = .ok (.ifCond .eq 5, 3) := by decide +kernel
theorem dX12_isThere_81 : decode cX12_isThere 81 = .ok (.iconst 1, 1) := by decide +kernel
theorem dX12_isThere_82 : decode cX12_isThere 82 = .ok (.ireturn, 1) := by decide +kernel
theorem dX12_isThere_83 : decode cX12_isThere 83 = .ok (.iinc 1 1, 3) := by decide +kernel
theorem dX12_isThere_86 : decode cX12_isThere 86 = .ok (.goto (-84), 3) := by decide +kernel
theorem dX12_isThere_89 : decode cX12_isThere 89 = .ok (.iconst 0, 1) := by decide +kernel
theorem dX12_isThere_90 : decode cX12_isThere 90 = .ok (.ireturn, 1) := by decide +kernel
theorem dX12_isOften_0 : decode cX12_isOften 0 = .ok (.iload_n 0, 1) := by decide +kernel
theorem dX12_isOften_1 : decode cX12_isOften 1 = .ok (.i2l, 1) := by decide +kernel
theorem dX12_isOften_2 : decode cX12_isOften 2 = .ok (.lconst 1, 1) := by decide +kernel
theorem dX12_isOften_3 : decode cX12_isOften 3 = .ok (.ldc2_w 108, 3) := by decide +kernel
theorem dX12_isOften_6 : decode cX12_isOften 6 = .ok (.invokestatic 80, 3) := by decide +kernel
theorem dX12_isOften_9 : decode cX12_isOften 9 = .ok (.ireturn, 1) := by decide +kernel
theorem dX12_word_0 : decode cX12_word 0 = .ok (.iload_n 1, 1) := by decide +kernel
theorem dX12_word_1 : decode cX12_word 1 = .ok (.invokestatic 110, 3) := by decide +kernel
theorem dX12_word_4 : decode cX12_word 4 = .ok (.ifCond .ne 6, 3) := by decide +kernel
theorem dX12_word_7 : decode cX12_word 7 = .ok (.bipush (-2), 2) := by decide +kernel
theorem dX12_word_9 : decode cX12_word 9 = .ok (.ireturn, 1) := by decide +kernel
theorem dX12_word_10 : decode cX12_word 10 = .ok (.aload_n 0, 1) := by decide +kernel
theorem dX12_word_11 : decode cX12_word 11 = .ok (.invokevirtual 114, 3) := by decide +kernel
theorem dX12_word_14 : decode cX12_word 14 = .ok (.ifCond .ge 10, 3) := by decide +kernel
theorem dX12_word_17 : decode cX12_word 17 = .ok (.aload_n 0, 1) := by decide +kernel
theorem dX12_word_18 : decode cX12_word 18 = .ok (.invokevirtual 118, 3) := by decide +kernel
theorem dX12_word_21 : decode cX12_word 21 = .ok (.ifCond .eq 6, 3) := by decide +kernel
theorem dX12_word_24 : decode cX12_word 24 = .ok (.bipush (-5), 2) := by decide +kernel
theorem dX12_word_26 : decode cX12_word 26 = .ok (.ireturn, 1) := by decide +kernel
theorem dX12_word_27 : decode cX12_word 27 = .ok (.aload_n 0, 1) := by decide +kernel
theorem dX12_word_28 : decode cX12_word 28 = .ok (.getfield 105, 3) := by decide +kernel
theorem dX12_word_31 : decode cX12_word 31 = .ok (.bipush 12, 2) := by decide +kernel
theorem dX12_word_33 : decode cX12_word 33 = .ok (.if_icmp .ne 6, 3) := by decide +kernel
theorem dX12_word_36 : decode cX12_word 36 = .ok (.bipush (-4), 2) := by decide +kernel
theorem dX12_word_38 : decode cX12_word 38 = .ok (.ireturn, 1) := by decide +kernel
theorem dX12_word_39 : decode cX12_word 39 = .ok (.aload_n 0, 1) := by decide +kernel
theorem dX12_word_40 : decode cX12_word 40 = .ok (.getfield 16, 3) := by decide +kernel
theorem dX12_word_43 : decode cX12_word 43 = .ok (.aload_n 0, 1) := by decide +kernel
theorem dX12_word_44 : decode cX12_word 44 = .ok (.getfield 105, 3) := by decide +kernel
theorem dX12_word_47 : decode cX12_word 47 = .ok (.aload_n 0, 1) := by decide +kernel
theorem dX12_word_48 : decode cX12_word 48 = .ok (.getfield 94, 3) := by decide +kernel
theorem dX12_word_51 : decode cX12_word 51 = .ok (.iastore, 1) := by decide +kernel
theorem dX12_word_52 : decode cX12_word 52 = .ok (.iconst 0, 1) := by decide +kernel
theorem dX12_word_53 : decode cX12_word 53 = .ok (.istore_n 2, 1) := by decide +kernel
theorem dX12_word_54 : decode cX12_word 54 = .ok (.iload_n 2, 1) := by decide +kernel
theorem dX12_word_55 : decode cX12_word 55 = .ok (.aload_n 0, 1) := by decide +kernel
theorem dX12_word_56 : decode cX12_word 56 = .ok (.getfield 94, 3) := by decide +kernel
theorem dX12_word_59 : decode cX12_word 59 = .ok (.if_icmp .ge 60, 3) := by decide +kernel
theorem dX12_word_62 : decode cX12_word 62 = .ok (.aload_n 0, 1) := by decide +kernel
theorem dX12_word_63 : decode cX12_word 63 = .ok (.getfield 7, 3) := by decide +kernel
theorem dX12_word_66 : decode cX12_word 66 = .ok (.iconst 5, 1) := by decide +kernel
theorem dX12_word_67 : decode cX12_word 67 = .ok (.aload_n 0, 1) := by decide +kernel
theorem dX12_word_68 : decode cX12_word 68 = .ok (.getfield 105, 3) := by decide +kernel
theorem dX12_word_71 : decode cX12_word 71 = .ok (.imul, 1) := by decide +kernel
theorem dX12_word_72 : decode cX12_word 72 = .ok (.iload_n 2, 1) := by decide +kernel
theorem dX12_word_73 : decode cX12_word 73 = .ok (.iadd, 1) := by decide +kernel
theorem dX12_word_74 : decode cX12_word 74 = .ok (.aload_n 0, 1) := by decide +kernel
theorem dX12_word_75 : decode cX12_word 75 = .ok (.getfield 22, 3) := by decide +kernel
theorem dX12_word_78 : decode cX12_word 78 = .ok (.iload_n 2, 1) := by decide +kernel
theorem dX12_word_79 : decode cX12_word 79 = .ok (.iaload, 1) := by decide +kernel
theorem dX12_word_80 : decode cX12_word 80 = .ok (.bipush 97, 2) := by decide +kernel
theorem dX12_word_82 : decode cX12_word 82 = .ok (.isub, 1) := by decide +kernel
theorem dX12_word_83 : decode cX12_word 83 = .ok (.iastore, 1) := by decide +kernel
theorem dX12_word_84 : decode cX12_word 84 = .ok (.aload_n 0, 1) := by decide +kernel
theorem dX12_word_85 : decode cX12_word 85 = .ok (.getfield 13, 3) := by decide +kernel
theorem dX12_word_88 : decode cX12_word 88 = .ok (.iconst 5, 1) := by decide +kernel
theorem dX12_word_89 : decode cX12_word 89 = .ok (.aload_n 0, 1) := by decide +kernel
theorem dX12_word_90 : decode cX12_word 90 = .ok (.getfield 105, 3) := by decide +kernel
theorem dX12_word_93 : decode cX12_word 93 = .ok (.imul, 1) := by decide +kernel
theorem dX12_word_94 : decode cX12_word 94 = .ok (.iload_n 2, 1) := by decide +kernel
theorem dX12_word_95 : decode cX12_word 95 = .ok (.iadd, 1) := by decide +kernel
theorem dX12_word_96 : decode cX12_word 96 = .ok (.aload_n 0, 1) := by decide +kernel
theorem dX12_word_97 : decode cX12_word 97 = .ok (.getfield 22, 3) := by decide +kernel
theorem dX12_word_100 : decode cX12_word 100 = .ok (.aload_n 0, 1) := by decide +kernel
theorem dX12_word_101 : decode cX12_word 101 = .ok (.getfield 94, 3) := by decide +kernel
theorem dX12_word_104 : decode cX12_word 104 = .ok (.iconst 1, 1) := by decide +kernel
theorem dX12_word_105 : decode cX12_word 105 = .ok (.iadd, 1) := by decide +kernel
theorem dX12_word_106 : decode cX12_word 106 = .ok (.iload_n 2, 1) := by decide +kernel
theorem dX12_word_107 : decode cX12_word 107 = .ok (.iadd, 1) := by decide +kernel
theorem dX12_word_108 : decode cX12_word 108 = .ok (.iaload, 1) := by decide +kernel
theorem dX12_word_109 : decode cX12_word 109 = .ok (.bipush 48, 2) := by decide +kernel
theorem dX12_word_111 : decode cX12_word 111 = .ok (.isub, 1) := by decide +kernel
theorem dX12_word_112 : decode cX12_word 112 = .ok (.iastore, 1) := by decide +kernel
theorem dX12_word_113 : decode cX12_word 113 = .ok (.iinc 2 1, 3) := by decide +kernel
theorem dX12_word_116 : decode cX12_word 116 = .ok (.goto (-62), 3) := by decide +kernel
theorem dX12_word_119 : decode cX12_word 119 = .ok (.aload_n 0, 1) := by decide +kernel
theorem dX12_word_120 : decode cX12_word 120 = .ok (.getfield 19, 3) := by decide +kernel
theorem dX12_word_123 : decode cX12_word 123 = .ok (.aload_n 0, 1) := by decide +kernel
theorem dX12_word_124 : decode cX12_word 124 = .ok (.getfield 105, 3) := by decide +kernel
theorem dX12_word_127 : decode cX12_word 127 = .ok (.iload_n 1, 1) := by decide +kernel
theorem dX12_word_128 : decode cX12_word 128 = .ok (.iastore, 1) := by decide +kernel
theorem dX12_word_129 : decode cX12_word 129 = .ok (.aload_n 0, 1) := by decide +kernel
theorem dX12_word_130 : decode cX12_word 130 = .ok (.dup, 1) := by decide +kernel
theorem dX12_word_131 : decode cX12_word 131 = .ok (.getfield 105, 3) := by decide +kernel
theorem dX12_word_134 : decode cX12_word 134 = .ok (.iconst 1, 1) := by decide +kernel
theorem dX12_word_135 : decode cX12_word 135 = .ok (.iadd, 1) := by decide +kernel
theorem dX12_word_136 : decode cX12_word 136 = .ok (.putfield 105, 3) := by decide +kernel
theorem dX12_word_139 : decode cX12_word 139 = .ok (.aload_n 0, 1) := by decide +kernel
theorem dX12_word_140 : decode cX12_word 140 = .ok (.iconst 0, 1) := by decide +kernel
theorem dX12_word_141 : decode cX12_word 141 = .ok (.putfield 90, 3) := by decide +kernel
theorem dX12_word_144 : decode cX12_word 144 = .ok (.aload_n 0, 1) := by decide +kernel
theorem dX12_word_145 : decode cX12_word 145 = .ok (.getfield 105, 3) := by decide +kernel
theorem dX12_word_148 : decode cX12_word 148 = .ok (.iconst 1, 1) := by decide +kernel
theorem dX12_word_149 : decode cX12_word 149 = .ok (.isub, 1) := by decide +kernel
theorem dX12_word_150 : decode cX12_word 150 = .ok (.ireturn, 1) := by decide +kernel
theorem dX12_isWord_0 : decode cX12_isWord 0 = .ok (.iload_n 1, 1) := by decide +kernel
theorem dX12_isWord_1 : decode cX12_isWord 1 = .ok (.i2l, 1) := by decide +kernel
theorem dX12_isWord_2 : decode cX12_isWord 2 = .ok (.lconst 0, 1) := by decide +kernel
theorem dX12_isWord_3 : decode cX12_isWord 3 = .ok (.aload_n 0, 1) := by decide +kernel
theorem dX12_isWord_4 : decode cX12_isWord 4 = .ok (.getfield 105, 3) := by decide +kernel
theorem dX12_isWord_7 : decode cX12_isWord 7 = .ok (.iconst 1, 1) := by decide +kernel
theorem dX12_isWord_8 : decode cX12_isWord 8 = .ok (.isub, 1) := by decide +kernel
theorem dX12_isWord_9 : decode cX12_isWord 9 = .ok (.i2l, 1) := by decide +kernel
theorem dX12_isWord_10 : decode cX12_isWord 10 = .ok (.invokestatic 80, 3) := by decide +kernel
theorem dX12_isWord_13 : decode cX12_isWord 13 = .ok (.ireturn, 1) := by decide +kernel
theorem dX12_signsOf_0 : decode cX12_signsOf 0 = .ok (.iconst 0, 1) := by decide +kernel
theorem dX12_signsOf_1 : decode cX12_signsOf 1 = .ok (.istore_n 2, 1) := by decide +kernel
theorem dX12_signsOf_2 : decode cX12_signsOf 2 = .ok (.iconst 0, 1) := by decide +kernel
theorem dX12_signsOf_3 : decode cX12_signsOf 3 = .ok (.istore_n 3, 1) := by decide +kernel
theorem dX12_signsOf_4 : decode cX12_signsOf 4 = .ok (.iload_n 3, 1) := by decide +kernel
theorem dX12_signsOf_5 : decode cX12_signsOf 5 = .ok (.aload_n 0, 1) := by decide +kernel
theorem dX12_signsOf_6 : decode cX12_signsOf 6 = .ok (.getfield 16, 3) := by decide +kernel
theorem dX12_signsOf_9 : decode cX12_signsOf 9 = .ok (.iload_n 1, 1) := by decide +kernel
theorem dX12_signsOf_10 : decode cX12_signsOf 10 = .ok (.iaload, 1) := by decide +kernel
theorem dX12_signsOf_11 : decode cX12_signsOf 11 = .ok (.if_icmp .ge 24, 3) := by decide +kernel
theorem dX12_signsOf_14 : decode cX12_signsOf 14 = .ok (.iload_n 2, 1) := by decide +kernel
theorem dX12_signsOf_15 : decode cX12_signsOf 15 = .ok (.iconst 1, 1) := by decide +kernel
theorem dX12_signsOf_16 : decode cX12_signsOf 16 = .ok (.aload_n 0, 1) := by decide +kernel
theorem dX12_signsOf_17 : decode cX12_signsOf 17 = .ok (.getfield 7, 3) := by decide +kernel
theorem dX12_signsOf_20 : decode cX12_signsOf 20 = .ok (.iconst 5, 1) := by decide +kernel
theorem dX12_signsOf_21 : decode cX12_signsOf 21 = .ok (.iload_n 1, 1) := by decide +kernel
theorem dX12_signsOf_22 : decode cX12_signsOf 22 = .ok (.imul, 1) := by decide +kernel
theorem dX12_signsOf_23 : decode cX12_signsOf 23 = .ok (.iload_n 3, 1) := by decide +kernel
theorem dX12_signsOf_24 : decode cX12_signsOf 24 = .ok (.iadd, 1) := by decide +kernel
theorem dX12_signsOf_25 : decode cX12_signsOf 25 = .ok (.iaload, 1) := by decide +kernel
theorem dX12_signsOf_26 : decode cX12_signsOf 26 = .ok (.ishl, 1) := by decide +kernel
theorem dX12_signsOf_27 : decode cX12_signsOf 27 = .ok (.ior, 1) := by decide +kernel
theorem dX12_signsOf_28 : decode cX12_signsOf 28 = .ok (.istore_n 2, 1) := by decide +kernel
theorem dX12_signsOf_29 : decode cX12_signsOf 29 = .ok (.iinc 3 1, 3) := by decide +kernel
theorem dX12_signsOf_32 : decode cX12_signsOf 32 = .ok (.goto (-28), 3) := by decide +kernel
theorem dX12_signsOf_35 : decode cX12_signsOf 35 = .ok (.iload_n 2, 1) := by decide +kernel
theorem dX12_signsOf_36 : decode cX12_signsOf 36 = .ok (.ireturn, 1) := by decide +kernel
theorem dX12_about_0 : decode cX12_about 0 = .ok (.aload_n 0, 1) := by decide +kernel
theorem dX12_about_1 : decode cX12_about 1 = .ok (.iload_n 1, 1) := by decide +kernel
theorem dX12_about_2 : decode cX12_about 2 = .ok (.invokevirtual 122, 3) := by decide +kernel
theorem dX12_about_5 : decode cX12_about 5 = .ok (.ifCond .ne 5, 3) := by decide +kernel
theorem dX12_about_8 : decode cX12_about 8 = .ok (.iconst (-1), 1) := by decide +kernel
theorem dX12_about_9 : decode cX12_about 9 = .ok (.ireturn, 1) := by decide +kernel
theorem dX12_about_10 : decode cX12_about 10 = .ok (.iload_n 2, 1) := by decide +kernel
theorem dX12_about_11 : decode cX12_about 11 = .ok (.i2l, 1) := by decide +kernel
theorem dX12_about_12 : decode cX12_about 12 = .ok (.ldc2_w 125, 3) := by decide +kernel
theorem dX12_about_15 : decode cX12_about 15 = .ok (.ldc2_w 127, 3) := by decide +kernel
theorem dX12_about_18 : decode cX12_about 18 = .ok (.invokestatic 80, 3) := by decide +kernel
theorem dX12_about_21 : decode cX12_about 21 = .ok (.ifCond .eq 35, 3) := by decide +kernel
theorem dX12_about_24 : decode cX12_about 24 = .ok (.iload_n 2, 1) := by decide +kernel
theorem dX12_about_25 : decode cX12_about 25 = .ok (.bipush 10, 2) := by decide +kernel
theorem dX12_about_27 : decode cX12_about 27 = .ok (.isub, 1) := by decide +kernel
theorem dX12_about_28 : decode cX12_about 28 = .ok (.aload_n 0, 1) := by decide +kernel
theorem dX12_about_29 : decode cX12_about 29 = .ok (.getfield 16, 3) := by decide +kernel
theorem dX12_about_32 : decode cX12_about 32 = .ok (.iload_n 1, 1) := by decide +kernel
theorem dX12_about_33 : decode cX12_about 33 = .ok (.iaload, 1) := by decide +kernel
theorem dX12_about_34 : decode cX12_about 34 = .ok (.if_icmp .ge 19, 3) := by decide +kernel
theorem dX12_about_37 : decode cX12_about 37 = .ok (.aload_n 0, 1) := by decide +kernel
theorem dX12_about_38 : decode cX12_about 38 = .ok (.getfield 7, 3) := by decide +kernel
theorem dX12_about_41 : decode cX12_about 41 = .ok (.iconst 5, 1) := by decide +kernel
theorem dX12_about_42 : decode cX12_about 42 = .ok (.iload_n 1, 1) := by decide +kernel
theorem dX12_about_43 : decode cX12_about 43 = .ok (.imul, 1) := by decide +kernel
theorem dX12_about_44 : decode cX12_about 44 = .ok (.iload_n 2, 1) := by decide +kernel
theorem dX12_about_45 : decode cX12_about 45 = .ok (.iadd, 1) := by decide +kernel
theorem dX12_about_46 : decode cX12_about 46 = .ok (.bipush 10, 2) := by decide +kernel
theorem dX12_about_48 : decode cX12_about 48 = .ok (.isub, 1) := by decide +kernel
theorem dX12_about_49 : decode cX12_about 49 = .ok (.iaload, 1) := by decide +kernel
theorem dX12_about_50 : decode cX12_about 50 = .ok (.goto 5, 3) := by decide +kernel
theorem dX12_about_53 : decode cX12_about 53 = .ok (.bipush (-6), 2) := by decide +kernel
theorem dX12_about_55 : decode cX12_about 55 = .ok (.ireturn, 1) := by decide +kernel
theorem dX12_about_56 : decode cX12_about 56 = .ok (.iload_n 2, 1) := by decide +kernel
theorem dX12_about_57 : decode cX12_about 57 = .ok (.i2l, 1) := by decide +kernel
theorem dX12_about_58 : decode cX12_about 58 = .ok (.ldc2_w 129, 3) := by decide +kernel
theorem dX12_about_61 : decode cX12_about 61 = .ok (.ldc2_w 131, 3) := by decide +kernel
theorem dX12_about_64 : decode cX12_about 64 = .ok (.invokestatic 80, 3) := by decide +kernel
theorem dX12_about_67 : decode cX12_about 67 = .ok (.ifCond .eq 35, 3) := by decide +kernel
theorem dX12_about_70 : decode cX12_about 70 = .ok (.iload_n 2, 1) := by decide +kernel
theorem dX12_about_71 : decode cX12_about 71 = .ok (.bipush 20, 2) := by decide +kernel
theorem dX12_about_73 : decode cX12_about 73 = .ok (.isub, 1) := by decide +kernel
theorem dX12_about_74 : decode cX12_about 74 = .ok (.aload_n 0, 1) := by decide +kernel
theorem dX12_about_75 : decode cX12_about 75 = .ok (.getfield 16, 3) := by decide +kernel
theorem dX12_about_78 : decode cX12_about 78 = .ok (.iload_n 1, 1) := by decide +kernel
theorem dX12_about_79 : decode cX12_about 79 = .ok (.iaload, 1) := by decide +kernel
theorem dX12_about_80 : decode cX12_about 80 = .ok (.if_icmp .ge 19, 3) := by decide +kernel
theorem dX12_about_83 : decode cX12_about 83 = .ok (.aload_n 0, 1) := by decide +kernel
theorem dX12_about_84 : decode cX12_about 84 = .ok (.getfield 13, 3) := by decide +kernel
theorem dX12_about_87 : decode cX12_about 87 = .ok (.iconst 5, 1) := by decide +kernel
theorem dX12_about_88 : decode cX12_about 88 = .ok (.iload_n 1, 1) := by decide +kernel
theorem dX12_about_89 : decode cX12_about 89 = .ok (.imul, 1) := by decide +kernel
theorem dX12_about_90 : decode cX12_about 90 = .ok (.iload_n 2, 1) := by decide +kernel
theorem dX12_about_91 : decode cX12_about 91 = .ok (.iadd, 1) := by decide +kernel
theorem dX12_about_92 : decode cX12_about 92 = .ok (.bipush 20, 2) := by decide +kernel
theorem dX12_about_94 : decode cX12_about 94 = .ok (.isub, 1) := by decide +kernel
theorem dX12_about_95 : decode cX12_about 95 = .ok (.iaload, 1) := by decide +kernel
theorem dX12_about_96 : decode cX12_about 96 = .ok (.goto 5, 3) := by decide +kernel
theorem dX12_about_99 : decode cX12_about 99 = .ok (.bipush (-6), 2) := by decide +kernel
theorem dX12_about_101 : decode cX12_about 101 = .ok (.ireturn, 1) := by decide +kernel
theorem dX12_about_102 : decode cX12_about 102 = .ok (.iload_n 2, 1) := by decide +kernel
theorem dX12_about_103 : decode cX12_about 103 = .ok (.tableswitch 67 0 3 #[29, 36, 43, 49], 29) := by decide +kernel
theorem dX12_about_132 : decode cX12_about 132 = .ok (.aload_n 0, 1) := by decide +kernel
theorem dX12_about_133 : decode cX12_about 133 = .ok (.getfield 16, 3) := by decide +kernel
theorem dX12_about_136 : decode cX12_about 136 = .ok (.iload_n 1, 1) := by decide +kernel
theorem dX12_about_137 : decode cX12_about 137 = .ok (.iaload, 1) := by decide +kernel
theorem dX12_about_138 : decode cX12_about 138 = .ok (.ireturn, 1) := by decide +kernel
theorem dX12_about_139 : decode cX12_about 139 = .ok (.aload_n 0, 1) := by decide +kernel
theorem dX12_about_140 : decode cX12_about 140 = .ok (.getfield 19, 3) := by decide +kernel
theorem dX12_about_143 : decode cX12_about 143 = .ok (.iload_n 1, 1) := by decide +kernel
theorem dX12_about_144 : decode cX12_about 144 = .ok (.iaload, 1) := by decide +kernel
theorem dX12_about_145 : decode cX12_about 145 = .ok (.ireturn, 1) := by decide +kernel
theorem dX12_about_146 : decode cX12_about 146 = .ok (.aload_n 0, 1) := by decide +kernel
theorem dX12_about_147 : decode cX12_about 147 = .ok (.iload_n 1, 1) := by decide +kernel
theorem dX12_about_148 : decode cX12_about 148 = .ok (.invokevirtual 133, 3) := by decide +kernel
theorem dX12_about_151 : decode cX12_about 151 = .ok (.ireturn, 1) := by decide +kernel
theorem dX12_about_152 : decode cX12_about 152 = .ok (.aload_n 0, 1) := by decide +kernel
theorem dX12_about_153 : decode cX12_about 153 = .ok (.invokevirtual 137, 3) := by decide +kernel
theorem dX12_about_156 : decode cX12_about 156 = .ok (.aload_n 0, 1) := by decide +kernel
theorem dX12_about_157 : decode cX12_about 157 = .ok (.iload_n 1, 1) := by decide +kernel
theorem dX12_about_158 : decode cX12_about 158 = .ok (.invokevirtual 140, 3) := by decide +kernel
theorem dX12_about_161 : decode cX12_about 161 = .ok (.ifCond .eq 7, 3) := by decide +kernel
theorem dX12_about_164 : decode cX12_about 164 = .ok (.iconst 1, 1) := by decide +kernel
theorem dX12_about_165 : decode cX12_about 165 = .ok (.goto 4, 3) := by decide +kernel
theorem dX12_about_168 : decode cX12_about 168 = .ok (.iconst 0, 1) := by decide +kernel
theorem dX12_about_169 : decode cX12_about 169 = .ok (.ireturn, 1) := by decide +kernel
theorem dX12_about_170 : decode cX12_about 170 = .ok (.bipush (-2), 2) := by decide +kernel
theorem dX12_about_172 : decode cX12_about 172 = .ok (.ireturn, 1) := by decide +kernel
theorem dX12_often_0 : decode cX12_often 0 = .ok (.aload_n 0, 1) := by decide +kernel
theorem dX12_often_1 : decode cX12_often 1 = .ok (.iload_n 1, 1) := by decide +kernel
theorem dX12_often_2 : decode cX12_often 2 = .ok (.invokevirtual 122, 3) := by decide +kernel
theorem dX12_often_5 : decode cX12_often 5 = .ok (.ifCond .ne 5, 3) := by decide +kernel
theorem dX12_often_8 : decode cX12_often 8 = .ok (.iconst (-1), 1) := by decide +kernel
theorem dX12_often_9 : decode cX12_often 9 = .ok (.ireturn, 1) := by decide +kernel
theorem dX12_often_10 : decode cX12_often 10 = .ok (.iload_n 2, 1) := by decide +kernel
theorem dX12_often_11 : decode cX12_often 11 = .ok (.invokestatic 110, 3) := by decide +kernel
theorem dX12_often_14 : decode cX12_often 14 = .ok (.ifCond .ne 6, 3) := by decide +kernel
theorem dX12_often_17 : decode cX12_often 17 = .ok (.bipush (-2), 2) := by decide +kernel
theorem dX12_often_19 : decode cX12_often 19 = .ok (.ireturn, 1) := by decide +kernel
theorem dX12_often_20 : decode cX12_often 20 = .ok (.aload_n 0, 1) := by decide +kernel
theorem dX12_often_21 : decode cX12_often 21 = .ok (.getfield 19, 3) := by decide +kernel
theorem dX12_often_24 : decode cX12_often 24 = .ok (.iload_n 1, 1) := by decide +kernel
theorem dX12_often_25 : decode cX12_often 25 = .ok (.iaload, 1) := by decide +kernel
theorem dX12_often_26 : decode cX12_often 26 = .ok (.istore_n 3, 1) := by decide +kernel
theorem dX12_often_27 : decode cX12_often 27 = .ok (.aload_n 0, 1) := by decide +kernel
theorem dX12_often_28 : decode cX12_often 28 = .ok (.getfield 19, 3) := by decide +kernel
theorem dX12_often_31 : decode cX12_often 31 = .ok (.iload_n 1, 1) := by decide +kernel
theorem dX12_often_32 : decode cX12_often 32 = .ok (.iload_n 2, 1) := by decide +kernel
theorem dX12_often_33 : decode cX12_often 33 = .ok (.iastore, 1) := by decide +kernel
theorem dX12_often_34 : decode cX12_often 34 = .ok (.iload_n 3, 1) := by decide +kernel
theorem dX12_often_35 : decode cX12_often 35 = .ok (.ireturn, 1) := by decide +kernel
theorem dX12_findCommon_0 : decode cX12_findCommon 0 = .ok (.iconst 0, 1) := by decide +kernel
theorem dX12_findCommon_1 : decode cX12_findCommon 1 = .ok (.istore_n 1, 1) := by decide +kernel
theorem dX12_findCommon_2 : decode cX12_findCommon 2 = .ok (.iload_n 1, 1) := by decide +kernel
theorem dX12_findCommon_3 : decode cX12_findCommon 3 = .ok (.bipush 100, 2) := by decide +kernel
theorem dX12_findCommon_5 : decode cX12_findCommon 5 = .ok (.if_icmp .ge 16, 3) := by decide +kernel
theorem dX12_findCommon_8 : decode cX12_findCommon 8 = .ok (.aload_n 0, 1) := by decide +kernel
theorem dX12_findCommon_9 : decode cX12_findCommon 9 = .ok (.getfield 25, 3) := by decide +kernel
theorem dX12_findCommon_12 : decode cX12_findCommon 12 = .ok (.iload_n 1, 1) := by decide +kernel
theorem dX12_findCommon_13 : decode cX12_findCommon 13 = .ok (.iconst 0, 1) := by decide +kernel
theorem dX12_findCommon_14 : decode cX12_findCommon 14 = .ok (.iastore, 1) := by decide +kernel
theorem dX12_findCommon_15 : decode cX12_findCommon 15 = .ok (.iinc 1 1, 3) := by decide +kernel
theorem dX12_findCommon_18 : decode cX12_findCommon 18 = .ok (.goto (-16), 3) := by decide +kernel
theorem dX12_findCommon_21 : decode cX12_findCommon 21 = .ok (.iconst 0, 1) := by decide +kernel
theorem dX12_findCommon_22 : decode cX12_findCommon 22 = .ok (.istore_n 1, 1) := by decide +kernel
theorem dX12_findCommon_23 : decode cX12_findCommon 23 = .ok (.iload_n 1, 1) := by decide +kernel
theorem dX12_findCommon_24 : decode cX12_findCommon 24 = .ok (.aload_n 0, 1) := by decide +kernel
theorem dX12_findCommon_25 : decode cX12_findCommon 25 = .ok (.getfield 105, 3) := by decide +kernel
theorem dX12_findCommon_28 : decode cX12_findCommon 28 = .ok (.if_icmp .ge 65, 3) := by decide +kernel
theorem dX12_findCommon_31 : decode cX12_findCommon 31 = .ok (.iconst 0, 1) := by decide +kernel
theorem dX12_findCommon_32 : decode cX12_findCommon 32 = .ok (.istore_n 2, 1) := by decide +kernel
theorem dX12_findCommon_33 : decode cX12_findCommon 33 = .ok (.iload_n 2, 1) := by decide +kernel
theorem dX12_findCommon_34 : decode cX12_findCommon 34 = .ok (.aload_n 0, 1) := by decide +kernel
theorem dX12_findCommon_35 : decode cX12_findCommon 35 = .ok (.getfield 16, 3) := by decide +kernel
theorem dX12_findCommon_38 : decode cX12_findCommon 38 = .ok (.iload_n 1, 1) := by decide +kernel
theorem dX12_findCommon_39 : decode cX12_findCommon 39 = .ok (.iaload, 1) := by decide +kernel
theorem dX12_findCommon_40 : decode cX12_findCommon 40 = .ok (.if_icmp .ge 47, 3) := by decide +kernel
theorem dX12_findCommon_43 : decode cX12_findCommon 43 = .ok (.aload_n 0, 1) := by decide +kernel
theorem dX12_findCommon_44 : decode cX12_findCommon 44 = .ok (.getfield 25, 3) := by decide +kernel
theorem dX12_findCommon_47 : decode cX12_findCommon 47 = .ok (.bipush 10, 2) := by decide +kernel
theorem dX12_findCommon_49 : decode cX12_findCommon 49 = .ok (.aload_n 0, 1) := by decide +kernel
theorem dX12_findCommon_50 : decode cX12_findCommon 50 = .ok (.getfield 7, 3) := by decide +kernel
theorem dX12_findCommon_53 : decode cX12_findCommon 53 = .ok (.iconst 5, 1) := by decide +kernel
theorem dX12_findCommon_54 : decode cX12_findCommon 54 = .ok (.iload_n 1, 1) := by decide +kernel
theorem dX12_findCommon_55 : decode cX12_findCommon 55 = .ok (.imul, 1) := by decide +kernel
theorem dX12_findCommon_56 : decode cX12_findCommon 56 = .ok (.iload_n 2, 1) := by decide +kernel
theorem dX12_findCommon_57 : decode cX12_findCommon 57 = .ok (.iadd, 1) := by decide +kernel
theorem dX12_findCommon_58 : decode cX12_findCommon 58 = .ok (.iaload, 1) := by decide +kernel
theorem dX12_findCommon_59 : decode cX12_findCommon 59 = .ok (.imul, 1) := by decide +kernel
theorem dX12_findCommon_60 : decode cX12_findCommon 60 = .ok (.aload_n 0, 1) := by decide +kernel
theorem dX12_findCommon_61 : decode cX12_findCommon 61 = .ok (.getfield 13, 3) := by decide +kernel
theorem dX12_findCommon_64 : decode cX12_findCommon 64 = .ok (.iconst 5, 1) := by decide +kernel
theorem dX12_findCommon_65 : decode cX12_findCommon 65 = .ok (.iload_n 1, 1) := by decide +kernel
theorem dX12_findCommon_66 : decode cX12_findCommon 66 = .ok (.imul, 1) := by decide +kernel
theorem dX12_findCommon_67 : decode cX12_findCommon 67 = .ok (.iload_n 2, 1) := by decide +kernel
theorem dX12_findCommon_68 : decode cX12_findCommon 68 = .ok (.iadd, 1) := by decide +kernel
theorem dX12_findCommon_69 : decode cX12_findCommon 69 = .ok (.iaload, 1) := by decide +kernel
theorem dX12_findCommon_70 : decode cX12_findCommon 70 = .ok (.iadd, 1) := by decide +kernel
theorem dX12_findCommon_71 : decode cX12_findCommon 71 = .ok (.dup2, 1) := by decide +kernel
theorem dX12_findCommon_72 : decode cX12_findCommon 72 = .ok (.iaload, 1) := by decide +kernel
theorem dX12_findCommon_73 : decode cX12_findCommon 73 = .ok (.aload_n 0, 1) := by decide +kernel
theorem dX12_findCommon_74 : decode cX12_findCommon 74 = .ok (.getfield 19, 3) := by decide +kernel
theorem dX12_findCommon_77 : decode cX12_findCommon 77 = .ok (.iload_n 1, 1) := by decide +kernel
theorem dX12_findCommon_78 : decode cX12_findCommon 78 = .ok (.iaload, 1) := by decide +kernel
theorem dX12_findCommon_79 : decode cX12_findCommon 79 = .ok (.iadd, 1) := by decide +kernel
theorem dX12_findCommon_80 : decode cX12_findCommon 80 = .ok (.iastore, 1) := by decide +kernel
theorem dX12_findCommon_81 : decode cX12_findCommon 81 = .ok (.iinc 2 1, 3) := by decide +kernel
theorem dX12_findCommon_84 : decode cX12_findCommon 84 = .ok (.goto (-51), 3) := by decide +kernel
theorem dX12_findCommon_87 : decode cX12_findCommon 87 = .ok (.iinc 1 1, 3) := by decide +kernel
theorem dX12_findCommon_90 : decode cX12_findCommon 90 = .ok (.goto (-67), 3) := by decide +kernel
theorem dX12_findCommon_93 : decode cX12_findCommon 93 = .ok (.iconst 0, 1) := by decide +kernel
theorem dX12_findCommon_94 : decode cX12_findCommon 94 = .ok (.istore_n 1, 1) := by decide +kernel
theorem dX12_findCommon_95 : decode cX12_findCommon 95 = .ok (.iload_n 1, 1) := by decide +kernel
theorem dX12_findCommon_96 : decode cX12_findCommon 96 = .ok (.bipush 10, 2) := by decide +kernel
theorem dX12_findCommon_98 : decode cX12_findCommon 98 = .ok (.if_icmp .ge 67, 3) := by decide +kernel
theorem dX12_findCommon_101 : decode cX12_findCommon 101 = .ok (.aload_n 0, 1) := by decide +kernel
theorem dX12_findCommon_102 : decode cX12_findCommon 102 = .ok (.getfield 28, 3) := by decide +kernel
theorem dX12_findCommon_105 : decode cX12_findCommon 105 = .ok (.iload_n 1, 1) := by decide +kernel
theorem dX12_findCommon_106 : decode cX12_findCommon 106 = .ok (.bipush (-6), 2) := by decide +kernel
theorem dX12_findCommon_108 : decode cX12_findCommon 108 = .ok (.iastore, 1) := by decide +kernel
theorem dX12_findCommon_109 : decode cX12_findCommon 109 = .ok (.iconst 0, 1) := by decide +kernel
theorem dX12_findCommon_110 : decode cX12_findCommon 110 = .ok (.istore_n 2, 1) := by decide +kernel
theorem dX12_findCommon_111 : decode cX12_findCommon 111 = .ok (.iconst 0, 1) := by decide +kernel
theorem dX12_findCommon_112 : decode cX12_findCommon 112 = .ok (.istore_n 3, 1) := by decide +kernel
theorem dX12_findCommon_113 : decode cX12_findCommon 113 = .ok (.iload_n 3, 1) := by decide +kernel
theorem dX12_findCommon_114 : decode cX12_findCommon 114 = .ok (.bipush 10, 2) := by decide +kernel
theorem dX12_findCommon_116 : decode cX12_findCommon 116 = .ok (.if_icmp .ge 43, 3) := by decide +kernel
theorem dX12_findCommon_119 : decode cX12_findCommon 119 = .ok (.aload_n 0, 1) := by decide +kernel
theorem dX12_findCommon_120 : decode cX12_findCommon 120 = .ok (.getfield 25, 3) := by decide +kernel
theorem dX12_findCommon_123 : decode cX12_findCommon 123 = .ok (.bipush 10, 2) := by decide +kernel
theorem dX12_findCommon_125 : decode cX12_findCommon 125 = .ok (.iload_n 1, 1) := by decide +kernel
theorem dX12_findCommon_126 : decode cX12_findCommon 126 = .ok (.imul, 1) := by decide +kernel
theorem dX12_findCommon_127 : decode cX12_findCommon 127 = .ok (.iload_n 3, 1) := by decide +kernel
theorem dX12_findCommon_128 : decode cX12_findCommon 128 = .ok (.iadd, 1) := by decide +kernel
theorem dX12_findCommon_129 : decode cX12_findCommon 129 = .ok (.iaload, 1) := by decide +kernel
theorem dX12_findCommon_130 : decode cX12_findCommon 130 = .ok (.iload_n 2, 1) := by decide +kernel
theorem dX12_findCommon_131 : decode cX12_findCommon 131 = .ok (.if_icmp .le 22, 3) := by decide +kernel
theorem dX12_findCommon_134 : decode cX12_findCommon 134 = .ok (.aload_n 0, 1) := by decide +kernel
theorem dX12_findCommon_135 : decode cX12_findCommon 135 = .ok (.getfield 28, 3) := by decide +kernel
theorem dX12_findCommon_138 : decode cX12_findCommon 138 = .ok (.iload_n 1, 1) := by decide +kernel
theorem dX12_findCommon_139 : decode cX12_findCommon 139 = .ok (.iload_n 3, 1) := by decide +kernel
theorem dX12_findCommon_140 : decode cX12_findCommon 140 = .ok (.iastore, 1) := by decide +kernel
theorem dX12_findCommon_141 : decode cX12_findCommon 141 = .ok (.aload_n 0, 1) := by decide +kernel
theorem dX12_findCommon_142 : decode cX12_findCommon 142 = .ok (.getfield 25, 3) := by decide +kernel
theorem dX12_findCommon_145 : decode cX12_findCommon 145 = .ok (.bipush 10, 2) := by decide +kernel
theorem dX12_findCommon_147 : decode cX12_findCommon 147 = .ok (.iload_n 1, 1) := by decide +kernel
theorem dX12_findCommon_148 : decode cX12_findCommon 148 = .ok (.imul, 1) := by decide +kernel
theorem dX12_findCommon_149 : decode cX12_findCommon 149 = .ok (.iload_n 3, 1) := by decide +kernel
theorem dX12_findCommon_150 : decode cX12_findCommon 150 = .ok (.iadd, 1) := by decide +kernel
theorem dX12_findCommon_151 : decode cX12_findCommon 151 = .ok (.iaload, 1) := by decide +kernel
theorem dX12_findCommon_152 : decode cX12_findCommon 152 = .ok (.istore_n 2, 1) := by decide +kernel
theorem dX12_findCommon_153 : decode cX12_findCommon 153 = .ok (.iinc 3 1, 3) := by decide +kernel
theorem dX12_findCommon_156 : decode cX12_findCommon 156 = .ok (.goto (-43), 3) := by decide +kernel
theorem dX12_findCommon_159 : decode cX12_findCommon 159 = .ok (.iinc 1 1, 3) := by decide +kernel
theorem dX12_findCommon_162 : decode cX12_findCommon 162 = .ok (.goto (-67), 3) := by decide +kernel
theorem dX12_findCommon_165 : decode cX12_findCommon 165 = .ok (.iconst 0, 1) := by decide +kernel
theorem dX12_findCommon_166 : decode cX12_findCommon 166 = .ok (.istore_n 1, 1) := by decide +kernel
theorem dX12_findCommon_167 : decode cX12_findCommon 167 = .ok (.iload_n 1, 1) := by decide +kernel
theorem dX12_findCommon_168 : decode cX12_findCommon 168 = .ok (.aload_n 0, 1) := by decide +kernel
theorem dX12_findCommon_169 : decode cX12_findCommon 169 = .ok (.getfield 105, 3) := by decide +kernel
theorem dX12_findCommon_172 : decode cX12_findCommon 172 = .ok (.if_icmp .ge 78, 3) := by decide +kernel
theorem dX12_findCommon_175 : decode cX12_findCommon 175 = .ok (.aload_n 0, 1) := by decide +kernel
theorem dX12_findCommon_176 : decode cX12_findCommon 176 = .ok (.getfield 31, 3) := by decide +kernel
theorem dX12_findCommon_179 : decode cX12_findCommon 179 = .ok (.iload_n 1, 1) := by decide +kernel
theorem dX12_findCommon_180 : decode cX12_findCommon 180 = .ok (.iconst 1, 1) := by decide +kernel
theorem dX12_findCommon_181 : decode cX12_findCommon 181 = .ok (.iastore, 1) := by decide +kernel
theorem dX12_findCommon_182 : decode cX12_findCommon 182 = .ok (.iconst 0, 1) := by decide +kernel
theorem dX12_findCommon_183 : decode cX12_findCommon 183 = .ok (.istore_n 2, 1) := by decide +kernel
theorem dX12_findCommon_184 : decode cX12_findCommon 184 = .ok (.iload_n 2, 1) := by decide +kernel
theorem dX12_findCommon_185 : decode cX12_findCommon 185 = .ok (.aload_n 0, 1) := by decide +kernel
theorem dX12_findCommon_186 : decode cX12_findCommon 186 = .ok (.getfield 16, 3) := by decide +kernel
theorem dX12_findCommon_189 : decode cX12_findCommon 189 = .ok (.iload_n 1, 1) := by decide +kernel
theorem dX12_findCommon_190 : decode cX12_findCommon 190 = .ok (.iaload, 1) := by decide +kernel
theorem dX12_findCommon_191 : decode cX12_findCommon 191 = .ok (.if_icmp .ge 53, 3) := by decide +kernel
theorem dX12_findCommon_194 : decode cX12_findCommon 194 = .ok (.aload_n 0, 1) := by decide +kernel
theorem dX12_findCommon_195 : decode cX12_findCommon 195 = .ok (.getfield 31, 3) := by decide +kernel
theorem dX12_findCommon_198 : decode cX12_findCommon 198 = .ok (.iload_n 1, 1) := by decide +kernel
theorem dX12_findCommon_199 : decode cX12_findCommon 199 = .ok (.aload_n 0, 1) := by decide +kernel
theorem dX12_findCommon_200 : decode cX12_findCommon 200 = .ok (.getfield 28, 3) := by decide +kernel
theorem dX12_findCommon_203 : decode cX12_findCommon 203 = .ok (.aload_n 0, 1) := by decide +kernel
theorem dX12_findCommon_204 : decode cX12_findCommon 204 = .ok (.getfield 7, 3) := by decide +kernel
theorem dX12_findCommon_207 : decode cX12_findCommon 207 = .ok (.iconst 5, 1) := by decide +kernel
theorem dX12_findCommon_208 : decode cX12_findCommon 208 = .ok (.iload_n 1, 1) := by decide +kernel
theorem dX12_findCommon_209 : decode cX12_findCommon 209 = .ok (.imul, 1) := by decide +kernel
theorem dX12_findCommon_210 : decode cX12_findCommon 210 = .ok (.iload_n 2, 1) := by decide +kernel
theorem dX12_findCommon_211 : decode cX12_findCommon 211 = .ok (.iadd, 1) := by decide +kernel
theorem dX12_findCommon_212 : decode cX12_findCommon 212 = .ok (.iaload, 1) := by decide +kernel
theorem dX12_findCommon_213 : decode cX12_findCommon 213 = .ok (.iaload, 1) := by decide +kernel
theorem dX12_findCommon_214 : decode cX12_findCommon 214 = .ok (.aload_n 0, 1) := by decide +kernel
theorem dX12_findCommon_215 : decode cX12_findCommon 215 = .ok (.getfield 13, 3) := by decide +kernel
theorem dX12_findCommon_218 : decode cX12_findCommon 218 = .ok (.iconst 5, 1) := by decide +kernel
theorem dX12_findCommon_219 : decode cX12_findCommon 219 = .ok (.iload_n 1, 1) := by decide +kernel
theorem dX12_findCommon_220 : decode cX12_findCommon 220 = .ok (.imul, 1) := by decide +kernel
theorem dX12_findCommon_221 : decode cX12_findCommon 221 = .ok (.iload_n 2, 1) := by decide +kernel
theorem dX12_findCommon_222 : decode cX12_findCommon 222 = .ok (.iadd, 1) := by decide +kernel
theorem dX12_findCommon_223 : decode cX12_findCommon 223 = .ok (.iaload, 1) := by decide +kernel
theorem dX12_findCommon_224 : decode cX12_findCommon 224 = .ok (.if_icmp .ne 12, 3) := by decide +kernel
theorem dX12_findCommon_227 : decode cX12_findCommon 227 = .ok (.aload_n 0, 1) := by decide +kernel
theorem dX12_findCommon_228 : decode cX12_findCommon 228 = .ok (.getfield 31, 3) := by decide +kernel
theorem dX12_findCommon_231 : decode cX12_findCommon 231 = .ok (.iload_n 1, 1) := by decide +kernel
theorem dX12_findCommon_232 : decode cX12_findCommon 232 = .ok (.iaload, 1) := by decide +kernel
theorem dX12_findCommon_233 : decode cX12_findCommon 233 = .ok (.goto 4, 3) := by decide +kernel
theorem dX12_findCommon_236 : decode cX12_findCommon 236 = .ok (.iconst 0, 1) := by decide +kernel
theorem dX12_findCommon_237 : decode cX12_findCommon 237 = .ok (.iastore, 1) := by decide +kernel
theorem dX12_findCommon_238 : decode cX12_findCommon 238 = .ok (.iinc 2 1, 3) := by decide +kernel
theorem dX12_findCommon_241 : decode cX12_findCommon 241 = .ok (.goto (-57), 3) := by decide +kernel
theorem dX12_findCommon_244 : decode cX12_findCommon 244 = .ok (.iinc 1 1, 3) := by decide +kernel
theorem dX12_findCommon_247 : decode cX12_findCommon 247 = .ok (.goto (-80), 3) := by decide +kernel
theorem dX12_findCommon_250 : decode cX12_findCommon 250 = .ok (.return_, 1) := by decide +kernel
theorem dX12_isRegular_0 : decode cX12_isRegular 0 = .ok (.aload_n 0, 1) := by decide +kernel
theorem dX12_isRegular_1 : decode cX12_isRegular 1 = .ok (.getfield 31, 3) := by decide +kernel
theorem dX12_isRegular_4 : decode cX12_isRegular 4 = .ok (.iload_n 1, 1) := by decide +kernel
theorem dX12_isRegular_5 : decode cX12_isRegular 5 = .ok (.iaload, 1) := by decide +kernel
theorem dX12_isRegular_6 : decode cX12_isRegular 6 = .ok (.iconst 1, 1) := by decide +kernel
theorem dX12_isRegular_7 : decode cX12_isRegular 7 = .ok (.if_icmp .ne 7, 3) := by decide +kernel
theorem dX12_isRegular_10 : decode cX12_isRegular 10 = .ok (.iconst 1, 1) := by decide +kernel
theorem dX12_isRegular_11 : decode cX12_isRegular 11 = .ok (.goto 4, 3) := by decide +kernel
theorem dX12_isRegular_14 : decode cX12_isRegular 14 = .ok (.iconst 0, 1) := by decide +kernel
theorem dX12_isRegular_15 : decode cX12_isRegular 15 = .ok (.ireturn, 1) := by decide +kernel
theorem dX12_allOf_0 : decode cX12_allOf 0 = .ok (.iconst 0, 1) := by decide +kernel
theorem dX12_allOf_1 : decode cX12_allOf 1 = .ok (.istore_n 2, 1) := by decide +kernel
theorem dX12_allOf_2 : decode cX12_allOf 2 = .ok (.iconst 0, 1) := by decide +kernel
theorem dX12_allOf_3 : decode cX12_allOf 3 = .ok (.istore_n 3, 1) := by decide +kernel
theorem dX12_allOf_4 : decode cX12_allOf 4 = .ok (.iload_n 3, 1) := by decide +kernel
theorem dX12_allOf_5 : decode cX12_allOf 5 = .ok (.bipush 10, 2) := by decide +kernel
theorem dX12_allOf_7 : decode cX12_allOf 7 = .ok (.if_icmp .ge 23, 3) := by decide +kernel
theorem dX12_allOf_10 : decode cX12_allOf 10 = .ok (.iload_n 2, 1) := by decide +kernel
theorem dX12_allOf_11 : decode cX12_allOf 11 = .ok (.aload_n 0, 1) := by decide +kernel
theorem dX12_allOf_12 : decode cX12_allOf 12 = .ok (.getfield 25, 3) := by decide +kernel
theorem dX12_allOf_15 : decode cX12_allOf 15 = .ok (.bipush 10, 2) := by decide +kernel
theorem dX12_allOf_17 : decode cX12_allOf 17 = .ok (.iload_n 1, 1) := by decide +kernel
theorem dX12_allOf_18 : decode cX12_allOf 18 = .ok (.imul, 1) := by decide +kernel
theorem dX12_allOf_19 : decode cX12_allOf 19 = .ok (.iload_n 3, 1) := by decide +kernel
theorem dX12_allOf_20 : decode cX12_allOf 20 = .ok (.iadd, 1) := by decide +kernel
theorem dX12_allOf_21 : decode cX12_allOf 21 = .ok (.iaload, 1) := by decide +kernel
theorem dX12_allOf_22 : decode cX12_allOf 22 = .ok (.iadd, 1) := by decide +kernel
theorem dX12_allOf_23 : decode cX12_allOf 23 = .ok (.istore_n 2, 1) := by decide +kernel
theorem dX12_allOf_24 : decode cX12_allOf 24 = .ok (.iinc 3 1, 3) := by decide +kernel
theorem dX12_allOf_27 : decode cX12_allOf 27 = .ok (.goto (-23), 3) := by decide +kernel
theorem dX12_allOf_30 : decode cX12_allOf 30 = .ok (.iload_n 2, 1) := by decide +kernel
theorem dX12_allOf_31 : decode cX12_allOf 31 = .ok (.ireturn, 1) := by decide +kernel
theorem dX12_has_0 : decode cX12_has 0 = .ok (.iload_n 1, 1) := by decide +kernel
theorem dX12_has_1 : decode cX12_has 1 = .ok (.invokestatic 143, 3) := by decide +kernel
theorem dX12_has_4 : decode cX12_has 4 = .ok (.ifCond .ne 7, 3) := by decide +kernel
theorem dX12_has_7 : decode cX12_has 7 = .ok (.ldc2_w 146, 3) := by decide +kernel
theorem dX12_has_10 : decode cX12_has 10 = .ok (.lreturn, 1) := by decide +kernel
theorem dX12_has_11 : decode cX12_has 11 = .ok (.iload_n 2, 1) := by decide +kernel
theorem dX12_has_12 : decode cX12_has 12 = .ok (.i2l, 1) := by decide +kernel
theorem dX12_has_13 : decode cX12_has 13 = .ok (.lconst 0, 1) := by decide +kernel
theorem dX12_has_14 : decode cX12_has 14 = .ok (.ldc2_w 78, 3) := by decide +kernel
theorem dX12_has_17 : decode cX12_has 17 = .ok (.invokestatic 80, 3) := by decide +kernel
theorem dX12_has_20 : decode cX12_has 20 = .ok (.ifCond .eq 10, 3) := by decide +kernel
theorem dX12_has_23 : decode cX12_has 23 = .ok (.iload_n 3, 1) := by decide +kernel
theorem dX12_has_24 : decode cX12_has 24 = .ok (.invokestatic 148, 3) := by decide +kernel
theorem dX12_has_27 : decode cX12_has 27 = .ok (.ifCond .ne 7, 3) := by decide +kernel
theorem dX12_has_30 : decode cX12_has 30 = .ok (.ldc2_w 151, 3) := by decide +kernel
theorem dX12_has_33 : decode cX12_has 33 = .ok (.lreturn, 1) := by decide +kernel
theorem dX12_has_34 : decode cX12_has 34 = .ok (.aload_n 0, 1) := by decide +kernel
theorem dX12_has_35 : decode cX12_has 35 = .ok (.invokevirtual 137, 3) := by decide +kernel
theorem dX12_has_38 : decode cX12_has 38 = .ok (.aload_n 0, 1) := by decide +kernel
theorem dX12_has_39 : decode cX12_has 39 = .ok (.getfield 25, 3) := by decide +kernel
theorem dX12_has_42 : decode cX12_has 42 = .ok (.bipush 10, 2) := by decide +kernel
theorem dX12_has_44 : decode cX12_has 44 = .ok (.iload_n 1, 1) := by decide +kernel
theorem dX12_has_45 : decode cX12_has 45 = .ok (.imul, 1) := by decide +kernel
theorem dX12_has_46 : decode cX12_has 46 = .ok (.iload_n 2, 1) := by decide +kernel
theorem dX12_has_47 : decode cX12_has 47 = .ok (.iadd, 1) := by decide +kernel
theorem dX12_has_48 : decode cX12_has 48 = .ok (.iaload, 1) := by decide +kernel
theorem dX12_has_49 : decode cX12_has 49 = .ok (.i2l, 1) := by decide +kernel
theorem dX12_has_50 : decode cX12_has 50 = .ok (.aload_n 0, 1) := by decide +kernel
theorem dX12_has_51 : decode cX12_has 51 = .ok (.iload_n 1, 1) := by decide +kernel
theorem dX12_has_52 : decode cX12_has 52 = .ok (.invokevirtual 153, 3) := by decide +kernel
theorem dX12_has_55 : decode cX12_has 55 = .ok (.i2l, 1) := by decide +kernel
theorem dX12_has_56 : decode cX12_has 56 = .ok (.iload_n 3, 1) := by decide +kernel
theorem dX12_has_57 : decode cX12_has 57 = .ok (.invokestatic 156, 3) := by decide +kernel
theorem dX12_has_60 : decode cX12_has 60 = .ok (.lreturn, 1) := by decide +kernel
theorem dX12_common_0 : decode cX12_common 0 = .ok (.iload_n 1, 1) := by decide +kernel
theorem dX12_common_1 : decode cX12_common 1 = .ok (.invokestatic 143, 3) := by decide +kernel
theorem dX12_common_4 : decode cX12_common 4 = .ok (.ifCond .ne 5, 3) := by decide +kernel
theorem dX12_common_7 : decode cX12_common 7 = .ok (.iconst (-1), 1) := by decide +kernel
theorem dX12_common_8 : decode cX12_common 8 = .ok (.ireturn, 1) := by decide +kernel
theorem dX12_common_9 : decode cX12_common 9 = .ok (.aload_n 0, 1) := by decide +kernel
theorem dX12_common_10 : decode cX12_common 10 = .ok (.invokevirtual 137, 3) := by decide +kernel
theorem dX12_common_13 : decode cX12_common 13 = .ok (.aload_n 0, 1) := by decide +kernel
theorem dX12_common_14 : decode cX12_common 14 = .ok (.getfield 28, 3) := by decide +kernel
theorem dX12_common_17 : decode cX12_common 17 = .ok (.iload_n 1, 1) := by decide +kernel
theorem dX12_common_18 : decode cX12_common 18 = .ok (.iaload, 1) := by decide +kernel
theorem dX12_common_19 : decode cX12_common 19 = .ok (.ireturn, 1) := by decide +kernel
theorem dX12_ruled_0 : decode cX12_ruled 0 = .ok (.iload_n 1, 1) := by decide +kernel
theorem dX12_ruled_1 : decode cX12_ruled 1 = .ok (.invokestatic 148, 3) := by decide +kernel
theorem dX12_ruled_4 : decode cX12_ruled 4 = .ok (.ifCond .ne 7, 3) := by decide +kernel
theorem dX12_ruled_7 : decode cX12_ruled 7 = .ok (.ldc2_w 151, 3) := by decide +kernel
theorem dX12_ruled_10 : decode cX12_ruled 10 = .ok (.lreturn, 1) := by decide +kernel
theorem dX12_ruled_11 : decode cX12_ruled 11 = .ok (.aload_n 0, 1) := by decide +kernel
theorem dX12_ruled_12 : decode cX12_ruled 12 = .ok (.invokevirtual 137, 3) := by decide +kernel
theorem dX12_ruled_15 : decode cX12_ruled 15 = .ok (.lconst 0, 1) := by decide +kernel
theorem dX12_ruled_16 : decode cX12_ruled 16 = .ok (.lstore_n 2, 1) := by decide +kernel
theorem dX12_ruled_17 : decode cX12_ruled 17 = .ok (.lconst 0, 1) := by decide +kernel
theorem dX12_ruled_18 : decode cX12_ruled 18 = .ok (.lstore 4, 2) := by decide +kernel
theorem dX12_ruled_20 : decode cX12_ruled 20 = .ok (.iconst 0, 1) := by decide +kernel
theorem dX12_ruled_21 : decode cX12_ruled 21 = .ok (.istore 6, 2) := by decide +kernel
theorem dX12_ruled_23 : decode cX12_ruled 23 = .ok (.iload 6, 2) := by decide +kernel
theorem dX12_ruled_25 : decode cX12_ruled 25 = .ok (.bipush 10, 2) := by decide +kernel
theorem dX12_ruled_27 : decode cX12_ruled 27 = .ok (.if_icmp .ge 57, 3) := by decide +kernel
theorem dX12_ruled_30 : decode cX12_ruled 30 = .ok (.lload_n 2, 1) := by decide +kernel
theorem dX12_ruled_31 : decode cX12_ruled 31 = .ok (.aload_n 0, 1) := by decide +kernel
theorem dX12_ruled_32 : decode cX12_ruled 32 = .ok (.getfield 28, 3) := by decide +kernel
theorem dX12_ruled_35 : decode cX12_ruled 35 = .ok (.iload 6, 2) := by decide +kernel
theorem dX12_ruled_37 : decode cX12_ruled 37 = .ok (.iaload, 1) := by decide +kernel
theorem dX12_ruled_38 : decode cX12_ruled 38 = .ok (.ifCond .ge 7, 3) := by decide +kernel
theorem dX12_ruled_41 : decode cX12_ruled 41 = .ok (.lconst 0, 1) := by decide +kernel
theorem dX12_ruled_42 : decode cX12_ruled 42 = .ok (.goto 22, 3) := by decide +kernel
theorem dX12_ruled_45 : decode cX12_ruled 45 = .ok (.aload_n 0, 1) := by decide +kernel
theorem dX12_ruled_46 : decode cX12_ruled 46 = .ok (.getfield 25, 3) := by decide +kernel
theorem dX12_ruled_49 : decode cX12_ruled 49 = .ok (.bipush 10, 2) := by decide +kernel
theorem dX12_ruled_51 : decode cX12_ruled 51 = .ok (.iload 6, 2) := by decide +kernel
theorem dX12_ruled_53 : decode cX12_ruled 53 = .ok (.imul, 1) := by decide +kernel
theorem dX12_ruled_54 : decode cX12_ruled 54 = .ok (.aload_n 0, 1) := by decide +kernel
theorem dX12_ruled_55 : decode cX12_ruled 55 = .ok (.getfield 28, 3) := by decide +kernel
theorem dX12_ruled_58 : decode cX12_ruled 58 = .ok (.iload 6, 2) := by decide +kernel
theorem dX12_ruled_60 : decode cX12_ruled 60 = .ok (.iaload, 1) := by decide +kernel
theorem dX12_ruled_61 : decode cX12_ruled 61 = .ok (.iadd, 1) := by decide +kernel
theorem dX12_ruled_62 : decode cX12_ruled 62 = .ok (.iaload, 1) := by decide +kernel
theorem dX12_ruled_63 : decode cX12_ruled 63 = .ok (.i2l, 1) := by decide +kernel
theorem dX12_ruled_64 : decode cX12_ruled 64 = .ok (.ladd, 1) := by decide +kernel
theorem dX12_ruled_65 : decode cX12_ruled 65 = .ok (.lstore_n 2, 1) := by decide +kernel
theorem dX12_ruled_66 : decode cX12_ruled 66 = .ok (.lload 4, 2) := by decide +kernel
theorem dX12_ruled_68 : decode cX12_ruled 68 = .ok (.aload_n 0, 1) := by decide +kernel
theorem dX12_ruled_69 : decode cX12_ruled 69 = .ok (.iload 6, 2) := by decide +kernel
theorem dX12_ruled_71 : decode cX12_ruled 71 = .ok (.invokevirtual 153, 3) := by decide +kernel
theorem dX12_ruled_74 : decode cX12_ruled 74 = .ok (.i2l, 1) := by decide +kernel
theorem dX12_ruled_75 : decode cX12_ruled 75 = .ok (.ladd, 1) := by decide +kernel
theorem dX12_ruled_76 : decode cX12_ruled 76 = .ok (.lstore 4, 2) := by decide +kernel
theorem dX12_ruled_78 : decode cX12_ruled 78 = .ok (.iinc 6 1, 3) := by decide +kernel
theorem dX12_ruled_81 : decode cX12_ruled 81 = .ok (.goto (-58), 3) := by decide +kernel
theorem dX12_ruled_84 : decode cX12_ruled 84 = .ok (.lload_n 2, 1) := by decide +kernel
theorem dX12_ruled_85 : decode cX12_ruled 85 = .ok (.lload 4, 2) := by decide +kernel
theorem dX12_ruled_87 : decode cX12_ruled 87 = .ok (.iload_n 1, 1) := by decide +kernel
theorem dX12_ruled_88 : decode cX12_ruled 88 = .ok (.invokestatic 156, 3) := by decide +kernel
theorem dX12_ruled_91 : decode cX12_ruled 91 = .ok (.lreturn, 1) := by decide +kernel
theorem dX12_knows_0 : decode cX12_knows 0 = .ok (.iload_n 1, 1) := by decide +kernel
theorem dX12_knows_1 : decode cX12_knows 1 = .ok (.invokestatic 160, 3) := by decide +kernel
theorem dX12_knows_4 : decode cX12_knows 4 = .ok (.ifCond .ne 5, 3) := by decide +kernel
theorem dX12_knows_7 : decode cX12_knows 7 = .ok (.iconst (-1), 1) := by decide +kernel
theorem dX12_knows_8 : decode cX12_knows 8 = .ok (.ireturn, 1) := by decide +kernel
theorem dX12_knows_9 : decode cX12_knows 9 = .ok (.iload_n 2, 1) := by decide +kernel
theorem dX12_knows_10 : decode cX12_knows 10 = .ok (.invokestatic 148, 3) := by decide +kernel
theorem dX12_knows_13 : decode cX12_knows 13 = .ok (.ifCond .eq 31, 3) := by decide +kernel
theorem dX12_knows_16 : decode cX12_knows 16 = .ok (.iload_n 3, 1) := by decide +kernel
theorem dX12_knows_17 : decode cX12_knows 17 = .ok (.i2l, 1) := by decide +kernel
theorem dX12_knows_18 : decode cX12_knows 18 = .ok (.lconst 0, 1) := by decide +kernel
theorem dX12_knows_19 : decode cX12_knows 19 = .ok (.iload_n 2, 1) := by decide +kernel
theorem dX12_knows_20 : decode cX12_knows 20 = .ok (.ifCond .ne 9, 3) := by decide +kernel
theorem dX12_knows_23 : decode cX12_knows 23 = .ok (.ldc2_w 163, 3) := by decide +kernel
theorem dX12_knows_26 : decode cX12_knows 26 = .ok (.goto 12, 3) := by decide +kernel
theorem dX12_knows_29 : decode cX12_knows 29 = .ok (.iconst 1, 1) := by decide +kernel
theorem dX12_knows_30 : decode cX12_knows 30 = .ok (.aload_n 0, 1) := by decide +kernel
theorem dX12_knows_31 : decode cX12_knows 31 = .ok (.getfield 105, 3) := by decide +kernel
theorem dX12_knows_34 : decode cX12_knows 34 = .ok (.ishl, 1) := by decide +kernel
theorem dX12_knows_35 : decode cX12_knows 35 = .ok (.iconst 1, 1) := by decide +kernel
theorem dX12_knows_36 : decode cX12_knows 36 = .ok (.isub, 1) := by decide +kernel
theorem dX12_knows_37 : decode cX12_knows 37 = .ok (.i2l, 1) := by decide +kernel
theorem dX12_knows_38 : decode cX12_knows 38 = .ok (.invokestatic 80, 3) := by decide +kernel
theorem dX12_knows_41 : decode cX12_knows 41 = .ok (.ifCond .ne 6, 3) := by decide +kernel
theorem dX12_knows_44 : decode cX12_knows 44 = .ok (.bipush (-2), 2) := by decide +kernel
theorem dX12_knows_46 : decode cX12_knows 46 = .ok (.ireturn, 1) := by decide +kernel
theorem dX12_knows_47 : decode cX12_knows 47 = .ok (.iload_n 2, 1) := by decide +kernel
theorem dX12_knows_48 : decode cX12_knows 48 = .ok (.ifCond .ne 12, 3) := by decide +kernel
theorem dX12_knows_51 : decode cX12_knows 51 = .ok (.aload_n 0, 1) := by decide +kernel
theorem dX12_knows_52 : decode cX12_knows 52 = .ok (.getfield 34, 3) := by decide +kernel
theorem dX12_knows_55 : decode cX12_knows 55 = .ok (.iload_n 1, 1) := by decide +kernel
theorem dX12_knows_56 : decode cX12_knows 56 = .ok (.iaload, 1) := by decide +kernel
theorem dX12_knows_57 : decode cX12_knows 57 = .ok (.goto 9, 3) := by decide +kernel
theorem dX12_knows_60 : decode cX12_knows 60 = .ok (.aload_n 0, 1) := by decide +kernel
theorem dX12_knows_61 : decode cX12_knows 61 = .ok (.getfield 37, 3) := by decide +kernel
theorem dX12_knows_64 : decode cX12_knows 64 = .ok (.iload_n 1, 1) := by decide +kernel
theorem dX12_knows_65 : decode cX12_knows 65 = .ok (.iaload, 1) := by decide +kernel
theorem dX12_knows_66 : decode cX12_knows 66 = .ok (.istore 4, 2) := by decide +kernel
theorem dX12_knows_68 : decode cX12_knows 68 = .ok (.iload_n 2, 1) := by decide +kernel
theorem dX12_knows_69 : decode cX12_knows 69 = .ok (.ifCond .ne 13, 3) := by decide +kernel
theorem dX12_knows_72 : decode cX12_knows 72 = .ok (.aload_n 0, 1) := by decide +kernel
theorem dX12_knows_73 : decode cX12_knows 73 = .ok (.getfield 34, 3) := by decide +kernel
theorem dX12_knows_76 : decode cX12_knows 76 = .ok (.iload_n 1, 1) := by decide +kernel
theorem dX12_knows_77 : decode cX12_knows 77 = .ok (.iload_n 3, 1) := by decide +kernel
theorem dX12_knows_78 : decode cX12_knows 78 = .ok (.iastore, 1) := by decide +kernel
theorem dX12_knows_79 : decode cX12_knows 79 = .ok (.goto 10, 3) := by decide +kernel
theorem dX12_knows_82 : decode cX12_knows 82 = .ok (.aload_n 0, 1) := by decide +kernel
theorem dX12_knows_83 : decode cX12_knows 83 = .ok (.getfield 37, 3) := by decide +kernel
theorem dX12_knows_86 : decode cX12_knows 86 = .ok (.iload_n 1, 1) := by decide +kernel
theorem dX12_knows_87 : decode cX12_knows 87 = .ok (.iload_n 3, 1) := by decide +kernel
theorem dX12_knows_88 : decode cX12_knows 88 = .ok (.iastore, 1) := by decide +kernel
theorem dX12_knows_89 : decode cX12_knows 89 = .ok (.iload 4, 2) := by decide +kernel
theorem dX12_knows_91 : decode cX12_knows 91 = .ok (.ireturn, 1) := by decide +kernel
theorem dX12_mix_0 : decode cX12_mix 0 = .ok (.iload_n 2, 1) := by decide +kernel
theorem dX12_mix_1 : decode cX12_mix 1 = .ok (.iconst (-1), 1) := by decide +kernel
theorem dX12_mix_2 : decode cX12_mix 2 = .ok (.if_icmp .ne 12, 3) := by decide +kernel
theorem dX12_mix_5 : decode cX12_mix 5 = .ok (.iload_n 3, 1) := by decide +kernel
theorem dX12_mix_6 : decode cX12_mix 6 = .ok (.iconst (-1), 1) := by decide +kernel
theorem dX12_mix_7 : decode cX12_mix 7 = .ok (.if_icmp .ne 7, 3) := by decide +kernel
theorem dX12_mix_10 : decode cX12_mix 10 = .ok (.iconst 1, 1) := by decide +kernel
theorem dX12_mix_11 : decode cX12_mix 11 = .ok (.goto 4, 3) := by decide +kernel
theorem dX12_mix_14 : decode cX12_mix 14 = .ok (.iconst 0, 1) := by decide +kernel
theorem dX12_mix_15 : decode cX12_mix 15 = .ok (.istore 4, 2) := by decide +kernel
theorem dX12_mix_17 : decode cX12_mix 17 = .ok (.iload_n 1, 1) := by decide +kernel
theorem dX12_mix_18 : decode cX12_mix 18 = .ok (.invokestatic 160, 3) := by decide +kernel
theorem dX12_mix_21 : decode cX12_mix 21 = .ok (.ifCond .eq 27, 3) := by decide +kernel
theorem dX12_mix_24 : decode cX12_mix 24 = .ok (.iload 4, 2) := by decide +kernel
theorem dX12_mix_26 : decode cX12_mix 26 = .ok (.ifCond .ne 24, 3) := by decide +kernel
theorem dX12_mix_29 : decode cX12_mix 29 = .ok (.iload_n 2, 1) := by decide +kernel
theorem dX12_mix_30 : decode cX12_mix 30 = .ok (.invokestatic 143, 3) := by decide +kernel
theorem dX12_mix_33 : decode cX12_mix 33 = .ok (.ifCond .eq 15, 3) := by decide +kernel
theorem dX12_mix_36 : decode cX12_mix 36 = .ok (.iload_n 3, 1) := by decide +kernel
theorem dX12_mix_37 : decode cX12_mix 37 = .ok (.invokestatic 143, 3) := by decide +kernel
theorem dX12_mix_40 : decode cX12_mix 40 = .ok (.ifCond .eq 8, 3) := by decide +kernel
theorem dX12_mix_43 : decode cX12_mix 43 = .ok (.iload_n 2, 1) := by decide +kernel
theorem dX12_mix_44 : decode cX12_mix 44 = .ok (.iload_n 3, 1) := by decide +kernel
theorem dX12_mix_45 : decode cX12_mix 45 = .ok (.if_icmp .ne 5, 3) := by decide +kernel
theorem dX12_mix_48 : decode cX12_mix 48 = .ok (.iconst (-1), 1) := by decide +kernel
theorem dX12_mix_49 : decode cX12_mix 49 = .ok (.ireturn, 1) := by decide +kernel
theorem dX12_mix_50 : decode cX12_mix 50 = .ok (.aload_n 0, 1) := by decide +kernel
theorem dX12_mix_51 : decode cX12_mix 51 = .ok (.getfield 40, 3) := by decide +kernel
theorem dX12_mix_54 : decode cX12_mix 54 = .ok (.iload_n 1, 1) := by decide +kernel
theorem dX12_mix_55 : decode cX12_mix 55 = .ok (.iaload, 1) := by decide +kernel
theorem dX12_mix_56 : decode cX12_mix 56 = .ok (.istore 5, 2) := by decide +kernel
theorem dX12_mix_58 : decode cX12_mix 58 = .ok (.aload_n 0, 1) := by decide +kernel
theorem dX12_mix_59 : decode cX12_mix 59 = .ok (.getfield 40, 3) := by decide +kernel
theorem dX12_mix_62 : decode cX12_mix 62 = .ok (.iload_n 1, 1) := by decide +kernel
theorem dX12_mix_63 : decode cX12_mix 63 = .ok (.iload 4, 2) := by decide +kernel
theorem dX12_mix_65 : decode cX12_mix 65 = .ok (.ifCond .eq 8, 3) := by decide +kernel
theorem dX12_mix_68 : decode cX12_mix 68 = .ok (.bipush (-6), 2) := by decide +kernel
theorem dX12_mix_70 : decode cX12_mix 70 = .ok (.goto 23, 3) := by decide +kernel
theorem dX12_mix_73 : decode cX12_mix 73 = .ok (.iload_n 2, 1) := by decide +kernel
theorem dX12_mix_74 : decode cX12_mix 74 = .ok (.iload_n 3, 1) := by decide +kernel
theorem dX12_mix_75 : decode cX12_mix 75 = .ok (.if_icmp .ge 12, 3) := by decide +kernel
theorem dX12_mix_78 : decode cX12_mix 78 = .ok (.bipush 10, 2) := by decide +kernel
theorem dX12_mix_80 : decode cX12_mix 80 = .ok (.iload_n 2, 1) := by decide +kernel
theorem dX12_mix_81 : decode cX12_mix 81 = .ok (.imul, 1) := by decide +kernel
theorem dX12_mix_82 : decode cX12_mix 82 = .ok (.iload_n 3, 1) := by decide +kernel
theorem dX12_mix_83 : decode cX12_mix 83 = .ok (.iadd, 1) := by decide +kernel
theorem dX12_mix_84 : decode cX12_mix 84 = .ok (.goto 9, 3) := by decide +kernel
theorem dX12_mix_87 : decode cX12_mix 87 = .ok (.bipush 10, 2) := by decide +kernel
theorem dX12_mix_89 : decode cX12_mix 89 = .ok (.iload_n 3, 1) := by decide +kernel
theorem dX12_mix_90 : decode cX12_mix 90 = .ok (.imul, 1) := by decide +kernel
theorem dX12_mix_91 : decode cX12_mix 91 = .ok (.iload_n 2, 1) := by decide +kernel
theorem dX12_mix_92 : decode cX12_mix 92 = .ok (.iadd, 1) := by decide +kernel
theorem dX12_mix_93 : decode cX12_mix 93 = .ok (.iastore, 1) := by decide +kernel
theorem dX12_mix_94 : decode cX12_mix 94 = .ok (.iload 5, 2) := by decide +kernel
theorem dX12_mix_96 : decode cX12_mix 96 = .ok (.ireturn, 1) := by decide +kernel
theorem dX12_takenFor_0 : decode cX12_takenFor 0 = .ok (.aload_n 0, 1) := by decide +kernel
theorem dX12_takenFor_1 : decode cX12_takenFor 1 = .ok (.getfield 40, 3) := by decide +kernel
theorem dX12_takenFor_4 : decode cX12_takenFor 4 = .ok (.iload_n 1, 1) := by decide +kernel
theorem dX12_takenFor_5 : decode cX12_takenFor 5 = .ok (.iaload, 1) := by decide +kernel
theorem dX12_takenFor_6 : decode cX12_takenFor 6 = .ok (.istore_n 3, 1) := by decide +kernel
theorem dX12_takenFor_7 : decode cX12_takenFor 7 = .ok (.iload_n 3, 1) := by decide +kernel
theorem dX12_takenFor_8 : decode cX12_takenFor 8 = .ok (.ifCond .ge 7, 3) := by decide +kernel
theorem dX12_takenFor_11 : decode cX12_takenFor 11 = .ok (.iload_n 2, 1) := by decide +kernel
theorem dX12_takenFor_12 : decode cX12_takenFor 12 = .ok (.goto 34, 3) := by decide +kernel
theorem dX12_takenFor_15 : decode cX12_takenFor 15 = .ok (.iload_n 3, 1) := by decide +kernel
theorem dX12_takenFor_16 : decode cX12_takenFor 16 = .ok (.bipush 10, 2) := by decide +kernel
theorem dX12_takenFor_18 : decode cX12_takenFor 18 = .ok (.idiv, 1) := by decide +kernel
theorem dX12_takenFor_19 : decode cX12_takenFor 19 = .ok (.iload_n 2, 1) := by decide +kernel
theorem dX12_takenFor_20 : decode cX12_takenFor 20 = .ok (.if_icmp .ne 10, 3) := by decide +kernel
theorem dX12_takenFor_23 : decode cX12_takenFor 23 = .ok (.iload_n 3, 1) := by decide +kernel
theorem dX12_takenFor_24 : decode cX12_takenFor 24 = .ok (.bipush 10, 2) := by decide +kernel
theorem dX12_takenFor_26 : decode cX12_takenFor 26 = .ok (.irem, 1) := by decide +kernel
theorem dX12_takenFor_27 : decode cX12_takenFor 27 = .ok (.goto 19, 3) := by decide +kernel
theorem dX12_takenFor_30 : decode cX12_takenFor 30 = .ok (.iload_n 3, 1) := by decide +kernel
theorem dX12_takenFor_31 : decode cX12_takenFor 31 = .ok (.bipush 10, 2) := by decide +kernel
theorem dX12_takenFor_33 : decode cX12_takenFor 33 = .ok (.irem, 1) := by decide +kernel
theorem dX12_takenFor_34 : decode cX12_takenFor 34 = .ok (.iload_n 2, 1) := by decide +kernel
theorem dX12_takenFor_35 : decode cX12_takenFor 35 = .ok (.if_icmp .ne 10, 3) := by decide +kernel
theorem dX12_takenFor_38 : decode cX12_takenFor 38 = .ok (.iload_n 3, 1) := by decide +kernel
theorem dX12_takenFor_39 : decode cX12_takenFor 39 = .ok (.bipush 10, 2) := by decide +kernel
theorem dX12_takenFor_41 : decode cX12_takenFor 41 = .ok (.idiv, 1) := by decide +kernel
theorem dX12_takenFor_42 : decode cX12_takenFor 42 = .ok (.goto 4, 3) := by decide +kernel
theorem dX12_takenFor_45 : decode cX12_takenFor 45 = .ok (.iload_n 2, 1) := by decide +kernel
theorem dX12_takenFor_46 : decode cX12_takenFor 46 = .ok (.ireturn, 1) := by decide +kernel
theorem dX12_findReading_0 : decode cX12_findReading 0 = .ok (.aload_n 0, 1) := by decide +kernel
theorem dX12_findReading_1 : decode cX12_findReading 1 = .ok (.iconst 3, 1) := by decide +kernel
theorem dX12_findReading_2 : decode cX12_findReading 2 = .ok (.putfield 165, 3) := by decide +kernel
theorem dX12_findReading_5 : decode cX12_findReading 5 = .ok (.aload_n 0, 1) := by decide +kernel
theorem dX12_findReading_6 : decode cX12_findReading 6 = .ok (.bipush (-6), 2) := by decide +kernel
theorem dX12_findReading_8 : decode cX12_findReading 8 = .ok (.putfield 168, 3) := by decide +kernel
theorem dX12_findReading_11 : decode cX12_findReading 11 = .ok (.iload_n 3, 1) := by decide +kernel
theorem dX12_findReading_12 : decode cX12_findReading 12 = .ok (.iload 4, 2) := by decide +kernel
theorem dX12_findReading_14 : decode cX12_findReading 14 = .ok (.ishr, 1) := by decide +kernel
theorem dX12_findReading_15 : decode cX12_findReading 15 = .ok (.iconst 1, 1) := by decide +kernel
theorem dX12_findReading_16 : decode cX12_findReading 16 = .ok (.iand, 1) := by decide +kernel
theorem dX12_findReading_17 : decode cX12_findReading 17 = .ok (.iconst 1, 1) := by decide +kernel
theorem dX12_findReading_18 : decode cX12_findReading 18 = .ok (.if_icmp .ne 17, 3) := by decide +kernel
theorem dX12_findReading_21 : decode cX12_findReading 21 = .ok (.aload_n 0, 1) := by decide +kernel
theorem dX12_findReading_22 : decode cX12_findReading 22 = .ok (.iconst 0, 1) := by decide +kernel
theorem dX12_findReading_23 : decode cX12_findReading 23 = .ok (.putfield 165, 3) := by decide +kernel
theorem dX12_findReading_26 : decode cX12_findReading 26 = .ok (.aload_n 0, 1) := by decide +kernel
theorem dX12_findReading_27 : decode cX12_findReading 27 = .ok (.iload 4, 2) := by decide +kernel
theorem dX12_findReading_29 : decode cX12_findReading 29 = .ok (.putfield 168, 3) := by decide +kernel
theorem dX12_findReading_32 : decode cX12_findReading 32 = .ok (.goto 74, 3) := by decide +kernel
theorem dX12_findReading_35 : decode cX12_findReading 35 = .ok (.aload_n 0, 1) := by decide +kernel
theorem dX12_findReading_36 : decode cX12_findReading 36 = .ok (.iload 4, 2) := by decide +kernel
theorem dX12_findReading_38 : decode cX12_findReading 38 = .ok (.invokevirtual 133, 3) := by decide +kernel
theorem dX12_findReading_41 : decode cX12_findReading 41 = .ok (.iload_n 2, 1) := by decide +kernel
theorem dX12_findReading_42 : decode cX12_findReading 42 = .ok (.iconst (-1), 1) := by decide +kernel
theorem dX12_findReading_43 : decode cX12_findReading 43 = .ok (.ixor, 1) := by decide +kernel
theorem dX12_findReading_44 : decode cX12_findReading 44 = .ok (.iand, 1) := by decide +kernel
theorem dX12_findReading_45 : decode cX12_findReading 45 = .ok (.ifCond .ne 22, 3) := by decide +kernel
theorem dX12_findReading_48 : decode cX12_findReading 48 = .ok (.aload_n 0, 1) := by decide +kernel
theorem dX12_findReading_49 : decode cX12_findReading 49 = .ok (.iconst 1, 1) := by decide +kernel
theorem dX12_findReading_50 : decode cX12_findReading 50 = .ok (.putfield 165, 3) := by decide +kernel
theorem dX12_findReading_53 : decode cX12_findReading 53 = .ok (.aload_n 0, 1) := by decide +kernel
theorem dX12_findReading_54 : decode cX12_findReading 54 = .ok (.aload_n 0, 1) := by decide +kernel
theorem dX12_findReading_55 : decode cX12_findReading 55 = .ok (.iload_n 1, 1) := by decide +kernel
theorem dX12_findReading_56 : decode cX12_findReading 56 = .ok (.iload 4, 2) := by decide +kernel
theorem dX12_findReading_58 : decode cX12_findReading 58 = .ok (.invokevirtual 171, 3) := by decide +kernel
theorem dX12_findReading_61 : decode cX12_findReading 61 = .ok (.putfield 168, 3) := by decide +kernel
theorem dX12_findReading_64 : decode cX12_findReading 64 = .ok (.goto 42, 3) := by decide +kernel
theorem dX12_findReading_67 : decode cX12_findReading 67 = .ok (.iload_n 2, 1) := by decide +kernel
theorem dX12_findReading_68 : decode cX12_findReading 68 = .ok (.aload_n 0, 1) := by decide +kernel
theorem dX12_findReading_69 : decode cX12_findReading 69 = .ok (.getfield 7, 3) := by decide +kernel
theorem dX12_findReading_72 : decode cX12_findReading 72 = .ok (.iconst 5, 1) := by decide +kernel
theorem dX12_findReading_73 : decode cX12_findReading 73 = .ok (.iload 4, 2) := by decide +kernel
theorem dX12_findReading_75 : decode cX12_findReading 75 = .ok (.imul, 1) := by decide +kernel
theorem dX12_findReading_76 : decode cX12_findReading 76 = .ok (.iaload, 1) := by decide +kernel
theorem dX12_findReading_77 : decode cX12_findReading 77 = .ok (.ishr, 1) := by decide +kernel
theorem dX12_findReading_78 : decode cX12_findReading 78 = .ok (.iconst 1, 1) := by decide +kernel
theorem dX12_findReading_79 : decode cX12_findReading 79 = .ok (.iand, 1) := by decide +kernel
theorem dX12_findReading_80 : decode cX12_findReading 80 = .ok (.iconst 1, 1) := by decide +kernel
theorem dX12_findReading_81 : decode cX12_findReading 81 = .ok (.if_icmp .ne 25, 3) := by decide +kernel
theorem dX12_findReading_84 : decode cX12_findReading 84 = .ok (.aload_n 0, 1) := by decide +kernel
theorem dX12_findReading_85 : decode cX12_findReading 85 = .ok (.iconst 2, 1) := by decide +kernel
theorem dX12_findReading_86 : decode cX12_findReading 86 = .ok (.putfield 165, 3) := by decide +kernel
theorem dX12_findReading_89 : decode cX12_findReading 89 = .ok (.aload_n 0, 1) := by decide +kernel
theorem dX12_findReading_90 : decode cX12_findReading 90 = .ok (.aload_n 0, 1) := by decide +kernel
theorem dX12_findReading_91 : decode cX12_findReading 91 = .ok (.aload_n 0, 1) := by decide +kernel
theorem dX12_findReading_92 : decode cX12_findReading 92 = .ok (.getfield 7, 3) := by decide +kernel
theorem dX12_findReading_95 : decode cX12_findReading 95 = .ok (.iconst 5, 1) := by decide +kernel
theorem dX12_findReading_96 : decode cX12_findReading 96 = .ok (.iload 4, 2) := by decide +kernel
theorem dX12_findReading_98 : decode cX12_findReading 98 = .ok (.imul, 1) := by decide +kernel
theorem dX12_findReading_99 : decode cX12_findReading 99 = .ok (.iaload, 1) := by decide +kernel
theorem dX12_findReading_100 : decode cX12_findReading 100 = .ok (.invokevirtual 175, 3) := by decide +kernel
theorem dX12_findReading_103 : decode cX12_findReading 103 = .ok (.putfield 168, 3) := by decide +kernel
theorem dX12_findReading_106 : decode cX12_findReading 106 = .ok (.return_, 1) := by decide +kernel
theorem dX12_soundsAs_0 : decode cX12_soundsAs 0 = .ok (.aload_n 0, 1) := by decide +kernel
theorem dX12_soundsAs_1 : decode cX12_soundsAs 1 = .ok (.getfield 16, 3) := by decide +kernel
theorem dX12_soundsAs_4 : decode cX12_soundsAs 4 = .ok (.iload_n 3, 1) := by decide +kernel
theorem dX12_soundsAs_5 : decode cX12_soundsAs 5 = .ok (.iaload, 1) := by decide +kernel
theorem dX12_soundsAs_6 : decode cX12_soundsAs 6 = .ok (.aload_n 0, 1) := by decide +kernel
theorem dX12_soundsAs_7 : decode cX12_soundsAs 7 = .ok (.getfield 16, 3) := by decide +kernel
theorem dX12_soundsAs_10 : decode cX12_soundsAs 10 = .ok (.iload_n 2, 1) := by decide +kernel
theorem dX12_soundsAs_11 : decode cX12_soundsAs 11 = .ok (.iaload, 1) := by decide +kernel
theorem dX12_soundsAs_12 : decode cX12_soundsAs 12 = .ok (.if_icmp .ne 7, 3) := by decide +kernel
theorem dX12_soundsAs_15 : decode cX12_soundsAs 15 = .ok (.iconst 1, 1) := by decide +kernel
theorem dX12_soundsAs_16 : decode cX12_soundsAs 16 = .ok (.goto 4, 3) := by decide +kernel
theorem dX12_soundsAs_19 : decode cX12_soundsAs 19 = .ok (.iconst 0, 1) := by decide +kernel
theorem dX12_soundsAs_20 : decode cX12_soundsAs 20 = .ok (.istore 4, 2) := by decide +kernel
theorem dX12_soundsAs_22 : decode cX12_soundsAs 22 = .ok (.iconst 0, 1) := by decide +kernel
theorem dX12_soundsAs_23 : decode cX12_soundsAs 23 = .ok (.istore 5, 2) := by decide +kernel
theorem dX12_soundsAs_25 : decode cX12_soundsAs 25 = .ok (.iload 5, 2) := by decide +kernel
theorem dX12_soundsAs_27 : decode cX12_soundsAs 27 = .ok (.aload_n 0, 1) := by decide +kernel
theorem dX12_soundsAs_28 : decode cX12_soundsAs 28 = .ok (.getfield 16, 3) := by decide +kernel
theorem dX12_soundsAs_31 : decode cX12_soundsAs 31 = .ok (.iload_n 2, 1) := by decide +kernel
theorem dX12_soundsAs_32 : decode cX12_soundsAs 32 = .ok (.iaload, 1) := by decide +kernel
theorem dX12_soundsAs_33 : decode cX12_soundsAs 33 = .ok (.if_icmp .ge 65, 3) := by decide +kernel
theorem dX12_soundsAs_36 : decode cX12_soundsAs 36 = .ok (.iload 4, 2) := by decide +kernel
theorem dX12_soundsAs_38 : decode cX12_soundsAs 38 = .ok (.ifCond .eq 60, 3) := by decide +kernel
theorem dX12_soundsAs_41 : decode cX12_soundsAs 41 = .ok (.aload_n 0, 1) := by decide +kernel
theorem dX12_soundsAs_42 : decode cX12_soundsAs 42 = .ok (.getfield 28, 3) := by decide +kernel
theorem dX12_soundsAs_45 : decode cX12_soundsAs 45 = .ok (.aload_n 0, 1) := by decide +kernel
theorem dX12_soundsAs_46 : decode cX12_soundsAs 46 = .ok (.iload_n 1, 1) := by decide +kernel
theorem dX12_soundsAs_47 : decode cX12_soundsAs 47 = .ok (.aload_n 0, 1) := by decide +kernel
theorem dX12_soundsAs_48 : decode cX12_soundsAs 48 = .ok (.getfield 7, 3) := by decide +kernel
theorem dX12_soundsAs_51 : decode cX12_soundsAs 51 = .ok (.iconst 5, 1) := by decide +kernel
theorem dX12_soundsAs_52 : decode cX12_soundsAs 52 = .ok (.iload_n 2, 1) := by decide +kernel
theorem dX12_soundsAs_53 : decode cX12_soundsAs 53 = .ok (.imul, 1) := by decide +kernel
theorem dX12_soundsAs_54 : decode cX12_soundsAs 54 = .ok (.iload 5, 2) := by decide +kernel
theorem dX12_soundsAs_56 : decode cX12_soundsAs 56 = .ok (.iadd, 1) := by decide +kernel
theorem dX12_soundsAs_57 : decode cX12_soundsAs 57 = .ok (.iaload, 1) := by decide +kernel
theorem dX12_soundsAs_58 : decode cX12_soundsAs 58 = .ok (.invokevirtual 178, 3) := by decide +kernel
theorem dX12_soundsAs_61 : decode cX12_soundsAs 61 = .ok (.iaload, 1) := by decide +kernel
theorem dX12_soundsAs_62 : decode cX12_soundsAs 62 = .ok (.istore 6, 2) := by decide +kernel
theorem dX12_soundsAs_64 : decode cX12_soundsAs 64 = .ok (.iload 6, 2) := by decide +kernel
theorem dX12_soundsAs_66 : decode cX12_soundsAs 66 = .ok (.ifCond .lt 23, 3) := by decide +kernel
theorem dX12_soundsAs_69 : decode cX12_soundsAs 69 = .ok (.iload 6, 2) := by decide +kernel
theorem dX12_soundsAs_71 : decode cX12_soundsAs 71 = .ok (.aload_n 0, 1) := by decide +kernel
theorem dX12_soundsAs_72 : decode cX12_soundsAs 72 = .ok (.getfield 13, 3) := by decide +kernel
theorem dX12_soundsAs_75 : decode cX12_soundsAs 75 = .ok (.iconst 5, 1) := by decide +kernel
theorem dX12_soundsAs_76 : decode cX12_soundsAs 76 = .ok (.iload_n 3, 1) := by decide +kernel
theorem dX12_soundsAs_77 : decode cX12_soundsAs 77 = .ok (.imul, 1) := by decide +kernel
theorem dX12_soundsAs_78 : decode cX12_soundsAs 78 = .ok (.iload 5, 2) := by decide +kernel
theorem dX12_soundsAs_80 : decode cX12_soundsAs 80 = .ok (.iadd, 1) := by decide +kernel
theorem dX12_soundsAs_81 : decode cX12_soundsAs 81 = .ok (.iaload, 1) := by decide +kernel
theorem dX12_soundsAs_82 : decode cX12_soundsAs 82 = .ok (.if_icmp .ne 7, 3) := by decide +kernel
theorem dX12_soundsAs_85 : decode cX12_soundsAs 85 = .ok (.iconst 1, 1) := by decide +kernel
theorem dX12_soundsAs_86 : decode cX12_soundsAs 86 = .ok (.goto 4, 3) := by decide +kernel
theorem dX12_soundsAs_89 : decode cX12_soundsAs 89 = .ok (.iconst 0, 1) := by decide +kernel
theorem dX12_soundsAs_90 : decode cX12_soundsAs 90 = .ok (.istore 4, 2) := by decide +kernel
theorem dX12_soundsAs_92 : decode cX12_soundsAs 92 = .ok (.iinc 5 1, 3) := by decide +kernel
theorem dX12_soundsAs_95 : decode cX12_soundsAs 95 = .ok (.goto (-70), 3) := by decide +kernel
theorem dX12_soundsAs_98 : decode cX12_soundsAs 98 = .ok (.iload 4, 2) := by decide +kernel
theorem dX12_soundsAs_100 : decode cX12_soundsAs 100 = .ok (.ireturn, 1) := by decide +kernel
theorem dX12_sounded_0 : decode cX12_sounded 0 = .ok (.aload_n 0, 1) := by decide +kernel
theorem dX12_sounded_1 : decode cX12_sounded 1 = .ok (.iload_n 1, 1) := by decide +kernel
theorem dX12_sounded_2 : decode cX12_sounded 2 = .ok (.iload_n 2, 1) := by decide +kernel
theorem dX12_sounded_3 : decode cX12_sounded 3 = .ok (.iload_n 2, 1) := by decide +kernel
theorem dX12_sounded_4 : decode cX12_sounded 4 = .ok (.invokevirtual 181, 3) := by decide +kernel
theorem dX12_sounded_7 : decode cX12_sounded 7 = .ok (.ifCond .eq 5, 3) := by decide +kernel
theorem dX12_sounded_10 : decode cX12_sounded 10 = .ok (.iload_n 2, 1) := by decide +kernel
theorem dX12_sounded_11 : decode cX12_sounded 11 = .ok (.ireturn, 1) := by decide +kernel
theorem dX12_sounded_12 : decode cX12_sounded 12 = .ok (.iconst 0, 1) := by decide +kernel
theorem dX12_sounded_13 : decode cX12_sounded 13 = .ok (.istore_n 3, 1) := by decide +kernel
theorem dX12_sounded_14 : decode cX12_sounded 14 = .ok (.iload_n 3, 1) := by decide +kernel
theorem dX12_sounded_15 : decode cX12_sounded 15 = .ok (.aload_n 0, 1) := by decide +kernel
theorem dX12_sounded_16 : decode cX12_sounded 16 = .ok (.getfield 105, 3) := by decide +kernel
theorem dX12_sounded_19 : decode cX12_sounded 19 = .ok (.if_icmp .ge 21, 3) := by decide +kernel
theorem dX12_sounded_22 : decode cX12_sounded 22 = .ok (.aload_n 0, 1) := by decide +kernel
theorem dX12_sounded_23 : decode cX12_sounded 23 = .ok (.iload_n 1, 1) := by decide +kernel
theorem dX12_sounded_24 : decode cX12_sounded 24 = .ok (.iload_n 2, 1) := by decide +kernel
theorem dX12_sounded_25 : decode cX12_sounded 25 = .ok (.iload_n 3, 1) := by decide +kernel
theorem dX12_sounded_26 : decode cX12_sounded 26 = .ok (.invokevirtual 181, 3) := by decide +kernel
theorem dX12_sounded_29 : decode cX12_sounded 29 = .ok (.ifCond .eq 5, 3) := by decide +kernel
theorem dX12_sounded_32 : decode cX12_sounded 32 = .ok (.iload_n 3, 1) := by decide +kernel
theorem dX12_sounded_33 : decode cX12_sounded 33 = .ok (.ireturn, 1) := by decide +kernel
theorem dX12_sounded_34 : decode cX12_sounded 34 = .ok (.iinc 3 1, 3) := by decide +kernel
theorem dX12_sounded_37 : decode cX12_sounded 37 = .ok (.goto (-23), 3) := by decide +kernel
theorem dX12_sounded_40 : decode cX12_sounded 40 = .ok (.bipush (-6), 2) := by decide +kernel
theorem dX12_sounded_42 : decode cX12_sounded 42 = .ok (.ireturn, 1) := by decide +kernel
theorem dX12_guessed_0 : decode cX12_guessed 0 = .ok (.bipush (-6), 2) := by decide +kernel
theorem dX12_guessed_2 : decode cX12_guessed 2 = .ok (.istore_n 2, 1) := by decide +kernel
theorem dX12_guessed_3 : decode cX12_guessed 3 = .ok (.iconst 0, 1) := by decide +kernel
theorem dX12_guessed_4 : decode cX12_guessed 4 = .ok (.istore_n 3, 1) := by decide +kernel
theorem dX12_guessed_5 : decode cX12_guessed 5 = .ok (.iload_n 3, 1) := by decide +kernel
theorem dX12_guessed_6 : decode cX12_guessed 6 = .ok (.aload_n 0, 1) := by decide +kernel
theorem dX12_guessed_7 : decode cX12_guessed 7 = .ok (.getfield 105, 3) := by decide +kernel
theorem dX12_guessed_10 : decode cX12_guessed 10 = .ok (.if_icmp .ge 46, 3) := by decide +kernel
theorem dX12_guessed_13 : decode cX12_guessed 13 = .ok (.aload_n 0, 1) := by decide +kernel
theorem dX12_guessed_14 : decode cX12_guessed 14 = .ok (.getfield 7, 3) := by decide +kernel
theorem dX12_guessed_17 : decode cX12_guessed 17 = .ok (.iconst 5, 1) := by decide +kernel
theorem dX12_guessed_18 : decode cX12_guessed 18 = .ok (.iload_n 3, 1) := by decide +kernel
theorem dX12_guessed_19 : decode cX12_guessed 19 = .ok (.imul, 1) := by decide +kernel
theorem dX12_guessed_20 : decode cX12_guessed 20 = .ok (.iaload, 1) := by decide +kernel
theorem dX12_guessed_21 : decode cX12_guessed 21 = .ok (.iload_n 1, 1) := by decide +kernel
theorem dX12_guessed_22 : decode cX12_guessed 22 = .ok (.if_icmp .ne 26, 3) := by decide +kernel
theorem dX12_guessed_25 : decode cX12_guessed 25 = .ok (.iload_n 2, 1) := by decide +kernel
theorem dX12_guessed_26 : decode cX12_guessed 26 = .ok (.ifCond .lt 18, 3) := by decide +kernel
theorem dX12_guessed_29 : decode cX12_guessed 29 = .ok (.aload_n 0, 1) := by decide +kernel
theorem dX12_guessed_30 : decode cX12_guessed 30 = .ok (.getfield 19, 3) := by decide +kernel
theorem dX12_guessed_33 : decode cX12_guessed 33 = .ok (.iload_n 3, 1) := by decide +kernel
theorem dX12_guessed_34 : decode cX12_guessed 34 = .ok (.iaload, 1) := by decide +kernel
theorem dX12_guessed_35 : decode cX12_guessed 35 = .ok (.aload_n 0, 1) := by decide +kernel
theorem dX12_guessed_36 : decode cX12_guessed 36 = .ok (.getfield 19, 3) := by decide +kernel
theorem dX12_guessed_39 : decode cX12_guessed 39 = .ok (.iload_n 2, 1) := by decide +kernel
theorem dX12_guessed_40 : decode cX12_guessed 40 = .ok (.iaload, 1) := by decide +kernel
theorem dX12_guessed_41 : decode cX12_guessed 41 = .ok (.if_icmp .le 7, 3) := by decide +kernel
theorem dX12_guessed_44 : decode cX12_guessed 44 = .ok (.iload_n 3, 1) := by decide +kernel
theorem dX12_guessed_45 : decode cX12_guessed 45 = .ok (.goto 4, 3) := by decide +kernel
theorem dX12_guessed_48 : decode cX12_guessed 48 = .ok (.iload_n 2, 1) := by decide +kernel
theorem dX12_guessed_49 : decode cX12_guessed 49 = .ok (.istore_n 2, 1) := by decide +kernel
theorem dX12_guessed_50 : decode cX12_guessed 50 = .ok (.iinc 3 1, 3) := by decide +kernel
theorem dX12_guessed_53 : decode cX12_guessed 53 = .ok (.goto (-48), 3) := by decide +kernel
theorem dX12_guessed_56 : decode cX12_guessed 56 = .ok (.iload_n 2, 1) := by decide +kernel
theorem dX12_guessed_57 : decode cX12_guessed 57 = .ok (.ireturn, 1) := by decide +kernel
theorem dX12_canRead_0 : decode cX12_canRead 0 = .ok (.aload_n 0, 1) := by decide +kernel
theorem dX12_canRead_1 : decode cX12_canRead 1 = .ok (.iload_n 1, 1) := by decide +kernel
theorem dX12_canRead_2 : decode cX12_canRead 2 = .ok (.iload_n 2, 1) := by decide +kernel
theorem dX12_canRead_3 : decode cX12_canRead 3 = .ok (.iload_n 3, 1) := by decide +kernel
theorem dX12_canRead_4 : decode cX12_canRead 4 = .ok (.iload 4, 2) := by decide +kernel
theorem dX12_canRead_6 : decode cX12_canRead 6 = .ok (.invokevirtual 185, 3) := by decide +kernel
theorem dX12_canRead_9 : decode cX12_canRead 9 = .ok (.aload_n 0, 1) := by decide +kernel
theorem dX12_canRead_10 : decode cX12_canRead 10 = .ok (.getfield 168, 3) := by decide +kernel
theorem dX12_canRead_13 : decode cX12_canRead 13 = .ok (.iload 4, 2) := by decide +kernel
theorem dX12_canRead_15 : decode cX12_canRead 15 = .ok (.if_icmp .ne 7, 3) := by decide +kernel
theorem dX12_canRead_18 : decode cX12_canRead 18 = .ok (.iconst 1, 1) := by decide +kernel
theorem dX12_canRead_19 : decode cX12_canRead 19 = .ok (.goto 4, 3) := by decide +kernel
theorem dX12_canRead_22 : decode cX12_canRead 22 = .ok (.iconst 0, 1) := by decide +kernel
theorem dX12_canRead_23 : decode cX12_canRead 23 = .ok (.ireturn, 1) := by decide +kernel
theorem dX12_shareOf_0 : decode cX12_shareOf 0 = .ok (.iconst 0, 1) := by decide +kernel
theorem dX12_shareOf_1 : decode cX12_shareOf 1 = .ok (.istore 4, 2) := by decide +kernel
theorem dX12_shareOf_3 : decode cX12_shareOf 3 = .ok (.iconst 0, 1) := by decide +kernel
theorem dX12_shareOf_4 : decode cX12_shareOf 4 = .ok (.istore 5, 2) := by decide +kernel
theorem dX12_shareOf_6 : decode cX12_shareOf 6 = .ok (.iload 5, 2) := by decide +kernel
theorem dX12_shareOf_8 : decode cX12_shareOf 8 = .ok (.aload_n 0, 1) := by decide +kernel
theorem dX12_shareOf_9 : decode cX12_shareOf 9 = .ok (.getfield 105, 3) := by decide +kernel
theorem dX12_shareOf_12 : decode cX12_shareOf 12 = .ok (.if_icmp .ge 37, 3) := by decide +kernel
theorem dX12_shareOf_15 : decode cX12_shareOf 15 = .ok (.iload 4, 2) := by decide +kernel
theorem dX12_shareOf_17 : decode cX12_shareOf 17 = .ok (.aload_n 0, 1) := by decide +kernel
theorem dX12_shareOf_18 : decode cX12_shareOf 18 = .ok (.iload_n 1, 1) := by decide +kernel
theorem dX12_shareOf_19 : decode cX12_shareOf 19 = .ok (.iload_n 2, 1) := by decide +kernel
theorem dX12_shareOf_20 : decode cX12_shareOf 20 = .ok (.iload_n 3, 1) := by decide +kernel
theorem dX12_shareOf_21 : decode cX12_shareOf 21 = .ok (.iload 5, 2) := by decide +kernel
theorem dX12_shareOf_23 : decode cX12_shareOf 23 = .ok (.invokevirtual 189, 3) := by decide +kernel
theorem dX12_shareOf_26 : decode cX12_shareOf 26 = .ok (.ifCond .eq 13, 3) := by decide +kernel
theorem dX12_shareOf_29 : decode cX12_shareOf 29 = .ok (.aload_n 0, 1) := by decide +kernel
theorem dX12_shareOf_30 : decode cX12_shareOf 30 = .ok (.getfield 19, 3) := by decide +kernel
theorem dX12_shareOf_33 : decode cX12_shareOf 33 = .ok (.iload 5, 2) := by decide +kernel
theorem dX12_shareOf_35 : decode cX12_shareOf 35 = .ok (.iaload, 1) := by decide +kernel
theorem dX12_shareOf_36 : decode cX12_shareOf 36 = .ok (.goto 4, 3) := by decide +kernel
theorem dX12_shareOf_39 : decode cX12_shareOf 39 = .ok (.iconst 0, 1) := by decide +kernel
theorem dX12_shareOf_40 : decode cX12_shareOf 40 = .ok (.iadd, 1) := by decide +kernel
theorem dX12_shareOf_41 : decode cX12_shareOf 41 = .ok (.istore 4, 2) := by decide +kernel
theorem dX12_shareOf_43 : decode cX12_shareOf 43 = .ok (.iinc 5 1, 3) := by decide +kernel
theorem dX12_shareOf_46 : decode cX12_shareOf 46 = .ok (.goto (-40), 3) := by decide +kernel
theorem dX12_shareOf_49 : decode cX12_shareOf 49 = .ok (.iload 4, 2) := by decide +kernel
theorem dX12_shareOf_51 : decode cX12_shareOf 51 = .ok (.ireturn, 1) := by decide +kernel
theorem dX12_read_0 : decode cX12_read 0 = .ok (.iload_n 1, 1) := by decide +kernel
theorem dX12_read_1 : decode cX12_read 1 = .ok (.invokestatic 160, 3) := by decide +kernel
theorem dX12_read_4 : decode cX12_read 4 = .ok (.ifCond .eq 11, 3) := by decide +kernel
theorem dX12_read_7 : decode cX12_read 7 = .ok (.aload_n 0, 1) := by decide +kernel
theorem dX12_read_8 : decode cX12_read 8 = .ok (.iload_n 2, 1) := by decide +kernel
theorem dX12_read_9 : decode cX12_read 9 = .ok (.invokevirtual 122, 3) := by decide +kernel
theorem dX12_read_12 : decode cX12_read 12 = .ok (.ifCond .ne 5, 3) := by decide +kernel
theorem dX12_read_15 : decode cX12_read 15 = .ok (.iconst (-1), 1) := by decide +kernel
theorem dX12_read_16 : decode cX12_read 16 = .ok (.ireturn, 1) := by decide +kernel
theorem dX12_read_17 : decode cX12_read 17 = .ok (.iload_n 3, 1) := by decide +kernel
theorem dX12_read_18 : decode cX12_read 18 = .ok (.invokestatic 148, 3) := by decide +kernel
theorem dX12_read_21 : decode cX12_read 21 = .ok (.ifCond .ne 6, 3) := by decide +kernel
theorem dX12_read_24 : decode cX12_read 24 = .ok (.bipush (-2), 2) := by decide +kernel
theorem dX12_read_26 : decode cX12_read 26 = .ok (.ireturn, 1) := by decide +kernel
theorem dX12_read_27 : decode cX12_read 27 = .ok (.aload_n 0, 1) := by decide +kernel
theorem dX12_read_28 : decode cX12_read 28 = .ok (.invokevirtual 137, 3) := by decide +kernel
theorem dX12_read_31 : decode cX12_read 31 = .ok (.aload_n 0, 1) := by decide +kernel
theorem dX12_read_32 : decode cX12_read 32 = .ok (.iload_n 1, 1) := by decide +kernel
theorem dX12_read_33 : decode cX12_read 33 = .ok (.aload_n 0, 1) := by decide +kernel
theorem dX12_read_34 : decode cX12_read 34 = .ok (.getfield 34, 3) := by decide +kernel
theorem dX12_read_37 : decode cX12_read 37 = .ok (.iload_n 1, 1) := by decide +kernel
theorem dX12_read_38 : decode cX12_read 38 = .ok (.iaload, 1) := by decide +kernel
theorem dX12_read_39 : decode cX12_read 39 = .ok (.aload_n 0, 1) := by decide +kernel
theorem dX12_read_40 : decode cX12_read 40 = .ok (.getfield 37, 3) := by decide +kernel
theorem dX12_read_43 : decode cX12_read 43 = .ok (.iload_n 1, 1) := by decide +kernel
theorem dX12_read_44 : decode cX12_read 44 = .ok (.iaload, 1) := by decide +kernel
theorem dX12_read_45 : decode cX12_read 45 = .ok (.iload_n 2, 1) := by decide +kernel
theorem dX12_read_46 : decode cX12_read 46 = .ok (.invokevirtual 185, 3) := by decide +kernel
theorem dX12_read_49 : decode cX12_read 49 = .ok (.iload_n 3, 1) := by decide +kernel
theorem dX12_read_50 : decode cX12_read 50 = .ok (.ifCond .ne 10, 3) := by decide +kernel
theorem dX12_read_53 : decode cX12_read 53 = .ok (.aload_n 0, 1) := by decide +kernel
theorem dX12_read_54 : decode cX12_read 54 = .ok (.getfield 165, 3) := by decide +kernel
theorem dX12_read_57 : decode cX12_read 57 = .ok (.goto 7, 3) := by decide +kernel
theorem dX12_read_60 : decode cX12_read 60 = .ok (.aload_n 0, 1) := by decide +kernel
theorem dX12_read_61 : decode cX12_read 61 = .ok (.getfield 168, 3) := by decide +kernel
theorem dX12_read_64 : decode cX12_read 64 = .ok (.ireturn, 1) := by decide +kernel
theorem dX12_share_0 : decode cX12_share 0 = .ok (.iload_n 1, 1) := by decide +kernel
theorem dX12_share_1 : decode cX12_share 1 = .ok (.invokestatic 160, 3) := by decide +kernel
theorem dX12_share_4 : decode cX12_share 4 = .ok (.ifCond .ne 5, 3) := by decide +kernel
theorem dX12_share_7 : decode cX12_share 7 = .ok (.iconst (-1), 1) := by decide +kernel
theorem dX12_share_8 : decode cX12_share 8 = .ok (.ireturn, 1) := by decide +kernel
theorem dX12_share_9 : decode cX12_share 9 = .ok (.aload_n 0, 1) := by decide +kernel
theorem dX12_share_10 : decode cX12_share 10 = .ok (.invokevirtual 137, 3) := by decide +kernel
theorem dX12_share_13 : decode cX12_share 13 = .ok (.aload_n 0, 1) := by decide +kernel
theorem dX12_share_14 : decode cX12_share 14 = .ok (.iload_n 1, 1) := by decide +kernel
theorem dX12_share_15 : decode cX12_share 15 = .ok (.aload_n 0, 1) := by decide +kernel
theorem dX12_share_16 : decode cX12_share 16 = .ok (.getfield 34, 3) := by decide +kernel
theorem dX12_share_19 : decode cX12_share 19 = .ok (.iload_n 1, 1) := by decide +kernel
theorem dX12_share_20 : decode cX12_share 20 = .ok (.iaload, 1) := by decide +kernel
theorem dX12_share_21 : decode cX12_share 21 = .ok (.aload_n 0, 1) := by decide +kernel
theorem dX12_share_22 : decode cX12_share 22 = .ok (.getfield 37, 3) := by decide +kernel
theorem dX12_share_25 : decode cX12_share 25 = .ok (.iload_n 1, 1) := by decide +kernel
theorem dX12_share_26 : decode cX12_share 26 = .ok (.iaload, 1) := by decide +kernel
theorem dX12_share_27 : decode cX12_share 27 = .ok (.invokevirtual 193, 3) := by decide +kernel
theorem dX12_share_30 : decode cX12_share 30 = .ok (.ireturn, 1) := by decide +kernel
theorem dX12_isGiven_0 : decode cX12_isGiven 0 = .ok (.aload_n 0, 1) := by decide +kernel
theorem dX12_isGiven_1 : decode cX12_isGiven 1 = .ok (.iload_n 1, 1) := by decide +kernel
theorem dX12_isGiven_2 : decode cX12_isGiven 2 = .ok (.invokevirtual 140, 3) := by decide +kernel
theorem dX12_isGiven_5 : decode cX12_isGiven 5 = .ok (.ifCond .eq 19, 3) := by decide +kernel
theorem dX12_isGiven_8 : decode cX12_isGiven 8 = .ok (.aload_n 0, 1) := by decide +kernel
theorem dX12_isGiven_9 : decode cX12_isGiven 9 = .ok (.iload_n 1, 1) := by decide +kernel
theorem dX12_isGiven_10 : decode cX12_isGiven 10 = .ok (.invokevirtual 133, 3) := by decide +kernel
theorem dX12_isGiven_13 : decode cX12_isGiven 13 = .ok (.iload_n 2, 1) := by decide +kernel
theorem dX12_isGiven_14 : decode cX12_isGiven 14 = .ok (.iconst (-1), 1) := by decide +kernel
theorem dX12_isGiven_15 : decode cX12_isGiven 15 = .ok (.ixor, 1) := by decide +kernel
theorem dX12_isGiven_16 : decode cX12_isGiven 16 = .ok (.iand, 1) := by decide +kernel
theorem dX12_isGiven_17 : decode cX12_isGiven 17 = .ok (.ifCond .ne 7, 3) := by decide +kernel
theorem dX12_isGiven_20 : decode cX12_isGiven 20 = .ok (.iconst 1, 1) := by decide +kernel
theorem dX12_isGiven_21 : decode cX12_isGiven 21 = .ok (.goto 4, 3) := by decide +kernel
theorem dX12_isGiven_24 : decode cX12_isGiven 24 = .ok (.iconst 0, 1) := by decide +kernel
theorem dX12_isGiven_25 : decode cX12_isGiven 25 = .ok (.ireturn, 1) := by decide +kernel
theorem dX12_givesOf_0 : decode cX12_givesOf 0 = .ok (.iconst 0, 1) := by decide +kernel
theorem dX12_givesOf_1 : decode cX12_givesOf 1 = .ok (.istore_n 3, 1) := by decide +kernel
theorem dX12_givesOf_2 : decode cX12_givesOf 2 = .ok (.iconst 0, 1) := by decide +kernel
theorem dX12_givesOf_3 : decode cX12_givesOf 3 = .ok (.istore 4, 2) := by decide +kernel
theorem dX12_givesOf_5 : decode cX12_givesOf 5 = .ok (.iload 4, 2) := by decide +kernel
theorem dX12_givesOf_7 : decode cX12_givesOf 7 = .ok (.aload_n 0, 1) := by decide +kernel
theorem dX12_givesOf_8 : decode cX12_givesOf 8 = .ok (.getfield 105, 3) := by decide +kernel
theorem dX12_givesOf_11 : decode cX12_givesOf 11 = .ok (.if_icmp .ge 43, 3) := by decide +kernel
theorem dX12_givesOf_14 : decode cX12_givesOf 14 = .ok (.iload_n 3, 1) := by decide +kernel
theorem dX12_givesOf_15 : decode cX12_givesOf 15 = .ok (.iload_n 2, 1) := by decide +kernel
theorem dX12_givesOf_16 : decode cX12_givesOf 16 = .ok (.iload 4, 2) := by decide +kernel
theorem dX12_givesOf_18 : decode cX12_givesOf 18 = .ok (.ishr, 1) := by decide +kernel
theorem dX12_givesOf_19 : decode cX12_givesOf 19 = .ok (.iconst 1, 1) := by decide +kernel
theorem dX12_givesOf_20 : decode cX12_givesOf 20 = .ok (.iand, 1) := by decide +kernel
theorem dX12_givesOf_21 : decode cX12_givesOf 21 = .ok (.iconst 1, 1) := by decide +kernel
theorem dX12_givesOf_22 : decode cX12_givesOf 22 = .ok (.if_icmp .eq 13, 3) := by decide +kernel
theorem dX12_givesOf_25 : decode cX12_givesOf 25 = .ok (.aload_n 0, 1) := by decide +kernel
theorem dX12_givesOf_26 : decode cX12_givesOf 26 = .ok (.iload 4, 2) := by decide +kernel
theorem dX12_givesOf_28 : decode cX12_givesOf 28 = .ok (.iload_n 1, 1) := by decide +kernel
theorem dX12_givesOf_29 : decode cX12_givesOf 29 = .ok (.invokevirtual 197, 3) := by decide +kernel
theorem dX12_givesOf_32 : decode cX12_givesOf 32 = .ok (.ifCond .eq 13, 3) := by decide +kernel
theorem dX12_givesOf_35 : decode cX12_givesOf 35 = .ok (.aload_n 0, 1) := by decide +kernel
theorem dX12_givesOf_36 : decode cX12_givesOf 36 = .ok (.getfield 19, 3) := by decide +kernel
theorem dX12_givesOf_39 : decode cX12_givesOf 39 = .ok (.iload 4, 2) := by decide +kernel
theorem dX12_givesOf_41 : decode cX12_givesOf 41 = .ok (.iaload, 1) := by decide +kernel
theorem dX12_givesOf_42 : decode cX12_givesOf 42 = .ok (.goto 4, 3) := by decide +kernel
theorem dX12_givesOf_45 : decode cX12_givesOf 45 = .ok (.iconst 0, 1) := by decide +kernel
theorem dX12_givesOf_46 : decode cX12_givesOf 46 = .ok (.iadd, 1) := by decide +kernel
theorem dX12_givesOf_47 : decode cX12_givesOf 47 = .ok (.istore_n 3, 1) := by decide +kernel
theorem dX12_givesOf_48 : decode cX12_givesOf 48 = .ok (.iinc 4 1, 3) := by decide +kernel
theorem dX12_givesOf_51 : decode cX12_givesOf 51 = .ok (.goto (-46), 3) := by decide +kernel
theorem dX12_givesOf_54 : decode cX12_givesOf 54 = .ok (.iload_n 3, 1) := by decide +kernel
theorem dX12_givesOf_55 : decode cX12_givesOf 55 = .ok (.ireturn, 1) := by decide +kernel
theorem dX12_gives_0 : decode cX12_gives 0 = .ok (.iload_n 1, 1) := by decide +kernel
theorem dX12_gives_1 : decode cX12_gives 1 = .ok (.i2l, 1) := by decide +kernel
theorem dX12_gives_2 : decode cX12_gives 2 = .ok (.lconst 0, 1) := by decide +kernel
theorem dX12_gives_3 : decode cX12_gives 3 = .ok (.ldc2_w 163, 3) := by decide +kernel
theorem dX12_gives_6 : decode cX12_gives 6 = .ok (.invokestatic 80, 3) := by decide +kernel
theorem dX12_gives_9 : decode cX12_gives 9 = .ok (.ifCond .eq 21, 3) := by decide +kernel
theorem dX12_gives_12 : decode cX12_gives 12 = .ok (.iload_n 2, 1) := by decide +kernel
theorem dX12_gives_13 : decode cX12_gives 13 = .ok (.i2l, 1) := by decide +kernel
theorem dX12_gives_14 : decode cX12_gives 14 = .ok (.lconst 0, 1) := by decide +kernel
theorem dX12_gives_15 : decode cX12_gives 15 = .ok (.iconst 1, 1) := by decide +kernel
theorem dX12_gives_16 : decode cX12_gives 16 = .ok (.aload_n 0, 1) := by decide +kernel
theorem dX12_gives_17 : decode cX12_gives 17 = .ok (.getfield 105, 3) := by decide +kernel
theorem dX12_gives_20 : decode cX12_gives 20 = .ok (.ishl, 1) := by decide +kernel
theorem dX12_gives_21 : decode cX12_gives 21 = .ok (.iconst 1, 1) := by decide +kernel
theorem dX12_gives_22 : decode cX12_gives 22 = .ok (.isub, 1) := by decide +kernel
theorem dX12_gives_23 : decode cX12_gives 23 = .ok (.i2l, 1) := by decide +kernel
theorem dX12_gives_24 : decode cX12_gives 24 = .ok (.invokestatic 80, 3) := by decide +kernel
theorem dX12_gives_27 : decode cX12_gives 27 = .ok (.ifCond .ne 6, 3) := by decide +kernel
theorem dX12_gives_30 : decode cX12_gives 30 = .ok (.bipush (-2), 2) := by decide +kernel
theorem dX12_gives_32 : decode cX12_gives 32 = .ok (.ireturn, 1) := by decide +kernel
theorem dX12_gives_33 : decode cX12_gives 33 = .ok (.aload_n 0, 1) := by decide +kernel
theorem dX12_gives_34 : decode cX12_gives 34 = .ok (.invokevirtual 137, 3) := by decide +kernel
theorem dX12_gives_37 : decode cX12_gives 37 = .ok (.aload_n 0, 1) := by decide +kernel
theorem dX12_gives_38 : decode cX12_gives 38 = .ok (.iload_n 1, 1) := by decide +kernel
theorem dX12_gives_39 : decode cX12_gives 39 = .ok (.iload_n 2, 1) := by decide +kernel
theorem dX12_gives_40 : decode cX12_gives 40 = .ok (.invokevirtual 201, 3) := by decide +kernel
theorem dX12_gives_43 : decode cX12_gives 43 = .ok (.ireturn, 1) := by decide +kernel
theorem dX12_findOrder_0 : decode cX12_findOrder 0 = .ok (.aload_n 0, 1) := by decide +kernel
theorem dX12_findOrder_1 : decode cX12_findOrder 1 = .ok (.invokevirtual 137, 3) := by decide +kernel
theorem dX12_findOrder_4 : decode cX12_findOrder 4 = .ok (.sipush 1023, 3) := by decide +kernel
theorem dX12_findOrder_7 : decode cX12_findOrder 7 = .ok (.istore_n 1, 1) := by decide +kernel
theorem dX12_findOrder_8 : decode cX12_findOrder 8 = .ok (.iload_n 1, 1) := by decide +kernel
theorem dX12_findOrder_9 : decode cX12_findOrder 9 = .ok (.ifCond .lt 96, 3) := by decide +kernel
theorem dX12_findOrder_12 : decode cX12_findOrder 12 = .ok (.aload_n 0, 1) := by decide +kernel
theorem dX12_findOrder_13 : decode cX12_findOrder 13 = .ok (.getfield 43, 3) := by decide +kernel
theorem dX12_findOrder_16 : decode cX12_findOrder 16 = .ok (.iload_n 1, 1) := by decide +kernel
theorem dX12_findOrder_17 : decode cX12_findOrder 17 = .ok (.aload_n 0, 1) := by decide +kernel
theorem dX12_findOrder_18 : decode cX12_findOrder 18 = .ok (.iload_n 1, 1) := by decide +kernel
theorem dX12_findOrder_19 : decode cX12_findOrder 19 = .ok (.iconst 0, 1) := by decide +kernel
theorem dX12_findOrder_20 : decode cX12_findOrder 20 = .ok (.invokevirtual 201, 3) := by decide +kernel
theorem dX12_findOrder_23 : decode cX12_findOrder 23 = .ok (.iastore, 1) := by decide +kernel
theorem dX12_findOrder_24 : decode cX12_findOrder 24 = .ok (.aload_n 0, 1) := by decide +kernel
end
section
theorem dX12_findOrder_25 : decode cX12_findOrder 25 = .ok (.getfield 46, 3) := by decide +kernel
theorem dX12_findOrder_28 : decode cX12_findOrder 28 = .ok (.iload_n 1, 1) := by decide +kernel
theorem dX12_findOrder_29 : decode cX12_findOrder 29 = .ok (.iconst 0, 1) := by decide +kernel
theorem dX12_findOrder_30 : decode cX12_findOrder 30 = .ok (.iastore, 1) := by decide +kernel
theorem dX12_findOrder_31 : decode cX12_findOrder 31 = .ok (.iconst 0, 1) := by decide +kernel
theorem dX12_findOrder_32 : decode cX12_findOrder 32 = .ok (.istore_n 2, 1) := by decide +kernel
theorem dX12_findOrder_33 : decode cX12_findOrder 33 = .ok (.iload_n 2, 1) := by decide +kernel
theorem dX12_findOrder_34 : decode cX12_findOrder 34 = .ok (.bipush 10, 2) := by decide +kernel
theorem dX12_findOrder_36 : decode cX12_findOrder 36 = .ok (.if_icmp .ge 63, 3) := by decide +kernel
theorem dX12_findOrder_39 : decode cX12_findOrder 39 = .ok (.iload_n 1, 1) := by decide +kernel
theorem dX12_findOrder_40 : decode cX12_findOrder 40 = .ok (.iconst 1, 1) := by decide +kernel
theorem dX12_findOrder_41 : decode cX12_findOrder 41 = .ok (.iload_n 2, 1) := by decide +kernel
theorem dX12_findOrder_42 : decode cX12_findOrder 42 = .ok (.ishl, 1) := by decide +kernel
theorem dX12_findOrder_43 : decode cX12_findOrder 43 = .ok (.ior, 1) := by decide +kernel
theorem dX12_findOrder_44 : decode cX12_findOrder 44 = .ok (.istore_n 3, 1) := by decide +kernel
theorem dX12_findOrder_45 : decode cX12_findOrder 45 = .ok (.aload_n 0, 1) := by decide +kernel
theorem dX12_findOrder_46 : decode cX12_findOrder 46 = .ok (.getfield 43, 3) := by decide +kernel
theorem dX12_findOrder_49 : decode cX12_findOrder 49 = .ok (.iload_n 3, 1) := by decide +kernel
theorem dX12_findOrder_50 : decode cX12_findOrder 50 = .ok (.iaload, 1) := by decide +kernel
theorem dX12_findOrder_51 : decode cX12_findOrder 51 = .ok (.aload_n 0, 1) := by decide +kernel
theorem dX12_findOrder_52 : decode cX12_findOrder 52 = .ok (.getfield 46, 3) := by decide +kernel
theorem dX12_findOrder_55 : decode cX12_findOrder 55 = .ok (.iload_n 3, 1) := by decide +kernel
theorem dX12_findOrder_56 : decode cX12_findOrder 56 = .ok (.iaload, 1) := by decide +kernel
theorem dX12_findOrder_57 : decode cX12_findOrder 57 = .ok (.iadd, 1) := by decide +kernel
theorem dX12_findOrder_58 : decode cX12_findOrder 58 = .ok (.istore 4, 2) := by decide +kernel
theorem dX12_findOrder_60 : decode cX12_findOrder 60 = .ok (.aload_n 0, 1) := by decide +kernel
theorem dX12_findOrder_61 : decode cX12_findOrder 61 = .ok (.getfield 46, 3) := by decide +kernel
theorem dX12_findOrder_64 : decode cX12_findOrder 64 = .ok (.iload_n 1, 1) := by decide +kernel
theorem dX12_findOrder_65 : decode cX12_findOrder 65 = .ok (.iload_n 3, 1) := by decide +kernel
theorem dX12_findOrder_66 : decode cX12_findOrder 66 = .ok (.iload_n 1, 1) := by decide +kernel
theorem dX12_findOrder_67 : decode cX12_findOrder 67 = .ok (.if_icmp .eq 19, 3) := by decide +kernel
theorem dX12_findOrder_70 : decode cX12_findOrder 70 = .ok (.iload 4, 2) := by decide +kernel
theorem dX12_findOrder_72 : decode cX12_findOrder 72 = .ok (.aload_n 0, 1) := by decide +kernel
theorem dX12_findOrder_73 : decode cX12_findOrder 73 = .ok (.getfield 46, 3) := by decide +kernel
theorem dX12_findOrder_76 : decode cX12_findOrder 76 = .ok (.iload_n 1, 1) := by decide +kernel
theorem dX12_findOrder_77 : decode cX12_findOrder 77 = .ok (.iaload, 1) := by decide +kernel
theorem dX12_findOrder_78 : decode cX12_findOrder 78 = .ok (.if_icmp .le 8, 3) := by decide +kernel
theorem dX12_findOrder_81 : decode cX12_findOrder 81 = .ok (.iload 4, 2) := by decide +kernel
theorem dX12_findOrder_83 : decode cX12_findOrder 83 = .ok (.goto 9, 3) := by decide +kernel
theorem dX12_findOrder_86 : decode cX12_findOrder 86 = .ok (.aload_n 0, 1) := by decide +kernel
theorem dX12_findOrder_87 : decode cX12_findOrder 87 = .ok (.getfield 46, 3) := by decide +kernel
theorem dX12_findOrder_90 : decode cX12_findOrder 90 = .ok (.iload_n 1, 1) := by decide +kernel
theorem dX12_findOrder_91 : decode cX12_findOrder 91 = .ok (.iaload, 1) := by decide +kernel
theorem dX12_findOrder_92 : decode cX12_findOrder 92 = .ok (.iastore, 1) := by decide +kernel
theorem dX12_findOrder_93 : decode cX12_findOrder 93 = .ok (.iinc 2 1, 3) := by decide +kernel
theorem dX12_findOrder_96 : decode cX12_findOrder 96 = .ok (.goto (-63), 3) := by decide +kernel
theorem dX12_findOrder_99 : decode cX12_findOrder 99 = .ok (.iinc 1 (-1), 3) := by decide +kernel
theorem dX12_findOrder_102 : decode cX12_findOrder 102 = .ok (.goto (-94), 3) := by decide +kernel
theorem dX12_findOrder_105 : decode cX12_findOrder 105 = .ok (.return_, 1) := by decide +kernel
theorem dX12_order_0 : decode cX12_order 0 = .ok (.iload_n 1, 1) := by decide +kernel
theorem dX12_order_1 : decode cX12_order 1 = .ok (.i2l, 1) := by decide +kernel
theorem dX12_order_2 : decode cX12_order 2 = .ok (.ldc2_w 204, 3) := by decide +kernel
theorem dX12_order_5 : decode cX12_order 5 = .ok (.ldc2_w 78, 3) := by decide +kernel
theorem dX12_order_8 : decode cX12_order 8 = .ok (.invokestatic 80, 3) := by decide +kernel
theorem dX12_order_11 : decode cX12_order 11 = .ok (.ifCond .ne 6, 3) := by decide +kernel
theorem dX12_order_14 : decode cX12_order 14 = .ok (.bipush (-6), 2) := by decide +kernel
theorem dX12_order_16 : decode cX12_order 16 = .ok (.ireturn, 1) := by decide +kernel
theorem dX12_order_17 : decode cX12_order 17 = .ok (.aload_n 0, 1) := by decide +kernel
theorem dX12_order_18 : decode cX12_order 18 = .ok (.invokevirtual 206, 3) := by decide +kernel
theorem dX12_order_21 : decode cX12_order 21 = .ok (.iload_n 1, 1) := by decide +kernel
theorem dX12_order_22 : decode cX12_order 22 = .ok (.iconst (-1), 1) := by decide +kernel
theorem dX12_order_23 : decode cX12_order 23 = .ok (.if_icmp .ne 10, 3) := by decide +kernel
theorem dX12_order_26 : decode cX12_order 26 = .ok (.aload_n 0, 1) := by decide +kernel
theorem dX12_order_27 : decode cX12_order 27 = .ok (.getfield 46, 3) := by decide +kernel
theorem dX12_order_30 : decode cX12_order 30 = .ok (.iconst 0, 1) := by decide +kernel
theorem dX12_order_31 : decode cX12_order 31 = .ok (.iaload, 1) := by decide +kernel
theorem dX12_order_32 : decode cX12_order 32 = .ok (.ireturn, 1) := by decide +kernel
theorem dX12_order_33 : decode cX12_order 33 = .ok (.iconst 0, 1) := by decide +kernel
theorem dX12_order_34 : decode cX12_order 34 = .ok (.istore_n 2, 1) := by decide +kernel
theorem dX12_order_35 : decode cX12_order 35 = .ok (.iconst 0, 1) := by decide +kernel
theorem dX12_order_36 : decode cX12_order 36 = .ok (.istore_n 3, 1) := by decide +kernel
theorem dX12_order_37 : decode cX12_order 37 = .ok (.iconst 0, 1) := by decide +kernel
theorem dX12_order_38 : decode cX12_order 38 = .ok (.istore 4, 2) := by decide +kernel
theorem dX12_order_40 : decode cX12_order 40 = .ok (.iload 4, 2) := by decide +kernel
theorem dX12_order_42 : decode cX12_order 42 = .ok (.iload_n 1, 1) := by decide +kernel
theorem dX12_order_43 : decode cX12_order 43 = .ok (.if_icmp .gt 62, 3) := by decide +kernel
theorem dX12_order_46 : decode cX12_order 46 = .ok (.iconst 0, 1) := by decide +kernel
theorem dX12_order_47 : decode cX12_order 47 = .ok (.istore_n 3, 1) := by decide +kernel
theorem dX12_order_48 : decode cX12_order 48 = .ok (.iload_n 2, 1) := by decide +kernel
theorem dX12_order_49 : decode cX12_order 49 = .ok (.iload_n 3, 1) := by decide +kernel
theorem dX12_order_50 : decode cX12_order 50 = .ok (.ishr, 1) := by decide +kernel
theorem dX12_order_51 : decode cX12_order 51 = .ok (.iconst 1, 1) := by decide +kernel
theorem dX12_order_52 : decode cX12_order 52 = .ok (.iand, 1) := by decide +kernel
theorem dX12_order_53 : decode cX12_order 53 = .ok (.iconst 1, 1) := by decide +kernel
theorem dX12_order_54 : decode cX12_order 54 = .ok (.if_icmp .eq 33, 3) := by decide +kernel
theorem dX12_order_57 : decode cX12_order 57 = .ok (.aload_n 0, 1) := by decide +kernel
theorem dX12_order_58 : decode cX12_order 58 = .ok (.getfield 43, 3) := by decide +kernel
theorem dX12_order_61 : decode cX12_order 61 = .ok (.iload_n 2, 1) := by decide +kernel
theorem dX12_order_62 : decode cX12_order 62 = .ok (.iconst 1, 1) := by decide +kernel
theorem dX12_order_63 : decode cX12_order 63 = .ok (.iload_n 3, 1) := by decide +kernel
theorem dX12_order_64 : decode cX12_order 64 = .ok (.ishl, 1) := by decide +kernel
theorem dX12_order_65 : decode cX12_order 65 = .ok (.ior, 1) := by decide +kernel
theorem dX12_order_66 : decode cX12_order 66 = .ok (.iaload, 1) := by decide +kernel
theorem dX12_order_67 : decode cX12_order 67 = .ok (.aload_n 0, 1) := by decide +kernel
theorem dX12_order_68 : decode cX12_order 68 = .ok (.getfield 46, 3) := by decide +kernel
theorem dX12_order_71 : decode cX12_order 71 = .ok (.iload_n 2, 1) := by decide +kernel
theorem dX12_order_72 : decode cX12_order 72 = .ok (.iconst 1, 1) := by decide +kernel
theorem dX12_order_73 : decode cX12_order 73 = .ok (.iload_n 3, 1) := by decide +kernel
theorem dX12_order_74 : decode cX12_order 74 = .ok (.ishl, 1) := by decide +kernel
theorem dX12_order_75 : decode cX12_order 75 = .ok (.ior, 1) := by decide +kernel
theorem dX12_order_76 : decode cX12_order 76 = .ok (.iaload, 1) := by decide +kernel
theorem dX12_order_77 : decode cX12_order 77 = .ok (.iadd, 1) := by decide +kernel
theorem dX12_order_78 : decode cX12_order 78 = .ok (.aload_n 0, 1) := by decide +kernel
theorem dX12_order_79 : decode cX12_order 79 = .ok (.getfield 46, 3) := by decide +kernel
theorem dX12_order_82 : decode cX12_order 82 = .ok (.iload_n 2, 1) := by decide +kernel
theorem dX12_order_83 : decode cX12_order 83 = .ok (.iaload, 1) := by decide +kernel
theorem dX12_order_84 : decode cX12_order 84 = .ok (.if_icmp .eq 9, 3) := by decide +kernel
theorem dX12_order_87 : decode cX12_order 87 = .ok (.iinc 3 1, 3) := by decide +kernel
theorem dX12_order_90 : decode cX12_order 90 = .ok (.goto (-42), 3) := by decide +kernel
theorem dX12_order_93 : decode cX12_order 93 = .ok (.iload_n 2, 1) := by decide +kernel
theorem dX12_order_94 : decode cX12_order 94 = .ok (.iconst 1, 1) := by decide +kernel
theorem dX12_order_95 : decode cX12_order 95 = .ok (.iload_n 3, 1) := by decide +kernel
theorem dX12_order_96 : decode cX12_order 96 = .ok (.ishl, 1) := by decide +kernel
theorem dX12_order_97 : decode cX12_order 97 = .ok (.ior, 1) := by decide +kernel
theorem dX12_order_98 : decode cX12_order 98 = .ok (.istore_n 2, 1) := by decide +kernel
theorem dX12_order_99 : decode cX12_order 99 = .ok (.iinc 4 1, 3) := by decide +kernel
theorem dX12_order_102 : decode cX12_order 102 = .ok (.goto (-62), 3) := by decide +kernel
theorem dX12_order_105 : decode cX12_order 105 = .ok (.iload_n 3, 1) := by decide +kernel
theorem dX12_order_106 : decode cX12_order 106 = .ok (.ireturn, 1) := by decide +kernel
theorem dX12_wholesFor_0 : decode cX12_wholesFor 0 = .ok (.iconst 0, 1) := by decide +kernel
theorem dX12_wholesFor_1 : decode cX12_wholesFor 1 = .ok (.istore_n 3, 1) := by decide +kernel
theorem dX12_wholesFor_2 : decode cX12_wholesFor 2 = .ok (.iconst 0, 1) := by decide +kernel
theorem dX12_wholesFor_3 : decode cX12_wholesFor 3 = .ok (.istore 4, 2) := by decide +kernel
theorem dX12_wholesFor_5 : decode cX12_wholesFor 5 = .ok (.iload 4, 2) := by decide +kernel
theorem dX12_wholesFor_7 : decode cX12_wholesFor 7 = .ok (.iload_n 2, 1) := by decide +kernel
theorem dX12_wholesFor_8 : decode cX12_wholesFor 8 = .ok (.if_icmp .ge 109, 3) := by decide +kernel
theorem dX12_wholesFor_11 : decode cX12_wholesFor 11 = .ok (.bipush (-6), 2) := by decide +kernel
theorem dX12_wholesFor_13 : decode cX12_wholesFor 13 = .ok (.istore 5, 2) := by decide +kernel
theorem dX12_wholesFor_15 : decode cX12_wholesFor 15 = .ok (.iconst 0, 1) := by decide +kernel
theorem dX12_wholesFor_16 : decode cX12_wholesFor 16 = .ok (.istore 6, 2) := by decide +kernel
theorem dX12_wholesFor_18 : decode cX12_wholesFor 18 = .ok (.iload 6, 2) := by decide +kernel
theorem dX12_wholesFor_20 : decode cX12_wholesFor 20 = .ok (.aload_n 0, 1) := by decide +kernel
theorem dX12_wholesFor_21 : decode cX12_wholesFor 21 = .ok (.getfield 105, 3) := by decide +kernel
theorem dX12_wholesFor_24 : decode cX12_wholesFor 24 = .ok (.if_icmp .ge 71, 3) := by decide +kernel
theorem dX12_wholesFor_27 : decode cX12_wholesFor 27 = .ok (.iload_n 3, 1) := by decide +kernel
theorem dX12_wholesFor_28 : decode cX12_wholesFor 28 = .ok (.iload 6, 2) := by decide +kernel
theorem dX12_wholesFor_30 : decode cX12_wholesFor 30 = .ok (.ishr, 1) := by decide +kernel
theorem dX12_wholesFor_31 : decode cX12_wholesFor 31 = .ok (.iconst 1, 1) := by decide +kernel
theorem dX12_wholesFor_32 : decode cX12_wholesFor 32 = .ok (.iand, 1) := by decide +kernel
theorem dX12_wholesFor_33 : decode cX12_wholesFor 33 = .ok (.ifCond .ne 17, 3) := by decide +kernel
theorem dX12_wholesFor_36 : decode cX12_wholesFor 36 = .ok (.aload_n 0, 1) := by decide +kernel
theorem dX12_wholesFor_37 : decode cX12_wholesFor 37 = .ok (.iload 6, 2) := by decide +kernel
theorem dX12_wholesFor_39 : decode cX12_wholesFor 39 = .ok (.iload_n 1, 1) := by decide +kernel
theorem dX12_wholesFor_40 : decode cX12_wholesFor 40 = .ok (.invokevirtual 197, 3) := by decide +kernel
theorem dX12_wholesFor_43 : decode cX12_wholesFor 43 = .ok (.ifCond .ne 7, 3) := by decide +kernel
theorem dX12_wholesFor_46 : decode cX12_wholesFor 46 = .ok (.iconst 1, 1) := by decide +kernel
theorem dX12_wholesFor_47 : decode cX12_wholesFor 47 = .ok (.goto 4, 3) := by decide +kernel
theorem dX12_wholesFor_50 : decode cX12_wholesFor 50 = .ok (.iconst 0, 1) := by decide +kernel
theorem dX12_wholesFor_51 : decode cX12_wholesFor 51 = .ok (.istore 7, 2) := by decide +kernel
theorem dX12_wholesFor_53 : decode cX12_wholesFor 53 = .ok (.iload 7, 2) := by decide +kernel
theorem dX12_wholesFor_55 : decode cX12_wholesFor 55 = .ok (.ifCond .eq 30, 3) := by decide +kernel
theorem dX12_wholesFor_58 : decode cX12_wholesFor 58 = .ok (.iload 5, 2) := by decide +kernel
theorem dX12_wholesFor_60 : decode cX12_wholesFor 60 = .ok (.ifCond .lt 20, 3) := by decide +kernel
theorem dX12_wholesFor_63 : decode cX12_wholesFor 63 = .ok (.aload_n 0, 1) := by decide +kernel
theorem dX12_wholesFor_64 : decode cX12_wholesFor 64 = .ok (.getfield 19, 3) := by decide +kernel
theorem dX12_wholesFor_67 : decode cX12_wholesFor 67 = .ok (.iload 6, 2) := by decide +kernel
theorem dX12_wholesFor_69 : decode cX12_wholesFor 69 = .ok (.iaload, 1) := by decide +kernel
theorem dX12_wholesFor_70 : decode cX12_wholesFor 70 = .ok (.aload_n 0, 1) := by decide +kernel
theorem dX12_wholesFor_71 : decode cX12_wholesFor 71 = .ok (.getfield 19, 3) := by decide +kernel
theorem dX12_wholesFor_74 : decode cX12_wholesFor 74 = .ok (.iload 5, 2) := by decide +kernel
theorem dX12_wholesFor_76 : decode cX12_wholesFor 76 = .ok (.iaload, 1) := by decide +kernel
theorem dX12_wholesFor_77 : decode cX12_wholesFor 77 = .ok (.if_icmp .le 8, 3) := by decide +kernel
theorem dX12_wholesFor_80 : decode cX12_wholesFor 80 = .ok (.iload 6, 2) := by decide +kernel
theorem dX12_wholesFor_82 : decode cX12_wholesFor 82 = .ok (.goto 5, 3) := by decide +kernel
theorem dX12_wholesFor_85 : decode cX12_wholesFor 85 = .ok (.iload 5, 2) := by decide +kernel
theorem dX12_wholesFor_87 : decode cX12_wholesFor 87 = .ok (.istore 5, 2) := by decide +kernel
theorem dX12_wholesFor_89 : decode cX12_wholesFor 89 = .ok (.iinc 6 1, 3) := by decide +kernel
theorem dX12_wholesFor_92 : decode cX12_wholesFor 92 = .ok (.goto (-74), 3) := by decide +kernel
theorem dX12_wholesFor_95 : decode cX12_wholesFor 95 = .ok (.iload_n 3, 1) := by decide +kernel
theorem dX12_wholesFor_96 : decode cX12_wholesFor 96 = .ok (.iload 5, 2) := by decide +kernel
theorem dX12_wholesFor_98 : decode cX12_wholesFor 98 = .ok (.ifCond .ge 7, 3) := by decide +kernel
theorem dX12_wholesFor_101 : decode cX12_wholesFor 101 = .ok (.iconst 0, 1) := by decide +kernel
theorem dX12_wholesFor_102 : decode cX12_wholesFor 102 = .ok (.goto 7, 3) := by decide +kernel
theorem dX12_wholesFor_105 : decode cX12_wholesFor 105 = .ok (.iconst 1, 1) := by decide +kernel
theorem dX12_wholesFor_106 : decode cX12_wholesFor 106 = .ok (.iload 5, 2) := by decide +kernel
theorem dX12_wholesFor_108 : decode cX12_wholesFor 108 = .ok (.ishl, 1) := by decide +kernel
theorem dX12_wholesFor_109 : decode cX12_wholesFor 109 = .ok (.ior, 1) := by decide +kernel
theorem dX12_wholesFor_110 : decode cX12_wholesFor 110 = .ok (.istore_n 3, 1) := by decide +kernel
theorem dX12_wholesFor_111 : decode cX12_wholesFor 111 = .ok (.iinc 4 1, 3) := by decide +kernel
theorem dX12_wholesFor_114 : decode cX12_wholesFor 114 = .ok (.goto (-109), 3) := by decide +kernel
theorem dX12_wholesFor_117 : decode cX12_wholesFor 117 = .ok (.iload_n 3, 1) := by decide +kernel
theorem dX12_wholesFor_118 : decode cX12_wholesFor 118 = .ok (.ireturn, 1) := by decide +kernel
theorem dX12_most_0 : decode cX12_most 0 = .ok (.iload_n 1, 1) := by decide +kernel
theorem dX12_most_1 : decode cX12_most 1 = .ok (.i2l, 1) := by decide +kernel
theorem dX12_most_2 : decode cX12_most 2 = .ok (.lconst 0, 1) := by decide +kernel
theorem dX12_most_3 : decode cX12_most 3 = .ok (.ldc2_w 125, 3) := by decide +kernel
theorem dX12_most_6 : decode cX12_most 6 = .ok (.invokestatic 80, 3) := by decide +kernel
theorem dX12_most_9 : decode cX12_most 9 = .ok (.ifCond .eq 29, 3) := by decide +kernel
theorem dX12_most_12 : decode cX12_most 12 = .ok (.iload_n 2, 1) := by decide +kernel
theorem dX12_most_13 : decode cX12_most 13 = .ok (.i2l, 1) := by decide +kernel
theorem dX12_most_14 : decode cX12_most 14 = .ok (.lconst 0, 1) := by decide +kernel
theorem dX12_most_15 : decode cX12_most 15 = .ok (.aload_n 0, 1) := by decide +kernel
theorem dX12_most_16 : decode cX12_most 16 = .ok (.getfield 105, 3) := by decide +kernel
theorem dX12_most_19 : decode cX12_most 19 = .ok (.i2l, 1) := by decide +kernel
theorem dX12_most_20 : decode cX12_most 20 = .ok (.invokestatic 80, 3) := by decide +kernel
theorem dX12_most_23 : decode cX12_most 23 = .ok (.ifCond .eq 15, 3) := by decide +kernel
theorem dX12_most_26 : decode cX12_most 26 = .ok (.iload_n 3, 1) := by decide +kernel
theorem dX12_most_27 : decode cX12_most 27 = .ok (.i2l, 1) := by decide +kernel
theorem dX12_most_28 : decode cX12_most 28 = .ok (.lconst 0, 1) := by decide +kernel
theorem dX12_most_29 : decode cX12_most 29 = .ok (.ldc2_w 209, 3) := by decide +kernel
theorem dX12_most_32 : decode cX12_most 32 = .ok (.invokestatic 80, 3) := by decide +kernel
theorem dX12_most_35 : decode cX12_most 35 = .ok (.ifCond .ne 6, 3) := by decide +kernel
theorem dX12_most_38 : decode cX12_most 38 = .ok (.bipush (-2), 2) := by decide +kernel
theorem dX12_most_40 : decode cX12_most 40 = .ok (.ireturn, 1) := by decide +kernel
theorem dX12_most_41 : decode cX12_most 41 = .ok (.aload_n 0, 1) := by decide +kernel
theorem dX12_most_42 : decode cX12_most 42 = .ok (.invokevirtual 137, 3) := by decide +kernel
theorem dX12_most_45 : decode cX12_most 45 = .ok (.bipush (-6), 2) := by decide +kernel
theorem dX12_most_47 : decode cX12_most 47 = .ok (.istore 4, 2) := by decide +kernel
theorem dX12_most_49 : decode cX12_most 49 = .ok (.iconst 0, 1) := by decide +kernel
theorem dX12_most_50 : decode cX12_most 50 = .ok (.istore 5, 2) := by decide +kernel
theorem dX12_most_52 : decode cX12_most 52 = .ok (.iconst 0, 1) := by decide +kernel
theorem dX12_most_53 : decode cX12_most 53 = .ok (.istore 6, 2) := by decide +kernel
theorem dX12_most_55 : decode cX12_most 55 = .ok (.iconst 0, 1) := by decide +kernel
theorem dX12_most_56 : decode cX12_most 56 = .ok (.istore 7, 2) := by decide +kernel
theorem dX12_most_58 : decode cX12_most 58 = .ok (.iload 7, 2) := by decide +kernel
theorem dX12_most_60 : decode cX12_most 60 = .ok (.sipush 1024, 3) := by decide +kernel
theorem dX12_most_63 : decode cX12_most 63 = .ok (.if_icmp .ge 56, 3) := by decide +kernel
theorem dX12_most_66 : decode cX12_most 66 = .ok (.iload 7, 2) := by decide +kernel
theorem dX12_most_68 : decode cX12_most 68 = .ok (.invokestatic 211, 3) := by decide +kernel
theorem dX12_most_71 : decode cX12_most 71 = .ok (.iload_n 1, 1) := by decide +kernel
theorem dX12_most_72 : decode cX12_most 72 = .ok (.if_icmp .ne 41, 3) := by decide +kernel
theorem dX12_most_75 : decode cX12_most 75 = .ok (.aload_n 0, 1) := by decide +kernel
theorem dX12_most_76 : decode cX12_most 76 = .ok (.iload 7, 2) := by decide +kernel
theorem dX12_most_78 : decode cX12_most 78 = .ok (.iload_n 2, 1) := by decide +kernel
theorem dX12_most_79 : decode cX12_most 79 = .ok (.invokevirtual 214, 3) := by decide +kernel
theorem dX12_most_82 : decode cX12_most 82 = .ok (.istore 8, 2) := by decide +kernel
theorem dX12_most_84 : decode cX12_most 84 = .ok (.aload_n 0, 1) := by decide +kernel
theorem dX12_most_85 : decode cX12_most 85 = .ok (.iload 7, 2) := by decide +kernel
theorem dX12_most_87 : decode cX12_most 87 = .ok (.iload 8, 2) := by decide +kernel
theorem dX12_most_89 : decode cX12_most 89 = .ok (.invokevirtual 201, 3) := by decide +kernel
theorem dX12_most_92 : decode cX12_most 92 = .ok (.istore 9, 2) := by decide +kernel
theorem dX12_most_94 : decode cX12_most 94 = .ok (.iload 9, 2) := by decide +kernel
theorem dX12_most_96 : decode cX12_most 96 = .ok (.iload 4, 2) := by decide +kernel
theorem dX12_most_98 : decode cX12_most 98 = .ok (.if_icmp .le 15, 3) := by decide +kernel
theorem dX12_most_101 : decode cX12_most 101 = .ok (.iload 9, 2) := by decide +kernel
theorem dX12_most_103 : decode cX12_most 103 = .ok (.istore 4, 2) := by decide +kernel
theorem dX12_most_105 : decode cX12_most 105 = .ok (.iload 7, 2) := by decide +kernel
theorem dX12_most_107 : decode cX12_most 107 = .ok (.istore 5, 2) := by decide +kernel
theorem dX12_most_109 : decode cX12_most 109 = .ok (.iload 8, 2) := by decide +kernel
theorem dX12_most_111 : decode cX12_most 111 = .ok (.istore 6, 2) := by decide +kernel
theorem dX12_most_113 : decode cX12_most 113 = .ok (.iinc 7 1, 3) := by decide +kernel
theorem dX12_most_116 : decode cX12_most 116 = .ok (.goto (-58), 3) := by decide +kernel
theorem dX12_most_119 : decode cX12_most 119 = .ok (.iload_n 3, 1) := by decide +kernel
theorem dX12_most_120 : decode cX12_most 120 = .ok (.ifCond .ne 8, 3) := by decide +kernel
theorem dX12_most_123 : decode cX12_most 123 = .ok (.iload 4, 2) := by decide +kernel
theorem dX12_most_125 : decode cX12_most 125 = .ok (.goto 15, 3) := by decide +kernel
theorem dX12_most_128 : decode cX12_most 128 = .ok (.iload_n 3, 1) := by decide +kernel
theorem dX12_most_129 : decode cX12_most 129 = .ok (.iconst 1, 1) := by decide +kernel
theorem dX12_most_130 : decode cX12_most 130 = .ok (.if_icmp .ne 8, 3) := by decide +kernel
theorem dX12_most_133 : decode cX12_most 133 = .ok (.iload 5, 2) := by decide +kernel
theorem dX12_most_135 : decode cX12_most 135 = .ok (.goto 5, 3) := by decide +kernel
theorem dX12_most_138 : decode cX12_most 138 = .ok (.iload 6, 2) := by decide +kernel
theorem dX12_most_140 : decode cX12_most 140 = .ok (.ireturn, 1) := by decide +kernel
theorem dX12_follows_0 : decode cX12_follows 0 = .ok (.aload_n 0, 1) := by decide +kernel
theorem dX12_follows_1 : decode cX12_follows 1 = .ok (.getfield 53, 3) := by decide +kernel
theorem dX12_follows_4 : decode cX12_follows 4 = .ok (.iload_n 2, 1) := by decide +kernel
theorem dX12_follows_5 : decode cX12_follows 5 = .ok (.baload, 1) := by decide +kernel
theorem dX12_follows_6 : decode cX12_follows 6 = .ok (.ifCond .eq 35, 3) := by decide +kernel
theorem dX12_follows_9 : decode cX12_follows 9 = .ok (.aload_n 0, 1) := by decide +kernel
theorem dX12_follows_10 : decode cX12_follows 10 = .ok (.getfield 7, 3) := by decide +kernel
theorem dX12_follows_13 : decode cX12_follows 13 = .ok (.iconst 5, 1) := by decide +kernel
theorem dX12_follows_14 : decode cX12_follows 14 = .ok (.iload_n 1, 1) := by decide +kernel
theorem dX12_follows_15 : decode cX12_follows 15 = .ok (.imul, 1) := by decide +kernel
theorem dX12_follows_16 : decode cX12_follows 16 = .ok (.aload_n 0, 1) := by decide +kernel
theorem dX12_follows_17 : decode cX12_follows 17 = .ok (.getfield 16, 3) := by decide +kernel
theorem dX12_follows_20 : decode cX12_follows 20 = .ok (.iload_n 1, 1) := by decide +kernel
theorem dX12_follows_21 : decode cX12_follows 21 = .ok (.iaload, 1) := by decide +kernel
theorem dX12_follows_22 : decode cX12_follows 22 = .ok (.iadd, 1) := by decide +kernel
theorem dX12_follows_23 : decode cX12_follows 23 = .ok (.iconst 1, 1) := by decide +kernel
theorem dX12_follows_24 : decode cX12_follows 24 = .ok (.isub, 1) := by decide +kernel
theorem dX12_follows_25 : decode cX12_follows 25 = .ok (.iaload, 1) := by decide +kernel
theorem dX12_follows_26 : decode cX12_follows 26 = .ok (.aload_n 0, 1) := by decide +kernel
theorem dX12_follows_27 : decode cX12_follows 27 = .ok (.getfield 7, 3) := by decide +kernel
theorem dX12_follows_30 : decode cX12_follows 30 = .ok (.iconst 5, 1) := by decide +kernel
theorem dX12_follows_31 : decode cX12_follows 31 = .ok (.iload_n 2, 1) := by decide +kernel
theorem dX12_follows_32 : decode cX12_follows 32 = .ok (.imul, 1) := by decide +kernel
theorem dX12_follows_33 : decode cX12_follows 33 = .ok (.iaload, 1) := by decide +kernel
theorem dX12_follows_34 : decode cX12_follows 34 = .ok (.if_icmp .ne 7, 3) := by decide +kernel
theorem dX12_follows_37 : decode cX12_follows 37 = .ok (.iconst 1, 1) := by decide +kernel
theorem dX12_follows_38 : decode cX12_follows 38 = .ok (.goto 4, 3) := by decide +kernel
theorem dX12_follows_41 : decode cX12_follows 41 = .ok (.iconst 0, 1) := by decide +kernel
theorem dX12_follows_42 : decode cX12_follows 42 = .ok (.ireturn, 1) := by decide +kernel
theorem dX12_findTales_0 : decode cX12_findTales 0 = .ok (.aload_n 0, 1) := by decide +kernel
theorem dX12_findTales_1 : decode cX12_findTales 1 = .ok (.invokevirtual 137, 3) := by decide +kernel
theorem dX12_findTales_4 : decode cX12_findTales 4 = .ok (.iconst 0, 1) := by decide +kernel
theorem dX12_findTales_5 : decode cX12_findTales 5 = .ok (.istore_n 2, 1) := by decide +kernel
theorem dX12_findTales_6 : decode cX12_findTales 6 = .ok (.iload_n 2, 1) := by decide +kernel
theorem dX12_findTales_7 : decode cX12_findTales 7 = .ok (.aload_n 0, 1) := by decide +kernel
theorem dX12_findTales_8 : decode cX12_findTales 8 = .ok (.getfield 105, 3) := by decide +kernel
theorem dX12_findTales_11 : decode cX12_findTales 11 = .ok (.if_icmp .ge 33, 3) := by decide +kernel
theorem dX12_findTales_14 : decode cX12_findTales 14 = .ok (.aload_n 0, 1) := by decide +kernel
theorem dX12_findTales_15 : decode cX12_findTales 15 = .ok (.getfield 53, 3) := by decide +kernel
theorem dX12_findTales_18 : decode cX12_findTales 18 = .ok (.iload_n 2, 1) := by decide +kernel
theorem dX12_findTales_19 : decode cX12_findTales 19 = .ok (.aload_n 0, 1) := by decide +kernel
theorem dX12_findTales_20 : decode cX12_findTales 20 = .ok (.iload_n 1, 1) := by decide +kernel
theorem dX12_findTales_21 : decode cX12_findTales 21 = .ok (.aload_n 0, 1) := by decide +kernel
theorem dX12_findTales_22 : decode cX12_findTales 22 = .ok (.getfield 34, 3) := by decide +kernel
theorem dX12_findTales_25 : decode cX12_findTales 25 = .ok (.iload_n 1, 1) := by decide +kernel
theorem dX12_findTales_26 : decode cX12_findTales 26 = .ok (.iaload, 1) := by decide +kernel
theorem dX12_findTales_27 : decode cX12_findTales 27 = .ok (.aload_n 0, 1) := by decide +kernel
theorem dX12_findTales_28 : decode cX12_findTales 28 = .ok (.getfield 37, 3) := by decide +kernel
theorem dX12_findTales_31 : decode cX12_findTales 31 = .ok (.iload_n 1, 1) := by decide +kernel
theorem dX12_findTales_32 : decode cX12_findTales 32 = .ok (.iaload, 1) := by decide +kernel
theorem dX12_findTales_33 : decode cX12_findTales 33 = .ok (.iload_n 2, 1) := by decide +kernel
theorem dX12_findTales_34 : decode cX12_findTales 34 = .ok (.invokevirtual 189, 3) := by decide +kernel
theorem dX12_findTales_37 : decode cX12_findTales 37 = .ok (.bastore, 1) := by decide +kernel
theorem dX12_findTales_38 : decode cX12_findTales 38 = .ok (.iinc 2 1, 3) := by decide +kernel
theorem dX12_findTales_41 : decode cX12_findTales 41 = .ok (.goto (-35), 3) := by decide +kernel
theorem dX12_findTales_44 : decode cX12_findTales 44 = .ok (.iconst 1, 1) := by decide +kernel
theorem dX12_findTales_45 : decode cX12_findTales 45 = .ok (.aload_n 0, 1) := by decide +kernel
theorem dX12_findTales_46 : decode cX12_findTales 46 = .ok (.getfield 105, 3) := by decide +kernel
theorem dX12_findTales_49 : decode cX12_findTales 49 = .ok (.ishl, 1) := by decide +kernel
theorem dX12_findTales_50 : decode cX12_findTales 50 = .ok (.iconst 1, 1) := by decide +kernel
theorem dX12_findTales_51 : decode cX12_findTales 51 = .ok (.isub, 1) := by decide +kernel
theorem dX12_findTales_52 : decode cX12_findTales 52 = .ok (.istore_n 2, 1) := by decide +kernel
theorem dX12_findTales_53 : decode cX12_findTales 53 = .ok (.iload_n 2, 1) := by decide +kernel
theorem dX12_findTales_54 : decode cX12_findTales 54 = .ok (.ifCond .le 149, 3) := by decide +kernel
theorem dX12_findTales_57 : decode cX12_findTales 57 = .ok (.iconst 0, 1) := by decide +kernel
theorem dX12_findTales_58 : decode cX12_findTales 58 = .ok (.istore_n 3, 1) := by decide +kernel
theorem dX12_findTales_59 : decode cX12_findTales 59 = .ok (.iload_n 3, 1) := by decide +kernel
theorem dX12_findTales_60 : decode cX12_findTales 60 = .ok (.aload_n 0, 1) := by decide +kernel
theorem dX12_findTales_61 : decode cX12_findTales 61 = .ok (.getfield 105, 3) := by decide +kernel
theorem dX12_findTales_64 : decode cX12_findTales 64 = .ok (.if_icmp .ge 133, 3) := by decide +kernel
theorem dX12_findTales_67 : decode cX12_findTales 67 = .ok (.iload_n 2, 1) := by decide +kernel
theorem dX12_findTales_68 : decode cX12_findTales 68 = .ok (.iload_n 3, 1) := by decide +kernel
theorem dX12_findTales_69 : decode cX12_findTales 69 = .ok (.ishr, 1) := by decide +kernel
theorem dX12_findTales_70 : decode cX12_findTales 70 = .ok (.iconst 1, 1) := by decide +kernel
theorem dX12_findTales_71 : decode cX12_findTales 71 = .ok (.iand, 1) := by decide +kernel
theorem dX12_findTales_72 : decode cX12_findTales 72 = .ok (.iconst 1, 1) := by decide +kernel
theorem dX12_findTales_73 : decode cX12_findTales 73 = .ok (.if_icmp .ne 118, 3) := by decide +kernel
theorem dX12_findTales_76 : decode cX12_findTales 76 = .ok (.iconst 0, 1) := by decide +kernel
theorem dX12_findTales_77 : decode cX12_findTales 77 = .ok (.istore 4, 2) := by decide +kernel
theorem dX12_findTales_79 : decode cX12_findTales 79 = .ok (.iconst 0, 1) := by decide +kernel
theorem dX12_findTales_80 : decode cX12_findTales 80 = .ok (.istore 5, 2) := by decide +kernel
theorem dX12_findTales_82 : decode cX12_findTales 82 = .ok (.iload 5, 2) := by decide +kernel
theorem dX12_findTales_84 : decode cX12_findTales 84 = .ok (.aload_n 0, 1) := by decide +kernel
theorem dX12_findTales_85 : decode cX12_findTales 85 = .ok (.getfield 105, 3) := by decide +kernel
theorem dX12_findTales_88 : decode cX12_findTales 88 = .ok (.if_icmp .ge 90, 3) := by decide +kernel
theorem dX12_findTales_91 : decode cX12_findTales 91 = .ok (.iload_n 2, 1) := by decide +kernel
theorem dX12_findTales_92 : decode cX12_findTales 92 = .ok (.iload 5, 2) := by decide +kernel
theorem dX12_findTales_94 : decode cX12_findTales 94 = .ok (.ishr, 1) := by decide +kernel
theorem dX12_findTales_95 : decode cX12_findTales 95 = .ok (.iconst 1, 1) := by decide +kernel
theorem dX12_findTales_96 : decode cX12_findTales 96 = .ok (.iand, 1) := by decide +kernel
theorem dX12_findTales_97 : decode cX12_findTales 97 = .ok (.ifCond .ne 17, 3) := by decide +kernel
theorem dX12_findTales_100 : decode cX12_findTales 100 = .ok (.aload_n 0, 1) := by decide +kernel
theorem dX12_findTales_101 : decode cX12_findTales 101 = .ok (.iload_n 3, 1) := by decide +kernel
theorem dX12_findTales_102 : decode cX12_findTales 102 = .ok (.iload 5, 2) := by decide +kernel
theorem dX12_findTales_104 : decode cX12_findTales 104 = .ok (.invokevirtual 217, 3) := by decide +kernel
theorem dX12_findTales_107 : decode cX12_findTales 107 = .ok (.ifCond .eq 7, 3) := by decide +kernel
theorem dX12_findTales_110 : decode cX12_findTales 110 = .ok (.iconst 1, 1) := by decide +kernel
theorem dX12_findTales_111 : decode cX12_findTales 111 = .ok (.goto 4, 3) := by decide +kernel
theorem dX12_findTales_114 : decode cX12_findTales 114 = .ok (.iconst 0, 1) := by decide +kernel
theorem dX12_findTales_115 : decode cX12_findTales 115 = .ok (.istore 6, 2) := by decide +kernel
theorem dX12_findTales_117 : decode cX12_findTales 117 = .ok (.iload 6, 2) := by decide +kernel
theorem dX12_findTales_119 : decode cX12_findTales 119 = .ok (.ifCond .eq 49, 3) := by decide +kernel
theorem dX12_findTales_122 : decode cX12_findTales 122 = .ok (.iconst 1, 1) := by decide +kernel
theorem dX12_findTales_123 : decode cX12_findTales 123 = .ok (.aload_n 0, 1) := by decide +kernel
theorem dX12_findTales_124 : decode cX12_findTales 124 = .ok (.getfield 50, 3) := by decide +kernel
theorem dX12_findTales_127 : decode cX12_findTales 127 = .ok (.bipush 12, 2) := by decide +kernel
theorem dX12_findTales_129 : decode cX12_findTales 129 = .ok (.iload_n 2, 1) := by decide +kernel
theorem dX12_findTales_130 : decode cX12_findTales 130 = .ok (.iconst 1, 1) := by decide +kernel
theorem dX12_findTales_131 : decode cX12_findTales 131 = .ok (.iload 5, 2) := by decide +kernel
theorem dX12_findTales_133 : decode cX12_findTales 133 = .ok (.ishl, 1) := by decide +kernel
theorem dX12_findTales_134 : decode cX12_findTales 134 = .ok (.ior, 1) := by decide +kernel
theorem dX12_findTales_135 : decode cX12_findTales 135 = .ok (.imul, 1) := by decide +kernel
theorem dX12_findTales_136 : decode cX12_findTales 136 = .ok (.iload 5, 2) := by decide +kernel
theorem dX12_findTales_138 : decode cX12_findTales 138 = .ok (.iadd, 1) := by decide +kernel
theorem dX12_findTales_139 : decode cX12_findTales 139 = .ok (.iaload, 1) := by decide +kernel
theorem dX12_findTales_140 : decode cX12_findTales 140 = .ok (.iadd, 1) := by decide +kernel
theorem dX12_findTales_141 : decode cX12_findTales 141 = .ok (.iload 4, 2) := by decide +kernel
theorem dX12_findTales_143 : decode cX12_findTales 143 = .ok (.if_icmp .le 25, 3) := by decide +kernel
theorem dX12_findTales_146 : decode cX12_findTales 146 = .ok (.iconst 1, 1) := by decide +kernel
theorem dX12_findTales_147 : decode cX12_findTales 147 = .ok (.aload_n 0, 1) := by decide +kernel
theorem dX12_findTales_148 : decode cX12_findTales 148 = .ok (.getfield 50, 3) := by decide +kernel
theorem dX12_findTales_151 : decode cX12_findTales 151 = .ok (.bipush 12, 2) := by decide +kernel
theorem dX12_findTales_153 : decode cX12_findTales 153 = .ok (.iload_n 2, 1) := by decide +kernel
theorem dX12_findTales_154 : decode cX12_findTales 154 = .ok (.iconst 1, 1) := by decide +kernel
theorem dX12_findTales_155 : decode cX12_findTales 155 = .ok (.iload 5, 2) := by decide +kernel
theorem dX12_findTales_157 : decode cX12_findTales 157 = .ok (.ishl, 1) := by decide +kernel
theorem dX12_findTales_158 : decode cX12_findTales 158 = .ok (.ior, 1) := by decide +kernel
theorem dX12_findTales_159 : decode cX12_findTales 159 = .ok (.imul, 1) := by decide +kernel
theorem dX12_findTales_160 : decode cX12_findTales 160 = .ok (.iload 5, 2) := by decide +kernel
theorem dX12_findTales_162 : decode cX12_findTales 162 = .ok (.iadd, 1) := by decide +kernel
theorem dX12_findTales_163 : decode cX12_findTales 163 = .ok (.iaload, 1) := by decide +kernel
theorem dX12_findTales_164 : decode cX12_findTales 164 = .ok (.iadd, 1) := by decide +kernel
theorem dX12_findTales_165 : decode cX12_findTales 165 = .ok (.goto 5, 3) := by decide +kernel
theorem dX12_findTales_168 : decode cX12_findTales 168 = .ok (.iload 4, 2) := by decide +kernel
theorem dX12_findTales_170 : decode cX12_findTales 170 = .ok (.istore 4, 2) := by decide +kernel
theorem dX12_findTales_172 : decode cX12_findTales 172 = .ok (.iinc 5 1, 3) := by decide +kernel
theorem dX12_findTales_175 : decode cX12_findTales 175 = .ok (.goto (-93), 3) := by decide +kernel
theorem dX12_findTales_178 : decode cX12_findTales 178 = .ok (.aload_n 0, 1) := by decide +kernel
theorem dX12_findTales_179 : decode cX12_findTales 179 = .ok (.getfield 50, 3) := by decide +kernel
theorem dX12_findTales_182 : decode cX12_findTales 182 = .ok (.bipush 12, 2) := by decide +kernel
theorem dX12_findTales_184 : decode cX12_findTales 184 = .ok (.iload_n 2, 1) := by decide +kernel
theorem dX12_findTales_185 : decode cX12_findTales 185 = .ok (.imul, 1) := by decide +kernel
theorem dX12_findTales_186 : decode cX12_findTales 186 = .ok (.iload_n 3, 1) := by decide +kernel
theorem dX12_findTales_187 : decode cX12_findTales 187 = .ok (.iadd, 1) := by decide +kernel
theorem dX12_findTales_188 : decode cX12_findTales 188 = .ok (.iload 4, 2) := by decide +kernel
theorem dX12_findTales_190 : decode cX12_findTales 190 = .ok (.iastore, 1) := by decide +kernel
theorem dX12_findTales_191 : decode cX12_findTales 191 = .ok (.iinc 3 1, 3) := by decide +kernel
theorem dX12_findTales_194 : decode cX12_findTales 194 = .ok (.goto (-135), 3) := by decide +kernel
theorem dX12_findTales_197 : decode cX12_findTales 197 = .ok (.iinc 2 (-1), 3) := by decide +kernel
theorem dX12_findTales_200 : decode cX12_findTales 200 = .ok (.goto (-147), 3) := by decide +kernel
theorem dX12_findTales_203 : decode cX12_findTales 203 = .ok (.return_, 1) := by decide +kernel
theorem dX12_tale_0 : decode cX12_tale 0 = .ok (.iload_n 1, 1) := by decide +kernel
theorem dX12_tale_1 : decode cX12_tale 1 = .ok (.invokestatic 160, 3) := by decide +kernel
theorem dX12_tale_4 : decode cX12_tale 4 = .ok (.ifCond .ne 5, 3) := by decide +kernel
theorem dX12_tale_7 : decode cX12_tale 7 = .ok (.iconst (-1), 1) := by decide +kernel
theorem dX12_tale_8 : decode cX12_tale 8 = .ok (.ireturn, 1) := by decide +kernel
theorem dX12_tale_9 : decode cX12_tale 9 = .ok (.aload_n 0, 1) := by decide +kernel
theorem dX12_tale_10 : decode cX12_tale 10 = .ok (.iload_n 1, 1) := by decide +kernel
theorem dX12_tale_11 : decode cX12_tale 11 = .ok (.invokevirtual 220, 3) := by decide +kernel
theorem dX12_tale_14 : decode cX12_tale 14 = .ok (.iconst 0, 1) := by decide +kernel
theorem dX12_tale_15 : decode cX12_tale 15 = .ok (.istore_n 3, 1) := by decide +kernel
theorem dX12_tale_16 : decode cX12_tale 16 = .ok (.iconst 0, 1) := by decide +kernel
theorem dX12_tale_17 : decode cX12_tale 17 = .ok (.istore 4, 2) := by decide +kernel
theorem dX12_tale_19 : decode cX12_tale 19 = .ok (.iload 4, 2) := by decide +kernel
theorem dX12_tale_21 : decode cX12_tale 21 = .ok (.aload_n 0, 1) := by decide +kernel
theorem dX12_tale_22 : decode cX12_tale 22 = .ok (.getfield 105, 3) := by decide +kernel
theorem dX12_tale_25 : decode cX12_tale 25 = .ok (.if_icmp .ge 55, 3) := by decide +kernel
theorem dX12_tale_28 : decode cX12_tale 28 = .ok (.aload_n 0, 1) := by decide +kernel
theorem dX12_tale_29 : decode cX12_tale 29 = .ok (.getfield 53, 3) := by decide +kernel
theorem dX12_tale_32 : decode cX12_tale 32 = .ok (.iload 4, 2) := by decide +kernel
theorem dX12_tale_34 : decode cX12_tale 34 = .ok (.baload, 1) := by decide +kernel
theorem dX12_tale_35 : decode cX12_tale 35 = .ok (.ifCond .eq 23, 3) := by decide +kernel
theorem dX12_tale_38 : decode cX12_tale 38 = .ok (.iconst 1, 1) := by decide +kernel
theorem dX12_tale_39 : decode cX12_tale 39 = .ok (.aload_n 0, 1) := by decide +kernel
theorem dX12_tale_40 : decode cX12_tale 40 = .ok (.getfield 50, 3) := by decide +kernel
theorem dX12_tale_43 : decode cX12_tale 43 = .ok (.bipush 12, 2) := by decide +kernel
theorem dX12_tale_45 : decode cX12_tale 45 = .ok (.iconst 1, 1) := by decide +kernel
theorem dX12_tale_46 : decode cX12_tale 46 = .ok (.iload 4, 2) := by decide +kernel
theorem dX12_tale_48 : decode cX12_tale 48 = .ok (.ishl, 1) := by decide +kernel
theorem dX12_tale_49 : decode cX12_tale 49 = .ok (.imul, 1) := by decide +kernel
theorem dX12_tale_50 : decode cX12_tale 50 = .ok (.iload 4, 2) := by decide +kernel
theorem dX12_tale_52 : decode cX12_tale 52 = .ok (.iadd, 1) := by decide +kernel
theorem dX12_tale_53 : decode cX12_tale 53 = .ok (.iaload, 1) := by decide +kernel
theorem dX12_tale_54 : decode cX12_tale 54 = .ok (.iadd, 1) := by decide +kernel
theorem dX12_tale_55 : decode cX12_tale 55 = .ok (.goto 4, 3) := by decide +kernel
theorem dX12_tale_58 : decode cX12_tale 58 = .ok (.iconst 0, 1) := by decide +kernel
theorem dX12_tale_59 : decode cX12_tale 59 = .ok (.istore 5, 2) := by decide +kernel
theorem dX12_tale_61 : decode cX12_tale 61 = .ok (.iload 5, 2) := by decide +kernel
theorem dX12_tale_63 : decode cX12_tale 63 = .ok (.iload_n 3, 1) := by decide +kernel
theorem dX12_tale_64 : decode cX12_tale 64 = .ok (.if_icmp .le 8, 3) := by decide +kernel
theorem dX12_tale_67 : decode cX12_tale 67 = .ok (.iload 5, 2) := by decide +kernel
theorem dX12_tale_69 : decode cX12_tale 69 = .ok (.goto 4, 3) := by decide +kernel
theorem dX12_tale_72 : decode cX12_tale 72 = .ok (.iload_n 3, 1) := by decide +kernel
theorem dX12_tale_73 : decode cX12_tale 73 = .ok (.istore_n 3, 1) := by decide +kernel
theorem dX12_tale_74 : decode cX12_tale 74 = .ok (.iinc 4 1, 3) := by decide +kernel
theorem dX12_tale_77 : decode cX12_tale 77 = .ok (.goto (-58), 3) := by decide +kernel
theorem dX12_tale_80 : decode cX12_tale 80 = .ok (.iload_n 2, 1) := by decide +kernel
theorem dX12_tale_81 : decode cX12_tale 81 = .ok (.iconst (-1), 1) := by decide +kernel
theorem dX12_tale_82 : decode cX12_tale 82 = .ok (.if_icmp .ne 5, 3) := by decide +kernel
theorem dX12_tale_85 : decode cX12_tale 85 = .ok (.iload_n 3, 1) := by decide +kernel
theorem dX12_tale_86 : decode cX12_tale 86 = .ok (.ireturn, 1) := by decide +kernel
theorem dX12_tale_87 : decode cX12_tale 87 = .ok (.iload_n 2, 1) := by decide +kernel
theorem dX12_tale_88 : decode cX12_tale 88 = .ok (.i2l, 1) := by decide +kernel
theorem dX12_tale_89 : decode cX12_tale 89 = .ok (.lconst 0, 1) := by decide +kernel
theorem dX12_tale_90 : decode cX12_tale 90 = .ok (.iload_n 3, 1) := by decide +kernel
theorem dX12_tale_91 : decode cX12_tale 91 = .ok (.iconst 1, 1) := by decide +kernel
theorem dX12_tale_92 : decode cX12_tale 92 = .ok (.isub, 1) := by decide +kernel
theorem dX12_tale_93 : decode cX12_tale 93 = .ok (.i2l, 1) := by decide +kernel
theorem dX12_tale_94 : decode cX12_tale 94 = .ok (.invokestatic 80, 3) := by decide +kernel
theorem dX12_tale_97 : decode cX12_tale 97 = .ok (.ifCond .ne 6, 3) := by decide +kernel
theorem dX12_tale_100 : decode cX12_tale 100 = .ok (.bipush (-6), 2) := by decide +kernel
theorem dX12_tale_102 : decode cX12_tale 102 = .ok (.ireturn, 1) := by decide +kernel
theorem dX12_tale_103 : decode cX12_tale 103 = .ok (.iconst 0, 1) := by decide +kernel
theorem dX12_tale_104 : decode cX12_tale 104 = .ok (.istore 4, 2) := by decide +kernel
theorem dX12_tale_106 : decode cX12_tale 106 = .ok (.bipush (-6), 2) := by decide +kernel
theorem dX12_tale_108 : decode cX12_tale 108 = .ok (.istore 5, 2) := by decide +kernel
theorem dX12_tale_110 : decode cX12_tale 110 = .ok (.iconst 0, 1) := by decide +kernel
theorem dX12_tale_111 : decode cX12_tale 111 = .ok (.istore 6, 2) := by decide +kernel
theorem dX12_tale_113 : decode cX12_tale 113 = .ok (.iload 6, 2) := by decide +kernel
theorem dX12_tale_115 : decode cX12_tale 115 = .ok (.iload_n 2, 1) := by decide +kernel
theorem dX12_tale_116 : decode cX12_tale 116 = .ok (.if_icmp .gt 48, 3) := by decide +kernel
theorem dX12_tale_119 : decode cX12_tale 119 = .ok (.iconst 0, 1) := by decide +kernel
theorem dX12_tale_120 : decode cX12_tale 120 = .ok (.istore 7, 2) := by decide +kernel
theorem dX12_tale_122 : decode cX12_tale 122 = .ok (.aload_n 0, 1) := by decide +kernel
theorem dX12_tale_123 : decode cX12_tale 123 = .ok (.iload 4, 2) := by decide +kernel
theorem dX12_tale_125 : decode cX12_tale 125 = .ok (.iload 5, 2) := by decide +kernel
theorem dX12_tale_127 : decode cX12_tale 127 = .ok (.iload 7, 2) := by decide +kernel
theorem dX12_tale_129 : decode cX12_tale 129 = .ok (.iload_n 3, 1) := by decide +kernel
theorem dX12_tale_130 : decode cX12_tale 130 = .ok (.iload 6, 2) := by decide +kernel
theorem dX12_tale_132 : decode cX12_tale 132 = .ok (.isub, 1) := by decide +kernel
theorem dX12_tale_133 : decode cX12_tale 133 = .ok (.invokevirtual 224, 3) := by decide +kernel
theorem dX12_tale_136 : decode cX12_tale 136 = .ok (.ifCond .ne 9, 3) := by decide +kernel
theorem dX12_tale_139 : decode cX12_tale 139 = .ok (.iinc 7 1, 3) := by decide +kernel
theorem dX12_tale_142 : decode cX12_tale 142 = .ok (.goto (-20), 3) := by decide +kernel
theorem dX12_tale_145 : decode cX12_tale 145 = .ok (.iload 4, 2) := by decide +kernel
theorem dX12_tale_147 : decode cX12_tale 147 = .ok (.iconst 1, 1) := by decide +kernel
theorem dX12_tale_148 : decode cX12_tale 148 = .ok (.iload 7, 2) := by decide +kernel
theorem dX12_tale_150 : decode cX12_tale 150 = .ok (.ishl, 1) := by decide +kernel
theorem dX12_tale_151 : decode cX12_tale 151 = .ok (.ior, 1) := by decide +kernel
theorem dX12_tale_152 : decode cX12_tale 152 = .ok (.istore 4, 2) := by decide +kernel
theorem dX12_tale_154 : decode cX12_tale 154 = .ok (.iload 7, 2) := by decide +kernel
theorem dX12_tale_156 : decode cX12_tale 156 = .ok (.istore 5, 2) := by decide +kernel
theorem dX12_tale_158 : decode cX12_tale 158 = .ok (.iinc 6 1, 3) := by decide +kernel
theorem dX12_tale_161 : decode cX12_tale 161 = .ok (.goto (-48), 3) := by decide +kernel
theorem dX12_tale_164 : decode cX12_tale 164 = .ok (.iload 5, 2) := by decide +kernel
theorem dX12_tale_166 : decode cX12_tale 166 = .ok (.ireturn, 1) := by decide +kernel
theorem dX12_comes_0 : decode cX12_comes 0 = .ok (.iload_n 1, 1) := by decide +kernel
theorem dX12_comes_1 : decode cX12_comes 1 = .ok (.iload_n 3, 1) := by decide +kernel
theorem dX12_comes_2 : decode cX12_comes 2 = .ok (.ishr, 1) := by decide +kernel
theorem dX12_comes_3 : decode cX12_comes 3 = .ok (.iconst 1, 1) := by decide +kernel
theorem dX12_comes_4 : decode cX12_comes 4 = .ok (.iand, 1) := by decide +kernel
theorem dX12_comes_5 : decode cX12_comes 5 = .ok (.ifCond .ne 32, 3) := by decide +kernel
theorem dX12_comes_8 : decode cX12_comes 8 = .ok (.iload_n 2, 1) := by decide +kernel
theorem dX12_comes_9 : decode cX12_comes 9 = .ok (.ifCond .ge 15, 3) := by decide +kernel
theorem dX12_comes_12 : decode cX12_comes 12 = .ok (.aload_n 0, 1) := by decide +kernel
theorem dX12_comes_13 : decode cX12_comes 13 = .ok (.getfield 53, 3) := by decide +kernel
theorem dX12_comes_16 : decode cX12_comes 16 = .ok (.iload_n 3, 1) := by decide +kernel
theorem dX12_comes_17 : decode cX12_comes 17 = .ok (.baload, 1) := by decide +kernel
theorem dX12_comes_18 : decode cX12_comes 18 = .ok (.ifCond .eq 19, 3) := by decide +kernel
theorem dX12_comes_21 : decode cX12_comes 21 = .ok (.goto 12, 3) := by decide +kernel
theorem dX12_comes_24 : decode cX12_comes 24 = .ok (.aload_n 0, 1) := by decide +kernel
theorem dX12_comes_25 : decode cX12_comes 25 = .ok (.iload_n 2, 1) := by decide +kernel
theorem dX12_comes_26 : decode cX12_comes 26 = .ok (.iload_n 3, 1) := by decide +kernel
theorem dX12_comes_27 : decode cX12_comes 27 = .ok (.invokevirtual 217, 3) := by decide +kernel
theorem dX12_comes_30 : decode cX12_comes 30 = .ok (.ifCond .eq 7, 3) := by decide +kernel
theorem dX12_comes_33 : decode cX12_comes 33 = .ok (.iconst 1, 1) := by decide +kernel
theorem dX12_comes_34 : decode cX12_comes 34 = .ok (.goto 4, 3) := by decide +kernel
theorem dX12_comes_37 : decode cX12_comes 37 = .ok (.iconst 0, 1) := by decide +kernel
theorem dX12_comes_38 : decode cX12_comes 38 = .ok (.istore 5, 2) := by decide +kernel
theorem dX12_comes_40 : decode cX12_comes 40 = .ok (.iload 5, 2) := by decide +kernel
theorem dX12_comes_42 : decode cX12_comes 42 = .ok (.ifCond .eq 29, 3) := by decide +kernel
theorem dX12_comes_45 : decode cX12_comes 45 = .ok (.iconst 1, 1) := by decide +kernel
theorem dX12_comes_46 : decode cX12_comes 46 = .ok (.aload_n 0, 1) := by decide +kernel
theorem dX12_comes_47 : decode cX12_comes 47 = .ok (.getfield 50, 3) := by decide +kernel
theorem dX12_comes_50 : decode cX12_comes 50 = .ok (.bipush 12, 2) := by decide +kernel
theorem dX12_comes_52 : decode cX12_comes 52 = .ok (.iload_n 1, 1) := by decide +kernel
theorem dX12_comes_53 : decode cX12_comes 53 = .ok (.iconst 1, 1) := by decide +kernel
theorem dX12_comes_54 : decode cX12_comes 54 = .ok (.iload_n 3, 1) := by decide +kernel
theorem dX12_comes_55 : decode cX12_comes 55 = .ok (.ishl, 1) := by decide +kernel
theorem dX12_comes_56 : decode cX12_comes 56 = .ok (.ior, 1) := by decide +kernel
theorem dX12_comes_57 : decode cX12_comes 57 = .ok (.imul, 1) := by decide +kernel
theorem dX12_comes_58 : decode cX12_comes 58 = .ok (.iload_n 3, 1) := by decide +kernel
theorem dX12_comes_59 : decode cX12_comes 59 = .ok (.iadd, 1) := by decide +kernel
theorem dX12_comes_60 : decode cX12_comes 60 = .ok (.iaload, 1) := by decide +kernel
theorem dX12_comes_61 : decode cX12_comes 61 = .ok (.iadd, 1) := by decide +kernel
theorem dX12_comes_62 : decode cX12_comes 62 = .ok (.iload 4, 2) := by decide +kernel
theorem dX12_comes_64 : decode cX12_comes 64 = .ok (.if_icmp .ne 7, 3) := by decide +kernel
theorem dX12_comes_67 : decode cX12_comes 67 = .ok (.iconst 1, 1) := by decide +kernel
theorem dX12_comes_68 : decode cX12_comes 68 = .ok (.goto 4, 3) := by decide +kernel
theorem dX12_comes_71 : decode cX12_comes 71 = .ok (.iconst 0, 1) := by decide +kernel
theorem dX12_comes_72 : decode cX12_comes 72 = .ok (.ireturn, 1) := by decide +kernel
theorem dX12_answer_0 : decode cX12_answer 0 = .ok (.aload_n 0, 1) := by decide +kernel
theorem dX12_answer_1 : decode cX12_answer 1 = .ok (.iload_n 1, 1) := by decide +kernel
theorem dX12_answer_2 : decode cX12_answer 2 = .ok (.invokevirtual 122, 3) := by decide +kernel
theorem dX12_answer_5 : decode cX12_answer 5 = .ok (.ifCond .ne 5, 3) := by decide +kernel
theorem dX12_answer_8 : decode cX12_answer 8 = .ok (.iconst (-1), 1) := by decide +kernel
theorem dX12_answer_9 : decode cX12_answer 9 = .ok (.ireturn, 1) := by decide +kernel
theorem dX12_answer_10 : decode cX12_answer 10 = .ok (.aload_n 0, 1) := by decide +kernel
theorem dX12_answer_11 : decode cX12_answer 11 = .ok (.getfield 227, 3) := by decide +kernel
theorem dX12_answer_14 : decode cX12_answer 14 = .ok (.bipush 20, 2) := by decide +kernel
theorem dX12_answer_16 : decode cX12_answer 16 = .ok (.if_icmp .ne 6, 3) := by decide +kernel
theorem dX12_answer_19 : decode cX12_answer 19 = .ok (.bipush (-4), 2) := by decide +kernel
theorem dX12_answer_21 : decode cX12_answer 21 = .ok (.ireturn, 1) := by decide +kernel
theorem dX12_answer_22 : decode cX12_answer 22 = .ok (.aload_n 0, 1) := by decide +kernel
theorem dX12_answer_23 : decode cX12_answer 23 = .ok (.getfield 57, 3) := by decide +kernel
theorem dX12_answer_26 : decode cX12_answer 26 = .ok (.aload_n 0, 1) := by decide +kernel
theorem dX12_answer_27 : decode cX12_answer 27 = .ok (.getfield 227, 3) := by decide +kernel
theorem dX12_answer_30 : decode cX12_answer 30 = .ok (.iload_n 1, 1) := by decide +kernel
theorem dX12_answer_31 : decode cX12_answer 31 = .ok (.iastore, 1) := by decide +kernel
theorem dX12_answer_32 : decode cX12_answer 32 = .ok (.aload_n 0, 1) := by decide +kernel
theorem dX12_answer_33 : decode cX12_answer 33 = .ok (.getfield 60, 3) := by decide +kernel
theorem dX12_answer_36 : decode cX12_answer 36 = .ok (.aload_n 0, 1) := by decide +kernel
theorem dX12_answer_37 : decode cX12_answer 37 = .ok (.getfield 227, 3) := by decide +kernel
theorem dX12_answer_40 : decode cX12_answer 40 = .ok (.iload_n 2, 1) := by decide +kernel
theorem dX12_answer_41 : decode cX12_answer 41 = .ok (.ifCond .eq 7, 3) := by decide +kernel
theorem dX12_answer_44 : decode cX12_answer 44 = .ok (.iconst 1, 1) := by decide +kernel
theorem dX12_answer_45 : decode cX12_answer 45 = .ok (.goto 4, 3) := by decide +kernel
theorem dX12_answer_48 : decode cX12_answer 48 = .ok (.iconst 0, 1) := by decide +kernel
theorem dX12_answer_49 : decode cX12_answer 49 = .ok (.iastore, 1) := by decide +kernel
theorem dX12_answer_50 : decode cX12_answer 50 = .ok (.aload_n 0, 1) := by decide +kernel
theorem dX12_answer_51 : decode cX12_answer 51 = .ok (.dup, 1) := by decide +kernel
theorem dX12_answer_52 : decode cX12_answer 52 = .ok (.getfield 227, 3) := by decide +kernel
theorem dX12_answer_55 : decode cX12_answer 55 = .ok (.iconst 1, 1) := by decide +kernel
theorem dX12_answer_56 : decode cX12_answer 56 = .ok (.iadd, 1) := by decide +kernel
theorem dX12_answer_57 : decode cX12_answer 57 = .ok (.putfield 227, 3) := by decide +kernel
theorem dX12_answer_60 : decode cX12_answer 60 = .ok (.aload_n 0, 1) := by decide +kernel
theorem dX12_answer_61 : decode cX12_answer 61 = .ok (.getfield 227, 3) := by decide +kernel
theorem dX12_answer_64 : decode cX12_answer 64 = .ok (.ireturn, 1) := by decide +kernel
theorem dX12_clear_0 : decode cX12_clear 0 = .ok (.aload_n 0, 1) := by decide +kernel
theorem dX12_clear_1 : decode cX12_clear 1 = .ok (.getfield 227, 3) := by decide +kernel
theorem dX12_clear_4 : decode cX12_clear 4 = .ok (.istore_n 1, 1) := by decide +kernel
theorem dX12_clear_5 : decode cX12_clear 5 = .ok (.aload_n 0, 1) := by decide +kernel
theorem dX12_clear_6 : decode cX12_clear 6 = .ok (.iconst 0, 1) := by decide +kernel
theorem dX12_clear_7 : decode cX12_clear 7 = .ok (.putfield 227, 3) := by decide +kernel
theorem dX12_clear_10 : decode cX12_clear 10 = .ok (.iload_n 1, 1) := by decide +kernel
theorem dX12_clear_11 : decode cX12_clear 11 = .ok (.ireturn, 1) := by decide +kernel
theorem dX12_readsRight_0 : decode cX12_readsRight 0 = .ok (.aload_n 0, 1) := by decide +kernel
theorem dX12_readsRight_1 : decode cX12_readsRight 1 = .ok (.iload_n 1, 1) := by decide +kernel
theorem dX12_readsRight_2 : decode cX12_readsRight 2 = .ok (.invokevirtual 140, 3) := by decide +kernel
theorem dX12_readsRight_5 : decode cX12_readsRight 5 = .ok (.ifCond .eq 17, 3) := by decide +kernel
theorem dX12_readsRight_8 : decode cX12_readsRight 8 = .ok (.aload_n 0, 1) := by decide +kernel
theorem dX12_readsRight_9 : decode cX12_readsRight 9 = .ok (.iload_n 1, 1) := by decide +kernel
theorem dX12_readsRight_10 : decode cX12_readsRight 10 = .ok (.invokevirtual 133, 3) := by decide +kernel
theorem dX12_readsRight_13 : decode cX12_readsRight 13 = .ok (.iload_n 2, 1) := by decide +kernel
theorem dX12_readsRight_14 : decode cX12_readsRight 14 = .ok (.iand, 1) := by decide +kernel
theorem dX12_readsRight_15 : decode cX12_readsRight 15 = .ok (.ifCond .ne 7, 3) := by decide +kernel
theorem dX12_readsRight_18 : decode cX12_readsRight 18 = .ok (.iconst 1, 1) := by decide +kernel
theorem dX12_readsRight_19 : decode cX12_readsRight 19 = .ok (.goto 4, 3) := by decide +kernel
theorem dX12_readsRight_22 : decode cX12_readsRight 22 = .ok (.iconst 0, 1) := by decide +kernel
theorem dX12_readsRight_23 : decode cX12_readsRight 23 = .ok (.ireturn, 1) := by decide +kernel
theorem dX12_mayLack_0 : decode cX12_mayLack 0 = .ok (.iconst 1, 1) := by decide +kernel
theorem dX12_mayLack_1 : decode cX12_mayLack 1 = .ok (.istore_n 2, 1) := by decide +kernel
theorem dX12_mayLack_2 : decode cX12_mayLack 2 = .ok (.iconst 0, 1) := by decide +kernel
theorem dX12_mayLack_3 : decode cX12_mayLack 3 = .ok (.istore_n 3, 1) := by decide +kernel
theorem dX12_mayLack_4 : decode cX12_mayLack 4 = .ok (.iload_n 3, 1) := by decide +kernel
theorem dX12_mayLack_5 : decode cX12_mayLack 5 = .ok (.aload_n 0, 1) := by decide +kernel
theorem dX12_mayLack_6 : decode cX12_mayLack 6 = .ok (.getfield 227, 3) := by decide +kernel
theorem dX12_mayLack_9 : decode cX12_mayLack 9 = .ok (.if_icmp .ge 48, 3) := by decide +kernel
theorem dX12_mayLack_12 : decode cX12_mayLack 12 = .ok (.iload_n 2, 1) := by decide +kernel
theorem dX12_mayLack_13 : decode cX12_mayLack 13 = .ok (.ifCond .eq 44, 3) := by decide +kernel
theorem dX12_mayLack_16 : decode cX12_mayLack 16 = .ok (.aload_n 0, 1) := by decide +kernel
theorem dX12_mayLack_17 : decode cX12_mayLack 17 = .ok (.aload_n 0, 1) := by decide +kernel
theorem dX12_mayLack_18 : decode cX12_mayLack 18 = .ok (.getfield 57, 3) := by decide +kernel
theorem dX12_mayLack_21 : decode cX12_mayLack 21 = .ok (.iload_n 3, 1) := by decide +kernel
theorem dX12_mayLack_22 : decode cX12_mayLack 22 = .ok (.iaload, 1) := by decide +kernel
theorem dX12_mayLack_23 : decode cX12_mayLack 23 = .ok (.iload_n 1, 1) := by decide +kernel
theorem dX12_mayLack_24 : decode cX12_mayLack 24 = .ok (.invokevirtual 230, 3) := by decide +kernel
theorem dX12_mayLack_27 : decode cX12_mayLack 27 = .ok (.aload_n 0, 1) := by decide +kernel
theorem dX12_mayLack_28 : decode cX12_mayLack 28 = .ok (.getfield 60, 3) := by decide +kernel
theorem dX12_mayLack_31 : decode cX12_mayLack 31 = .ok (.iload_n 3, 1) := by decide +kernel
theorem dX12_mayLack_32 : decode cX12_mayLack 32 = .ok (.iaload, 1) := by decide +kernel
theorem dX12_mayLack_33 : decode cX12_mayLack 33 = .ok (.iconst 1, 1) := by decide +kernel
theorem dX12_mayLack_34 : decode cX12_mayLack 34 = .ok (.if_icmp .ne 7, 3) := by decide +kernel
theorem dX12_mayLack_37 : decode cX12_mayLack 37 = .ok (.iconst 1, 1) := by decide +kernel
theorem dX12_mayLack_38 : decode cX12_mayLack 38 = .ok (.goto 4, 3) := by decide +kernel
theorem dX12_mayLack_41 : decode cX12_mayLack 41 = .ok (.iconst 0, 1) := by decide +kernel
theorem dX12_mayLack_42 : decode cX12_mayLack 42 = .ok (.if_icmp .ne 7, 3) := by decide +kernel
theorem dX12_mayLack_45 : decode cX12_mayLack 45 = .ok (.iconst 1, 1) := by decide +kernel
theorem dX12_mayLack_46 : decode cX12_mayLack 46 = .ok (.goto 4, 3) := by decide +kernel
theorem dX12_mayLack_49 : decode cX12_mayLack 49 = .ok (.iconst 0, 1) := by decide +kernel
theorem dX12_mayLack_50 : decode cX12_mayLack 50 = .ok (.istore_n 2, 1) := by decide +kernel
theorem dX12_mayLack_51 : decode cX12_mayLack 51 = .ok (.iinc 3 1, 3) := by decide +kernel
theorem dX12_mayLack_54 : decode cX12_mayLack 54 = .ok (.goto (-50), 3) := by decide +kernel
theorem dX12_mayLack_57 : decode cX12_mayLack 57 = .ok (.iload_n 2, 1) := by decide +kernel
theorem dX12_mayLack_58 : decode cX12_mayLack 58 = .ok (.ireturn, 1) := by decide +kernel
theorem dX12_mayWith_0 : decode cX12_mayWith 0 = .ok (.iconst 0, 1) := by decide +kernel
theorem dX12_mayWith_1 : decode cX12_mayWith 1 = .ok (.istore_n 2, 1) := by decide +kernel
theorem dX12_mayWith_2 : decode cX12_mayWith 2 = .ok (.iconst 0, 1) := by decide +kernel
theorem dX12_mayWith_3 : decode cX12_mayWith 3 = .ok (.istore_n 3, 1) := by decide +kernel
theorem dX12_mayWith_4 : decode cX12_mayWith 4 = .ok (.iload_n 3, 1) := by decide +kernel
theorem dX12_mayWith_5 : decode cX12_mayWith 5 = .ok (.sipush 1024, 3) := by decide +kernel
theorem dX12_mayWith_8 : decode cX12_mayWith 8 = .ok (.if_icmp .ge 33, 3) := by decide +kernel
theorem dX12_mayWith_11 : decode cX12_mayWith 11 = .ok (.iload_n 2, 1) := by decide +kernel
theorem dX12_mayWith_12 : decode cX12_mayWith 12 = .ok (.iload_n 1, 1) := by decide +kernel
theorem dX12_mayWith_13 : decode cX12_mayWith 13 = .ok (.iload_n 3, 1) := by decide +kernel
theorem dX12_mayWith_14 : decode cX12_mayWith 14 = .ok (.iconst (-1), 1) := by decide +kernel
theorem dX12_mayWith_15 : decode cX12_mayWith 15 = .ok (.ixor, 1) := by decide +kernel
theorem dX12_mayWith_16 : decode cX12_mayWith 16 = .ok (.iand, 1) := by decide +kernel
theorem dX12_mayWith_17 : decode cX12_mayWith 17 = .ok (.ifCond .ne 15, 3) := by decide +kernel
theorem dX12_mayWith_20 : decode cX12_mayWith 20 = .ok (.aload_n 0, 1) := by decide +kernel
theorem dX12_mayWith_21 : decode cX12_mayWith 21 = .ok (.iload_n 3, 1) := by decide +kernel
theorem dX12_mayWith_22 : decode cX12_mayWith 22 = .ok (.invokevirtual 233, 3) := by decide +kernel
theorem dX12_mayWith_25 : decode cX12_mayWith 25 = .ok (.ifCond .eq 7, 3) := by decide +kernel
theorem dX12_mayWith_28 : decode cX12_mayWith 28 = .ok (.iconst 1, 1) := by decide +kernel
theorem dX12_mayWith_29 : decode cX12_mayWith 29 = .ok (.goto 4, 3) := by decide +kernel
theorem dX12_mayWith_32 : decode cX12_mayWith 32 = .ok (.iconst 0, 1) := by decide +kernel
theorem dX12_mayWith_33 : decode cX12_mayWith 33 = .ok (.iadd, 1) := by decide +kernel
theorem dX12_mayWith_34 : decode cX12_mayWith 34 = .ok (.istore_n 2, 1) := by decide +kernel
theorem dX12_mayWith_35 : decode cX12_mayWith 35 = .ok (.iinc 3 1, 3) := by decide +kernel
theorem dX12_mayWith_38 : decode cX12_mayWith 38 = .ok (.goto (-34), 3) := by decide +kernel
theorem dX12_mayWith_41 : decode cX12_mayWith 41 = .ok (.iload_n 2, 1) := by decide +kernel
theorem dX12_mayWith_42 : decode cX12_mayWith 42 = .ok (.ireturn, 1) := by decide +kernel
theorem dX12_may_0 : decode cX12_may 0 = .ok (.aload_n 0, 1) := by decide +kernel
theorem dX12_may_1 : decode cX12_may 1 = .ok (.invokevirtual 137, 3) := by decide +kernel
theorem dX12_may_4 : decode cX12_may 4 = .ok (.aload_n 0, 1) := by decide +kernel
theorem dX12_may_5 : decode cX12_may 5 = .ok (.iconst 0, 1) := by decide +kernel
theorem dX12_may_6 : decode cX12_may 6 = .ok (.invokevirtual 236, 3) := by decide +kernel
theorem dX12_may_9 : decode cX12_may 9 = .ok (.ireturn, 1) := by decide +kernel
theorem dX12_lacks_0 : decode cX12_lacks 0 = .ok (.iload_n 1, 1) := by decide +kernel
theorem dX12_lacks_1 : decode cX12_lacks 1 = .ok (.invokestatic 143, 3) := by decide +kernel
theorem dX12_lacks_4 : decode cX12_lacks 4 = .ok (.ifCond .ne 7, 3) := by decide +kernel
theorem dX12_lacks_7 : decode cX12_lacks 7 = .ok (.ldc2_w 146, 3) := by decide +kernel
theorem dX12_lacks_10 : decode cX12_lacks 10 = .ok (.lreturn, 1) := by decide +kernel
theorem dX12_lacks_11 : decode cX12_lacks 11 = .ok (.iload_n 2, 1) := by decide +kernel
theorem dX12_lacks_12 : decode cX12_lacks 12 = .ok (.invokestatic 148, 3) := by decide +kernel
theorem dX12_lacks_15 : decode cX12_lacks 15 = .ok (.ifCond .ne 7, 3) := by decide +kernel
theorem dX12_lacks_18 : decode cX12_lacks 18 = .ok (.ldc2_w 151, 3) := by decide +kernel
theorem dX12_lacks_21 : decode cX12_lacks 21 = .ok (.lreturn, 1) := by decide +kernel
theorem dX12_lacks_22 : decode cX12_lacks 22 = .ok (.aload_n 0, 1) := by decide +kernel
theorem dX12_lacks_23 : decode cX12_lacks 23 = .ok (.invokevirtual 137, 3) := by decide +kernel
theorem dX12_lacks_26 : decode cX12_lacks 26 = .ok (.aload_n 0, 1) := by decide +kernel
theorem dX12_lacks_27 : decode cX12_lacks 27 = .ok (.iconst 0, 1) := by decide +kernel
theorem dX12_lacks_28 : decode cX12_lacks 28 = .ok (.invokevirtual 236, 3) := by decide +kernel
theorem dX12_lacks_31 : decode cX12_lacks 31 = .ok (.istore_n 3, 1) := by decide +kernel
theorem dX12_lacks_32 : decode cX12_lacks 32 = .ok (.iload_n 3, 1) := by decide +kernel
theorem dX12_lacks_33 : decode cX12_lacks 33 = .ok (.ifCond .ne 9, 3) := by decide +kernel
theorem dX12_lacks_36 : decode cX12_lacks 36 = .ok (.ldc2_w 239, 3) := by decide +kernel
theorem dX12_lacks_39 : decode cX12_lacks 39 = .ok (.goto 17, 3) := by decide +kernel
theorem dX12_lacks_42 : decode cX12_lacks 42 = .ok (.aload_n 0, 1) := by decide +kernel
theorem dX12_lacks_43 : decode cX12_lacks 43 = .ok (.iconst 1, 1) := by decide +kernel
theorem dX12_lacks_44 : decode cX12_lacks 44 = .ok (.iload_n 1, 1) := by decide +kernel
theorem dX12_lacks_45 : decode cX12_lacks 45 = .ok (.ishl, 1) := by decide +kernel
theorem dX12_lacks_46 : decode cX12_lacks 46 = .ok (.invokevirtual 236, 3) := by decide +kernel
theorem dX12_lacks_49 : decode cX12_lacks 49 = .ok (.i2l, 1) := by decide +kernel
theorem dX12_lacks_50 : decode cX12_lacks 50 = .ok (.iload_n 3, 1) := by decide +kernel
theorem dX12_lacks_51 : decode cX12_lacks 51 = .ok (.i2l, 1) := by decide +kernel
theorem dX12_lacks_52 : decode cX12_lacks 52 = .ok (.iload_n 2, 1) := by decide +kernel
theorem dX12_lacks_53 : decode cX12_lacks 53 = .ok (.invokestatic 156, 3) := by decide +kernel
theorem dX12_lacks_56 : decode cX12_lacks 56 = .ok (.lreturn, 1) := by decide +kernel
theorem dX12_tells_0 : decode cX12_tells 0 = .ok (.aload_n 0, 1) := by decide +kernel
theorem dX12_tells_1 : decode cX12_tells 1 = .ok (.invokevirtual 137, 3) := by decide +kernel
theorem dX12_tells_4 : decode cX12_tells 4 = .ok (.bipush (-6), 2) := by decide +kernel
theorem dX12_tells_6 : decode cX12_tells 6 = .ok (.istore_n 1, 1) := by decide +kernel
theorem dX12_tells_7 : decode cX12_tells 7 = .ok (.iconst 0, 1) := by decide +kernel
theorem dX12_tells_8 : decode cX12_tells 8 = .ok (.istore_n 2, 1) := by decide +kernel
theorem dX12_tells_9 : decode cX12_tells 9 = .ok (.aload_n 0, 1) := by decide +kernel
theorem dX12_tells_10 : decode cX12_tells 10 = .ok (.iconst 0, 1) := by decide +kernel
theorem dX12_tells_11 : decode cX12_tells 11 = .ok (.invokevirtual 236, 3) := by decide +kernel
theorem dX12_tells_14 : decode cX12_tells 14 = .ok (.istore_n 3, 1) := by decide +kernel
theorem dX12_tells_15 : decode cX12_tells 15 = .ok (.iconst 0, 1) := by decide +kernel
theorem dX12_tells_16 : decode cX12_tells 16 = .ok (.istore 4, 2) := by decide +kernel
theorem dX12_tells_18 : decode cX12_tells 18 = .ok (.iload 4, 2) := by decide +kernel
theorem dX12_tells_20 : decode cX12_tells 20 = .ok (.aload_n 0, 1) := by decide +kernel
theorem dX12_tells_21 : decode cX12_tells 21 = .ok (.getfield 105, 3) := by decide +kernel
theorem dX12_tells_24 : decode cX12_tells 24 = .ok (.if_icmp .ge 95, 3) := by decide +kernel
theorem dX12_tells_27 : decode cX12_tells 27 = .ok (.iconst 0, 1) := by decide +kernel
theorem dX12_tells_28 : decode cX12_tells 28 = .ok (.istore 5, 2) := by decide +kernel
theorem dX12_tells_30 : decode cX12_tells 30 = .ok (.iconst 0, 1) := by decide +kernel
theorem dX12_tells_31 : decode cX12_tells 31 = .ok (.istore 6, 2) := by decide +kernel
theorem dX12_tells_33 : decode cX12_tells 33 = .ok (.iload 6, 2) := by decide +kernel
theorem dX12_tells_35 : decode cX12_tells 35 = .ok (.sipush 1024, 3) := by decide +kernel
theorem dX12_tells_38 : decode cX12_tells 38 = .ok (.if_icmp .ge 39, 3) := by decide +kernel
theorem dX12_tells_41 : decode cX12_tells 41 = .ok (.iload 5, 2) := by decide +kernel
theorem dX12_tells_43 : decode cX12_tells 43 = .ok (.aload_n 0, 1) := by decide +kernel
theorem dX12_tells_44 : decode cX12_tells 44 = .ok (.iload 4, 2) := by decide +kernel
theorem dX12_tells_46 : decode cX12_tells 46 = .ok (.iload 6, 2) := by decide +kernel
theorem dX12_tells_48 : decode cX12_tells 48 = .ok (.invokevirtual 230, 3) := by decide +kernel
theorem dX12_tells_51 : decode cX12_tells 51 = .ok (.ifCond .eq 16, 3) := by decide +kernel
theorem dX12_tells_54 : decode cX12_tells 54 = .ok (.aload_n 0, 1) := by decide +kernel
theorem dX12_tells_55 : decode cX12_tells 55 = .ok (.iload 6, 2) := by decide +kernel
theorem dX12_tells_57 : decode cX12_tells 57 = .ok (.invokevirtual 233, 3) := by decide +kernel
theorem dX12_tells_60 : decode cX12_tells 60 = .ok (.ifCond .eq 7, 3) := by decide +kernel
theorem dX12_tells_63 : decode cX12_tells 63 = .ok (.iconst 1, 1) := by decide +kernel
theorem dX12_tells_64 : decode cX12_tells 64 = .ok (.goto 4, 3) := by decide +kernel
theorem dX12_tells_67 : decode cX12_tells 67 = .ok (.iconst 0, 1) := by decide +kernel
theorem dX12_tells_68 : decode cX12_tells 68 = .ok (.iadd, 1) := by decide +kernel
theorem dX12_tells_69 : decode cX12_tells 69 = .ok (.istore 5, 2) := by decide +kernel
theorem dX12_tells_71 : decode cX12_tells 71 = .ok (.iinc 6 1, 3) := by decide +kernel
theorem dX12_tells_74 : decode cX12_tells 74 = .ok (.goto (-41), 3) := by decide +kernel
theorem dX12_tells_77 : decode cX12_tells 77 = .ok (.iload 5, 2) := by decide +kernel
theorem dX12_tells_79 : decode cX12_tells 79 = .ok (.iload_n 3, 1) := by decide +kernel
theorem dX12_tells_80 : decode cX12_tells 80 = .ok (.iload 5, 2) := by decide +kernel
theorem dX12_tells_82 : decode cX12_tells 82 = .ok (.isub, 1) := by decide +kernel
theorem dX12_tells_83 : decode cX12_tells 83 = .ok (.if_icmp .ge 8, 3) := by decide +kernel
theorem dX12_tells_86 : decode cX12_tells 86 = .ok (.iload 5, 2) := by decide +kernel
theorem dX12_tells_88 : decode cX12_tells 88 = .ok (.goto 7, 3) := by decide +kernel
theorem dX12_tells_91 : decode cX12_tells 91 = .ok (.iload_n 3, 1) := by decide +kernel
theorem dX12_tells_92 : decode cX12_tells 92 = .ok (.iload 5, 2) := by decide +kernel
theorem dX12_tells_94 : decode cX12_tells 94 = .ok (.isub, 1) := by decide +kernel
theorem dX12_tells_95 : decode cX12_tells 95 = .ok (.istore 6, 2) := by decide +kernel
theorem dX12_tells_97 : decode cX12_tells 97 = .ok (.iload_n 1, 1) := by decide +kernel
theorem dX12_tells_98 : decode cX12_tells 98 = .ok (.ifCond .lt 9, 3) := by decide +kernel
theorem dX12_tells_101 : decode cX12_tells 101 = .ok (.iload 6, 2) := by decide +kernel
theorem dX12_tells_103 : decode cX12_tells 103 = .ok (.iload_n 2, 1) := by decide +kernel
theorem dX12_tells_104 : decode cX12_tells 104 = .ok (.if_icmp .le 9, 3) := by decide +kernel
theorem dX12_tells_107 : decode cX12_tells 107 = .ok (.iload 4, 2) := by decide +kernel
theorem dX12_tells_109 : decode cX12_tells 109 = .ok (.istore_n 1, 1) := by decide +kernel
theorem dX12_tells_110 : decode cX12_tells 110 = .ok (.iload 6, 2) := by decide +kernel
theorem dX12_tells_112 : decode cX12_tells 112 = .ok (.istore_n 2, 1) := by decide +kernel
theorem dX12_tells_113 : decode cX12_tells 113 = .ok (.iinc 4 1, 3) := by decide +kernel
theorem dX12_tells_116 : decode cX12_tells 116 = .ok (.goto (-98), 3) := by decide +kernel
theorem dX12_tells_119 : decode cX12_tells 119 = .ok (.iload_n 1, 1) := by decide +kernel
theorem dX12_tells_120 : decode cX12_tells 120 = .ok (.ireturn, 1) := by decide +kernel
theorem dX12_tellsAll_0 : decode cX12_tellsAll 0 = .ok (.iconst 1, 1) := by decide +kernel
theorem dX12_tellsAll_1 : decode cX12_tellsAll 1 = .ok (.istore_n 3, 1) := by decide +kernel
theorem dX12_tellsAll_2 : decode cX12_tellsAll 2 = .ok (.iconst 0, 1) := by decide +kernel
theorem dX12_tellsAll_3 : decode cX12_tellsAll 3 = .ok (.istore 4, 2) := by decide +kernel
theorem dX12_tellsAll_5 : decode cX12_tellsAll 5 = .ok (.iload 4, 2) := by decide +kernel
theorem dX12_tellsAll_7 : decode cX12_tellsAll 7 = .ok (.bipush 10, 2) := by decide +kernel
theorem dX12_tellsAll_9 : decode cX12_tellsAll 9 = .ok (.if_icmp .gt 70, 3) := by decide +kernel
theorem dX12_tellsAll_12 : decode cX12_tellsAll 12 = .ok (.iload_n 3, 1) := by decide +kernel
theorem dX12_tellsAll_13 : decode cX12_tellsAll 13 = .ok (.ifCond .eq 66, 3) := by decide +kernel
theorem dX12_tellsAll_16 : decode cX12_tellsAll 16 = .ok (.iconst 0, 1) := by decide +kernel
theorem dX12_tellsAll_17 : decode cX12_tellsAll 17 = .ok (.istore 5, 2) := by decide +kernel
theorem dX12_tellsAll_19 : decode cX12_tellsAll 19 = .ok (.iload 5, 2) := by decide +kernel
theorem dX12_tellsAll_21 : decode cX12_tellsAll 21 = .ok (.iload 4, 2) := by decide +kernel
theorem dX12_tellsAll_23 : decode cX12_tellsAll 23 = .ok (.if_icmp .ge 50, 3) := by decide +kernel
theorem dX12_tellsAll_26 : decode cX12_tellsAll 26 = .ok (.iload_n 3, 1) := by decide +kernel
theorem dX12_tellsAll_27 : decode cX12_tellsAll 27 = .ok (.ifCond .eq 46, 3) := by decide +kernel
theorem dX12_tellsAll_30 : decode cX12_tellsAll 30 = .ok (.aload_n 0, 1) := by decide +kernel
theorem dX12_tellsAll_31 : decode cX12_tellsAll 31 = .ok (.getfield 63, 3) := by decide +kernel
theorem dX12_tellsAll_34 : decode cX12_tellsAll 34 = .ok (.iload 4, 2) := by decide +kernel
theorem dX12_tellsAll_36 : decode cX12_tellsAll 36 = .ok (.iaload, 1) := by decide +kernel
theorem dX12_tellsAll_37 : decode cX12_tellsAll 37 = .ok (.aload_n 0, 1) := by decide +kernel
theorem dX12_tellsAll_38 : decode cX12_tellsAll 38 = .ok (.getfield 63, 3) := by decide +kernel
theorem dX12_tellsAll_41 : decode cX12_tellsAll 41 = .ok (.iload 5, 2) := by decide +kernel
theorem dX12_tellsAll_43 : decode cX12_tellsAll 43 = .ok (.iaload, 1) := by decide +kernel
theorem dX12_tellsAll_44 : decode cX12_tellsAll 44 = .ok (.ixor, 1) := by decide +kernel
theorem dX12_tellsAll_45 : decode cX12_tellsAll 45 = .ok (.istore 6, 2) := by decide +kernel
theorem dX12_tellsAll_47 : decode cX12_tellsAll 47 = .ok (.iload 6, 2) := by decide +kernel
theorem dX12_tellsAll_49 : decode cX12_tellsAll 49 = .ok (.iload_n 2, 1) := by decide +kernel
theorem dX12_tellsAll_50 : decode cX12_tellsAll 50 = .ok (.iand, 1) := by decide +kernel
theorem dX12_tellsAll_51 : decode cX12_tellsAll 51 = .ok (.ifCond .eq 10, 3) := by decide +kernel
theorem dX12_tellsAll_54 : decode cX12_tellsAll 54 = .ok (.iload 6, 2) := by decide +kernel
theorem dX12_tellsAll_56 : decode cX12_tellsAll 56 = .ok (.iload_n 1, 1) := by decide +kernel
theorem dX12_tellsAll_57 : decode cX12_tellsAll 57 = .ok (.iand, 1) := by decide +kernel
theorem dX12_tellsAll_58 : decode cX12_tellsAll 58 = .ok (.ifCond .eq 7, 3) := by decide +kernel
theorem dX12_tellsAll_61 : decode cX12_tellsAll 61 = .ok (.iconst 1, 1) := by decide +kernel
theorem dX12_tellsAll_62 : decode cX12_tellsAll 62 = .ok (.goto 4, 3) := by decide +kernel
theorem dX12_tellsAll_65 : decode cX12_tellsAll 65 = .ok (.iconst 0, 1) := by decide +kernel
theorem dX12_tellsAll_66 : decode cX12_tellsAll 66 = .ok (.istore_n 3, 1) := by decide +kernel
theorem dX12_tellsAll_67 : decode cX12_tellsAll 67 = .ok (.iinc 5 1, 3) := by decide +kernel
theorem dX12_tellsAll_70 : decode cX12_tellsAll 70 = .ok (.goto (-51), 3) := by decide +kernel
theorem dX12_tellsAll_73 : decode cX12_tellsAll 73 = .ok (.iinc 4 1, 3) := by decide +kernel
theorem dX12_tellsAll_76 : decode cX12_tellsAll 76 = .ok (.goto (-71), 3) := by decide +kernel
theorem dX12_tellsAll_79 : decode cX12_tellsAll 79 = .ok (.iload_n 3, 1) := by decide +kernel
theorem dX12_tellsAll_80 : decode cX12_tellsAll 80 = .ok (.ireturn, 1) := by decide +kernel
theorem dX12_test_0 : decode cX12_test 0 = .ok (.aload_n 0, 1) := by decide +kernel
theorem dX12_test_1 : decode cX12_test 1 = .ok (.invokevirtual 137, 3) := by decide +kernel
theorem dX12_test_4 : decode cX12_test 4 = .ok (.iconst 0, 1) := by decide +kernel
theorem dX12_test_5 : decode cX12_test 5 = .ok (.istore_n 1, 1) := by decide +kernel
theorem dX12_test_6 : decode cX12_test 6 = .ok (.iconst 0, 1) := by decide +kernel
theorem dX12_test_7 : decode cX12_test 7 = .ok (.istore_n 2, 1) := by decide +kernel
theorem dX12_test_8 : decode cX12_test 8 = .ok (.iload_n 2, 1) := by decide +kernel
theorem dX12_test_9 : decode cX12_test 9 = .ok (.bipush 10, 2) := by decide +kernel
theorem dX12_test_11 : decode cX12_test 11 = .ok (.if_icmp .gt 16, 3) := by decide +kernel
theorem dX12_test_14 : decode cX12_test 14 = .ok (.aload_n 0, 1) := by decide +kernel
theorem dX12_test_15 : decode cX12_test 15 = .ok (.getfield 63, 3) := by decide +kernel
theorem dX12_test_18 : decode cX12_test 18 = .ok (.iload_n 2, 1) := by decide +kernel
theorem dX12_test_19 : decode cX12_test 19 = .ok (.iconst 0, 1) := by decide +kernel
theorem dX12_test_20 : decode cX12_test 20 = .ok (.iastore, 1) := by decide +kernel
theorem dX12_test_21 : decode cX12_test 21 = .ok (.iinc 2 1, 3) := by decide +kernel
theorem dX12_test_24 : decode cX12_test 24 = .ok (.goto (-16), 3) := by decide +kernel
theorem dX12_test_27 : decode cX12_test 27 = .ok (.iconst 0, 1) := by decide +kernel
theorem dX12_test_28 : decode cX12_test 28 = .ok (.istore_n 2, 1) := by decide +kernel
theorem dX12_test_29 : decode cX12_test 29 = .ok (.iload_n 2, 1) := by decide +kernel
theorem dX12_test_30 : decode cX12_test 30 = .ok (.aload_n 0, 1) := by decide +kernel
theorem dX12_test_31 : decode cX12_test 31 = .ok (.getfield 105, 3) := by decide +kernel
theorem dX12_test_34 : decode cX12_test 34 = .ok (.if_icmp .ge 57, 3) := by decide +kernel
theorem dX12_test_37 : decode cX12_test 37 = .ok (.aload_n 0, 1) := by decide +kernel
theorem dX12_test_38 : decode cX12_test 38 = .ok (.iload_n 2, 1) := by decide +kernel
theorem dX12_test_39 : decode cX12_test 39 = .ok (.invokevirtual 140, 3) := by decide +kernel
theorem dX12_test_42 : decode cX12_test 42 = .ok (.ifCond .eq 43, 3) := by decide +kernel
theorem dX12_test_45 : decode cX12_test 45 = .ok (.iload_n 1, 1) := by decide +kernel
theorem dX12_test_46 : decode cX12_test 46 = .ok (.iconst 1, 1) := by decide +kernel
theorem dX12_test_47 : decode cX12_test 47 = .ok (.iload_n 2, 1) := by decide +kernel
theorem dX12_test_48 : decode cX12_test 48 = .ok (.ishl, 1) := by decide +kernel
theorem dX12_test_49 : decode cX12_test 49 = .ok (.ior, 1) := by decide +kernel
theorem dX12_test_50 : decode cX12_test 50 = .ok (.istore_n 1, 1) := by decide +kernel
theorem dX12_test_51 : decode cX12_test 51 = .ok (.iconst 0, 1) := by decide +kernel
theorem dX12_test_52 : decode cX12_test 52 = .ok (.istore_n 3, 1) := by decide +kernel
theorem dX12_test_53 : decode cX12_test 53 = .ok (.iload_n 3, 1) := by decide +kernel
theorem dX12_test_54 : decode cX12_test 54 = .ok (.bipush 10, 2) := by decide +kernel
theorem dX12_test_56 : decode cX12_test 56 = .ok (.if_icmp .ge 29, 3) := by decide +kernel
theorem dX12_test_59 : decode cX12_test 59 = .ok (.aload_n 0, 1) := by decide +kernel
theorem dX12_test_60 : decode cX12_test 60 = .ok (.getfield 63, 3) := by decide +kernel
theorem dX12_test_63 : decode cX12_test 63 = .ok (.iload_n 3, 1) := by decide +kernel
theorem dX12_test_64 : decode cX12_test 64 = .ok (.dup2, 1) := by decide +kernel
theorem dX12_test_65 : decode cX12_test 65 = .ok (.iaload, 1) := by decide +kernel
theorem dX12_test_66 : decode cX12_test 66 = .ok (.aload_n 0, 1) := by decide +kernel
theorem dX12_test_67 : decode cX12_test 67 = .ok (.iload_n 2, 1) := by decide +kernel
theorem dX12_test_68 : decode cX12_test 68 = .ok (.invokevirtual 133, 3) := by decide +kernel
theorem dX12_test_71 : decode cX12_test 71 = .ok (.iload_n 3, 1) := by decide +kernel
theorem dX12_test_72 : decode cX12_test 72 = .ok (.ishr, 1) := by decide +kernel
theorem dX12_test_73 : decode cX12_test 73 = .ok (.iconst 1, 1) := by decide +kernel
theorem dX12_test_74 : decode cX12_test 74 = .ok (.iand, 1) := by decide +kernel
theorem dX12_test_75 : decode cX12_test 75 = .ok (.iload_n 2, 1) := by decide +kernel
theorem dX12_test_76 : decode cX12_test 76 = .ok (.ishl, 1) := by decide +kernel
theorem dX12_test_77 : decode cX12_test 77 = .ok (.ior, 1) := by decide +kernel
theorem dX12_test_78 : decode cX12_test 78 = .ok (.iastore, 1) := by decide +kernel
theorem dX12_test_79 : decode cX12_test 79 = .ok (.iinc 3 1, 3) := by decide +kernel
theorem dX12_test_82 : decode cX12_test 82 = .ok (.goto (-29), 3) := by decide +kernel
theorem dX12_test_85 : decode cX12_test 85 = .ok (.iinc 2 1, 3) := by decide +kernel
theorem dX12_test_88 : decode cX12_test 88 = .ok (.goto (-59), 3) := by decide +kernel
theorem dX12_test_91 : decode cX12_test 91 = .ok (.bipush (-6), 2) := by decide +kernel
theorem dX12_test_93 : decode cX12_test 93 = .ok (.istore_n 2, 1) := by decide +kernel
theorem dX12_test_94 : decode cX12_test 94 = .ok (.iconst 0, 1) := by decide +kernel
theorem dX12_test_95 : decode cX12_test 95 = .ok (.istore_n 3, 1) := by decide +kernel
theorem dX12_test_96 : decode cX12_test 96 = .ok (.iload_n 3, 1) := by decide +kernel
theorem dX12_test_97 : decode cX12_test 97 = .ok (.iload_n 1, 1) := by decide +kernel
theorem dX12_test_98 : decode cX12_test 98 = .ok (.if_icmp .gt 59, 3) := by decide +kernel
theorem dX12_test_101 : decode cX12_test 101 = .ok (.iload_n 3, 1) := by decide +kernel
theorem dX12_test_102 : decode cX12_test 102 = .ok (.iload_n 1, 1) := by decide +kernel
theorem dX12_test_103 : decode cX12_test 103 = .ok (.iconst (-1), 1) := by decide +kernel
theorem dX12_test_104 : decode cX12_test 104 = .ok (.ixor, 1) := by decide +kernel
theorem dX12_test_105 : decode cX12_test 105 = .ok (.iand, 1) := by decide +kernel
theorem dX12_test_106 : decode cX12_test 106 = .ok (.ifCond .ne 22, 3) := by decide +kernel
theorem dX12_test_109 : decode cX12_test 109 = .ok (.iload_n 2, 1) := by decide +kernel
theorem dX12_test_110 : decode cX12_test 110 = .ok (.ifCond .lt 14, 3) := by decide +kernel
theorem dX12_test_113 : decode cX12_test 113 = .ok (.iload_n 3, 1) := by decide +kernel
theorem dX12_test_114 : decode cX12_test 114 = .ok (.invokestatic 211, 3) := by decide +kernel
theorem dX12_test_117 : decode cX12_test 117 = .ok (.iload_n 2, 1) := by decide +kernel
theorem dX12_test_118 : decode cX12_test 118 = .ok (.invokestatic 211, 3) := by decide +kernel
theorem dX12_test_121 : decode cX12_test 121 = .ok (.if_icmp .ge 7, 3) := by decide +kernel
theorem dX12_test_124 : decode cX12_test 124 = .ok (.iconst 1, 1) := by decide +kernel
theorem dX12_test_125 : decode cX12_test 125 = .ok (.goto 4, 3) := by decide +kernel
theorem dX12_test_128 : decode cX12_test 128 = .ok (.iconst 0, 1) := by decide +kernel
theorem dX12_test_129 : decode cX12_test 129 = .ok (.istore 4, 2) := by decide +kernel
theorem dX12_test_131 : decode cX12_test 131 = .ok (.iload 4, 2) := by decide +kernel
theorem dX12_test_133 : decode cX12_test 133 = .ok (.ifCond .eq 16, 3) := by decide +kernel
theorem dX12_test_136 : decode cX12_test 136 = .ok (.aload_n 0, 1) := by decide +kernel
theorem dX12_test_137 : decode cX12_test 137 = .ok (.iload_n 3, 1) := by decide +kernel
theorem dX12_test_138 : decode cX12_test 138 = .ok (.iload_n 1, 1) := by decide +kernel
theorem dX12_test_139 : decode cX12_test 139 = .ok (.invokevirtual 241, 3) := by decide +kernel
theorem dX12_test_142 : decode cX12_test 142 = .ok (.ifCond .eq 7, 3) := by decide +kernel
theorem dX12_test_145 : decode cX12_test 145 = .ok (.iload_n 3, 1) := by decide +kernel
theorem dX12_test_146 : decode cX12_test 146 = .ok (.goto 4, 3) := by decide +kernel
theorem dX12_test_149 : decode cX12_test 149 = .ok (.iload_n 2, 1) := by decide +kernel
theorem dX12_test_150 : decode cX12_test 150 = .ok (.istore_n 2, 1) := by decide +kernel
theorem dX12_test_151 : decode cX12_test 151 = .ok (.iinc 3 1, 3) := by decide +kernel
theorem dX12_test_154 : decode cX12_test 154 = .ok (.goto (-58), 3) := by decide +kernel
theorem dX12_test_157 : decode cX12_test 157 = .ok (.iload_n 2, 1) := by decide +kernel
theorem dX12_test_158 : decode cX12_test 158 = .ok (.ireturn, 1) := by decide +kernel
theorem dX12_signFor_0 : decode cX12_signFor 0 = .ok (.iconst 0, 1) := by decide +kernel
theorem dX12_signFor_1 : decode cX12_signFor 1 = .ok (.istore_n 2, 1) := by decide +kernel
theorem dX12_signFor_2 : decode cX12_signFor 2 = .ok (.iconst 1, 1) := by decide +kernel
theorem dX12_signFor_3 : decode cX12_signFor 3 = .ok (.istore_n 3, 1) := by decide +kernel
theorem dX12_signFor_4 : decode cX12_signFor 4 = .ok (.iload_n 3, 1) := by decide +kernel
theorem dX12_signFor_5 : decode cX12_signFor 5 = .ok (.bipush 10, 2) := by decide +kernel
theorem dX12_signFor_7 : decode cX12_signFor 7 = .ok (.if_icmp .ge 40, 3) := by decide +kernel
theorem dX12_signFor_10 : decode cX12_signFor 10 = .ok (.aload_n 0, 1) := by decide +kernel
theorem dX12_signFor_11 : decode cX12_signFor 11 = .ok (.getfield 25, 3) := by decide +kernel
theorem dX12_signFor_14 : decode cX12_signFor 14 = .ok (.bipush 10, 2) := by decide +kernel
theorem dX12_signFor_16 : decode cX12_signFor 16 = .ok (.iload_n 3, 1) := by decide +kernel
theorem dX12_signFor_17 : decode cX12_signFor 17 = .ok (.imul, 1) := by decide +kernel
theorem dX12_signFor_18 : decode cX12_signFor 18 = .ok (.iload_n 1, 1) := by decide +kernel
theorem dX12_signFor_19 : decode cX12_signFor 19 = .ok (.iadd, 1) := by decide +kernel
theorem dX12_signFor_20 : decode cX12_signFor 20 = .ok (.iaload, 1) := by decide +kernel
theorem dX12_signFor_21 : decode cX12_signFor 21 = .ok (.aload_n 0, 1) := by decide +kernel
theorem dX12_signFor_22 : decode cX12_signFor 22 = .ok (.getfield 25, 3) := by decide +kernel
theorem dX12_signFor_25 : decode cX12_signFor 25 = .ok (.bipush 10, 2) := by decide +kernel
theorem dX12_signFor_27 : decode cX12_signFor 27 = .ok (.iload_n 2, 1) := by decide +kernel
theorem dX12_signFor_28 : decode cX12_signFor 28 = .ok (.imul, 1) := by decide +kernel
theorem dX12_signFor_29 : decode cX12_signFor 29 = .ok (.iload_n 1, 1) := by decide +kernel
theorem dX12_signFor_30 : decode cX12_signFor 30 = .ok (.iadd, 1) := by decide +kernel
theorem dX12_signFor_31 : decode cX12_signFor 31 = .ok (.iaload, 1) := by decide +kernel
theorem dX12_signFor_32 : decode cX12_signFor 32 = .ok (.if_icmp .le 7, 3) := by decide +kernel
theorem dX12_signFor_35 : decode cX12_signFor 35 = .ok (.iload_n 3, 1) := by decide +kernel
theorem dX12_signFor_36 : decode cX12_signFor 36 = .ok (.goto 4, 3) := by decide +kernel
theorem dX12_signFor_39 : decode cX12_signFor 39 = .ok (.iload_n 2, 1) := by decide +kernel
theorem dX12_signFor_40 : decode cX12_signFor 40 = .ok (.istore_n 2, 1) := by decide +kernel
theorem dX12_signFor_41 : decode cX12_signFor 41 = .ok (.iinc 3 1, 3) := by decide +kernel
theorem dX12_signFor_44 : decode cX12_signFor 44 = .ok (.goto (-40), 3) := by decide +kernel
theorem dX12_signFor_47 : decode cX12_signFor 47 = .ok (.iload_n 2, 1) := by decide +kernel
theorem dX12_signFor_48 : decode cX12_signFor 48 = .ok (.ireturn, 1) := by decide +kernel
theorem dX12_respeltAt_0 : decode cX12_respeltAt 0 = .ok (.aload_n 0, 1) := by decide +kernel
theorem dX12_respeltAt_1 : decode cX12_respeltAt 1 = .ok (.aload_n 0, 1) := by decide +kernel
theorem dX12_respeltAt_2 : decode cX12_respeltAt 2 = .ok (.getfield 13, 3) := by decide +kernel
theorem dX12_respeltAt_5 : decode cX12_respeltAt 5 = .ok (.iconst 5, 1) := by decide +kernel
theorem dX12_respeltAt_6 : decode cX12_respeltAt 6 = .ok (.iload_n 1, 1) := by decide +kernel
theorem dX12_respeltAt_7 : decode cX12_respeltAt 7 = .ok (.imul, 1) := by decide +kernel
theorem dX12_respeltAt_8 : decode cX12_respeltAt 8 = .ok (.iload_n 2, 1) := by decide +kernel
theorem dX12_respeltAt_9 : decode cX12_respeltAt 9 = .ok (.iadd, 1) := by decide +kernel
theorem dX12_respeltAt_10 : decode cX12_respeltAt 10 = .ok (.iaload, 1) := by decide +kernel
theorem dX12_respeltAt_11 : decode cX12_respeltAt 11 = .ok (.invokevirtual 244, 3) := by decide +kernel
theorem dX12_respeltAt_14 : decode cX12_respeltAt 14 = .ok (.ireturn, 1) := by decide +kernel
theorem dX12_respelt_0 : decode cX12_respelt 0 = .ok (.aload_n 0, 1) := by decide +kernel
theorem dX12_respelt_1 : decode cX12_respelt 1 = .ok (.iload_n 1, 1) := by decide +kernel
theorem dX12_respelt_2 : decode cX12_respelt 2 = .ok (.invokevirtual 122, 3) := by decide +kernel
theorem dX12_respelt_5 : decode cX12_respelt 5 = .ok (.ifCond .ne 5, 3) := by decide +kernel
theorem dX12_respelt_8 : decode cX12_respelt 8 = .ok (.iconst (-1), 1) := by decide +kernel
theorem dX12_respelt_9 : decode cX12_respelt 9 = .ok (.ireturn, 1) := by decide +kernel
theorem dX12_respelt_10 : decode cX12_respelt 10 = .ok (.iload_n 2, 1) := by decide +kernel
theorem dX12_respelt_11 : decode cX12_respelt 11 = .ok (.i2l, 1) := by decide +kernel
theorem dX12_respelt_12 : decode cX12_respelt 12 = .ok (.lconst 0, 1) := by decide +kernel
theorem dX12_respelt_13 : decode cX12_respelt 13 = .ok (.ldc2_w 247, 3) := by decide +kernel
theorem dX12_respelt_16 : decode cX12_respelt 16 = .ok (.invokestatic 80, 3) := by decide +kernel
theorem dX12_respelt_19 : decode cX12_respelt 19 = .ok (.ifCond .ne 6, 3) := by decide +kernel
theorem dX12_respelt_22 : decode cX12_respelt 22 = .ok (.bipush (-2), 2) := by decide +kernel
theorem dX12_respelt_24 : decode cX12_respelt 24 = .ok (.ireturn, 1) := by decide +kernel
theorem dX12_respelt_25 : decode cX12_respelt 25 = .ok (.aload_n 0, 1) := by decide +kernel
theorem dX12_respelt_26 : decode cX12_respelt 26 = .ok (.invokevirtual 137, 3) := by decide +kernel
theorem dX12_respelt_29 : decode cX12_respelt 29 = .ok (.iload_n 2, 1) := by decide +kernel
theorem dX12_respelt_30 : decode cX12_respelt 30 = .ok (.aload_n 0, 1) := by decide +kernel
theorem dX12_respelt_31 : decode cX12_respelt 31 = .ok (.getfield 16, 3) := by decide +kernel
theorem dX12_respelt_34 : decode cX12_respelt 34 = .ok (.iload_n 1, 1) := by decide +kernel
theorem dX12_respelt_35 : decode cX12_respelt 35 = .ok (.iaload, 1) := by decide +kernel
theorem dX12_respelt_36 : decode cX12_respelt 36 = .ok (.if_icmp .ge 12, 3) := by decide +kernel
theorem dX12_respelt_39 : decode cX12_respelt 39 = .ok (.aload_n 0, 1) := by decide +kernel
theorem dX12_respelt_40 : decode cX12_respelt 40 = .ok (.iload_n 1, 1) := by decide +kernel
theorem dX12_respelt_41 : decode cX12_respelt 41 = .ok (.iload_n 2, 1) := by decide +kernel
theorem dX12_respelt_42 : decode cX12_respelt 42 = .ok (.invokevirtual 249, 3) := by decide +kernel
theorem dX12_respelt_45 : decode cX12_respelt 45 = .ok (.goto 5, 3) := by decide +kernel
theorem dX12_respelt_48 : decode cX12_respelt 48 = .ok (.bipush (-6), 2) := by decide +kernel
theorem dX12_respelt_50 : decode cX12_respelt 50 = .ok (.ireturn, 1) := by decide +kernel
theorem dX12_clash_0 : decode cX12_clash 0 = .ok (.aload_n 0, 1) := by decide +kernel
theorem dX12_clash_1 : decode cX12_clash 1 = .ok (.getfield 16, 3) := by decide +kernel
theorem dX12_clash_4 : decode cX12_clash 4 = .ok (.iload_n 1, 1) := by decide +kernel
theorem dX12_clash_5 : decode cX12_clash 5 = .ok (.iaload, 1) := by decide +kernel
theorem dX12_clash_6 : decode cX12_clash 6 = .ok (.aload_n 0, 1) := by decide +kernel
theorem dX12_clash_7 : decode cX12_clash 7 = .ok (.getfield 16, 3) := by decide +kernel
theorem dX12_clash_10 : decode cX12_clash 10 = .ok (.iload_n 2, 1) := by decide +kernel
theorem dX12_clash_11 : decode cX12_clash 11 = .ok (.iaload, 1) := by decide +kernel
theorem dX12_clash_12 : decode cX12_clash 12 = .ok (.if_icmp .ne 7, 3) := by decide +kernel
theorem dX12_clash_15 : decode cX12_clash 15 = .ok (.iconst 1, 1) := by decide +kernel
theorem dX12_clash_16 : decode cX12_clash 16 = .ok (.goto 4, 3) := by decide +kernel
theorem dX12_clash_19 : decode cX12_clash 19 = .ok (.iconst 0, 1) := by decide +kernel
theorem dX12_clash_20 : decode cX12_clash 20 = .ok (.istore_n 3, 1) := by decide +kernel
theorem dX12_clash_21 : decode cX12_clash 21 = .ok (.iconst 0, 1) := by decide +kernel
theorem dX12_clash_22 : decode cX12_clash 22 = .ok (.istore 4, 2) := by decide +kernel
theorem dX12_clash_24 : decode cX12_clash 24 = .ok (.iload 4, 2) := by decide +kernel
theorem dX12_clash_26 : decode cX12_clash 26 = .ok (.aload_n 0, 1) := by decide +kernel
theorem dX12_clash_27 : decode cX12_clash 27 = .ok (.getfield 16, 3) := by decide +kernel
theorem dX12_clash_30 : decode cX12_clash 30 = .ok (.iload_n 1, 1) := by decide +kernel
theorem dX12_clash_31 : decode cX12_clash 31 = .ok (.iaload, 1) := by decide +kernel
theorem dX12_clash_32 : decode cX12_clash 32 = .ok (.if_icmp .ge 36, 3) := by decide +kernel
theorem dX12_clash_35 : decode cX12_clash 35 = .ok (.iload_n 3, 1) := by decide +kernel
theorem dX12_clash_36 : decode cX12_clash 36 = .ok (.ifCond .eq 32, 3) := by decide +kernel
theorem dX12_clash_39 : decode cX12_clash 39 = .ok (.aload_n 0, 1) := by decide +kernel
theorem dX12_clash_40 : decode cX12_clash 40 = .ok (.iload_n 1, 1) := by decide +kernel
theorem dX12_clash_41 : decode cX12_clash 41 = .ok (.iload 4, 2) := by decide +kernel
theorem dX12_clash_43 : decode cX12_clash 43 = .ok (.invokevirtual 249, 3) := by decide +kernel
theorem dX12_clash_46 : decode cX12_clash 46 = .ok (.aload_n 0, 1) := by decide +kernel
theorem dX12_clash_47 : decode cX12_clash 47 = .ok (.iload_n 2, 1) := by decide +kernel
theorem dX12_clash_48 : decode cX12_clash 48 = .ok (.iload 4, 2) := by decide +kernel
theorem dX12_clash_50 : decode cX12_clash 50 = .ok (.invokevirtual 249, 3) := by decide +kernel
theorem dX12_clash_53 : decode cX12_clash 53 = .ok (.if_icmp .ne 7, 3) := by decide +kernel
theorem dX12_clash_56 : decode cX12_clash 56 = .ok (.iconst 1, 1) := by decide +kernel
theorem dX12_clash_57 : decode cX12_clash 57 = .ok (.goto 4, 3) := by decide +kernel
theorem dX12_clash_60 : decode cX12_clash 60 = .ok (.iconst 0, 1) := by decide +kernel
theorem dX12_clash_61 : decode cX12_clash 61 = .ok (.istore_n 3, 1) := by decide +kernel
theorem dX12_clash_62 : decode cX12_clash 62 = .ok (.iinc 4 1, 3) := by decide +kernel
theorem dX12_clash_65 : decode cX12_clash 65 = .ok (.goto (-41), 3) := by decide +kernel
theorem dX12_clash_68 : decode cX12_clash 68 = .ok (.iload_n 3, 1) := by decide +kernel
theorem dX12_clash_69 : decode cX12_clash 69 = .ok (.ireturn, 1) := by decide +kernel
theorem dX12_price_0 : decode cX12_price 0 = .ok (.iload_n 1, 1) := by decide +kernel
theorem dX12_price_1 : decode cX12_price 1 = .ok (.invokestatic 148, 3) := by decide +kernel
theorem dX12_price_4 : decode cX12_price 4 = .ok (.ifCond .ne 6, 3) := by decide +kernel
theorem dX12_price_7 : decode cX12_price 7 = .ok (.bipush (-2), 2) := by decide +kernel
theorem dX12_price_9 : decode cX12_price 9 = .ok (.ireturn, 1) := by decide +kernel
theorem dX12_price_10 : decode cX12_price 10 = .ok (.aload_n 0, 1) := by decide +kernel
theorem dX12_price_11 : decode cX12_price 11 = .ok (.invokevirtual 137, 3) := by decide +kernel
theorem dX12_price_14 : decode cX12_price 14 = .ok (.iconst 0, 1) := by decide +kernel
theorem dX12_price_15 : decode cX12_price 15 = .ok (.istore_n 2, 1) := by decide +kernel
theorem dX12_price_16 : decode cX12_price 16 = .ok (.iconst 0, 1) := by decide +kernel
theorem dX12_price_17 : decode cX12_price 17 = .ok (.istore_n 3, 1) := by decide +kernel
theorem dX12_price_18 : decode cX12_price 18 = .ok (.iload_n 3, 1) := by decide +kernel
theorem dX12_price_19 : decode cX12_price 19 = .ok (.aload_n 0, 1) := by decide +kernel
theorem dX12_price_20 : decode cX12_price 20 = .ok (.getfield 105, 3) := by decide +kernel
theorem dX12_price_23 : decode cX12_price 23 = .ok (.if_icmp .ge 106, 3) := by decide +kernel
theorem dX12_price_26 : decode cX12_price 26 = .ok (.iconst 0, 1) := by decide +kernel
theorem dX12_price_27 : decode cX12_price 27 = .ok (.istore 4, 2) := by decide +kernel
theorem dX12_price_29 : decode cX12_price 29 = .ok (.iload 4, 2) := by decide +kernel
theorem dX12_price_31 : decode cX12_price 31 = .ok (.aload_n 0, 1) := by decide +kernel
theorem dX12_price_32 : decode cX12_price 32 = .ok (.getfield 16, 3) := by decide +kernel
theorem dX12_price_35 : decode cX12_price 35 = .ok (.iload_n 3, 1) := by decide +kernel
theorem dX12_price_36 : decode cX12_price 36 = .ok (.iaload, 1) := by decide +kernel
theorem dX12_price_37 : decode cX12_price 37 = .ok (.if_icmp .ge 43, 3) := by decide +kernel
theorem dX12_price_40 : decode cX12_price 40 = .ok (.iload_n 2, 1) := by decide +kernel
theorem dX12_price_41 : decode cX12_price 41 = .ok (.aload_n 0, 1) := by decide +kernel
theorem dX12_price_42 : decode cX12_price 42 = .ok (.iload_n 3, 1) := by decide +kernel
theorem dX12_price_43 : decode cX12_price 43 = .ok (.iload 4, 2) := by decide +kernel
theorem dX12_price_45 : decode cX12_price 45 = .ok (.invokevirtual 249, 3) := by decide +kernel
theorem dX12_price_48 : decode cX12_price 48 = .ok (.aload_n 0, 1) := by decide +kernel
theorem dX12_price_49 : decode cX12_price 49 = .ok (.getfield 7, 3) := by decide +kernel
theorem dX12_price_52 : decode cX12_price 52 = .ok (.iconst 5, 1) := by decide +kernel
theorem dX12_price_53 : decode cX12_price 53 = .ok (.iload_n 3, 1) := by decide +kernel
theorem dX12_price_54 : decode cX12_price 54 = .ok (.imul, 1) := by decide +kernel
theorem dX12_price_55 : decode cX12_price 55 = .ok (.iload 4, 2) := by decide +kernel
theorem dX12_price_57 : decode cX12_price 57 = .ok (.iadd, 1) := by decide +kernel
theorem dX12_price_58 : decode cX12_price 58 = .ok (.iaload, 1) := by decide +kernel
theorem dX12_price_59 : decode cX12_price 59 = .ok (.if_icmp .eq 12, 3) := by decide +kernel
theorem dX12_price_62 : decode cX12_price 62 = .ok (.aload_n 0, 1) := by decide +kernel
theorem dX12_price_63 : decode cX12_price 63 = .ok (.getfield 19, 3) := by decide +kernel
theorem dX12_price_66 : decode cX12_price 66 = .ok (.iload_n 3, 1) := by decide +kernel
theorem dX12_price_67 : decode cX12_price 67 = .ok (.iaload, 1) := by decide +kernel
theorem dX12_price_68 : decode cX12_price 68 = .ok (.goto 4, 3) := by decide +kernel
theorem dX12_price_71 : decode cX12_price 71 = .ok (.iconst 0, 1) := by decide +kernel
theorem dX12_price_72 : decode cX12_price 72 = .ok (.iadd, 1) := by decide +kernel
theorem dX12_price_73 : decode cX12_price 73 = .ok (.istore_n 2, 1) := by decide +kernel
theorem dX12_price_74 : decode cX12_price 74 = .ok (.iinc 4 1, 3) := by decide +kernel
theorem dX12_price_77 : decode cX12_price 77 = .ok (.goto (-48), 3) := by decide +kernel
theorem dX12_price_80 : decode cX12_price 80 = .ok (.iload_n 3, 1) := by decide +kernel
theorem dX12_price_81 : decode cX12_price 81 = .ok (.iconst 1, 1) := by decide +kernel
theorem dX12_price_82 : decode cX12_price 82 = .ok (.iadd, 1) := by decide +kernel
theorem dX12_price_83 : decode cX12_price 83 = .ok (.istore 4, 2) := by decide +kernel
theorem dX12_price_85 : decode cX12_price 85 = .ok (.iload 4, 2) := by decide +kernel
theorem dX12_price_87 : decode cX12_price 87 = .ok (.aload_n 0, 1) := by decide +kernel
theorem dX12_price_88 : decode cX12_price 88 = .ok (.getfield 105, 3) := by decide +kernel
theorem dX12_price_91 : decode cX12_price 91 = .ok (.if_icmp .ge 32, 3) := by decide +kernel
theorem dX12_price_94 : decode cX12_price 94 = .ok (.iload_n 1, 1) := by decide +kernel
theorem dX12_price_95 : decode cX12_price 95 = .ok (.iconst 1, 1) := by decide +kernel
theorem dX12_price_96 : decode cX12_price 96 = .ok (.if_icmp .ne 27, 3) := by decide +kernel
theorem dX12_price_99 : decode cX12_price 99 = .ok (.aload_n 0, 1) := by decide +kernel
theorem dX12_price_100 : decode cX12_price 100 = .ok (.iload_n 3, 1) := by decide +kernel
theorem dX12_price_101 : decode cX12_price 101 = .ok (.iload 4, 2) := by decide +kernel
theorem dX12_price_103 : decode cX12_price 103 = .ok (.invokevirtual 252, 3) := by decide +kernel
theorem dX12_price_106 : decode cX12_price 106 = .ok (.ifCond .eq 11, 3) := by decide +kernel
theorem dX12_price_109 : decode cX12_price 109 = .ok (.bipush 100, 2) := by decide +kernel
theorem dX12_price_111 : decode cX12_price 111 = .ok (.iload_n 3, 1) := by decide +kernel
theorem dX12_price_112 : decode cX12_price 112 = .ok (.imul, 1) := by decide +kernel
theorem dX12_price_113 : decode cX12_price 113 = .ok (.iload 4, 2) := by decide +kernel
theorem dX12_price_115 : decode cX12_price 115 = .ok (.iadd, 1) := by decide +kernel
theorem dX12_price_116 : decode cX12_price 116 = .ok (.ireturn, 1) := by decide +kernel
theorem dX12_price_117 : decode cX12_price 117 = .ok (.iinc 4 1, 3) := by decide +kernel
theorem dX12_price_120 : decode cX12_price 120 = .ok (.goto (-35), 3) := by decide +kernel
theorem dX12_price_123 : decode cX12_price 123 = .ok (.iinc 3 1, 3) := by decide +kernel
theorem dX12_price_126 : decode cX12_price 126 = .ok (.goto (-108), 3) := by decide +kernel
theorem dX12_price_129 : decode cX12_price 129 = .ok (.iload_n 1, 1) := by decide +kernel
theorem dX12_price_130 : decode cX12_price 130 = .ok (.ifCond .ne 7, 3) := by decide +kernel
theorem dX12_price_133 : decode cX12_price 133 = .ok (.iload_n 2, 1) := by decide +kernel
theorem dX12_price_134 : decode cX12_price 134 = .ok (.goto 5, 3) := by decide +kernel
theorem dX12_price_137 : decode cX12_price 137 = .ok (.bipush (-6), 2) := by decide +kernel
theorem dX12_price_139 : decode cX12_price 139 = .ok (.ireturn, 1) := by decide +kernel
theorem dX12_findLessons_0 : decode cX12_findLessons 0 = .ok (.aload_n 0, 1) := by decide +kernel
theorem dX12_findLessons_1 : decode cX12_findLessons 1 = .ok (.getfield 34, 3) := by decide +kernel
theorem dX12_findLessons_4 : decode cX12_findLessons 4 = .ok (.iload_n 1, 1) := by decide +kernel
theorem dX12_findLessons_5 : decode cX12_findLessons 5 = .ok (.iaload, 1) := by decide +kernel
theorem dX12_findLessons_6 : decode cX12_findLessons 6 = .ok (.istore_n 2, 1) := by decide +kernel
theorem dX12_findLessons_7 : decode cX12_findLessons 7 = .ok (.iconst 0, 1) := by decide +kernel
theorem dX12_findLessons_8 : decode cX12_findLessons 8 = .ok (.istore_n 3, 1) := by decide +kernel
theorem dX12_findLessons_9 : decode cX12_findLessons 9 = .ok (.iload_n 3, 1) := by decide +kernel
theorem dX12_findLessons_10 : decode cX12_findLessons 10 = .ok (.bipush 12, 2) := by decide +kernel
theorem dX12_findLessons_12 : decode cX12_findLessons 12 = .ok (.if_icmp .gt 21, 3) := by decide +kernel
theorem dX12_findLessons_15 : decode cX12_findLessons 15 = .ok (.aload_n 0, 1) := by decide +kernel
theorem dX12_findLessons_16 : decode cX12_findLessons 16 = .ok (.getfield 66, 3) := by decide +kernel
theorem dX12_findLessons_19 : decode cX12_findLessons 19 = .ok (.bipush 13, 2) := by decide +kernel
theorem dX12_findLessons_21 : decode cX12_findLessons 21 = .ok (.iload_n 1, 1) := by decide +kernel
theorem dX12_findLessons_22 : decode cX12_findLessons 22 = .ok (.imul, 1) := by decide +kernel
theorem dX12_findLessons_23 : decode cX12_findLessons 23 = .ok (.iload_n 3, 1) := by decide +kernel
theorem dX12_findLessons_24 : decode cX12_findLessons 24 = .ok (.iadd, 1) := by decide +kernel
theorem dX12_findLessons_25 : decode cX12_findLessons 25 = .ok (.iconst 0, 1) := by decide +kernel
theorem dX12_findLessons_26 : decode cX12_findLessons 26 = .ok (.iastore, 1) := by decide +kernel
theorem dX12_findLessons_27 : decode cX12_findLessons 27 = .ok (.iinc 3 1, 3) := by decide +kernel
theorem dX12_findLessons_30 : decode cX12_findLessons 30 = .ok (.goto (-21), 3) := by decide +kernel
theorem dX12_findLessons_33 : decode cX12_findLessons 33 = .ok (.bipush 10, 2) := by decide +kernel
theorem dX12_findLessons_35 : decode cX12_findLessons 35 = .ok (.iload_n 2, 1) := by decide +kernel
theorem dX12_findLessons_36 : decode cX12_findLessons 36 = .ok (.invokestatic 211, 3) := by decide +kernel
theorem dX12_findLessons_39 : decode cX12_findLessons 39 = .ok (.isub, 1) := by decide +kernel
theorem dX12_findLessons_40 : decode cX12_findLessons 40 = .ok (.istore_n 3, 1) := by decide +kernel
theorem dX12_findLessons_41 : decode cX12_findLessons 41 = .ok (.iconst 0, 1) := by decide +kernel
theorem dX12_findLessons_42 : decode cX12_findLessons 42 = .ok (.istore 4, 2) := by decide +kernel
theorem dX12_findLessons_44 : decode cX12_findLessons 44 = .ok (.iload 4, 2) := by decide +kernel
theorem dX12_findLessons_46 : decode cX12_findLessons 46 = .ok (.sipush 1024, 3) := by decide +kernel
theorem dX12_findLessons_49 : decode cX12_findLessons 49 = .ok (.if_icmp .ge 114, 3) := by decide +kernel
theorem dX12_findLessons_52 : decode cX12_findLessons 52 = .ok (.iload 4, 2) := by decide +kernel
theorem dX12_findLessons_54 : decode cX12_findLessons 54 = .ok (.iload_n 2, 1) := by decide +kernel
theorem dX12_findLessons_55 : decode cX12_findLessons 55 = .ok (.iand, 1) := by decide +kernel
theorem dX12_findLessons_56 : decode cX12_findLessons 56 = .ok (.ifCond .ne 101, 3) := by decide +kernel
theorem dX12_findLessons_59 : decode cX12_findLessons 59 = .ok (.aload_n 0, 1) := by decide +kernel
theorem dX12_findLessons_60 : decode cX12_findLessons 60 = .ok (.iload_n 1, 1) := by decide +kernel
theorem dX12_findLessons_61 : decode cX12_findLessons 61 = .ok (.iload_n 2, 1) := by decide +kernel
theorem dX12_findLessons_62 : decode cX12_findLessons 62 = .ok (.iload 4, 2) := by decide +kernel
theorem dX12_findLessons_64 : decode cX12_findLessons 64 = .ok (.ior, 1) := by decide +kernel
theorem dX12_findLessons_65 : decode cX12_findLessons 65 = .ok (.aload_n 0, 1) := by decide +kernel
theorem dX12_findLessons_66 : decode cX12_findLessons 66 = .ok (.getfield 37, 3) := by decide +kernel
theorem dX12_findLessons_69 : decode cX12_findLessons 69 = .ok (.iload_n 1, 1) := by decide +kernel
theorem dX12_findLessons_70 : decode cX12_findLessons 70 = .ok (.iaload, 1) := by decide +kernel
theorem dX12_findLessons_71 : decode cX12_findLessons 71 = .ok (.invokevirtual 193, 3) := by decide +kernel
theorem dX12_findLessons_74 : decode cX12_findLessons 74 = .ok (.istore 5, 2) := by decide +kernel
theorem dX12_findLessons_76 : decode cX12_findLessons 76 = .ok (.iload 4, 2) := by decide +kernel
theorem dX12_findLessons_78 : decode cX12_findLessons 78 = .ok (.invokestatic 211, 3) := by decide +kernel
theorem dX12_findLessons_81 : decode cX12_findLessons 81 = .ok (.istore 6, 2) := by decide +kernel
theorem dX12_findLessons_83 : decode cX12_findLessons 83 = .ok (.iload 6, 2) := by decide +kernel
theorem dX12_findLessons_85 : decode cX12_findLessons 85 = .ok (.istore 7, 2) := by decide +kernel
theorem dX12_findLessons_87 : decode cX12_findLessons 87 = .ok (.iload 7, 2) := by decide +kernel
theorem dX12_findLessons_89 : decode cX12_findLessons 89 = .ok (.iload 6, 2) := by decide +kernel
theorem dX12_findLessons_91 : decode cX12_findLessons 91 = .ok (.iload_n 3, 1) := by decide +kernel
theorem dX12_findLessons_92 : decode cX12_findLessons 92 = .ok (.if_icmp .ne 8, 3) := by decide +kernel
theorem dX12_findLessons_95 : decode cX12_findLessons 95 = .ok (.bipush 12, 2) := by decide +kernel
theorem dX12_findLessons_97 : decode cX12_findLessons 97 = .ok (.goto 5, 3) := by decide +kernel
theorem dX12_findLessons_100 : decode cX12_findLessons 100 = .ok (.iload 6, 2) := by decide +kernel
theorem dX12_findLessons_102 : decode cX12_findLessons 102 = .ok (.if_icmp .gt 55, 3) := by decide +kernel
theorem dX12_findLessons_105 : decode cX12_findLessons 105 = .ok (.aload_n 0, 1) := by decide +kernel
theorem dX12_findLessons_106 : decode cX12_findLessons 106 = .ok (.getfield 66, 3) := by decide +kernel
theorem dX12_findLessons_109 : decode cX12_findLessons 109 = .ok (.bipush 13, 2) := by decide +kernel
theorem dX12_findLessons_111 : decode cX12_findLessons 111 = .ok (.iload_n 1, 1) := by decide +kernel
theorem dX12_findLessons_112 : decode cX12_findLessons 112 = .ok (.imul, 1) := by decide +kernel
theorem dX12_findLessons_113 : decode cX12_findLessons 113 = .ok (.iload 7, 2) := by decide +kernel
theorem dX12_findLessons_115 : decode cX12_findLessons 115 = .ok (.iadd, 1) := by decide +kernel
theorem dX12_findLessons_116 : decode cX12_findLessons 116 = .ok (.iload 5, 2) := by decide +kernel
theorem dX12_findLessons_118 : decode cX12_findLessons 118 = .ok (.aload_n 0, 1) := by decide +kernel
theorem dX12_findLessons_119 : decode cX12_findLessons 119 = .ok (.getfield 66, 3) := by decide +kernel
theorem dX12_findLessons_122 : decode cX12_findLessons 122 = .ok (.bipush 13, 2) := by decide +kernel
theorem dX12_findLessons_124 : decode cX12_findLessons 124 = .ok (.iload_n 1, 1) := by decide +kernel
theorem dX12_findLessons_125 : decode cX12_findLessons 125 = .ok (.imul, 1) := by decide +kernel
theorem dX12_findLessons_126 : decode cX12_findLessons 126 = .ok (.iload 7, 2) := by decide +kernel
theorem dX12_findLessons_128 : decode cX12_findLessons 128 = .ok (.iadd, 1) := by decide +kernel
theorem dX12_findLessons_129 : decode cX12_findLessons 129 = .ok (.iaload, 1) := by decide +kernel
theorem dX12_findLessons_130 : decode cX12_findLessons 130 = .ok (.if_icmp .le 8, 3) := by decide +kernel
theorem dX12_findLessons_133 : decode cX12_findLessons 133 = .ok (.iload 5, 2) := by decide +kernel
theorem dX12_findLessons_135 : decode cX12_findLessons 135 = .ok (.goto 15, 3) := by decide +kernel
theorem dX12_findLessons_138 : decode cX12_findLessons 138 = .ok (.aload_n 0, 1) := by decide +kernel
theorem dX12_findLessons_139 : decode cX12_findLessons 139 = .ok (.getfield 66, 3) := by decide +kernel
theorem dX12_findLessons_142 : decode cX12_findLessons 142 = .ok (.bipush 13, 2) := by decide +kernel
theorem dX12_findLessons_144 : decode cX12_findLessons 144 = .ok (.iload_n 1, 1) := by decide +kernel
theorem dX12_findLessons_145 : decode cX12_findLessons 145 = .ok (.imul, 1) := by decide +kernel
theorem dX12_findLessons_146 : decode cX12_findLessons 146 = .ok (.iload 7, 2) := by decide +kernel
theorem dX12_findLessons_148 : decode cX12_findLessons 148 = .ok (.iadd, 1) := by decide +kernel
theorem dX12_findLessons_149 : decode cX12_findLessons 149 = .ok (.iaload, 1) := by decide +kernel
theorem dX12_findLessons_150 : decode cX12_findLessons 150 = .ok (.iastore, 1) := by decide +kernel
theorem dX12_findLessons_151 : decode cX12_findLessons 151 = .ok (.iinc 7 1, 3) := by decide +kernel
theorem dX12_findLessons_154 : decode cX12_findLessons 154 = .ok (.goto (-67), 3) := by decide +kernel
theorem dX12_findLessons_157 : decode cX12_findLessons 157 = .ok (.iinc 4 1, 3) := by decide +kernel
theorem dX12_findLessons_160 : decode cX12_findLessons 160 = .ok (.goto (-116), 3) := by decide +kernel
theorem dX12_findLessons_163 : decode cX12_findLessons 163 = .ok (.return_, 1) := by decide +kernel
theorem dX12_lessons_0 : decode cX12_lessons 0 = .ok (.iload_n 1, 1) := by decide +kernel
theorem dX12_lessons_1 : decode cX12_lessons 1 = .ok (.invokestatic 160, 3) := by decide +kernel
theorem dX12_lessons_4 : decode cX12_lessons 4 = .ok (.ifCond .ne 5, 3) := by decide +kernel
theorem dX12_lessons_7 : decode cX12_lessons 7 = .ok (.iconst (-1), 1) := by decide +kernel
theorem dX12_lessons_8 : decode cX12_lessons 8 = .ok (.ireturn, 1) := by decide +kernel
theorem dX12_lessons_9 : decode cX12_lessons 9 = .ok (.iload_n 2, 1) := by decide +kernel
theorem dX12_lessons_10 : decode cX12_lessons 10 = .ok (.i2l, 1) := by decide +kernel
theorem dX12_lessons_11 : decode cX12_lessons 11 = .ok (.lconst 0, 1) := by decide +kernel
theorem dX12_lessons_12 : decode cX12_lessons 12 = .ok (.ldc2_w 255, 3) := by decide +kernel
theorem dX12_lessons_15 : decode cX12_lessons 15 = .ok (.invokestatic 80, 3) := by decide +kernel
theorem dX12_lessons_18 : decode cX12_lessons 18 = .ok (.ifCond .ne 6, 3) := by decide +kernel
theorem dX12_lessons_21 : decode cX12_lessons 21 = .ok (.bipush (-2), 2) := by decide +kernel
theorem dX12_lessons_23 : decode cX12_lessons 23 = .ok (.ireturn, 1) := by decide +kernel
theorem dX12_lessons_24 : decode cX12_lessons 24 = .ok (.aload_n 0, 1) := by decide +kernel
theorem dX12_lessons_25 : decode cX12_lessons 25 = .ok (.invokevirtual 137, 3) := by decide +kernel
theorem dX12_lessons_28 : decode cX12_lessons 28 = .ok (.aload_n 0, 1) := by decide +kernel
theorem dX12_lessons_29 : decode cX12_lessons 29 = .ok (.iload_n 1, 1) := by decide +kernel
theorem dX12_lessons_30 : decode cX12_lessons 30 = .ok (.invokevirtual 257, 3) := by decide +kernel
theorem dX12_lessons_33 : decode cX12_lessons 33 = .ok (.aload_n 0, 1) := by decide +kernel
theorem dX12_lessons_34 : decode cX12_lessons 34 = .ok (.getfield 66, 3) := by decide +kernel
theorem dX12_lessons_37 : decode cX12_lessons 37 = .ok (.bipush 13, 2) := by decide +kernel
theorem dX12_lessons_39 : decode cX12_lessons 39 = .ok (.iload_n 1, 1) := by decide +kernel
theorem dX12_lessons_40 : decode cX12_lessons 40 = .ok (.imul, 1) := by decide +kernel
theorem dX12_lessons_41 : decode cX12_lessons 41 = .ok (.iload_n 2, 1) := by decide +kernel
theorem dX12_lessons_42 : decode cX12_lessons 42 = .ok (.iadd, 1) := by decide +kernel
theorem dX12_lessons_43 : decode cX12_lessons 43 = .ok (.iaload, 1) := by decide +kernel
theorem dX12_lessons_44 : decode cX12_lessons 44 = .ok (.ireturn, 1) := by decide +kernel
theorem dX12_findShared_0 : decode cX12_findShared 0 = .ok (.aload_n 0, 1) := by decide +kernel
theorem dX12_findShared_1 : decode cX12_findShared 1 = .ok (.invokevirtual 137, 3) := by decide +kernel
theorem dX12_findShared_4 : decode cX12_findShared 4 = .ok (.iconst 0, 1) := by decide +kernel
theorem dX12_findShared_5 : decode cX12_findShared 5 = .ok (.istore_n 2, 1) := by decide +kernel
theorem dX12_findShared_6 : decode cX12_findShared 6 = .ok (.iload_n 2, 1) := by decide +kernel
theorem dX12_findShared_7 : decode cX12_findShared 7 = .ok (.iconst 4, 1) := by decide +kernel
theorem dX12_findShared_8 : decode cX12_findShared 8 = .ok (.if_icmp .ge 14, 3) := by decide +kernel
theorem dX12_findShared_11 : decode cX12_findShared 11 = .ok (.aload_n 0, 1) := by decide +kernel
theorem dX12_findShared_12 : decode cX12_findShared 12 = .ok (.iload_n 2, 1) := by decide +kernel
theorem dX12_findShared_13 : decode cX12_findShared 13 = .ok (.invokevirtual 257, 3) := by decide +kernel
theorem dX12_findShared_16 : decode cX12_findShared 16 = .ok (.iinc 2 1, 3) := by decide +kernel
theorem dX12_findShared_19 : decode cX12_findShared 19 = .ok (.goto (-13), 3) := by decide +kernel
theorem dX12_findShared_22 : decode cX12_findShared 22 = .ok (.bipush (-6), 2) := by decide +kernel
theorem dX12_findShared_24 : decode cX12_findShared 24 = .ok (.istore_n 2, 1) := by decide +kernel
theorem dX12_findShared_25 : decode cX12_findShared 25 = .ok (.iconst 0, 1) := by decide +kernel
theorem dX12_findShared_26 : decode cX12_findShared 26 = .ok (.istore_n 3, 1) := by decide +kernel
theorem dX12_findShared_27 : decode cX12_findShared 27 = .ok (.iload_n 3, 1) := by decide +kernel
theorem dX12_findShared_28 : decode cX12_findShared 28 = .ok (.iload_n 1, 1) := by decide +kernel
theorem dX12_findShared_29 : decode cX12_findShared 29 = .ok (.if_icmp .gt 138, 3) := by decide +kernel
theorem dX12_findShared_32 : decode cX12_findShared 32 = .ok (.iconst 0, 1) := by decide +kernel
theorem dX12_findShared_33 : decode cX12_findShared 33 = .ok (.istore 4, 2) := by decide +kernel
theorem dX12_findShared_35 : decode cX12_findShared 35 = .ok (.iload_n 3, 1) := by decide +kernel
theorem dX12_findShared_36 : decode cX12_findShared 36 = .ok (.iload 4, 2) := by decide +kernel
theorem dX12_findShared_38 : decode cX12_findShared 38 = .ok (.iadd, 1) := by decide +kernel
theorem dX12_findShared_39 : decode cX12_findShared 39 = .ok (.iload_n 1, 1) := by decide +kernel
theorem dX12_findShared_40 : decode cX12_findShared 40 = .ok (.if_icmp .gt 121, 3) := by decide +kernel
theorem dX12_findShared_43 : decode cX12_findShared 43 = .ok (.iconst 0, 1) := by decide +kernel
theorem dX12_findShared_44 : decode cX12_findShared 44 = .ok (.istore 5, 2) := by decide +kernel
theorem dX12_findShared_46 : decode cX12_findShared 46 = .ok (.iload_n 3, 1) := by decide +kernel
theorem dX12_findShared_47 : decode cX12_findShared 47 = .ok (.iload 4, 2) := by decide +kernel
theorem dX12_findShared_49 : decode cX12_findShared 49 = .ok (.iadd, 1) := by decide +kernel
theorem dX12_findShared_50 : decode cX12_findShared 50 = .ok (.iload 5, 2) := by decide +kernel
theorem dX12_findShared_52 : decode cX12_findShared 52 = .ok (.iadd, 1) := by decide +kernel
theorem dX12_findShared_53 : decode cX12_findShared 53 = .ok (.iload_n 1, 1) := by decide +kernel
theorem dX12_findShared_54 : decode cX12_findShared 54 = .ok (.if_icmp .gt 101, 3) := by decide +kernel
theorem dX12_findShared_57 : decode cX12_findShared 57 = .ok (.iload_n 1, 1) := by decide +kernel
theorem dX12_findShared_58 : decode cX12_findShared 58 = .ok (.iload_n 3, 1) := by decide +kernel
theorem dX12_findShared_59 : decode cX12_findShared 59 = .ok (.isub, 1) := by decide +kernel
theorem dX12_findShared_60 : decode cX12_findShared 60 = .ok (.iload 4, 2) := by decide +kernel
theorem dX12_findShared_62 : decode cX12_findShared 62 = .ok (.isub, 1) := by decide +kernel
theorem dX12_findShared_63 : decode cX12_findShared 63 = .ok (.iload 5, 2) := by decide +kernel
theorem dX12_findShared_65 : decode cX12_findShared 65 = .ok (.isub, 1) := by decide +kernel
theorem dX12_findShared_66 : decode cX12_findShared 66 = .ok (.istore 6, 2) := by decide +kernel
theorem dX12_findShared_68 : decode cX12_findShared 68 = .ok (.aload_n 0, 1) := by decide +kernel
theorem dX12_findShared_69 : decode cX12_findShared 69 = .ok (.getfield 66, 3) := by decide +kernel
theorem dX12_findShared_72 : decode cX12_findShared 72 = .ok (.iload_n 3, 1) := by decide +kernel
theorem dX12_findShared_73 : decode cX12_findShared 73 = .ok (.iaload, 1) := by decide +kernel
theorem dX12_findShared_74 : decode cX12_findShared 74 = .ok (.aload_n 0, 1) := by decide +kernel
theorem dX12_findShared_75 : decode cX12_findShared 75 = .ok (.getfield 66, 3) := by decide +kernel
theorem dX12_findShared_78 : decode cX12_findShared 78 = .ok (.bipush 13, 2) := by decide +kernel
theorem dX12_findShared_80 : decode cX12_findShared 80 = .ok (.iload 4, 2) := by decide +kernel
theorem dX12_findShared_82 : decode cX12_findShared 82 = .ok (.iadd, 1) := by decide +kernel
theorem dX12_findShared_83 : decode cX12_findShared 83 = .ok (.iaload, 1) := by decide +kernel
theorem dX12_findShared_84 : decode cX12_findShared 84 = .ok (.iadd, 1) := by decide +kernel
theorem dX12_findShared_85 : decode cX12_findShared 85 = .ok (.aload_n 0, 1) := by decide +kernel
theorem dX12_findShared_86 : decode cX12_findShared 86 = .ok (.getfield 66, 3) := by decide +kernel
theorem dX12_findShared_89 : decode cX12_findShared 89 = .ok (.bipush 26, 2) := by decide +kernel
theorem dX12_findShared_91 : decode cX12_findShared 91 = .ok (.iload 5, 2) := by decide +kernel
theorem dX12_findShared_93 : decode cX12_findShared 93 = .ok (.iadd, 1) := by decide +kernel
theorem dX12_findShared_94 : decode cX12_findShared 94 = .ok (.iaload, 1) := by decide +kernel
theorem dX12_findShared_95 : decode cX12_findShared 95 = .ok (.iadd, 1) := by decide +kernel
theorem dX12_findShared_96 : decode cX12_findShared 96 = .ok (.aload_n 0, 1) := by decide +kernel
theorem dX12_findShared_97 : decode cX12_findShared 97 = .ok (.getfield 66, 3) := by decide +kernel
theorem dX12_findShared_100 : decode cX12_findShared 100 = .ok (.bipush 39, 2) := by decide +kernel
theorem dX12_findShared_102 : decode cX12_findShared 102 = .ok (.iload 6, 2) := by decide +kernel
theorem dX12_findShared_104 : decode cX12_findShared 104 = .ok (.iadd, 1) := by decide +kernel
theorem dX12_findShared_105 : decode cX12_findShared 105 = .ok (.iaload, 1) := by decide +kernel
theorem dX12_findShared_106 : decode cX12_findShared 106 = .ok (.iadd, 1) := by decide +kernel
theorem dX12_findShared_107 : decode cX12_findShared 107 = .ok (.istore 7, 2) := by decide +kernel
theorem dX12_findShared_109 : decode cX12_findShared 109 = .ok (.iload 7, 2) := by decide +kernel
theorem dX12_findShared_111 : decode cX12_findShared 111 = .ok (.iload_n 2, 1) := by decide +kernel
theorem dX12_findShared_112 : decode cX12_findShared 112 = .ok (.if_icmp .le 37, 3) := by decide +kernel
theorem dX12_findShared_115 : decode cX12_findShared 115 = .ok (.iload 7, 2) := by decide +kernel
theorem dX12_findShared_117 : decode cX12_findShared 117 = .ok (.istore_n 2, 1) := by decide +kernel
theorem dX12_findShared_118 : decode cX12_findShared 118 = .ok (.aload_n 0, 1) := by decide +kernel
theorem dX12_findShared_119 : decode cX12_findShared 119 = .ok (.getfield 69, 3) := by decide +kernel
theorem dX12_findShared_122 : decode cX12_findShared 122 = .ok (.iconst 0, 1) := by decide +kernel
theorem dX12_findShared_123 : decode cX12_findShared 123 = .ok (.iload_n 3, 1) := by decide +kernel
theorem dX12_findShared_124 : decode cX12_findShared 124 = .ok (.iastore, 1) := by decide +kernel
theorem dX12_findShared_125 : decode cX12_findShared 125 = .ok (.aload_n 0, 1) := by decide +kernel
theorem dX12_findShared_126 : decode cX12_findShared 126 = .ok (.getfield 69, 3) := by decide +kernel
theorem dX12_findShared_129 : decode cX12_findShared 129 = .ok (.iconst 1, 1) := by decide +kernel
theorem dX12_findShared_130 : decode cX12_findShared 130 = .ok (.iload 4, 2) := by decide +kernel
theorem dX12_findShared_132 : decode cX12_findShared 132 = .ok (.iastore, 1) := by decide +kernel
theorem dX12_findShared_133 : decode cX12_findShared 133 = .ok (.aload_n 0, 1) := by decide +kernel
theorem dX12_findShared_134 : decode cX12_findShared 134 = .ok (.getfield 69, 3) := by decide +kernel
theorem dX12_findShared_137 : decode cX12_findShared 137 = .ok (.iconst 2, 1) := by decide +kernel
theorem dX12_findShared_138 : decode cX12_findShared 138 = .ok (.iload 5, 2) := by decide +kernel
theorem dX12_findShared_140 : decode cX12_findShared 140 = .ok (.iastore, 1) := by decide +kernel
theorem dX12_findShared_141 : decode cX12_findShared 141 = .ok (.aload_n 0, 1) := by decide +kernel
theorem dX12_findShared_142 : decode cX12_findShared 142 = .ok (.getfield 69, 3) := by decide +kernel
theorem dX12_findShared_145 : decode cX12_findShared 145 = .ok (.iconst 3, 1) := by decide +kernel
theorem dX12_findShared_146 : decode cX12_findShared 146 = .ok (.iload 6, 2) := by decide +kernel
theorem dX12_findShared_148 : decode cX12_findShared 148 = .ok (.iastore, 1) := by decide +kernel
theorem dX12_findShared_149 : decode cX12_findShared 149 = .ok (.iinc 5 1, 3) := by decide +kernel
theorem dX12_findShared_152 : decode cX12_findShared 152 = .ok (.goto (-106), 3) := by decide +kernel
theorem dX12_findShared_155 : decode cX12_findShared 155 = .ok (.iinc 4 1, 3) := by decide +kernel
theorem dX12_findShared_158 : decode cX12_findShared 158 = .ok (.goto (-123), 3) := by decide +kernel
theorem dX12_findShared_161 : decode cX12_findShared 161 = .ok (.iinc 3 1, 3) := by decide +kernel
theorem dX12_findShared_164 : decode cX12_findShared 164 = .ok (.goto (-137), 3) := by decide +kernel
theorem dX12_findShared_167 : decode cX12_findShared 167 = .ok (.iload_n 2, 1) := by decide +kernel
theorem dX12_findShared_168 : decode cX12_findShared 168 = .ok (.ireturn, 1) := by decide +kernel
theorem dX12_shared_0 : decode cX12_shared 0 = .ok (.iload_n 2, 1) := by decide +kernel
theorem dX12_shared_1 : decode cX12_shared 1 = .ok (.iconst (-1), 1) := by decide +kernel
theorem dX12_shared_2 : decode cX12_shared 2 = .ok (.if_icmp .eq 12, 3) := by decide +kernel
theorem dX12_shared_5 : decode cX12_shared 5 = .ok (.iload_n 2, 1) := by decide +kernel
theorem dX12_shared_6 : decode cX12_shared 6 = .ok (.invokestatic 160, 3) := by decide +kernel
theorem dX12_shared_9 : decode cX12_shared 9 = .ok (.ifCond .ne 5, 3) := by decide +kernel
theorem dX12_shared_12 : decode cX12_shared 12 = .ok (.iconst (-1), 1) := by decide +kernel
theorem dX12_shared_13 : decode cX12_shared 13 = .ok (.ireturn, 1) := by decide +kernel
theorem dX12_shared_14 : decode cX12_shared 14 = .ok (.iload_n 1, 1) := by decide +kernel
theorem dX12_shared_15 : decode cX12_shared 15 = .ok (.i2l, 1) := by decide +kernel
theorem dX12_shared_16 : decode cX12_shared 16 = .ok (.lconst 0, 1) := by decide +kernel
theorem dX12_shared_17 : decode cX12_shared 17 = .ok (.ldc2_w 255, 3) := by decide +kernel
theorem dX12_shared_20 : decode cX12_shared 20 = .ok (.invokestatic 80, 3) := by decide +kernel
theorem dX12_shared_23 : decode cX12_shared 23 = .ok (.ifCond .ne 6, 3) := by decide +kernel
theorem dX12_shared_26 : decode cX12_shared 26 = .ok (.bipush (-2), 2) := by decide +kernel
theorem dX12_shared_28 : decode cX12_shared 28 = .ok (.ireturn, 1) := by decide +kernel
theorem dX12_shared_29 : decode cX12_shared 29 = .ok (.aload_n 0, 1) := by decide +kernel
theorem dX12_shared_30 : decode cX12_shared 30 = .ok (.iload_n 1, 1) := by decide +kernel
theorem dX12_shared_31 : decode cX12_shared 31 = .ok (.invokevirtual 260, 3) := by decide +kernel
theorem dX12_shared_34 : decode cX12_shared 34 = .ok (.istore_n 3, 1) := by decide +kernel
theorem dX12_shared_35 : decode cX12_shared 35 = .ok (.iload_n 2, 1) := by decide +kernel
theorem dX12_shared_36 : decode cX12_shared 36 = .ok (.iconst (-1), 1) := by decide +kernel
theorem dX12_shared_37 : decode cX12_shared 37 = .ok (.if_icmp .ne 7, 3) := by decide +kernel
theorem dX12_shared_40 : decode cX12_shared 40 = .ok (.iload_n 3, 1) := by decide +kernel
theorem dX12_shared_41 : decode cX12_shared 41 = .ok (.goto 9, 3) := by decide +kernel
theorem dX12_shared_44 : decode cX12_shared 44 = .ok (.aload_n 0, 1) := by decide +kernel
theorem dX12_shared_45 : decode cX12_shared 45 = .ok (.getfield 69, 3) := by decide +kernel
theorem dX12_shared_48 : decode cX12_shared 48 = .ok (.iload_n 2, 1) := by decide +kernel
theorem dX12_shared_49 : decode cX12_shared 49 = .ok (.iaload, 1) := by decide +kernel
theorem dX12_shared_50 : decode cX12_shared 50 = .ok (.ireturn, 1) := by decide +kernel
theorem dX12_allOften_0 : decode cX12_allOften 0 = .ok (.iconst 0, 1) := by decide +kernel
theorem dX12_allOften_1 : decode cX12_allOften 1 = .ok (.istore_n 1, 1) := by decide +kernel
theorem dX12_allOften_2 : decode cX12_allOften 2 = .ok (.iconst 0, 1) := by decide +kernel
theorem dX12_allOften_3 : decode cX12_allOften 3 = .ok (.istore_n 2, 1) := by decide +kernel
theorem dX12_allOften_4 : decode cX12_allOften 4 = .ok (.iload_n 2, 1) := by decide +kernel
theorem dX12_allOften_5 : decode cX12_allOften 5 = .ok (.aload_n 0, 1) := by decide +kernel
theorem dX12_allOften_6 : decode cX12_allOften 6 = .ok (.getfield 105, 3) := by decide +kernel
theorem dX12_allOften_9 : decode cX12_allOften 9 = .ok (.if_icmp .ge 18, 3) := by decide +kernel
theorem dX12_allOften_12 : decode cX12_allOften 12 = .ok (.iload_n 1, 1) := by decide +kernel
theorem dX12_allOften_13 : decode cX12_allOften 13 = .ok (.aload_n 0, 1) := by decide +kernel
theorem dX12_allOften_14 : decode cX12_allOften 14 = .ok (.getfield 19, 3) := by decide +kernel
theorem dX12_allOften_17 : decode cX12_allOften 17 = .ok (.iload_n 2, 1) := by decide +kernel
theorem dX12_allOften_18 : decode cX12_allOften 18 = .ok (.iaload, 1) := by decide +kernel
theorem dX12_allOften_19 : decode cX12_allOften 19 = .ok (.iadd, 1) := by decide +kernel
theorem dX12_allOften_20 : decode cX12_allOften 20 = .ok (.istore_n 1, 1) := by decide +kernel
theorem dX12_allOften_21 : decode cX12_allOften 21 = .ok (.iinc 2 1, 3) := by decide +kernel
theorem dX12_allOften_24 : decode cX12_allOften 24 = .ok (.goto (-20), 3) := by decide +kernel
theorem dX12_allOften_27 : decode cX12_allOften 27 = .ok (.iload_n 1, 1) := by decide +kernel
theorem dX12_allOften_28 : decode cX12_allOften 28 = .ok (.ireturn, 1) := by decide +kernel
theorem dX12_byItself_0 : decode cX12_byItself 0 = .ok (.aload_n 0, 1) := by decide +kernel
theorem dX12_byItself_1 : decode cX12_byItself 1 = .ok (.getfield 37, 3) := by decide +kernel
theorem dX12_byItself_4 : decode cX12_byItself 4 = .ok (.iload_n 1, 1) := by decide +kernel
theorem dX12_byItself_5 : decode cX12_byItself 5 = .ok (.iaload, 1) := by decide +kernel
theorem dX12_byItself_6 : decode cX12_byItself 6 = .ok (.istore_n 3, 1) := by decide +kernel
theorem dX12_byItself_7 : decode cX12_byItself 7 = .ok (.aload_n 0, 1) := by decide +kernel
theorem dX12_byItself_8 : decode cX12_byItself 8 = .ok (.getfield 34, 3) := by decide +kernel
theorem dX12_byItself_11 : decode cX12_byItself 11 = .ok (.iload_n 1, 1) := by decide +kernel
theorem dX12_byItself_12 : decode cX12_byItself 12 = .ok (.iaload, 1) := by decide +kernel
theorem dX12_byItself_13 : decode cX12_byItself 13 = .ok (.istore 4, 2) := by decide +kernel
theorem dX12_byItself_15 : decode cX12_byItself 15 = .ok (.aload_n 0, 1) := by decide +kernel
theorem dX12_byItself_16 : decode cX12_byItself 16 = .ok (.invokevirtual 263, 3) := by decide +kernel
theorem dX12_byItself_19 : decode cX12_byItself 19 = .ok (.istore 5, 2) := by decide +kernel
theorem dX12_byItself_21 : decode cX12_byItself 21 = .ok (.aload_n 0, 1) := by decide +kernel
theorem dX12_byItself_22 : decode cX12_byItself 22 = .ok (.iconst 0, 1) := by decide +kernel
theorem dX12_byItself_23 : decode cX12_byItself 23 = .ok (.putfield 266, 3) := by decide +kernel
theorem dX12_byItself_26 : decode cX12_byItself 26 = .ok (.aload_n 0, 1) := by decide +kernel
theorem dX12_byItself_27 : decode cX12_byItself 27 = .ok (.iload_n 1, 1) := by decide +kernel
theorem dX12_byItself_28 : decode cX12_byItself 28 = .ok (.iload 4, 2) := by decide +kernel
theorem dX12_byItself_30 : decode cX12_byItself 30 = .ok (.iload_n 3, 1) := by decide +kernel
theorem dX12_byItself_31 : decode cX12_byItself 31 = .ok (.invokevirtual 193, 3) := by decide +kernel
theorem dX12_byItself_34 : decode cX12_byItself 34 = .ok (.istore 6, 2) := by decide +kernel
theorem dX12_byItself_36 : decode cX12_byItself 36 = .ok (.iload 6, 2) := by decide +kernel
theorem dX12_byItself_38 : decode cX12_byItself 38 = .ok (.iload 5, 2) := by decide +kernel
theorem dX12_byItself_40 : decode cX12_byItself 40 = .ok (.if_icmp .ge 112, 3) := by decide +kernel
theorem dX12_byItself_43 : decode cX12_byItself 43 = .ok (.sipush 1000, 3) := by decide +kernel
theorem dX12_byItself_46 : decode cX12_byItself 46 = .ok (.iload 6, 2) := by decide +kernel
theorem dX12_byItself_48 : decode cX12_byItself 48 = .ok (.imul, 1) := by decide +kernel
theorem dX12_byItself_49 : decode cX12_byItself 49 = .ok (.iload_n 2, 1) := by decide +kernel
theorem dX12_byItself_50 : decode cX12_byItself 50 = .ok (.iload 5, 2) := by decide +kernel
theorem dX12_byItself_52 : decode cX12_byItself 52 = .ok (.imul, 1) := by decide +kernel
theorem dX12_byItself_53 : decode cX12_byItself 53 = .ok (.if_icmp .lt 99, 3) := by decide +kernel
theorem dX12_byItself_56 : decode cX12_byItself 56 = .ok (.bipush (-6), 2) := by decide +kernel
theorem dX12_byItself_58 : decode cX12_byItself 58 = .ok (.istore 7, 2) := by decide +kernel
theorem dX12_byItself_60 : decode cX12_byItself 60 = .ok (.iconst 0, 1) := by decide +kernel
theorem dX12_byItself_61 : decode cX12_byItself 61 = .ok (.istore 8, 2) := by decide +kernel
theorem dX12_byItself_63 : decode cX12_byItself 63 = .ok (.iload 8, 2) := by decide +kernel
theorem dX12_byItself_65 : decode cX12_byItself 65 = .ok (.aload_n 0, 1) := by decide +kernel
theorem dX12_byItself_66 : decode cX12_byItself 66 = .ok (.getfield 105, 3) := by decide +kernel
theorem dX12_byItself_69 : decode cX12_byItself 69 = .ok (.if_icmp .ge 53, 3) := by decide +kernel
theorem dX12_byItself_72 : decode cX12_byItself 72 = .ok (.aload_n 0, 1) := by decide +kernel
theorem dX12_byItself_73 : decode cX12_byItself 73 = .ok (.iload_n 1, 1) := by decide +kernel
theorem dX12_byItself_74 : decode cX12_byItself 74 = .ok (.iload 4, 2) := by decide +kernel
theorem dX12_byItself_76 : decode cX12_byItself 76 = .ok (.iload_n 3, 1) := by decide +kernel
theorem dX12_byItself_77 : decode cX12_byItself 77 = .ok (.iload 8, 2) := by decide +kernel
theorem dX12_byItself_79 : decode cX12_byItself 79 = .ok (.invokevirtual 189, 3) := by decide +kernel
theorem dX12_byItself_82 : decode cX12_byItself 82 = .ok (.ifCond .ne 30, 3) := by decide +kernel
theorem dX12_byItself_85 : decode cX12_byItself 85 = .ok (.iload 7, 2) := by decide +kernel
theorem dX12_byItself_87 : decode cX12_byItself 87 = .ok (.ifCond .lt 20, 3) := by decide +kernel
theorem dX12_byItself_90 : decode cX12_byItself 90 = .ok (.aload_n 0, 1) := by decide +kernel
theorem dX12_byItself_91 : decode cX12_byItself 91 = .ok (.getfield 19, 3) := by decide +kernel
theorem dX12_byItself_94 : decode cX12_byItself 94 = .ok (.iload 8, 2) := by decide +kernel
theorem dX12_byItself_96 : decode cX12_byItself 96 = .ok (.iaload, 1) := by decide +kernel
theorem dX12_byItself_97 : decode cX12_byItself 97 = .ok (.aload_n 0, 1) := by decide +kernel
theorem dX12_byItself_98 : decode cX12_byItself 98 = .ok (.getfield 19, 3) := by decide +kernel
theorem dX12_byItself_101 : decode cX12_byItself 101 = .ok (.iload 7, 2) := by decide +kernel
theorem dX12_byItself_103 : decode cX12_byItself 103 = .ok (.iaload, 1) := by decide +kernel
theorem dX12_byItself_104 : decode cX12_byItself 104 = .ok (.if_icmp .le 8, 3) := by decide +kernel
theorem dX12_byItself_107 : decode cX12_byItself 107 = .ok (.iload 8, 2) := by decide +kernel
theorem dX12_byItself_109 : decode cX12_byItself 109 = .ok (.goto 5, 3) := by decide +kernel
theorem dX12_byItself_112 : decode cX12_byItself 112 = .ok (.iload 7, 2) := by decide +kernel
theorem dX12_byItself_114 : decode cX12_byItself 114 = .ok (.istore 7, 2) := by decide +kernel
theorem dX12_byItself_116 : decode cX12_byItself 116 = .ok (.iinc 8 1, 3) := by decide +kernel
theorem dX12_byItself_119 : decode cX12_byItself 119 = .ok (.goto (-56), 3) := by decide +kernel
theorem dX12_byItself_122 : decode cX12_byItself 122 = .ok (.iload_n 3, 1) := by decide +kernel
theorem dX12_byItself_123 : decode cX12_byItself 123 = .ok (.iconst 1, 1) := by decide +kernel
theorem dX12_byItself_124 : decode cX12_byItself 124 = .ok (.iload 7, 2) := by decide +kernel
theorem dX12_byItself_126 : decode cX12_byItself 126 = .ok (.ishl, 1) := by decide +kernel
theorem dX12_byItself_127 : decode cX12_byItself 127 = .ok (.ior, 1) := by decide +kernel
theorem dX12_byItself_128 : decode cX12_byItself 128 = .ok (.istore_n 3, 1) := by decide +kernel
theorem dX12_byItself_129 : decode cX12_byItself 129 = .ok (.aload_n 0, 1) := by decide +kernel
theorem dX12_byItself_130 : decode cX12_byItself 130 = .ok (.dup, 1) := by decide +kernel
theorem dX12_byItself_131 : decode cX12_byItself 131 = .ok (.getfield 266, 3) := by decide +kernel
theorem dX12_byItself_134 : decode cX12_byItself 134 = .ok (.iconst 1, 1) := by decide +kernel
theorem dX12_byItself_135 : decode cX12_byItself 135 = .ok (.iadd, 1) := by decide +kernel
theorem dX12_byItself_136 : decode cX12_byItself 136 = .ok (.putfield 266, 3) := by decide +kernel
theorem dX12_byItself_139 : decode cX12_byItself 139 = .ok (.aload_n 0, 1) := by decide +kernel
theorem dX12_byItself_140 : decode cX12_byItself 140 = .ok (.iload_n 1, 1) := by decide +kernel
theorem dX12_byItself_141 : decode cX12_byItself 141 = .ok (.iload 4, 2) := by decide +kernel
theorem dX12_byItself_143 : decode cX12_byItself 143 = .ok (.iload_n 3, 1) := by decide +kernel
theorem dX12_byItself_144 : decode cX12_byItself 144 = .ok (.invokevirtual 193, 3) := by decide +kernel
theorem dX12_byItself_147 : decode cX12_byItself 147 = .ok (.istore 6, 2) := by decide +kernel
theorem dX12_byItself_149 : decode cX12_byItself 149 = .ok (.goto (-113), 3) := by decide +kernel
theorem dX12_byItself_152 : decode cX12_byItself 152 = .ok (.iload 6, 2) := by decide +kernel
theorem dX12_byItself_154 : decode cX12_byItself 154 = .ok (.ireturn, 1) := by decide +kernel
theorem dX12_itself_0 : decode cX12_itself 0 = .ok (.iload_n 1, 1) := by decide +kernel
theorem dX12_itself_1 : decode cX12_itself 1 = .ok (.invokestatic 160, 3) := by decide +kernel
theorem dX12_itself_4 : decode cX12_itself 4 = .ok (.ifCond .ne 5, 3) := by decide +kernel
theorem dX12_itself_7 : decode cX12_itself 7 = .ok (.iconst (-1), 1) := by decide +kernel
theorem dX12_itself_8 : decode cX12_itself 8 = .ok (.ireturn, 1) := by decide +kernel
theorem dX12_itself_9 : decode cX12_itself 9 = .ok (.iload_n 2, 1) := by decide +kernel
theorem dX12_itself_10 : decode cX12_itself 10 = .ok (.i2l, 1) := by decide +kernel
theorem dX12_itself_11 : decode cX12_itself 11 = .ok (.lconst 0, 1) := by decide +kernel
theorem dX12_itself_12 : decode cX12_itself 12 = .ok (.ldc2_w 269, 3) := by decide +kernel
theorem dX12_itself_15 : decode cX12_itself 15 = .ok (.invokestatic 80, 3) := by decide +kernel
theorem dX12_itself_18 : decode cX12_itself 18 = .ok (.ifCond .eq 10, 3) := by decide +kernel
theorem dX12_itself_21 : decode cX12_itself 21 = .ok (.iload_n 3, 1) := by decide +kernel
theorem dX12_itself_22 : decode cX12_itself 22 = .ok (.invokestatic 148, 3) := by decide +kernel
theorem dX12_itself_25 : decode cX12_itself 25 = .ok (.ifCond .ne 6, 3) := by decide +kernel
theorem dX12_itself_28 : decode cX12_itself 28 = .ok (.bipush (-2), 2) := by decide +kernel
theorem dX12_itself_30 : decode cX12_itself 30 = .ok (.ireturn, 1) := by decide +kernel
theorem dX12_itself_31 : decode cX12_itself 31 = .ok (.aload_n 0, 1) := by decide +kernel
theorem dX12_itself_32 : decode cX12_itself 32 = .ok (.invokevirtual 137, 3) := by decide +kernel
theorem dX12_itself_35 : decode cX12_itself 35 = .ok (.aload_n 0, 1) := by decide +kernel
theorem dX12_itself_36 : decode cX12_itself 36 = .ok (.iload_n 1, 1) := by decide +kernel
theorem dX12_itself_37 : decode cX12_itself 37 = .ok (.iload_n 2, 1) := by decide +kernel
theorem dX12_itself_38 : decode cX12_itself 38 = .ok (.invokevirtual 271, 3) := by decide +kernel
theorem dX12_itself_41 : decode cX12_itself 41 = .ok (.istore 4, 2) := by decide +kernel
theorem dX12_itself_43 : decode cX12_itself 43 = .ok (.iload_n 3, 1) := by decide +kernel
theorem dX12_itself_44 : decode cX12_itself 44 = .ok (.ifCond .ne 10, 3) := by decide +kernel
theorem dX12_itself_47 : decode cX12_itself 47 = .ok (.aload_n 0, 1) := by decide +kernel
theorem dX12_itself_48 : decode cX12_itself 48 = .ok (.getfield 266, 3) := by decide +kernel
theorem dX12_itself_51 : decode cX12_itself 51 = .ok (.goto 5, 3) := by decide +kernel
theorem dX12_itself_54 : decode cX12_itself 54 = .ok (.iload 4, 2) := by decide +kernel
theorem dX12_itself_56 : decode cX12_itself 56 = .ok (.ireturn, 1) := by decide +kernel
theorem dX12_line_0 : decode cX12_line 0 = .ok (.iload_n 1, 1) := by decide +kernel
theorem dX12_line_1 : decode cX12_line 1 = .ok (.invokestatic 160, 3) := by decide +kernel
theorem dX12_line_4 : decode cX12_line 4 = .ok (.ifCond .ne 5, 3) := by decide +kernel
theorem dX12_line_7 : decode cX12_line 7 = .ok (.iconst (-1), 1) := by decide +kernel
theorem dX12_line_8 : decode cX12_line 8 = .ok (.ireturn, 1) := by decide +kernel
theorem dX12_line_9 : decode cX12_line 9 = .ok (.aload_n 0, 1) := by decide +kernel
theorem dX12_line_10 : decode cX12_line 10 = .ok (.invokevirtual 137, 3) := by decide +kernel
theorem dX12_line_13 : decode cX12_line 13 = .ok (.sipush 1000, 3) := by decide +kernel
theorem dX12_line_16 : decode cX12_line 16 = .ok (.istore_n 2, 1) := by decide +kernel
theorem dX12_line_17 : decode cX12_line 17 = .ok (.aload_n 0, 1) := by decide +kernel
theorem dX12_line_18 : decode cX12_line 18 = .ok (.iload_n 1, 1) := by decide +kernel
theorem dX12_line_19 : decode cX12_line 19 = .ok (.iload_n 2, 1) := by decide +kernel
theorem dX12_line_20 : decode cX12_line 20 = .ok (.invokevirtual 271, 3) := by decide +kernel
theorem dX12_line_23 : decode cX12_line 23 = .ok (.aload_n 0, 1) := by decide +kernel
theorem dX12_line_24 : decode cX12_line 24 = .ok (.invokevirtual 263, 3) := by decide +kernel
theorem dX12_line_27 : decode cX12_line 27 = .ok (.if_icmp .ge 9, 3) := by decide +kernel
theorem dX12_line_30 : decode cX12_line 30 = .ok (.iinc 2 (-1), 3) := by decide +kernel
theorem dX12_line_33 : decode cX12_line 33 = .ok (.goto (-16), 3) := by decide +kernel
theorem dX12_line_36 : decode cX12_line 36 = .ok (.iload_n 2, 1) := by decide +kernel
theorem dX12_line_37 : decode cX12_line 37 = .ok (.ireturn, 1) := by decide +kernel
theorem dX12_pass_0 : decode cX12_pass 0 = .ok (.aload_n 0, 1) := by decide +kernel
theorem dX12_pass_1 : decode cX12_pass 1 = .ok (.getfield 274, 3) := by decide +kernel
theorem dX12_pass_4 : decode cX12_pass 4 = .ok (.ifCond .eq 7, 3) := by decide +kernel
theorem dX12_pass_7 : decode cX12_pass 7 = .ok (.iload_n 1, 1) := by decide +kernel
theorem dX12_pass_8 : decode cX12_pass 8 = .ok (.goto 12, 3) := by decide +kernel
theorem dX12_pass_11 : decode cX12_pass 11 = .ok (.aload_n 0, 1) := by decide +kernel
theorem dX12_pass_12 : decode cX12_pass 12 = .ok (.getfield 72, 3) := by decide +kernel
theorem dX12_pass_15 : decode cX12_pass 15 = .ok (.aload_n 0, 1) := by decide +kernel
theorem dX12_pass_16 : decode cX12_pass 16 = .ok (.getfield 278, 3) := by decide +kernel
theorem dX12_pass_19 : decode cX12_pass 19 = .ok (.iaload, 1) := by decide +kernel
theorem dX12_pass_20 : decode cX12_pass 20 = .ok (.istore_n 2, 1) := by decide +kernel
theorem dX12_pass_21 : decode cX12_pass 21 = .ok (.aload_n 0, 1) := by decide +kernel
theorem dX12_pass_22 : decode cX12_pass 22 = .ok (.getfield 72, 3) := by decide +kernel
theorem dX12_pass_25 : decode cX12_pass 25 = .ok (.aload_n 0, 1) := by decide +kernel
theorem dX12_pass_26 : decode cX12_pass 26 = .ok (.getfield 278, 3) := by decide +kernel
theorem dX12_pass_29 : decode cX12_pass 29 = .ok (.iload_n 2, 1) := by decide +kernel
theorem dX12_pass_30 : decode cX12_pass 30 = .ok (.iastore, 1) := by decide +kernel
theorem dX12_pass_31 : decode cX12_pass 31 = .ok (.aload_n 0, 1) := by decide +kernel
theorem dX12_pass_32 : decode cX12_pass 32 = .ok (.dup, 1) := by decide +kernel
theorem dX12_pass_33 : decode cX12_pass 33 = .ok (.getfield 278, 3) := by decide +kernel
theorem dX12_pass_36 : decode cX12_pass 36 = .ok (.iconst 1, 1) := by decide +kernel
theorem dX12_pass_37 : decode cX12_pass 37 = .ok (.iadd, 1) := by decide +kernel
theorem dX12_pass_38 : decode cX12_pass 38 = .ok (.putfield 278, 3) := by decide +kernel
theorem dX12_pass_41 : decode cX12_pass 41 = .ok (.iload_n 2, 1) := by decide +kernel
theorem dX12_pass_42 : decode cX12_pass 42 = .ok (.ireturn, 1) := by decide +kernel
theorem dX12_passAll_0 : decode cX12_passAll 0 = .ok (.aload_n 0, 1) := by decide +kernel
theorem dX12_passAll_1 : decode cX12_passAll 1 = .ok (.aload_n 0, 1) := by decide +kernel
theorem dX12_passAll_2 : decode cX12_passAll 2 = .ok (.aload_n 0, 1) := by decide +kernel
theorem dX12_passAll_3 : decode cX12_passAll 3 = .ok (.getfield 105, 3) := by decide +kernel
theorem dX12_passAll_6 : decode cX12_passAll 6 = .ok (.invokevirtual 281, 3) := by decide +kernel
theorem dX12_passAll_9 : decode cX12_passAll 9 = .ok (.putfield 105, 3) := by decide +kernel
theorem dX12_passAll_12 : decode cX12_passAll 12 = .ok (.aload_n 0, 1) := by decide +kernel
theorem dX12_passAll_13 : decode cX12_passAll 13 = .ok (.aload_n 0, 1) := by decide +kernel
theorem dX12_passAll_14 : decode cX12_passAll 14 = .ok (.aload_n 0, 1) := by decide +kernel
theorem dX12_passAll_15 : decode cX12_passAll 15 = .ok (.getfield 227, 3) := by decide +kernel
theorem dX12_passAll_18 : decode cX12_passAll 18 = .ok (.invokevirtual 281, 3) := by decide +kernel
theorem dX12_passAll_21 : decode cX12_passAll 21 = .ok (.putfield 227, 3) := by decide +kernel
theorem dX12_passAll_24 : decode cX12_passAll 24 = .ok (.iconst 0, 1) := by decide +kernel
theorem dX12_passAll_25 : decode cX12_passAll 25 = .ok (.istore_n 1, 1) := by decide +kernel
theorem dX12_passAll_26 : decode cX12_passAll 26 = .ok (.iload_n 1, 1) := by decide +kernel
theorem dX12_passAll_27 : decode cX12_passAll 27 = .ok (.bipush 60, 2) := by decide +kernel
theorem dX12_passAll_29 : decode cX12_passAll 29 = .ok (.if_icmp .ge 41, 3) := by decide +kernel
theorem dX12_passAll_32 : decode cX12_passAll 32 = .ok (.aload_n 0, 1) := by decide +kernel
theorem dX12_passAll_33 : decode cX12_passAll 33 = .ok (.getfield 7, 3) := by decide +kernel
theorem dX12_passAll_36 : decode cX12_passAll 36 = .ok (.iload_n 1, 1) := by decide +kernel
theorem dX12_passAll_37 : decode cX12_passAll 37 = .ok (.aload_n 0, 1) := by decide +kernel
theorem dX12_passAll_38 : decode cX12_passAll 38 = .ok (.aload_n 0, 1) := by decide +kernel
theorem dX12_passAll_39 : decode cX12_passAll 39 = .ok (.getfield 7, 3) := by decide +kernel
theorem dX12_passAll_42 : decode cX12_passAll 42 = .ok (.iload_n 1, 1) := by decide +kernel
theorem dX12_passAll_43 : decode cX12_passAll 43 = .ok (.iaload, 1) := by decide +kernel
theorem dX12_passAll_44 : decode cX12_passAll 44 = .ok (.invokevirtual 281, 3) := by decide +kernel
theorem dX12_passAll_47 : decode cX12_passAll 47 = .ok (.iastore, 1) := by decide +kernel
theorem dX12_passAll_48 : decode cX12_passAll 48 = .ok (.aload_n 0, 1) := by decide +kernel
theorem dX12_passAll_49 : decode cX12_passAll 49 = .ok (.getfield 13, 3) := by decide +kernel
theorem dX12_passAll_52 : decode cX12_passAll 52 = .ok (.iload_n 1, 1) := by decide +kernel
theorem dX12_passAll_53 : decode cX12_passAll 53 = .ok (.aload_n 0, 1) := by decide +kernel
theorem dX12_passAll_54 : decode cX12_passAll 54 = .ok (.aload_n 0, 1) := by decide +kernel
theorem dX12_passAll_55 : decode cX12_passAll 55 = .ok (.getfield 13, 3) := by decide +kernel
theorem dX12_passAll_58 : decode cX12_passAll 58 = .ok (.iload_n 1, 1) := by decide +kernel
theorem dX12_passAll_59 : decode cX12_passAll 59 = .ok (.iaload, 1) := by decide +kernel
theorem dX12_passAll_60 : decode cX12_passAll 60 = .ok (.invokevirtual 281, 3) := by decide +kernel
theorem dX12_passAll_63 : decode cX12_passAll 63 = .ok (.iastore, 1) := by decide +kernel
theorem dX12_passAll_64 : decode cX12_passAll 64 = .ok (.iinc 1 1, 3) := by decide +kernel
theorem dX12_passAll_67 : decode cX12_passAll 67 = .ok (.goto (-41), 3) := by decide +kernel
theorem dX12_passAll_70 : decode cX12_passAll 70 = .ok (.iconst 0, 1) := by decide +kernel
theorem dX12_passAll_71 : decode cX12_passAll 71 = .ok (.istore_n 1, 1) := by decide +kernel
theorem dX12_passAll_72 : decode cX12_passAll 72 = .ok (.iload_n 1, 1) := by decide +kernel
theorem dX12_passAll_73 : decode cX12_passAll 73 = .ok (.bipush 12, 2) := by decide +kernel
theorem dX12_passAll_75 : decode cX12_passAll 75 = .ok (.if_icmp .ge 41, 3) := by decide +kernel
theorem dX12_passAll_78 : decode cX12_passAll 78 = .ok (.aload_n 0, 1) := by decide +kernel
theorem dX12_passAll_79 : decode cX12_passAll 79 = .ok (.getfield 16, 3) := by decide +kernel
theorem dX12_passAll_82 : decode cX12_passAll 82 = .ok (.iload_n 1, 1) := by decide +kernel
theorem dX12_passAll_83 : decode cX12_passAll 83 = .ok (.aload_n 0, 1) := by decide +kernel
theorem dX12_passAll_84 : decode cX12_passAll 84 = .ok (.aload_n 0, 1) := by decide +kernel
theorem dX12_passAll_85 : decode cX12_passAll 85 = .ok (.getfield 16, 3) := by decide +kernel
theorem dX12_passAll_88 : decode cX12_passAll 88 = .ok (.iload_n 1, 1) := by decide +kernel
theorem dX12_passAll_89 : decode cX12_passAll 89 = .ok (.iaload, 1) := by decide +kernel
theorem dX12_passAll_90 : decode cX12_passAll 90 = .ok (.invokevirtual 281, 3) := by decide +kernel
theorem dX12_passAll_93 : decode cX12_passAll 93 = .ok (.iastore, 1) := by decide +kernel
theorem dX12_passAll_94 : decode cX12_passAll 94 = .ok (.aload_n 0, 1) := by decide +kernel
theorem dX12_passAll_95 : decode cX12_passAll 95 = .ok (.getfield 19, 3) := by decide +kernel
theorem dX12_passAll_98 : decode cX12_passAll 98 = .ok (.iload_n 1, 1) := by decide +kernel
theorem dX12_passAll_99 : decode cX12_passAll 99 = .ok (.aload_n 0, 1) := by decide +kernel
theorem dX12_passAll_100 : decode cX12_passAll 100 = .ok (.aload_n 0, 1) := by decide +kernel
theorem dX12_passAll_101 : decode cX12_passAll 101 = .ok (.getfield 19, 3) := by decide +kernel
theorem dX12_passAll_104 : decode cX12_passAll 104 = .ok (.iload_n 1, 1) := by decide +kernel
theorem dX12_passAll_105 : decode cX12_passAll 105 = .ok (.iaload, 1) := by decide +kernel
theorem dX12_passAll_106 : decode cX12_passAll 106 = .ok (.invokevirtual 281, 3) := by decide +kernel
theorem dX12_passAll_109 : decode cX12_passAll 109 = .ok (.iastore, 1) := by decide +kernel
theorem dX12_passAll_110 : decode cX12_passAll 110 = .ok (.iinc 1 1, 3) := by decide +kernel
theorem dX12_passAll_113 : decode cX12_passAll 113 = .ok (.goto (-41), 3) := by decide +kernel
theorem dX12_passAll_116 : decode cX12_passAll 116 = .ok (.iconst 0, 1) := by decide +kernel
theorem dX12_passAll_117 : decode cX12_passAll 117 = .ok (.istore_n 1, 1) := by decide +kernel
theorem dX12_passAll_118 : decode cX12_passAll 118 = .ok (.iload_n 1, 1) := by decide +kernel
theorem dX12_passAll_119 : decode cX12_passAll 119 = .ok (.iconst 4, 1) := by decide +kernel
theorem dX12_passAll_120 : decode cX12_passAll 120 = .ok (.if_icmp .ge 57, 3) := by decide +kernel
theorem dX12_passAll_123 : decode cX12_passAll 123 = .ok (.aload_n 0, 1) := by decide +kernel
theorem dX12_passAll_124 : decode cX12_passAll 124 = .ok (.getfield 34, 3) := by decide +kernel
theorem dX12_passAll_127 : decode cX12_passAll 127 = .ok (.iload_n 1, 1) := by decide +kernel
theorem dX12_passAll_128 : decode cX12_passAll 128 = .ok (.aload_n 0, 1) := by decide +kernel
theorem dX12_passAll_129 : decode cX12_passAll 129 = .ok (.aload_n 0, 1) := by decide +kernel
theorem dX12_passAll_130 : decode cX12_passAll 130 = .ok (.getfield 34, 3) := by decide +kernel
theorem dX12_passAll_133 : decode cX12_passAll 133 = .ok (.iload_n 1, 1) := by decide +kernel
theorem dX12_passAll_134 : decode cX12_passAll 134 = .ok (.iaload, 1) := by decide +kernel
theorem dX12_passAll_135 : decode cX12_passAll 135 = .ok (.invokevirtual 281, 3) := by decide +kernel
theorem dX12_passAll_138 : decode cX12_passAll 138 = .ok (.iastore, 1) := by decide +kernel
theorem dX12_passAll_139 : decode cX12_passAll 139 = .ok (.aload_n 0, 1) := by decide +kernel
theorem dX12_passAll_140 : decode cX12_passAll 140 = .ok (.getfield 37, 3) := by decide +kernel
theorem dX12_passAll_143 : decode cX12_passAll 143 = .ok (.iload_n 1, 1) := by decide +kernel
theorem dX12_passAll_144 : decode cX12_passAll 144 = .ok (.aload_n 0, 1) := by decide +kernel
theorem dX12_passAll_145 : decode cX12_passAll 145 = .ok (.aload_n 0, 1) := by decide +kernel
theorem dX12_passAll_146 : decode cX12_passAll 146 = .ok (.getfield 37, 3) := by decide +kernel
theorem dX12_passAll_149 : decode cX12_passAll 149 = .ok (.iload_n 1, 1) := by decide +kernel
theorem dX12_passAll_150 : decode cX12_passAll 150 = .ok (.iaload, 1) := by decide +kernel
theorem dX12_passAll_151 : decode cX12_passAll 151 = .ok (.invokevirtual 281, 3) := by decide +kernel
theorem dX12_passAll_154 : decode cX12_passAll 154 = .ok (.iastore, 1) := by decide +kernel
theorem dX12_passAll_155 : decode cX12_passAll 155 = .ok (.aload_n 0, 1) := by decide +kernel
theorem dX12_passAll_156 : decode cX12_passAll 156 = .ok (.getfield 40, 3) := by decide +kernel
theorem dX12_passAll_159 : decode cX12_passAll 159 = .ok (.iload_n 1, 1) := by decide +kernel
theorem dX12_passAll_160 : decode cX12_passAll 160 = .ok (.aload_n 0, 1) := by decide +kernel
theorem dX12_passAll_161 : decode cX12_passAll 161 = .ok (.aload_n 0, 1) := by decide +kernel
theorem dX12_passAll_162 : decode cX12_passAll 162 = .ok (.getfield 40, 3) := by decide +kernel
theorem dX12_passAll_165 : decode cX12_passAll 165 = .ok (.iload_n 1, 1) := by decide +kernel
theorem dX12_passAll_166 : decode cX12_passAll 166 = .ok (.iaload, 1) := by decide +kernel
theorem dX12_passAll_167 : decode cX12_passAll 167 = .ok (.invokevirtual 281, 3) := by decide +kernel
theorem dX12_passAll_170 : decode cX12_passAll 170 = .ok (.iastore, 1) := by decide +kernel
theorem dX12_passAll_171 : decode cX12_passAll 171 = .ok (.iinc 1 1, 3) := by decide +kernel
theorem dX12_passAll_174 : decode cX12_passAll 174 = .ok (.goto (-56), 3) := by decide +kernel
theorem dX12_passAll_177 : decode cX12_passAll 177 = .ok (.iconst 0, 1) := by decide +kernel
theorem dX12_passAll_178 : decode cX12_passAll 178 = .ok (.istore_n 1, 1) := by decide +kernel
theorem dX12_passAll_179 : decode cX12_passAll 179 = .ok (.iload_n 1, 1) := by decide +kernel
theorem dX12_passAll_180 : decode cX12_passAll 180 = .ok (.bipush 20, 2) := by decide +kernel
theorem dX12_passAll_182 : decode cX12_passAll 182 = .ok (.if_icmp .ge 41, 3) := by decide +kernel
theorem dX12_passAll_185 : decode cX12_passAll 185 = .ok (.aload_n 0, 1) := by decide +kernel
theorem dX12_passAll_186 : decode cX12_passAll 186 = .ok (.getfield 57, 3) := by decide +kernel
theorem dX12_passAll_189 : decode cX12_passAll 189 = .ok (.iload_n 1, 1) := by decide +kernel
theorem dX12_passAll_190 : decode cX12_passAll 190 = .ok (.aload_n 0, 1) := by decide +kernel
theorem dX12_passAll_191 : decode cX12_passAll 191 = .ok (.aload_n 0, 1) := by decide +kernel
theorem dX12_passAll_192 : decode cX12_passAll 192 = .ok (.getfield 57, 3) := by decide +kernel
theorem dX12_passAll_195 : decode cX12_passAll 195 = .ok (.iload_n 1, 1) := by decide +kernel
theorem dX12_passAll_196 : decode cX12_passAll 196 = .ok (.iaload, 1) := by decide +kernel
theorem dX12_passAll_197 : decode cX12_passAll 197 = .ok (.invokevirtual 281, 3) := by decide +kernel
theorem dX12_passAll_200 : decode cX12_passAll 200 = .ok (.iastore, 1) := by decide +kernel
theorem dX12_passAll_201 : decode cX12_passAll 201 = .ok (.aload_n 0, 1) := by decide +kernel
theorem dX12_passAll_202 : decode cX12_passAll 202 = .ok (.getfield 60, 3) := by decide +kernel
theorem dX12_passAll_205 : decode cX12_passAll 205 = .ok (.iload_n 1, 1) := by decide +kernel
theorem dX12_passAll_206 : decode cX12_passAll 206 = .ok (.aload_n 0, 1) := by decide +kernel
theorem dX12_passAll_207 : decode cX12_passAll 207 = .ok (.aload_n 0, 1) := by decide +kernel
theorem dX12_passAll_208 : decode cX12_passAll 208 = .ok (.getfield 60, 3) := by decide +kernel
theorem dX12_passAll_211 : decode cX12_passAll 211 = .ok (.iload_n 1, 1) := by decide +kernel
theorem dX12_passAll_212 : decode cX12_passAll 212 = .ok (.iaload, 1) := by decide +kernel
theorem dX12_passAll_213 : decode cX12_passAll 213 = .ok (.invokevirtual 281, 3) := by decide +kernel
theorem dX12_passAll_216 : decode cX12_passAll 216 = .ok (.iastore, 1) := by decide +kernel
theorem dX12_passAll_217 : decode cX12_passAll 217 = .ok (.iinc 1 1, 3) := by decide +kernel
theorem dX12_passAll_220 : decode cX12_passAll 220 = .ok (.goto (-41), 3) := by decide +kernel
theorem dX12_passAll_223 : decode cX12_passAll 223 = .ok (.return_, 1) := by decide +kernel
theorem dX12_image_0 : decode cX12_image 0 = .ok (.iload_n 1, 1) := by decide +kernel
theorem dX12_image_1 : decode cX12_image 1 = .ok (.invokestatic 148, 3) := by decide +kernel
theorem dX12_image_4 : decode cX12_image 4 = .ok (.ifCond .ne 6, 3) := by decide +kernel
theorem dX12_image_7 : decode cX12_image 7 = .ok (.bipush (-2), 2) := by decide +kernel
theorem dX12_image_9 : decode cX12_image 9 = .ok (.ireturn, 1) := by decide +kernel
theorem dX12_image_10 : decode cX12_image 10 = .ok (.aload_n 0, 1) := by decide +kernel
theorem dX12_image_11 : decode cX12_image 11 = .ok (.sipush 220, 3) := by decide +kernel
theorem dX12_image_14 : decode cX12_image 14 = .ok (.iload_n 1, 1) := by decide +kernel
theorem dX12_image_15 : decode cX12_image 15 = .ok (.imul, 1) := by decide +kernel
theorem dX12_image_16 : decode cX12_image 16 = .ok (.putfield 278, 3) := by decide +kernel
theorem dX12_image_19 : decode cX12_image 19 = .ok (.aload_n 0, 1) := by decide +kernel
theorem dX12_image_20 : decode cX12_image 20 = .ok (.iconst 1, 1) := by decide +kernel
theorem dX12_image_21 : decode cX12_image 21 = .ok (.putfield 274, 3) := by decide +kernel
theorem dX12_image_24 : decode cX12_image 24 = .ok (.aload_n 0, 1) := by decide +kernel
theorem dX12_image_25 : decode cX12_image 25 = .ok (.invokevirtual 284, 3) := by decide +kernel
theorem dX12_image_28 : decode cX12_image 28 = .ok (.aload_n 0, 1) := by decide +kernel
theorem dX12_image_29 : decode cX12_image 29 = .ok (.getfield 75, 3) := by decide +kernel
theorem dX12_image_32 : decode cX12_image 32 = .ok (.iload_n 1, 1) := by decide +kernel
theorem dX12_image_33 : decode cX12_image 33 = .ok (.iconst 1, 1) := by decide +kernel
theorem dX12_image_34 : decode cX12_image 34 = .ok (.bastore, 1) := by decide +kernel
theorem dX12_image_35 : decode cX12_image 35 = .ok (.iconst 1, 1) := by decide +kernel
theorem dX12_image_36 : decode cX12_image 36 = .ok (.ireturn, 1) := by decide +kernel
theorem dX12_restore_0 : decode cX12_restore 0 = .ok (.iload_n 1, 1) := by decide +kernel
theorem dX12_restore_1 : decode cX12_restore 1 = .ok (.invokestatic 148, 3) := by decide +kernel
theorem dX12_restore_4 : decode cX12_restore 4 = .ok (.ifCond .ne 6, 3) := by decide +kernel
theorem dX12_restore_7 : decode cX12_restore 7 = .ok (.bipush (-2), 2) := by decide +kernel
theorem dX12_restore_9 : decode cX12_restore 9 = .ok (.ireturn, 1) := by decide +kernel
theorem dX12_restore_10 : decode cX12_restore 10 = .ok (.aload_n 0, 1) := by decide +kernel
theorem dX12_restore_11 : decode cX12_restore 11 = .ok (.getfield 75, 3) := by decide +kernel
theorem dX12_restore_14 : decode cX12_restore 14 = .ok (.iload_n 1, 1) := by decide +kernel
theorem dX12_restore_15 : decode cX12_restore 15 = .ok (.baload, 1) := by decide +kernel
theorem dX12_restore_16 : decode cX12_restore 16 = .ok (.ifCond .ne 6, 3) := by decide +kernel
theorem dX12_restore_19 : decode cX12_restore 19 = .ok (.bipush (-3), 2) := by decide +kernel
theorem dX12_restore_21 : decode cX12_restore 21 = .ok (.ireturn, 1) := by decide +kernel
theorem dX12_restore_22 : decode cX12_restore 22 = .ok (.aload_n 0, 1) := by decide +kernel
theorem dX12_restore_23 : decode cX12_restore 23 = .ok (.sipush 220, 3) := by decide +kernel
theorem dX12_restore_26 : decode cX12_restore 26 = .ok (.iload_n 1, 1) := by decide +kernel
theorem dX12_restore_27 : decode cX12_restore 27 = .ok (.imul, 1) := by decide +kernel
theorem dX12_restore_28 : decode cX12_restore 28 = .ok (.putfield 278, 3) := by decide +kernel
theorem dX12_restore_31 : decode cX12_restore 31 = .ok (.aload_n 0, 1) := by decide +kernel
theorem dX12_restore_32 : decode cX12_restore 32 = .ok (.iconst 0, 1) := by decide +kernel
theorem dX12_restore_33 : decode cX12_restore 33 = .ok (.putfield 274, 3) := by decide +kernel
theorem dX12_restore_36 : decode cX12_restore 36 = .ok (.aload_n 0, 1) := by decide +kernel
theorem dX12_restore_37 : decode cX12_restore 37 = .ok (.invokevirtual 284, 3) := by decide +kernel
theorem dX12_restore_40 : decode cX12_restore 40 = .ok (.iconst 1, 1) := by decide +kernel
theorem dX12_restore_41 : decode cX12_restore 41 = .ok (.ireturn, 1) := by decide +kernel
theorem dX12_told_0 : decode cX12_told 0 = .ok (.iload_n 1, 1) := by decide +kernel
theorem dX12_told_1 : decode cX12_told 1 = .ok (.i2l, 1) := by decide +kernel
theorem dX12_told_2 : decode cX12_told 2 = .ok (.ldc2_w 125, 3) := by decide +kernel
theorem dX12_told_5 : decode cX12_told 5 = .ok (.ldc2_w 287, 3) := by decide +kernel
theorem dX12_told_8 : decode cX12_told 8 = .ok (.invokestatic 80, 3) := by decide +kernel
theorem dX12_told_11 : decode cX12_told 11 = .ok (.ifCond .eq 13, 3) := by decide +kernel
theorem dX12_told_14 : decode cX12_told 14 = .ok (.aload_n 0, 1) := by decide +kernel
theorem dX12_told_15 : decode cX12_told 15 = .ok (.getfield 34, 3) := by decide +kernel
theorem dX12_told_18 : decode cX12_told 18 = .ok (.iload_n 1, 1) := by decide +kernel
theorem dX12_told_19 : decode cX12_told 19 = .ok (.bipush 10, 2) := by decide +kernel
theorem dX12_told_21 : decode cX12_told 21 = .ok (.isub, 1) := by decide +kernel
theorem dX12_told_22 : decode cX12_told 22 = .ok (.iaload, 1) := by decide +kernel
theorem dX12_told_23 : decode cX12_told 23 = .ok (.ireturn, 1) := by decide +kernel
theorem dX12_told_24 : decode cX12_told 24 = .ok (.iload_n 1, 1) := by decide +kernel
theorem dX12_told_25 : decode cX12_told 25 = .ok (.i2l, 1) := by decide +kernel
theorem dX12_told_26 : decode cX12_told 26 = .ok (.ldc2_w 129, 3) := by decide +kernel
theorem dX12_told_29 : decode cX12_told 29 = .ok (.ldc2_w 289, 3) := by decide +kernel
theorem dX12_told_32 : decode cX12_told 32 = .ok (.invokestatic 80, 3) := by decide +kernel
theorem dX12_told_35 : decode cX12_told 35 = .ok (.ifCond .eq 13, 3) := by decide +kernel
theorem dX12_told_38 : decode cX12_told 38 = .ok (.aload_n 0, 1) := by decide +kernel
theorem dX12_told_39 : decode cX12_told 39 = .ok (.getfield 37, 3) := by decide +kernel
theorem dX12_told_42 : decode cX12_told 42 = .ok (.iload_n 1, 1) := by decide +kernel
theorem dX12_told_43 : decode cX12_told 43 = .ok (.bipush 20, 2) := by decide +kernel
theorem dX12_told_45 : decode cX12_told 45 = .ok (.isub, 1) := by decide +kernel
theorem dX12_told_46 : decode cX12_told 46 = .ok (.iaload, 1) := by decide +kernel
theorem dX12_told_47 : decode cX12_told 47 = .ok (.ireturn, 1) := by decide +kernel
theorem dX12_told_48 : decode cX12_told 48 = .ok (.iload_n 1, 1) := by decide +kernel
theorem dX12_told_49 : decode cX12_told 49 = .ok (.i2l, 1) := by decide +kernel
theorem dX12_told_50 : decode cX12_told 50 = .ok (.ldc2_w 291, 3) := by decide +kernel
theorem dX12_told_53 : decode cX12_told 53 = .ok (.ldc2_w 86, 3) := by decide +kernel
theorem dX12_told_56 : decode cX12_told 56 = .ok (.invokestatic 80, 3) := by decide +kernel
theorem dX12_told_59 : decode cX12_told 59 = .ok (.ifCond .eq 13, 3) := by decide +kernel
theorem dX12_told_62 : decode cX12_told 62 = .ok (.aload_n 0, 1) := by decide +kernel
theorem dX12_told_63 : decode cX12_told 63 = .ok (.getfield 40, 3) := by decide +kernel
theorem dX12_told_66 : decode cX12_told 66 = .ok (.iload_n 1, 1) := by decide +kernel
theorem dX12_told_67 : decode cX12_told 67 = .ok (.bipush 30, 2) := by decide +kernel
theorem dX12_told_69 : decode cX12_told 69 = .ok (.isub, 1) := by decide +kernel
theorem dX12_told_70 : decode cX12_told 70 = .ok (.iaload, 1) := by decide +kernel
theorem dX12_told_71 : decode cX12_told 71 = .ok (.ireturn, 1) := by decide +kernel
theorem dX12_told_72 : decode cX12_told 72 = .ok (.iload_n 1, 1) := by decide +kernel
theorem dX12_told_73 : decode cX12_told 73 = .ok (.tableswitch 51 0 3 #[31, 36, 41, 46], 31) := by decide +kernel
theorem dX12_told_104 : decode cX12_told 104 = .ok (.aload_n 0, 1) := by decide +kernel
theorem dX12_told_105 : decode cX12_told 105 = .ok (.getfield 90, 3) := by decide +kernel
theorem dX12_told_108 : decode cX12_told 108 = .ok (.ireturn, 1) := by decide +kernel
theorem dX12_told_109 : decode cX12_told 109 = .ok (.aload_n 0, 1) := by decide +kernel
theorem dX12_told_110 : decode cX12_told 110 = .ok (.getfield 105, 3) := by decide +kernel
theorem dX12_told_113 : decode cX12_told 113 = .ok (.ireturn, 1) := by decide +kernel
theorem dX12_told_114 : decode cX12_told 114 = .ok (.aload_n 0, 1) := by decide +kernel
theorem dX12_told_115 : decode cX12_told 115 = .ok (.getfield 227, 3) := by decide +kernel
theorem dX12_told_118 : decode cX12_told 118 = .ok (.ireturn, 1) := by decide +kernel
theorem dX12_told_119 : decode cX12_told 119 = .ok (.aload_n 0, 1) := by decide +kernel
theorem dX12_told_120 : decode cX12_told 120 = .ok (.invokevirtual 263, 3) := by decide +kernel
theorem dX12_told_123 : decode cX12_told 123 = .ok (.ireturn, 1) := by decide +kernel
theorem dX12_told_124 : decode cX12_told 124 = .ok (.bipush (-2), 2) := by decide +kernel
theorem dX12_told_126 : decode cX12_told 126 = .ok (.ireturn, 1) := by decide +kernel
theorem dJ6_bitCount_0f7a4_0 : decode cJ6_bitCount_0f7a4 0 = .ok (.iload_n 0, 1) := by decide +kernel
theorem dJ6_bitCount_0f7a4_1 : decode cJ6_bitCount_0f7a4 1 = .ok (.iload_n 0, 1) := by decide +kernel
theorem dJ6_bitCount_0f7a4_2 : decode cJ6_bitCount_0f7a4 2 = .ok (.iconst 1, 1) := by decide +kernel
theorem dJ6_bitCount_0f7a4_3 : decode cJ6_bitCount_0f7a4 3 = .ok (.iushr, 1) := by decide +kernel
theorem dJ6_bitCount_0f7a4_4 : decode cJ6_bitCount_0f7a4 4 = .ok (.ldc_w 265, 3) := by decide +kernel
theorem dJ6_bitCount_0f7a4_7 : decode cJ6_bitCount_0f7a4 7 = .ok (.iand, 1) := by decide +kernel
theorem dJ6_bitCount_0f7a4_8 : decode cJ6_bitCount_0f7a4 8 = .ok (.isub, 1) := by decide +kernel
theorem dJ6_bitCount_0f7a4_9 : decode cJ6_bitCount_0f7a4 9 = .ok (.istore_n 0, 1) := by decide +kernel
theorem dJ6_bitCount_0f7a4_10 : decode cJ6_bitCount_0f7a4 10 = .ok (.iload_n 0, 1) := by decide +kernel
theorem dJ6_bitCount_0f7a4_11 : decode cJ6_bitCount_0f7a4 11 = .ok (.ldc_w 266, 3) := by decide +kernel
theorem dJ6_bitCount_0f7a4_14 : decode cJ6_bitCount_0f7a4 14 = .ok (.iand, 1) := by decide +kernel
theorem dJ6_bitCount_0f7a4_15 : decode cJ6_bitCount_0f7a4 15 = .ok (.iload_n 0, 1) := by decide +kernel
theorem dJ6_bitCount_0f7a4_16 : decode cJ6_bitCount_0f7a4 16 = .ok (.iconst 2, 1) := by decide +kernel
theorem dJ6_bitCount_0f7a4_17 : decode cJ6_bitCount_0f7a4 17 = .ok (.iushr, 1) := by decide +kernel
theorem dJ6_bitCount_0f7a4_18 : decode cJ6_bitCount_0f7a4 18 = .ok (.ldc_w 266, 3) := by decide +kernel
theorem dJ6_bitCount_0f7a4_21 : decode cJ6_bitCount_0f7a4 21 = .ok (.iand, 1) := by decide +kernel
theorem dJ6_bitCount_0f7a4_22 : decode cJ6_bitCount_0f7a4 22 = .ok (.iadd, 1) := by decide +kernel
theorem dJ6_bitCount_0f7a4_23 : decode cJ6_bitCount_0f7a4 23 = .ok (.istore_n 0, 1) := by decide +kernel
theorem dJ6_bitCount_0f7a4_24 : decode cJ6_bitCount_0f7a4 24 = .ok (.iload_n 0, 1) := by decide +kernel
theorem dJ6_bitCount_0f7a4_25 : decode cJ6_bitCount_0f7a4 25 = .ok (.iload_n 0, 1) := by decide +kernel
theorem dJ6_bitCount_0f7a4_26 : decode cJ6_bitCount_0f7a4 26 = .ok (.iconst 4, 1) := by decide +kernel
theorem dJ6_bitCount_0f7a4_27 : decode cJ6_bitCount_0f7a4 27 = .ok (.iushr, 1) := by decide +kernel
theorem dJ6_bitCount_0f7a4_28 : decode cJ6_bitCount_0f7a4 28 = .ok (.iadd, 1) := by decide +kernel
theorem dJ6_bitCount_0f7a4_29 : decode cJ6_bitCount_0f7a4 29 = .ok (.ldc_w 267, 3) := by decide +kernel
theorem dJ6_bitCount_0f7a4_32 : decode cJ6_bitCount_0f7a4 32 = .ok (.iand, 1) := by decide +kernel
theorem dJ6_bitCount_0f7a4_33 : decode cJ6_bitCount_0f7a4 33 = .ok (.istore_n 0, 1) := by decide +kernel
theorem dJ6_bitCount_0f7a4_34 : decode cJ6_bitCount_0f7a4 34 = .ok (.iload_n 0, 1) := by decide +kernel
theorem dJ6_bitCount_0f7a4_35 : decode cJ6_bitCount_0f7a4 35 = .ok (.iload_n 0, 1) := by decide +kernel
theorem dJ6_bitCount_0f7a4_36 : decode cJ6_bitCount_0f7a4 36 = .ok (.bipush 8, 2) := by decide +kernel
theorem dJ6_bitCount_0f7a4_38 : decode cJ6_bitCount_0f7a4 38 = .ok (.iushr, 1) := by decide +kernel
theorem dJ6_bitCount_0f7a4_39 : decode cJ6_bitCount_0f7a4 39 = .ok (.iadd, 1) := by decide +kernel
theorem dJ6_bitCount_0f7a4_40 : decode cJ6_bitCount_0f7a4 40 = .ok (.istore_n 0, 1) := by decide +kernel
theorem dJ6_bitCount_0f7a4_41 : decode cJ6_bitCount_0f7a4 41 = .ok (.iload_n 0, 1) := by decide +kernel
theorem dJ6_bitCount_0f7a4_42 : decode cJ6_bitCount_0f7a4 42 = .ok (.iload_n 0, 1) := by decide +kernel
theorem dJ6_bitCount_0f7a4_43 : decode cJ6_bitCount_0f7a4 43 = .ok (.bipush 16, 2) := by decide +kernel
theorem dJ6_bitCount_0f7a4_45 : decode cJ6_bitCount_0f7a4 45 = .ok (.iushr, 1) := by decide +kernel
theorem dJ6_bitCount_0f7a4_46 : decode cJ6_bitCount_0f7a4 46 = .ok (.iadd, 1) := by decide +kernel
theorem dJ6_bitCount_0f7a4_47 : decode cJ6_bitCount_0f7a4 47 = .ok (.istore_n 0, 1) := by decide +kernel
theorem dJ6_bitCount_0f7a4_48 : decode cJ6_bitCount_0f7a4 48 = .ok (.iload_n 0, 1) := by decide +kernel
theorem dJ6_bitCount_0f7a4_49 : decode cJ6_bitCount_0f7a4 49 = .ok (.bipush 63, 2) := by decide +kernel
theorem dJ6_bitCount_0f7a4_51 : decode cJ6_bitCount_0f7a4 51 = .ok (.iand, 1) := by decide +kernel
theorem dJ6_bitCount_0f7a4_52 : decode cJ6_bitCount_0f7a4 52 = .ok (.ireturn, 1) := by decide +kernel
theorem dJ9_max_7cf53_0 : decode cJ9_max_7cf53 0 = .ok (.iload_n 0, 1) := by decide +kernel
theorem dJ9_max_7cf53_1 : decode cJ9_max_7cf53 1 = .ok (.iload_n 1, 1) := by decide +kernel
theorem dJ9_max_7cf53_2 : decode cJ9_max_7cf53 2 = .ok (.if_icmp .lt 7, 3) := by decide +kernel
theorem dJ9_max_7cf53_5 : decode cJ9_max_7cf53 5 = .ok (.iload_n 0, 1) := by decide +kernel
theorem dJ9_max_7cf53_6 : decode cJ9_max_7cf53 6 = .ok (.goto 4, 3) := by decide +kernel
theorem dJ9_max_7cf53_9 : decode cJ9_max_7cf53 9 = .ok (.iload_n 1, 1) := by decide +kernel
theorem dJ9_max_7cf53_10 : decode cJ9_max_7cf53 10 = .ok (.ireturn, 1) := by decide +kernel
theorem dJ9_min_7cf53_0 : decode cJ9_min_7cf53 0 = .ok (.iload_n 0, 1) := by decide +kernel
theorem dJ9_min_7cf53_1 : decode cJ9_min_7cf53 1 = .ok (.iload_n 1, 1) := by decide +kernel
theorem dJ9_min_7cf53_2 : decode cJ9_min_7cf53 2 = .ok (.if_icmp .gt 7, 3) := by decide +kernel
theorem dJ9_min_7cf53_5 : decode cJ9_min_7cf53 5 = .ok (.iload_n 0, 1) := by decide +kernel
theorem dJ9_min_7cf53_6 : decode cJ9_min_7cf53 6 = .ok (.goto 4, 3) := by decide +kernel
theorem dJ9_min_7cf53_9 : decode cJ9_min_7cf53 9 = .ok (.iload_n 1, 1) := by decide +kernel
theorem dJ9_min_7cf53_10 : decode cJ9_min_7cf53 10 = .ok (.ireturn, 1) := by decide +kernel
theorem dJ7_fill_53178_0 : decode cJ7_fill_53178 0 = .ok (.iconst 0, 1) := by decide +kernel
theorem dJ7_fill_53178_1 : decode cJ7_fill_53178 1 = .ok (.istore_n 2, 1) := by decide +kernel
theorem dJ7_fill_53178_2 : decode cJ7_fill_53178 2 = .ok (.aload_n 0, 1) := by decide +kernel
theorem dJ7_fill_53178_3 : decode cJ7_fill_53178 3 = .ok (.arraylength, 1) := by decide +kernel
theorem dJ7_fill_53178_4 : decode cJ7_fill_53178 4 = .ok (.istore_n 3, 1) := by decide +kernel
theorem dJ7_fill_53178_5 : decode cJ7_fill_53178 5 = .ok (.iload_n 2, 1) := by decide +kernel
theorem dJ7_fill_53178_6 : decode cJ7_fill_53178 6 = .ok (.iload_n 3, 1) := by decide +kernel
theorem dJ7_fill_53178_7 : decode cJ7_fill_53178 7 = .ok (.if_icmp .ge 13, 3) := by decide +kernel
theorem dJ7_fill_53178_10 : decode cJ7_fill_53178 10 = .ok (.aload_n 0, 1) := by decide +kernel
theorem dJ7_fill_53178_11 : decode cJ7_fill_53178 11 = .ok (.iload_n 2, 1) := by decide +kernel
theorem dJ7_fill_53178_12 : decode cJ7_fill_53178 12 = .ok (.iload_n 1, 1) := by decide +kernel
theorem dJ7_fill_53178_13 : decode cJ7_fill_53178 13 = .ok (.iastore, 1) := by decide +kernel
theorem dJ7_fill_53178_14 : decode cJ7_fill_53178 14 = .ok (.iinc 2 1, 3) := by decide +kernel
theorem dJ7_fill_53178_17 : decode cJ7_fill_53178 17 = .ok (.goto (-12), 3) := by decide +kernel
theorem dJ7_fill_53178_20 : decode cJ7_fill_53178 20 = .ok (.return_, 1) := by decide +kernel
theorem dL_law_0 : decode cL_law 0 = .ok (.new 7, 3) := by decide +kernel
theorem dL_law_3 : decode cL_law 3 = .ok (.dup, 1) := by decide +kernel
theorem dL_law_4 : decode cL_law 4 = .ok (.invokespecial 9, 3) := by decide +kernel
theorem dL_law_7 : decode cL_law 7 = .ok (.astore_n 1, 1) := by decide +kernel
theorem dL_law_8 : decode cL_law 8 = .ok (.new 10, 3) := by decide +kernel
theorem dL_law_11 : decode cL_law 11 = .ok (.dup, 1) := by decide +kernel
theorem dL_law_12 : decode cL_law 12 = .ok (.invokespecial 12, 3) := by decide +kernel
theorem dL_law_15 : decode cL_law 15 = .ok (.astore_n 2, 1) := by decide +kernel
theorem dL_law_16 : decode cL_law 16 = .ok (.iconst 0, 1) := by decide +kernel
theorem dL_law_17 : decode cL_law 17 = .ok (.istore_n 3, 1) := by decide +kernel
theorem dL_law_18 : decode cL_law 18 = .ok (.iload_n 3, 1) := by decide +kernel
theorem dL_law_19 : decode cL_law 19 = .ok (.aload_n 0, 1) := by decide +kernel
theorem dL_law_20 : decode cL_law 20 = .ok (.arraylength, 1) := by decide +kernel
theorem dL_law_21 : decode cL_law 21 = .ok (.iconst 4, 1) := by decide +kernel
theorem dL_law_22 : decode cL_law 22 = .ok (.isub, 1) := by decide +kernel
theorem dL_law_23 : decode cL_law 23 = .ok (.if_icmp .gt 1064, 3) := by decide +kernel
theorem dL_law_26 : decode cL_law 26 = .ok (.aload_n 0, 1) := by decide +kernel
theorem dL_law_27 : decode cL_law 27 = .ok (.iload_n 3, 1) := by decide +kernel
theorem dL_law_28 : decode cL_law 28 = .ok (.iaload, 1) := by decide +kernel
theorem dL_law_29 : decode cL_law 29 = .ok (.bipush 31, 2) := by decide +kernel
theorem dL_law_31 : decode cL_law 31 = .ok (.iand, 1) := by decide +kernel
theorem dL_law_32 : decode cL_law 32 = .ok (.tableswitch 1049 0 31 #[144, 167, 180, 193, 216, 249, 282, 326, 349, 373, 416, 459, 502, 525, 558, 581, 624, 657, 706, 719, 732, 766, 779, 792, 825, 848, 881, 914, 957, 980, 1003, 1026], 144) := by decide +kernel
theorem dL_law_176 : decode cL_law 176 = .ok (.aload_n 1, 1) := by decide +kernel
theorem dL_law_177 : decode cL_law 177 = .ok (.aload_n 0, 1) := by decide +kernel
theorem dL_law_178 : decode cL_law 178 = .ok (.iload_n 3, 1) := by decide +kernel
theorem dL_law_179 : decode cL_law 179 = .ok (.iconst 1, 1) := by decide +kernel
theorem dL_law_180 : decode cL_law 180 = .ok (.iadd, 1) := by decide +kernel
theorem dL_law_181 : decode cL_law 181 = .ok (.iaload, 1) := by decide +kernel
theorem dL_law_182 : decode cL_law 182 = .ok (.invokevirtual 13, 3) := by decide +kernel
theorem dL_law_185 : decode cL_law 185 = .ok (.aload_n 2, 1) := by decide +kernel
theorem dL_law_186 : decode cL_law 186 = .ok (.aload_n 0, 1) := by decide +kernel
theorem dL_law_187 : decode cL_law 187 = .ok (.iload_n 3, 1) := by decide +kernel
theorem dL_law_188 : decode cL_law 188 = .ok (.iconst 1, 1) := by decide +kernel
theorem dL_law_189 : decode cL_law 189 = .ok (.iadd, 1) := by decide +kernel
theorem dL_law_190 : decode cL_law 190 = .ok (.iaload, 1) := by decide +kernel
theorem dL_law_191 : decode cL_law 191 = .ok (.invokevirtual 17, 3) := by decide +kernel
theorem dL_law_194 : decode cL_law 194 = .ok (.if_icmp .eq 887, 3) := by decide +kernel
theorem dL_law_197 : decode cL_law 197 = .ok (.iconst 0, 1) := by decide +kernel
theorem dL_law_198 : decode cL_law 198 = .ok (.ireturn, 1) := by decide +kernel
theorem dL_law_199 : decode cL_law 199 = .ok (.aload_n 1, 1) := by decide +kernel
theorem dL_law_200 : decode cL_law 200 = .ok (.invokevirtual 18, 3) := by decide +kernel
theorem dL_law_203 : decode cL_law 203 = .ok (.aload_n 2, 1) := by decide +kernel
theorem dL_law_204 : decode cL_law 204 = .ok (.invokevirtual 22, 3) := by decide +kernel
theorem dL_law_207 : decode cL_law 207 = .ok (.if_icmp .eq 874, 3) := by decide +kernel
theorem dL_law_210 : decode cL_law 210 = .ok (.iconst 0, 1) := by decide +kernel
theorem dL_law_211 : decode cL_law 211 = .ok (.ireturn, 1) := by decide +kernel
theorem dL_law_212 : decode cL_law 212 = .ok (.aload_n 1, 1) := by decide +kernel
theorem dL_law_213 : decode cL_law 213 = .ok (.invokevirtual 23, 3) := by decide +kernel
theorem dL_law_216 : decode cL_law 216 = .ok (.aload_n 2, 1) := by decide +kernel
theorem dL_law_217 : decode cL_law 217 = .ok (.invokevirtual 26, 3) := by decide +kernel
theorem dL_law_220 : decode cL_law 220 = .ok (.if_icmp .eq 861, 3) := by decide +kernel
theorem dL_law_223 : decode cL_law 223 = .ok (.iconst 0, 1) := by decide +kernel
theorem dL_law_224 : decode cL_law 224 = .ok (.ireturn, 1) := by decide +kernel
theorem dL_law_225 : decode cL_law 225 = .ok (.aload_n 1, 1) := by decide +kernel
theorem dL_law_226 : decode cL_law 226 = .ok (.aload_n 0, 1) := by decide +kernel
theorem dL_law_227 : decode cL_law 227 = .ok (.iload_n 3, 1) := by decide +kernel
theorem dL_law_228 : decode cL_law 228 = .ok (.iconst 1, 1) := by decide +kernel
theorem dL_law_229 : decode cL_law 229 = .ok (.iadd, 1) := by decide +kernel
theorem dL_law_230 : decode cL_law 230 = .ok (.iaload, 1) := by decide +kernel
theorem dL_law_231 : decode cL_law 231 = .ok (.invokevirtual 27, 3) := by decide +kernel
theorem dL_law_234 : decode cL_law 234 = .ok (.aload_n 2, 1) := by decide +kernel
theorem dL_law_235 : decode cL_law 235 = .ok (.aload_n 0, 1) := by decide +kernel
theorem dL_law_236 : decode cL_law 236 = .ok (.iload_n 3, 1) := by decide +kernel
theorem dL_law_237 : decode cL_law 237 = .ok (.iconst 1, 1) := by decide +kernel
theorem dL_law_238 : decode cL_law 238 = .ok (.iadd, 1) := by decide +kernel
theorem dL_law_239 : decode cL_law 239 = .ok (.iaload, 1) := by decide +kernel
theorem dL_law_240 : decode cL_law 240 = .ok (.invokevirtual 30, 3) := by decide +kernel
theorem dL_law_243 : decode cL_law 243 = .ok (.if_icmp .eq 838, 3) := by decide +kernel
theorem dL_law_246 : decode cL_law 246 = .ok (.iconst 0, 1) := by decide +kernel
theorem dL_law_247 : decode cL_law 247 = .ok (.ireturn, 1) := by decide +kernel
theorem dL_law_248 : decode cL_law 248 = .ok (.aload_n 1, 1) := by decide +kernel
theorem dL_law_249 : decode cL_law 249 = .ok (.aload_n 0, 1) := by decide +kernel
theorem dL_law_250 : decode cL_law 250 = .ok (.iload_n 3, 1) := by decide +kernel
theorem dL_law_251 : decode cL_law 251 = .ok (.iconst 1, 1) := by decide +kernel
theorem dL_law_252 : decode cL_law 252 = .ok (.iadd, 1) := by decide +kernel
theorem dL_law_253 : decode cL_law 253 = .ok (.iaload, 1) := by decide +kernel
theorem dL_law_254 : decode cL_law 254 = .ok (.aload_n 0, 1) := by decide +kernel
theorem dL_law_255 : decode cL_law 255 = .ok (.iload_n 3, 1) := by decide +kernel
theorem dL_law_256 : decode cL_law 256 = .ok (.iconst 2, 1) := by decide +kernel
theorem dL_law_257 : decode cL_law 257 = .ok (.iadd, 1) := by decide +kernel
theorem dL_law_258 : decode cL_law 258 = .ok (.iaload, 1) := by decide +kernel
theorem dL_law_259 : decode cL_law 259 = .ok (.invokevirtual 31, 3) := by decide +kernel
theorem dL_law_262 : decode cL_law 262 = .ok (.aload_n 2, 1) := by decide +kernel
theorem dL_law_263 : decode cL_law 263 = .ok (.aload_n 0, 1) := by decide +kernel
theorem dL_law_264 : decode cL_law 264 = .ok (.iload_n 3, 1) := by decide +kernel
theorem dL_law_265 : decode cL_law 265 = .ok (.iconst 1, 1) := by decide +kernel
theorem dL_law_266 : decode cL_law 266 = .ok (.iadd, 1) := by decide +kernel
theorem dL_law_267 : decode cL_law 267 = .ok (.iaload, 1) := by decide +kernel
theorem dL_law_268 : decode cL_law 268 = .ok (.aload_n 0, 1) := by decide +kernel
theorem dL_law_269 : decode cL_law 269 = .ok (.iload_n 3, 1) := by decide +kernel
theorem dL_law_270 : decode cL_law 270 = .ok (.iconst 2, 1) := by decide +kernel
theorem dL_law_271 : decode cL_law 271 = .ok (.iadd, 1) := by decide +kernel
theorem dL_law_272 : decode cL_law 272 = .ok (.iaload, 1) := by decide +kernel
theorem dL_law_273 : decode cL_law 273 = .ok (.invokevirtual 35, 3) := by decide +kernel
theorem dL_law_276 : decode cL_law 276 = .ok (.if_icmp .eq 805, 3) := by decide +kernel
theorem dL_law_279 : decode cL_law 279 = .ok (.iconst 0, 1) := by decide +kernel
theorem dL_law_280 : decode cL_law 280 = .ok (.ireturn, 1) := by decide +kernel
theorem dL_law_281 : decode cL_law 281 = .ok (.aload_n 1, 1) := by decide +kernel
theorem dL_law_282 : decode cL_law 282 = .ok (.aload_n 0, 1) := by decide +kernel
theorem dL_law_283 : decode cL_law 283 = .ok (.iload_n 3, 1) := by decide +kernel
theorem dL_law_284 : decode cL_law 284 = .ok (.iconst 1, 1) := by decide +kernel
theorem dL_law_285 : decode cL_law 285 = .ok (.iadd, 1) := by decide +kernel
theorem dL_law_286 : decode cL_law 286 = .ok (.iaload, 1) := by decide +kernel
theorem dL_law_287 : decode cL_law 287 = .ok (.aload_n 0, 1) := by decide +kernel
theorem dL_law_288 : decode cL_law 288 = .ok (.iload_n 3, 1) := by decide +kernel
theorem dL_law_289 : decode cL_law 289 = .ok (.iconst 2, 1) := by decide +kernel
theorem dL_law_290 : decode cL_law 290 = .ok (.iadd, 1) := by decide +kernel
theorem dL_law_291 : decode cL_law 291 = .ok (.iaload, 1) := by decide +kernel
theorem dL_law_292 : decode cL_law 292 = .ok (.invokevirtual 36, 3) := by decide +kernel
theorem dL_law_295 : decode cL_law 295 = .ok (.aload_n 2, 1) := by decide +kernel
theorem dL_law_296 : decode cL_law 296 = .ok (.aload_n 0, 1) := by decide +kernel
theorem dL_law_297 : decode cL_law 297 = .ok (.iload_n 3, 1) := by decide +kernel
theorem dL_law_298 : decode cL_law 298 = .ok (.iconst 1, 1) := by decide +kernel
theorem dL_law_299 : decode cL_law 299 = .ok (.iadd, 1) := by decide +kernel
theorem dL_law_300 : decode cL_law 300 = .ok (.iaload, 1) := by decide +kernel
theorem dL_law_301 : decode cL_law 301 = .ok (.aload_n 0, 1) := by decide +kernel
theorem dL_law_302 : decode cL_law 302 = .ok (.iload_n 3, 1) := by decide +kernel
theorem dL_law_303 : decode cL_law 303 = .ok (.iconst 2, 1) := by decide +kernel
theorem dL_law_304 : decode cL_law 304 = .ok (.iadd, 1) := by decide +kernel
theorem dL_law_305 : decode cL_law 305 = .ok (.iaload, 1) := by decide +kernel
theorem dL_law_306 : decode cL_law 306 = .ok (.invokevirtual 39, 3) := by decide +kernel
theorem dL_law_309 : decode cL_law 309 = .ok (.if_icmp .eq 772, 3) := by decide +kernel
theorem dL_law_312 : decode cL_law 312 = .ok (.iconst 0, 1) := by decide +kernel
theorem dL_law_313 : decode cL_law 313 = .ok (.ireturn, 1) := by decide +kernel
theorem dL_law_314 : decode cL_law 314 = .ok (.aload_n 1, 1) := by decide +kernel
theorem dL_law_315 : decode cL_law 315 = .ok (.aload_n 0, 1) := by decide +kernel
theorem dL_law_316 : decode cL_law 316 = .ok (.iload_n 3, 1) := by decide +kernel
theorem dL_law_317 : decode cL_law 317 = .ok (.iconst 1, 1) := by decide +kernel
theorem dL_law_318 : decode cL_law 318 = .ok (.iadd, 1) := by decide +kernel
theorem dL_law_319 : decode cL_law 319 = .ok (.iaload, 1) := by decide +kernel
theorem dL_law_320 : decode cL_law 320 = .ok (.aload_n 0, 1) := by decide +kernel
theorem dL_law_321 : decode cL_law 321 = .ok (.iload_n 3, 1) := by decide +kernel
theorem dL_law_322 : decode cL_law 322 = .ok (.iconst 2, 1) := by decide +kernel
theorem dL_law_323 : decode cL_law 323 = .ok (.iadd, 1) := by decide +kernel
theorem dL_law_324 : decode cL_law 324 = .ok (.iaload, 1) := by decide +kernel
theorem dL_law_325 : decode cL_law 325 = .ok (.aload_n 0, 1) := by decide +kernel
theorem dL_law_326 : decode cL_law 326 = .ok (.iload_n 3, 1) := by decide +kernel
theorem dL_law_327 : decode cL_law 327 = .ok (.iconst 3, 1) := by decide +kernel
theorem dL_law_328 : decode cL_law 328 = .ok (.iadd, 1) := by decide +kernel
theorem dL_law_329 : decode cL_law 329 = .ok (.iaload, 1) := by decide +kernel
theorem dL_law_330 : decode cL_law 330 = .ok (.invokevirtual 40, 3) := by decide +kernel
theorem dL_law_333 : decode cL_law 333 = .ok (.aload_n 2, 1) := by decide +kernel
theorem dL_law_334 : decode cL_law 334 = .ok (.aload_n 0, 1) := by decide +kernel
theorem dL_law_335 : decode cL_law 335 = .ok (.iload_n 3, 1) := by decide +kernel
theorem dL_law_336 : decode cL_law 336 = .ok (.iconst 1, 1) := by decide +kernel
theorem dL_law_337 : decode cL_law 337 = .ok (.iadd, 1) := by decide +kernel
theorem dL_law_338 : decode cL_law 338 = .ok (.iaload, 1) := by decide +kernel
theorem dL_law_339 : decode cL_law 339 = .ok (.aload_n 0, 1) := by decide +kernel
theorem dL_law_340 : decode cL_law 340 = .ok (.iload_n 3, 1) := by decide +kernel
theorem dL_law_341 : decode cL_law 341 = .ok (.iconst 2, 1) := by decide +kernel
theorem dL_law_342 : decode cL_law 342 = .ok (.iadd, 1) := by decide +kernel
theorem dL_law_343 : decode cL_law 343 = .ok (.iaload, 1) := by decide +kernel
theorem dL_law_344 : decode cL_law 344 = .ok (.aload_n 0, 1) := by decide +kernel
theorem dL_law_345 : decode cL_law 345 = .ok (.iload_n 3, 1) := by decide +kernel
theorem dL_law_346 : decode cL_law 346 = .ok (.iconst 3, 1) := by decide +kernel
theorem dL_law_347 : decode cL_law 347 = .ok (.iadd, 1) := by decide +kernel
theorem dL_law_348 : decode cL_law 348 = .ok (.iaload, 1) := by decide +kernel
theorem dL_law_349 : decode cL_law 349 = .ok (.invokevirtual 44, 3) := by decide +kernel
theorem dL_law_352 : decode cL_law 352 = .ok (.lcmp, 1) := by decide +kernel
theorem dL_law_353 : decode cL_law 353 = .ok (.ifCond .eq 728, 3) := by decide +kernel
theorem dL_law_356 : decode cL_law 356 = .ok (.iconst 0, 1) := by decide +kernel
theorem dL_law_357 : decode cL_law 357 = .ok (.ireturn, 1) := by decide +kernel
theorem dL_law_358 : decode cL_law 358 = .ok (.aload_n 1, 1) := by decide +kernel
theorem dL_law_359 : decode cL_law 359 = .ok (.aload_n 0, 1) := by decide +kernel
theorem dL_law_360 : decode cL_law 360 = .ok (.iload_n 3, 1) := by decide +kernel
theorem dL_law_361 : decode cL_law 361 = .ok (.iconst 1, 1) := by decide +kernel
theorem dL_law_362 : decode cL_law 362 = .ok (.iadd, 1) := by decide +kernel
theorem dL_law_363 : decode cL_law 363 = .ok (.iaload, 1) := by decide +kernel
theorem dL_law_364 : decode cL_law 364 = .ok (.invokevirtual 45, 3) := by decide +kernel
theorem dL_law_367 : decode cL_law 367 = .ok (.aload_n 2, 1) := by decide +kernel
theorem dL_law_368 : decode cL_law 368 = .ok (.aload_n 0, 1) := by decide +kernel
theorem dL_law_369 : decode cL_law 369 = .ok (.iload_n 3, 1) := by decide +kernel
theorem dL_law_370 : decode cL_law 370 = .ok (.iconst 1, 1) := by decide +kernel
theorem dL_law_371 : decode cL_law 371 = .ok (.iadd, 1) := by decide +kernel
theorem dL_law_372 : decode cL_law 372 = .ok (.iaload, 1) := by decide +kernel
theorem dL_law_373 : decode cL_law 373 = .ok (.invokevirtual 48, 3) := by decide +kernel
theorem dL_law_376 : decode cL_law 376 = .ok (.if_icmp .eq 705, 3) := by decide +kernel
theorem dL_law_379 : decode cL_law 379 = .ok (.iconst 0, 1) := by decide +kernel
theorem dL_law_380 : decode cL_law 380 = .ok (.ireturn, 1) := by decide +kernel
theorem dL_law_381 : decode cL_law 381 = .ok (.aload_n 1, 1) := by decide +kernel
theorem dL_law_382 : decode cL_law 382 = .ok (.aload_n 0, 1) := by decide +kernel
theorem dL_law_383 : decode cL_law 383 = .ok (.iload_n 3, 1) := by decide +kernel
theorem dL_law_384 : decode cL_law 384 = .ok (.iconst 1, 1) := by decide +kernel
theorem dL_law_385 : decode cL_law 385 = .ok (.iadd, 1) := by decide +kernel
theorem dL_law_386 : decode cL_law 386 = .ok (.iaload, 1) := by decide +kernel
theorem dL_law_387 : decode cL_law 387 = .ok (.invokevirtual 49, 3) := by decide +kernel
theorem dL_law_390 : decode cL_law 390 = .ok (.aload_n 2, 1) := by decide +kernel
theorem dL_law_391 : decode cL_law 391 = .ok (.aload_n 0, 1) := by decide +kernel
theorem dL_law_392 : decode cL_law 392 = .ok (.iload_n 3, 1) := by decide +kernel
theorem dL_law_393 : decode cL_law 393 = .ok (.iconst 1, 1) := by decide +kernel
theorem dL_law_394 : decode cL_law 394 = .ok (.iadd, 1) := by decide +kernel
theorem dL_law_395 : decode cL_law 395 = .ok (.iaload, 1) := by decide +kernel
theorem dL_law_396 : decode cL_law 396 = .ok (.invokevirtual 53, 3) := by decide +kernel
theorem dL_law_399 : decode cL_law 399 = .ok (.lcmp, 1) := by decide +kernel
theorem dL_law_400 : decode cL_law 400 = .ok (.ifCond .eq 681, 3) := by decide +kernel
theorem dL_law_403 : decode cL_law 403 = .ok (.iconst 0, 1) := by decide +kernel
theorem dL_law_404 : decode cL_law 404 = .ok (.ireturn, 1) := by decide +kernel
theorem dL_law_405 : decode cL_law 405 = .ok (.aload_n 1, 1) := by decide +kernel
theorem dL_law_406 : decode cL_law 406 = .ok (.aload_n 0, 1) := by decide +kernel
theorem dL_law_407 : decode cL_law 407 = .ok (.iload_n 3, 1) := by decide +kernel
theorem dL_law_408 : decode cL_law 408 = .ok (.iconst 1, 1) := by decide +kernel
theorem dL_law_409 : decode cL_law 409 = .ok (.iadd, 1) := by decide +kernel
theorem dL_law_410 : decode cL_law 410 = .ok (.iaload, 1) := by decide +kernel
theorem dL_law_411 : decode cL_law 411 = .ok (.aload_n 0, 1) := by decide +kernel
theorem dL_law_412 : decode cL_law 412 = .ok (.iload_n 3, 1) := by decide +kernel
theorem dL_law_413 : decode cL_law 413 = .ok (.iconst 2, 1) := by decide +kernel
theorem dL_law_414 : decode cL_law 414 = .ok (.iadd, 1) := by decide +kernel
theorem dL_law_415 : decode cL_law 415 = .ok (.iaload, 1) := by decide +kernel
theorem dL_law_416 : decode cL_law 416 = .ok (.aload_n 0, 1) := by decide +kernel
theorem dL_law_417 : decode cL_law 417 = .ok (.iload_n 3, 1) := by decide +kernel
theorem dL_law_418 : decode cL_law 418 = .ok (.iconst 3, 1) := by decide +kernel
theorem dL_law_419 : decode cL_law 419 = .ok (.iadd, 1) := by decide +kernel
theorem dL_law_420 : decode cL_law 420 = .ok (.iaload, 1) := by decide +kernel
theorem dL_law_421 : decode cL_law 421 = .ok (.invokevirtual 54, 3) := by decide +kernel
theorem dL_law_424 : decode cL_law 424 = .ok (.aload_n 2, 1) := by decide +kernel
theorem dL_law_425 : decode cL_law 425 = .ok (.aload_n 0, 1) := by decide +kernel
theorem dL_law_426 : decode cL_law 426 = .ok (.iload_n 3, 1) := by decide +kernel
theorem dL_law_427 : decode cL_law 427 = .ok (.iconst 1, 1) := by decide +kernel
theorem dL_law_428 : decode cL_law 428 = .ok (.iadd, 1) := by decide +kernel
theorem dL_law_429 : decode cL_law 429 = .ok (.iaload, 1) := by decide +kernel
theorem dL_law_430 : decode cL_law 430 = .ok (.aload_n 0, 1) := by decide +kernel
theorem dL_law_431 : decode cL_law 431 = .ok (.iload_n 3, 1) := by decide +kernel
theorem dL_law_432 : decode cL_law 432 = .ok (.iconst 2, 1) := by decide +kernel
theorem dL_law_433 : decode cL_law 433 = .ok (.iadd, 1) := by decide +kernel
theorem dL_law_434 : decode cL_law 434 = .ok (.iaload, 1) := by decide +kernel
theorem dL_law_435 : decode cL_law 435 = .ok (.aload_n 0, 1) := by decide +kernel
theorem dL_law_436 : decode cL_law 436 = .ok (.iload_n 3, 1) := by decide +kernel
theorem dL_law_437 : decode cL_law 437 = .ok (.iconst 3, 1) := by decide +kernel
theorem dL_law_438 : decode cL_law 438 = .ok (.iadd, 1) := by decide +kernel
theorem dL_law_439 : decode cL_law 439 = .ok (.iaload, 1) := by decide +kernel
theorem dL_law_440 : decode cL_law 440 = .ok (.invokevirtual 58, 3) := by decide +kernel
theorem dL_law_443 : decode cL_law 443 = .ok (.if_icmp .eq 638, 3) := by decide +kernel
theorem dL_law_446 : decode cL_law 446 = .ok (.iconst 0, 1) := by decide +kernel
theorem dL_law_447 : decode cL_law 447 = .ok (.ireturn, 1) := by decide +kernel
theorem dL_law_448 : decode cL_law 448 = .ok (.aload_n 1, 1) := by decide +kernel
theorem dL_law_449 : decode cL_law 449 = .ok (.aload_n 0, 1) := by decide +kernel
theorem dL_law_450 : decode cL_law 450 = .ok (.iload_n 3, 1) := by decide +kernel
theorem dL_law_451 : decode cL_law 451 = .ok (.iconst 1, 1) := by decide +kernel
theorem dL_law_452 : decode cL_law 452 = .ok (.iadd, 1) := by decide +kernel
theorem dL_law_453 : decode cL_law 453 = .ok (.iaload, 1) := by decide +kernel
theorem dL_law_454 : decode cL_law 454 = .ok (.aload_n 0, 1) := by decide +kernel
theorem dL_law_455 : decode cL_law 455 = .ok (.iload_n 3, 1) := by decide +kernel
theorem dL_law_456 : decode cL_law 456 = .ok (.iconst 2, 1) := by decide +kernel
theorem dL_law_457 : decode cL_law 457 = .ok (.iadd, 1) := by decide +kernel
theorem dL_law_458 : decode cL_law 458 = .ok (.iaload, 1) := by decide +kernel
theorem dL_law_459 : decode cL_law 459 = .ok (.aload_n 0, 1) := by decide +kernel
theorem dL_law_460 : decode cL_law 460 = .ok (.iload_n 3, 1) := by decide +kernel
theorem dL_law_461 : decode cL_law 461 = .ok (.iconst 3, 1) := by decide +kernel
theorem dL_law_462 : decode cL_law 462 = .ok (.iadd, 1) := by decide +kernel
theorem dL_law_463 : decode cL_law 463 = .ok (.iaload, 1) := by decide +kernel
theorem dL_law_464 : decode cL_law 464 = .ok (.invokevirtual 59, 3) := by decide +kernel
theorem dL_law_467 : decode cL_law 467 = .ok (.aload_n 2, 1) := by decide +kernel
theorem dL_law_468 : decode cL_law 468 = .ok (.aload_n 0, 1) := by decide +kernel
theorem dL_law_469 : decode cL_law 469 = .ok (.iload_n 3, 1) := by decide +kernel
theorem dL_law_470 : decode cL_law 470 = .ok (.iconst 1, 1) := by decide +kernel
theorem dL_law_471 : decode cL_law 471 = .ok (.iadd, 1) := by decide +kernel
theorem dL_law_472 : decode cL_law 472 = .ok (.iaload, 1) := by decide +kernel
theorem dL_law_473 : decode cL_law 473 = .ok (.aload_n 0, 1) := by decide +kernel
theorem dL_law_474 : decode cL_law 474 = .ok (.iload_n 3, 1) := by decide +kernel
theorem dL_law_475 : decode cL_law 475 = .ok (.iconst 2, 1) := by decide +kernel
theorem dL_law_476 : decode cL_law 476 = .ok (.iadd, 1) := by decide +kernel
theorem dL_law_477 : decode cL_law 477 = .ok (.iaload, 1) := by decide +kernel
theorem dL_law_478 : decode cL_law 478 = .ok (.aload_n 0, 1) := by decide +kernel
theorem dL_law_479 : decode cL_law 479 = .ok (.iload_n 3, 1) := by decide +kernel
theorem dL_law_480 : decode cL_law 480 = .ok (.iconst 3, 1) := by decide +kernel
theorem dL_law_481 : decode cL_law 481 = .ok (.iadd, 1) := by decide +kernel
theorem dL_law_482 : decode cL_law 482 = .ok (.iaload, 1) := by decide +kernel
theorem dL_law_483 : decode cL_law 483 = .ok (.invokevirtual 62, 3) := by decide +kernel
theorem dL_law_486 : decode cL_law 486 = .ok (.if_icmp .eq 595, 3) := by decide +kernel
theorem dL_law_489 : decode cL_law 489 = .ok (.iconst 0, 1) := by decide +kernel
theorem dL_law_490 : decode cL_law 490 = .ok (.ireturn, 1) := by decide +kernel
theorem dL_law_491 : decode cL_law 491 = .ok (.aload_n 1, 1) := by decide +kernel
theorem dL_law_492 : decode cL_law 492 = .ok (.aload_n 0, 1) := by decide +kernel
theorem dL_law_493 : decode cL_law 493 = .ok (.iload_n 3, 1) := by decide +kernel
theorem dL_law_494 : decode cL_law 494 = .ok (.iconst 1, 1) := by decide +kernel
theorem dL_law_495 : decode cL_law 495 = .ok (.iadd, 1) := by decide +kernel
theorem dL_law_496 : decode cL_law 496 = .ok (.iaload, 1) := by decide +kernel
theorem dL_law_497 : decode cL_law 497 = .ok (.aload_n 0, 1) := by decide +kernel
theorem dL_law_498 : decode cL_law 498 = .ok (.iload_n 3, 1) := by decide +kernel
theorem dL_law_499 : decode cL_law 499 = .ok (.iconst 2, 1) := by decide +kernel
theorem dL_law_500 : decode cL_law 500 = .ok (.iadd, 1) := by decide +kernel
theorem dL_law_501 : decode cL_law 501 = .ok (.iaload, 1) := by decide +kernel
theorem dL_law_502 : decode cL_law 502 = .ok (.aload_n 0, 1) := by decide +kernel
theorem dL_law_503 : decode cL_law 503 = .ok (.iload_n 3, 1) := by decide +kernel
theorem dL_law_504 : decode cL_law 504 = .ok (.iconst 3, 1) := by decide +kernel
theorem dL_law_505 : decode cL_law 505 = .ok (.iadd, 1) := by decide +kernel
theorem dL_law_506 : decode cL_law 506 = .ok (.iaload, 1) := by decide +kernel
theorem dL_law_507 : decode cL_law 507 = .ok (.invokevirtual 63, 3) := by decide +kernel
theorem dL_law_510 : decode cL_law 510 = .ok (.aload_n 2, 1) := by decide +kernel
theorem dL_law_511 : decode cL_law 511 = .ok (.aload_n 0, 1) := by decide +kernel
theorem dL_law_512 : decode cL_law 512 = .ok (.iload_n 3, 1) := by decide +kernel
theorem dL_law_513 : decode cL_law 513 = .ok (.iconst 1, 1) := by decide +kernel
theorem dL_law_514 : decode cL_law 514 = .ok (.iadd, 1) := by decide +kernel
theorem dL_law_515 : decode cL_law 515 = .ok (.iaload, 1) := by decide +kernel
theorem dL_law_516 : decode cL_law 516 = .ok (.aload_n 0, 1) := by decide +kernel
theorem dL_law_517 : decode cL_law 517 = .ok (.iload_n 3, 1) := by decide +kernel
theorem dL_law_518 : decode cL_law 518 = .ok (.iconst 2, 1) := by decide +kernel
theorem dL_law_519 : decode cL_law 519 = .ok (.iadd, 1) := by decide +kernel
theorem dL_law_520 : decode cL_law 520 = .ok (.iaload, 1) := by decide +kernel
theorem dL_law_521 : decode cL_law 521 = .ok (.aload_n 0, 1) := by decide +kernel
theorem dL_law_522 : decode cL_law 522 = .ok (.iload_n 3, 1) := by decide +kernel
theorem dL_law_523 : decode cL_law 523 = .ok (.iconst 3, 1) := by decide +kernel
theorem dL_law_524 : decode cL_law 524 = .ok (.iadd, 1) := by decide +kernel
theorem dL_law_525 : decode cL_law 525 = .ok (.iaload, 1) := by decide +kernel
theorem dL_law_526 : decode cL_law 526 = .ok (.invokevirtual 66, 3) := by decide +kernel
theorem dL_law_529 : decode cL_law 529 = .ok (.if_icmp .eq 552, 3) := by decide +kernel
theorem dL_law_532 : decode cL_law 532 = .ok (.iconst 0, 1) := by decide +kernel
theorem dL_law_533 : decode cL_law 533 = .ok (.ireturn, 1) := by decide +kernel
theorem dL_law_534 : decode cL_law 534 = .ok (.aload_n 1, 1) := by decide +kernel
theorem dL_law_535 : decode cL_law 535 = .ok (.aload_n 0, 1) := by decide +kernel
theorem dL_law_536 : decode cL_law 536 = .ok (.iload_n 3, 1) := by decide +kernel
theorem dL_law_537 : decode cL_law 537 = .ok (.iconst 1, 1) := by decide +kernel
theorem dL_law_538 : decode cL_law 538 = .ok (.iadd, 1) := by decide +kernel
theorem dL_law_539 : decode cL_law 539 = .ok (.iaload, 1) := by decide +kernel
theorem dL_law_540 : decode cL_law 540 = .ok (.invokevirtual 67, 3) := by decide +kernel
theorem dL_law_543 : decode cL_law 543 = .ok (.aload_n 2, 1) := by decide +kernel
theorem dL_law_544 : decode cL_law 544 = .ok (.aload_n 0, 1) := by decide +kernel
theorem dL_law_545 : decode cL_law 545 = .ok (.iload_n 3, 1) := by decide +kernel
theorem dL_law_546 : decode cL_law 546 = .ok (.iconst 1, 1) := by decide +kernel
theorem dL_law_547 : decode cL_law 547 = .ok (.iadd, 1) := by decide +kernel
theorem dL_law_548 : decode cL_law 548 = .ok (.iaload, 1) := by decide +kernel
theorem dL_law_549 : decode cL_law 549 = .ok (.invokevirtual 70, 3) := by decide +kernel
theorem dL_law_552 : decode cL_law 552 = .ok (.if_icmp .eq 529, 3) := by decide +kernel
theorem dL_law_555 : decode cL_law 555 = .ok (.iconst 0, 1) := by decide +kernel
theorem dL_law_556 : decode cL_law 556 = .ok (.ireturn, 1) := by decide +kernel
theorem dL_law_557 : decode cL_law 557 = .ok (.aload_n 1, 1) := by decide +kernel
theorem dL_law_558 : decode cL_law 558 = .ok (.aload_n 0, 1) := by decide +kernel
theorem dL_law_559 : decode cL_law 559 = .ok (.iload_n 3, 1) := by decide +kernel
theorem dL_law_560 : decode cL_law 560 = .ok (.iconst 1, 1) := by decide +kernel
theorem dL_law_561 : decode cL_law 561 = .ok (.iadd, 1) := by decide +kernel
theorem dL_law_562 : decode cL_law 562 = .ok (.iaload, 1) := by decide +kernel
theorem dL_law_563 : decode cL_law 563 = .ok (.aload_n 0, 1) := by decide +kernel
theorem dL_law_564 : decode cL_law 564 = .ok (.iload_n 3, 1) := by decide +kernel
theorem dL_law_565 : decode cL_law 565 = .ok (.iconst 2, 1) := by decide +kernel
theorem dL_law_566 : decode cL_law 566 = .ok (.iadd, 1) := by decide +kernel
theorem dL_law_567 : decode cL_law 567 = .ok (.iaload, 1) := by decide +kernel
theorem dL_law_568 : decode cL_law 568 = .ok (.invokevirtual 71, 3) := by decide +kernel
theorem dL_law_571 : decode cL_law 571 = .ok (.aload_n 2, 1) := by decide +kernel
theorem dL_law_572 : decode cL_law 572 = .ok (.aload_n 0, 1) := by decide +kernel
theorem dL_law_573 : decode cL_law 573 = .ok (.iload_n 3, 1) := by decide +kernel
theorem dL_law_574 : decode cL_law 574 = .ok (.iconst 1, 1) := by decide +kernel
theorem dL_law_575 : decode cL_law 575 = .ok (.iadd, 1) := by decide +kernel
theorem dL_law_576 : decode cL_law 576 = .ok (.iaload, 1) := by decide +kernel
theorem dL_law_577 : decode cL_law 577 = .ok (.aload_n 0, 1) := by decide +kernel
theorem dL_law_578 : decode cL_law 578 = .ok (.iload_n 3, 1) := by decide +kernel
theorem dL_law_579 : decode cL_law 579 = .ok (.iconst 2, 1) := by decide +kernel
theorem dL_law_580 : decode cL_law 580 = .ok (.iadd, 1) := by decide +kernel
theorem dL_law_581 : decode cL_law 581 = .ok (.iaload, 1) := by decide +kernel
theorem dL_law_582 : decode cL_law 582 = .ok (.invokevirtual 74, 3) := by decide +kernel
theorem dL_law_585 : decode cL_law 585 = .ok (.if_icmp .eq 496, 3) := by decide +kernel
theorem dL_law_588 : decode cL_law 588 = .ok (.iconst 0, 1) := by decide +kernel
theorem dL_law_589 : decode cL_law 589 = .ok (.ireturn, 1) := by decide +kernel
theorem dL_law_590 : decode cL_law 590 = .ok (.aload_n 1, 1) := by decide +kernel
theorem dL_law_591 : decode cL_law 591 = .ok (.aload_n 0, 1) := by decide +kernel
theorem dL_law_592 : decode cL_law 592 = .ok (.iload_n 3, 1) := by decide +kernel
theorem dL_law_593 : decode cL_law 593 = .ok (.iconst 1, 1) := by decide +kernel
theorem dL_law_594 : decode cL_law 594 = .ok (.iadd, 1) := by decide +kernel
theorem dL_law_595 : decode cL_law 595 = .ok (.iaload, 1) := by decide +kernel
theorem dL_law_596 : decode cL_law 596 = .ok (.invokevirtual 75, 3) := by decide +kernel
theorem dL_law_599 : decode cL_law 599 = .ok (.aload_n 2, 1) := by decide +kernel
theorem dL_law_600 : decode cL_law 600 = .ok (.aload_n 0, 1) := by decide +kernel
theorem dL_law_601 : decode cL_law 601 = .ok (.iload_n 3, 1) := by decide +kernel
theorem dL_law_602 : decode cL_law 602 = .ok (.iconst 1, 1) := by decide +kernel
theorem dL_law_603 : decode cL_law 603 = .ok (.iadd, 1) := by decide +kernel
theorem dL_law_604 : decode cL_law 604 = .ok (.iaload, 1) := by decide +kernel
theorem dL_law_605 : decode cL_law 605 = .ok (.invokevirtual 78, 3) := by decide +kernel
theorem dL_law_608 : decode cL_law 608 = .ok (.if_icmp .eq 473, 3) := by decide +kernel
theorem dL_law_611 : decode cL_law 611 = .ok (.iconst 0, 1) := by decide +kernel
theorem dL_law_612 : decode cL_law 612 = .ok (.ireturn, 1) := by decide +kernel
theorem dL_law_613 : decode cL_law 613 = .ok (.aload_n 1, 1) := by decide +kernel
theorem dL_law_614 : decode cL_law 614 = .ok (.aload_n 0, 1) := by decide +kernel
theorem dL_law_615 : decode cL_law 615 = .ok (.iload_n 3, 1) := by decide +kernel
theorem dL_law_616 : decode cL_law 616 = .ok (.iconst 1, 1) := by decide +kernel
theorem dL_law_617 : decode cL_law 617 = .ok (.iadd, 1) := by decide +kernel
theorem dL_law_618 : decode cL_law 618 = .ok (.iaload, 1) := by decide +kernel
theorem dL_law_619 : decode cL_law 619 = .ok (.aload_n 0, 1) := by decide +kernel
theorem dL_law_620 : decode cL_law 620 = .ok (.iload_n 3, 1) := by decide +kernel
theorem dL_law_621 : decode cL_law 621 = .ok (.iconst 2, 1) := by decide +kernel
theorem dL_law_622 : decode cL_law 622 = .ok (.iadd, 1) := by decide +kernel
theorem dL_law_623 : decode cL_law 623 = .ok (.iaload, 1) := by decide +kernel
theorem dL_law_624 : decode cL_law 624 = .ok (.aload_n 0, 1) := by decide +kernel
theorem dL_law_625 : decode cL_law 625 = .ok (.iload_n 3, 1) := by decide +kernel
theorem dL_law_626 : decode cL_law 626 = .ok (.iconst 3, 1) := by decide +kernel
theorem dL_law_627 : decode cL_law 627 = .ok (.iadd, 1) := by decide +kernel
theorem dL_law_628 : decode cL_law 628 = .ok (.iaload, 1) := by decide +kernel
theorem dL_law_629 : decode cL_law 629 = .ok (.invokevirtual 79, 3) := by decide +kernel
theorem dL_law_632 : decode cL_law 632 = .ok (.aload_n 2, 1) := by decide +kernel
theorem dL_law_633 : decode cL_law 633 = .ok (.aload_n 0, 1) := by decide +kernel
theorem dL_law_634 : decode cL_law 634 = .ok (.iload_n 3, 1) := by decide +kernel
theorem dL_law_635 : decode cL_law 635 = .ok (.iconst 1, 1) := by decide +kernel
theorem dL_law_636 : decode cL_law 636 = .ok (.iadd, 1) := by decide +kernel
theorem dL_law_637 : decode cL_law 637 = .ok (.iaload, 1) := by decide +kernel
theorem dL_law_638 : decode cL_law 638 = .ok (.aload_n 0, 1) := by decide +kernel
theorem dL_law_639 : decode cL_law 639 = .ok (.iload_n 3, 1) := by decide +kernel
theorem dL_law_640 : decode cL_law 640 = .ok (.iconst 2, 1) := by decide +kernel
theorem dL_law_641 : decode cL_law 641 = .ok (.iadd, 1) := by decide +kernel
theorem dL_law_642 : decode cL_law 642 = .ok (.iaload, 1) := by decide +kernel
theorem dL_law_643 : decode cL_law 643 = .ok (.aload_n 0, 1) := by decide +kernel
theorem dL_law_644 : decode cL_law 644 = .ok (.iload_n 3, 1) := by decide +kernel
theorem dL_law_645 : decode cL_law 645 = .ok (.iconst 3, 1) := by decide +kernel
theorem dL_law_646 : decode cL_law 646 = .ok (.iadd, 1) := by decide +kernel
theorem dL_law_647 : decode cL_law 647 = .ok (.iaload, 1) := by decide +kernel
theorem dL_law_648 : decode cL_law 648 = .ok (.invokevirtual 82, 3) := by decide +kernel
theorem dL_law_651 : decode cL_law 651 = .ok (.if_icmp .eq 430, 3) := by decide +kernel
theorem dL_law_654 : decode cL_law 654 = .ok (.iconst 0, 1) := by decide +kernel
theorem dL_law_655 : decode cL_law 655 = .ok (.ireturn, 1) := by decide +kernel
theorem dL_law_656 : decode cL_law 656 = .ok (.aload_n 1, 1) := by decide +kernel
theorem dL_law_657 : decode cL_law 657 = .ok (.aload_n 0, 1) := by decide +kernel
theorem dL_law_658 : decode cL_law 658 = .ok (.iload_n 3, 1) := by decide +kernel
theorem dL_law_659 : decode cL_law 659 = .ok (.iconst 1, 1) := by decide +kernel
theorem dL_law_660 : decode cL_law 660 = .ok (.iadd, 1) := by decide +kernel
theorem dL_law_661 : decode cL_law 661 = .ok (.iaload, 1) := by decide +kernel
theorem dL_law_662 : decode cL_law 662 = .ok (.aload_n 0, 1) := by decide +kernel
theorem dL_law_663 : decode cL_law 663 = .ok (.iload_n 3, 1) := by decide +kernel
theorem dL_law_664 : decode cL_law 664 = .ok (.iconst 2, 1) := by decide +kernel
theorem dL_law_665 : decode cL_law 665 = .ok (.iadd, 1) := by decide +kernel
theorem dL_law_666 : decode cL_law 666 = .ok (.iaload, 1) := by decide +kernel
theorem dL_law_667 : decode cL_law 667 = .ok (.invokevirtual 83, 3) := by decide +kernel
theorem dL_law_670 : decode cL_law 670 = .ok (.aload_n 2, 1) := by decide +kernel
theorem dL_law_671 : decode cL_law 671 = .ok (.aload_n 0, 1) := by decide +kernel
theorem dL_law_672 : decode cL_law 672 = .ok (.iload_n 3, 1) := by decide +kernel
theorem dL_law_673 : decode cL_law 673 = .ok (.iconst 1, 1) := by decide +kernel
theorem dL_law_674 : decode cL_law 674 = .ok (.iadd, 1) := by decide +kernel
theorem dL_law_675 : decode cL_law 675 = .ok (.iaload, 1) := by decide +kernel
theorem dL_law_676 : decode cL_law 676 = .ok (.aload_n 0, 1) := by decide +kernel
theorem dL_law_677 : decode cL_law 677 = .ok (.iload_n 3, 1) := by decide +kernel
theorem dL_law_678 : decode cL_law 678 = .ok (.iconst 2, 1) := by decide +kernel
theorem dL_law_679 : decode cL_law 679 = .ok (.iadd, 1) := by decide +kernel
theorem dL_law_680 : decode cL_law 680 = .ok (.iaload, 1) := by decide +kernel
theorem dL_law_681 : decode cL_law 681 = .ok (.invokevirtual 86, 3) := by decide +kernel
theorem dL_law_684 : decode cL_law 684 = .ok (.if_icmp .eq 397, 3) := by decide +kernel
theorem dL_law_687 : decode cL_law 687 = .ok (.iconst 0, 1) := by decide +kernel
theorem dL_law_688 : decode cL_law 688 = .ok (.ireturn, 1) := by decide +kernel
theorem dL_law_689 : decode cL_law 689 = .ok (.aload_n 1, 1) := by decide +kernel
theorem dL_law_690 : decode cL_law 690 = .ok (.aload_n 0, 1) := by decide +kernel
theorem dL_law_691 : decode cL_law 691 = .ok (.iload_n 3, 1) := by decide +kernel
theorem dL_law_692 : decode cL_law 692 = .ok (.iconst 1, 1) := by decide +kernel
theorem dL_law_693 : decode cL_law 693 = .ok (.iadd, 1) := by decide +kernel
theorem dL_law_694 : decode cL_law 694 = .ok (.iaload, 1) := by decide +kernel
theorem dL_law_695 : decode cL_law 695 = .ok (.aload_n 0, 1) := by decide +kernel
theorem dL_law_696 : decode cL_law 696 = .ok (.iload_n 3, 1) := by decide +kernel
theorem dL_law_697 : decode cL_law 697 = .ok (.iconst 2, 1) := by decide +kernel
theorem dL_law_698 : decode cL_law 698 = .ok (.iadd, 1) := by decide +kernel
theorem dL_law_699 : decode cL_law 699 = .ok (.iaload, 1) := by decide +kernel
theorem dL_law_700 : decode cL_law 700 = .ok (.ifCond .eq 7, 3) := by decide +kernel
theorem dL_law_703 : decode cL_law 703 = .ok (.iconst 1, 1) := by decide +kernel
theorem dL_law_704 : decode cL_law 704 = .ok (.goto 4, 3) := by decide +kernel
theorem dL_law_707 : decode cL_law 707 = .ok (.iconst 0, 1) := by decide +kernel
theorem dL_law_708 : decode cL_law 708 = .ok (.invokevirtual 87, 3) := by decide +kernel
theorem dL_law_711 : decode cL_law 711 = .ok (.aload_n 2, 1) := by decide +kernel
theorem dL_law_712 : decode cL_law 712 = .ok (.aload_n 0, 1) := by decide +kernel
theorem dL_law_713 : decode cL_law 713 = .ok (.iload_n 3, 1) := by decide +kernel
theorem dL_law_714 : decode cL_law 714 = .ok (.iconst 1, 1) := by decide +kernel
theorem dL_law_715 : decode cL_law 715 = .ok (.iadd, 1) := by decide +kernel
theorem dL_law_716 : decode cL_law 716 = .ok (.iaload, 1) := by decide +kernel
theorem dL_law_717 : decode cL_law 717 = .ok (.aload_n 0, 1) := by decide +kernel
theorem dL_law_718 : decode cL_law 718 = .ok (.iload_n 3, 1) := by decide +kernel
theorem dL_law_719 : decode cL_law 719 = .ok (.iconst 2, 1) := by decide +kernel
theorem dL_law_720 : decode cL_law 720 = .ok (.iadd, 1) := by decide +kernel
theorem dL_law_721 : decode cL_law 721 = .ok (.iaload, 1) := by decide +kernel
theorem dL_law_722 : decode cL_law 722 = .ok (.ifCond .eq 7, 3) := by decide +kernel
theorem dL_law_725 : decode cL_law 725 = .ok (.iconst 1, 1) := by decide +kernel
theorem dL_law_726 : decode cL_law 726 = .ok (.goto 4, 3) := by decide +kernel
theorem dL_law_729 : decode cL_law 729 = .ok (.iconst 0, 1) := by decide +kernel
theorem dL_law_730 : decode cL_law 730 = .ok (.invokevirtual 91, 3) := by decide +kernel
theorem dL_law_733 : decode cL_law 733 = .ok (.if_icmp .eq 348, 3) := by decide +kernel
theorem dL_law_736 : decode cL_law 736 = .ok (.iconst 0, 1) := by decide +kernel
theorem dL_law_737 : decode cL_law 737 = .ok (.ireturn, 1) := by decide +kernel
theorem dL_law_738 : decode cL_law 738 = .ok (.aload_n 1, 1) := by decide +kernel
theorem dL_law_739 : decode cL_law 739 = .ok (.invokevirtual 92, 3) := by decide +kernel
theorem dL_law_742 : decode cL_law 742 = .ok (.aload_n 2, 1) := by decide +kernel
theorem dL_law_743 : decode cL_law 743 = .ok (.invokevirtual 95, 3) := by decide +kernel
theorem dL_law_746 : decode cL_law 746 = .ok (.if_icmp .eq 335, 3) := by decide +kernel
theorem dL_law_749 : decode cL_law 749 = .ok (.iconst 0, 1) := by decide +kernel
theorem dL_law_750 : decode cL_law 750 = .ok (.ireturn, 1) := by decide +kernel
theorem dL_law_751 : decode cL_law 751 = .ok (.aload_n 1, 1) := by decide +kernel
theorem dL_law_752 : decode cL_law 752 = .ok (.invokevirtual 96, 3) := by decide +kernel
theorem dL_law_755 : decode cL_law 755 = .ok (.aload_n 2, 1) := by decide +kernel
theorem dL_law_756 : decode cL_law 756 = .ok (.invokevirtual 99, 3) := by decide +kernel
theorem dL_law_759 : decode cL_law 759 = .ok (.if_icmp .eq 322, 3) := by decide +kernel
theorem dL_law_762 : decode cL_law 762 = .ok (.iconst 0, 1) := by decide +kernel
theorem dL_law_763 : decode cL_law 763 = .ok (.ireturn, 1) := by decide +kernel
theorem dL_law_764 : decode cL_law 764 = .ok (.aload_n 1, 1) := by decide +kernel
theorem dL_law_765 : decode cL_law 765 = .ok (.aload_n 0, 1) := by decide +kernel
theorem dL_law_766 : decode cL_law 766 = .ok (.iload_n 3, 1) := by decide +kernel
theorem dL_law_767 : decode cL_law 767 = .ok (.iconst 1, 1) := by decide +kernel
theorem dL_law_768 : decode cL_law 768 = .ok (.iadd, 1) := by decide +kernel
theorem dL_law_769 : decode cL_law 769 = .ok (.iaload, 1) := by decide +kernel
theorem dL_law_770 : decode cL_law 770 = .ok (.aload_n 0, 1) := by decide +kernel
theorem dL_law_771 : decode cL_law 771 = .ok (.iload_n 3, 1) := by decide +kernel
theorem dL_law_772 : decode cL_law 772 = .ok (.iconst 2, 1) := by decide +kernel
theorem dL_law_773 : decode cL_law 773 = .ok (.iadd, 1) := by decide +kernel
theorem dL_law_774 : decode cL_law 774 = .ok (.iaload, 1) := by decide +kernel
theorem dL_law_775 : decode cL_law 775 = .ok (.invokevirtual 100, 3) := by decide +kernel
theorem dL_law_778 : decode cL_law 778 = .ok (.aload_n 2, 1) := by decide +kernel
theorem dL_law_779 : decode cL_law 779 = .ok (.aload_n 0, 1) := by decide +kernel
theorem dL_law_780 : decode cL_law 780 = .ok (.iload_n 3, 1) := by decide +kernel
theorem dL_law_781 : decode cL_law 781 = .ok (.iconst 1, 1) := by decide +kernel
theorem dL_law_782 : decode cL_law 782 = .ok (.iadd, 1) := by decide +kernel
theorem dL_law_783 : decode cL_law 783 = .ok (.iaload, 1) := by decide +kernel
theorem dL_law_784 : decode cL_law 784 = .ok (.aload_n 0, 1) := by decide +kernel
theorem dL_law_785 : decode cL_law 785 = .ok (.iload_n 3, 1) := by decide +kernel
theorem dL_law_786 : decode cL_law 786 = .ok (.iconst 2, 1) := by decide +kernel
theorem dL_law_787 : decode cL_law 787 = .ok (.iadd, 1) := by decide +kernel
theorem dL_law_788 : decode cL_law 788 = .ok (.iaload, 1) := by decide +kernel
theorem dL_law_789 : decode cL_law 789 = .ok (.invokevirtual 104, 3) := by decide +kernel
theorem dL_law_792 : decode cL_law 792 = .ok (.lcmp, 1) := by decide +kernel
theorem dL_law_793 : decode cL_law 793 = .ok (.ifCond .eq 288, 3) := by decide +kernel
theorem dL_law_796 : decode cL_law 796 = .ok (.iconst 0, 1) := by decide +kernel
theorem dL_law_797 : decode cL_law 797 = .ok (.ireturn, 1) := by decide +kernel
theorem dL_law_798 : decode cL_law 798 = .ok (.aload_n 1, 1) := by decide +kernel
theorem dL_law_799 : decode cL_law 799 = .ok (.invokevirtual 105, 3) := by decide +kernel
theorem dL_law_802 : decode cL_law 802 = .ok (.aload_n 2, 1) := by decide +kernel
theorem dL_law_803 : decode cL_law 803 = .ok (.invokevirtual 108, 3) := by decide +kernel
theorem dL_law_806 : decode cL_law 806 = .ok (.if_icmp .eq 275, 3) := by decide +kernel
theorem dL_law_809 : decode cL_law 809 = .ok (.iconst 0, 1) := by decide +kernel
theorem dL_law_810 : decode cL_law 810 = .ok (.ireturn, 1) := by decide +kernel
theorem dL_law_811 : decode cL_law 811 = .ok (.aload_n 1, 1) := by decide +kernel
theorem dL_law_812 : decode cL_law 812 = .ok (.invokevirtual 109, 3) := by decide +kernel
theorem dL_law_815 : decode cL_law 815 = .ok (.aload_n 2, 1) := by decide +kernel
theorem dL_law_816 : decode cL_law 816 = .ok (.invokevirtual 112, 3) := by decide +kernel
theorem dL_law_819 : decode cL_law 819 = .ok (.if_icmp .eq 262, 3) := by decide +kernel
theorem dL_law_822 : decode cL_law 822 = .ok (.iconst 0, 1) := by decide +kernel
theorem dL_law_823 : decode cL_law 823 = .ok (.ireturn, 1) := by decide +kernel
theorem dL_law_824 : decode cL_law 824 = .ok (.aload_n 1, 1) := by decide +kernel
theorem dL_law_825 : decode cL_law 825 = .ok (.aload_n 0, 1) := by decide +kernel
theorem dL_law_826 : decode cL_law 826 = .ok (.iload_n 3, 1) := by decide +kernel
theorem dL_law_827 : decode cL_law 827 = .ok (.iconst 1, 1) := by decide +kernel
theorem dL_law_828 : decode cL_law 828 = .ok (.iadd, 1) := by decide +kernel
theorem dL_law_829 : decode cL_law 829 = .ok (.iaload, 1) := by decide +kernel
theorem dL_law_830 : decode cL_law 830 = .ok (.aload_n 0, 1) := by decide +kernel
theorem dL_law_831 : decode cL_law 831 = .ok (.iload_n 3, 1) := by decide +kernel
theorem dL_law_832 : decode cL_law 832 = .ok (.iconst 2, 1) := by decide +kernel
theorem dL_law_833 : decode cL_law 833 = .ok (.iadd, 1) := by decide +kernel
theorem dL_law_834 : decode cL_law 834 = .ok (.iaload, 1) := by decide +kernel
theorem dL_law_835 : decode cL_law 835 = .ok (.invokevirtual 113, 3) := by decide +kernel
theorem dL_law_838 : decode cL_law 838 = .ok (.aload_n 2, 1) := by decide +kernel
theorem dL_law_839 : decode cL_law 839 = .ok (.aload_n 0, 1) := by decide +kernel
theorem dL_law_840 : decode cL_law 840 = .ok (.iload_n 3, 1) := by decide +kernel
theorem dL_law_841 : decode cL_law 841 = .ok (.iconst 1, 1) := by decide +kernel
theorem dL_law_842 : decode cL_law 842 = .ok (.iadd, 1) := by decide +kernel
theorem dL_law_843 : decode cL_law 843 = .ok (.iaload, 1) := by decide +kernel
theorem dL_law_844 : decode cL_law 844 = .ok (.aload_n 0, 1) := by decide +kernel
theorem dL_law_845 : decode cL_law 845 = .ok (.iload_n 3, 1) := by decide +kernel
theorem dL_law_846 : decode cL_law 846 = .ok (.iconst 2, 1) := by decide +kernel
theorem dL_law_847 : decode cL_law 847 = .ok (.iadd, 1) := by decide +kernel
theorem dL_law_848 : decode cL_law 848 = .ok (.iaload, 1) := by decide +kernel
theorem dL_law_849 : decode cL_law 849 = .ok (.invokevirtual 116, 3) := by decide +kernel
theorem dL_law_852 : decode cL_law 852 = .ok (.if_icmp .eq 229, 3) := by decide +kernel
theorem dL_law_855 : decode cL_law 855 = .ok (.iconst 0, 1) := by decide +kernel
theorem dL_law_856 : decode cL_law 856 = .ok (.ireturn, 1) := by decide +kernel
theorem dL_law_857 : decode cL_law 857 = .ok (.aload_n 1, 1) := by decide +kernel
theorem dL_law_858 : decode cL_law 858 = .ok (.aload_n 0, 1) := by decide +kernel
theorem dL_law_859 : decode cL_law 859 = .ok (.iload_n 3, 1) := by decide +kernel
theorem dL_law_860 : decode cL_law 860 = .ok (.iconst 1, 1) := by decide +kernel
theorem dL_law_861 : decode cL_law 861 = .ok (.iadd, 1) := by decide +kernel
theorem dL_law_862 : decode cL_law 862 = .ok (.iaload, 1) := by decide +kernel
theorem dL_law_863 : decode cL_law 863 = .ok (.invokevirtual 117, 3) := by decide +kernel
theorem dL_law_866 : decode cL_law 866 = .ok (.aload_n 2, 1) := by decide +kernel
theorem dL_law_867 : decode cL_law 867 = .ok (.aload_n 0, 1) := by decide +kernel
theorem dL_law_868 : decode cL_law 868 = .ok (.iload_n 3, 1) := by decide +kernel
theorem dL_law_869 : decode cL_law 869 = .ok (.iconst 1, 1) := by decide +kernel
theorem dL_law_870 : decode cL_law 870 = .ok (.iadd, 1) := by decide +kernel
theorem dL_law_871 : decode cL_law 871 = .ok (.iaload, 1) := by decide +kernel
theorem dL_law_872 : decode cL_law 872 = .ok (.invokevirtual 120, 3) := by decide +kernel
theorem dL_law_875 : decode cL_law 875 = .ok (.if_icmp .eq 206, 3) := by decide +kernel
theorem dL_law_878 : decode cL_law 878 = .ok (.iconst 0, 1) := by decide +kernel
theorem dL_law_879 : decode cL_law 879 = .ok (.ireturn, 1) := by decide +kernel
theorem dL_law_880 : decode cL_law 880 = .ok (.aload_n 1, 1) := by decide +kernel
theorem dL_law_881 : decode cL_law 881 = .ok (.aload_n 0, 1) := by decide +kernel
theorem dL_law_882 : decode cL_law 882 = .ok (.iload_n 3, 1) := by decide +kernel
theorem dL_law_883 : decode cL_law 883 = .ok (.iconst 1, 1) := by decide +kernel
theorem dL_law_884 : decode cL_law 884 = .ok (.iadd, 1) := by decide +kernel
theorem dL_law_885 : decode cL_law 885 = .ok (.iaload, 1) := by decide +kernel
theorem dL_law_886 : decode cL_law 886 = .ok (.aload_n 0, 1) := by decide +kernel
theorem dL_law_887 : decode cL_law 887 = .ok (.iload_n 3, 1) := by decide +kernel
theorem dL_law_888 : decode cL_law 888 = .ok (.iconst 2, 1) := by decide +kernel
theorem dL_law_889 : decode cL_law 889 = .ok (.iadd, 1) := by decide +kernel
theorem dL_law_890 : decode cL_law 890 = .ok (.iaload, 1) := by decide +kernel
theorem dL_law_891 : decode cL_law 891 = .ok (.invokevirtual 121, 3) := by decide +kernel
theorem dL_law_894 : decode cL_law 894 = .ok (.aload_n 2, 1) := by decide +kernel
theorem dL_law_895 : decode cL_law 895 = .ok (.aload_n 0, 1) := by decide +kernel
theorem dL_law_896 : decode cL_law 896 = .ok (.iload_n 3, 1) := by decide +kernel
theorem dL_law_897 : decode cL_law 897 = .ok (.iconst 1, 1) := by decide +kernel
theorem dL_law_898 : decode cL_law 898 = .ok (.iadd, 1) := by decide +kernel
theorem dL_law_899 : decode cL_law 899 = .ok (.iaload, 1) := by decide +kernel
theorem dL_law_900 : decode cL_law 900 = .ok (.aload_n 0, 1) := by decide +kernel
theorem dL_law_901 : decode cL_law 901 = .ok (.iload_n 3, 1) := by decide +kernel
theorem dL_law_902 : decode cL_law 902 = .ok (.iconst 2, 1) := by decide +kernel
theorem dL_law_903 : decode cL_law 903 = .ok (.iadd, 1) := by decide +kernel
theorem dL_law_904 : decode cL_law 904 = .ok (.iaload, 1) := by decide +kernel
theorem dL_law_905 : decode cL_law 905 = .ok (.invokevirtual 124, 3) := by decide +kernel
theorem dL_law_908 : decode cL_law 908 = .ok (.if_icmp .eq 173, 3) := by decide +kernel
theorem dL_law_911 : decode cL_law 911 = .ok (.iconst 0, 1) := by decide +kernel
theorem dL_law_912 : decode cL_law 912 = .ok (.ireturn, 1) := by decide +kernel
theorem dL_law_913 : decode cL_law 913 = .ok (.aload_n 1, 1) := by decide +kernel
theorem dL_law_914 : decode cL_law 914 = .ok (.aload_n 0, 1) := by decide +kernel
theorem dL_law_915 : decode cL_law 915 = .ok (.iload_n 3, 1) := by decide +kernel
theorem dL_law_916 : decode cL_law 916 = .ok (.iconst 1, 1) := by decide +kernel
theorem dL_law_917 : decode cL_law 917 = .ok (.iadd, 1) := by decide +kernel
theorem dL_law_918 : decode cL_law 918 = .ok (.iaload, 1) := by decide +kernel
theorem dL_law_919 : decode cL_law 919 = .ok (.aload_n 0, 1) := by decide +kernel
theorem dL_law_920 : decode cL_law 920 = .ok (.iload_n 3, 1) := by decide +kernel
theorem dL_law_921 : decode cL_law 921 = .ok (.iconst 2, 1) := by decide +kernel
theorem dL_law_922 : decode cL_law 922 = .ok (.iadd, 1) := by decide +kernel
theorem dL_law_923 : decode cL_law 923 = .ok (.iaload, 1) := by decide +kernel
theorem dL_law_924 : decode cL_law 924 = .ok (.invokevirtual 125, 3) := by decide +kernel
theorem dL_law_927 : decode cL_law 927 = .ok (.aload_n 2, 1) := by decide +kernel
theorem dL_law_928 : decode cL_law 928 = .ok (.aload_n 0, 1) := by decide +kernel
theorem dL_law_929 : decode cL_law 929 = .ok (.iload_n 3, 1) := by decide +kernel
theorem dL_law_930 : decode cL_law 930 = .ok (.iconst 1, 1) := by decide +kernel
theorem dL_law_931 : decode cL_law 931 = .ok (.iadd, 1) := by decide +kernel
theorem dL_law_932 : decode cL_law 932 = .ok (.iaload, 1) := by decide +kernel
theorem dL_law_933 : decode cL_law 933 = .ok (.aload_n 0, 1) := by decide +kernel
theorem dL_law_934 : decode cL_law 934 = .ok (.iload_n 3, 1) := by decide +kernel
theorem dL_law_935 : decode cL_law 935 = .ok (.iconst 2, 1) := by decide +kernel
theorem dL_law_936 : decode cL_law 936 = .ok (.iadd, 1) := by decide +kernel
theorem dL_law_937 : decode cL_law 937 = .ok (.iaload, 1) := by decide +kernel
theorem dL_law_938 : decode cL_law 938 = .ok (.invokevirtual 128, 3) := by decide +kernel
theorem dL_law_941 : decode cL_law 941 = .ok (.if_icmp .eq 140, 3) := by decide +kernel
theorem dL_law_944 : decode cL_law 944 = .ok (.iconst 0, 1) := by decide +kernel
theorem dL_law_945 : decode cL_law 945 = .ok (.ireturn, 1) := by decide +kernel
theorem dL_law_946 : decode cL_law 946 = .ok (.aload_n 1, 1) := by decide +kernel
theorem dL_law_947 : decode cL_law 947 = .ok (.aload_n 0, 1) := by decide +kernel
theorem dL_law_948 : decode cL_law 948 = .ok (.iload_n 3, 1) := by decide +kernel
theorem dL_law_949 : decode cL_law 949 = .ok (.iconst 1, 1) := by decide +kernel
theorem dL_law_950 : decode cL_law 950 = .ok (.iadd, 1) := by decide +kernel
theorem dL_law_951 : decode cL_law 951 = .ok (.iaload, 1) := by decide +kernel
theorem dL_law_952 : decode cL_law 952 = .ok (.aload_n 0, 1) := by decide +kernel
theorem dL_law_953 : decode cL_law 953 = .ok (.iload_n 3, 1) := by decide +kernel
theorem dL_law_954 : decode cL_law 954 = .ok (.iconst 2, 1) := by decide +kernel
theorem dL_law_955 : decode cL_law 955 = .ok (.iadd, 1) := by decide +kernel
theorem dL_law_956 : decode cL_law 956 = .ok (.iaload, 1) := by decide +kernel
theorem dL_law_957 : decode cL_law 957 = .ok (.aload_n 0, 1) := by decide +kernel
theorem dL_law_958 : decode cL_law 958 = .ok (.iload_n 3, 1) := by decide +kernel
theorem dL_law_959 : decode cL_law 959 = .ok (.iconst 3, 1) := by decide +kernel
theorem dL_law_960 : decode cL_law 960 = .ok (.iadd, 1) := by decide +kernel
theorem dL_law_961 : decode cL_law 961 = .ok (.iaload, 1) := by decide +kernel
theorem dL_law_962 : decode cL_law 962 = .ok (.invokevirtual 129, 3) := by decide +kernel
theorem dL_law_965 : decode cL_law 965 = .ok (.aload_n 2, 1) := by decide +kernel
theorem dL_law_966 : decode cL_law 966 = .ok (.aload_n 0, 1) := by decide +kernel
theorem dL_law_967 : decode cL_law 967 = .ok (.iload_n 3, 1) := by decide +kernel
theorem dL_law_968 : decode cL_law 968 = .ok (.iconst 1, 1) := by decide +kernel
theorem dL_law_969 : decode cL_law 969 = .ok (.iadd, 1) := by decide +kernel
theorem dL_law_970 : decode cL_law 970 = .ok (.iaload, 1) := by decide +kernel
theorem dL_law_971 : decode cL_law 971 = .ok (.aload_n 0, 1) := by decide +kernel
theorem dL_law_972 : decode cL_law 972 = .ok (.iload_n 3, 1) := by decide +kernel
theorem dL_law_973 : decode cL_law 973 = .ok (.iconst 2, 1) := by decide +kernel
theorem dL_law_974 : decode cL_law 974 = .ok (.iadd, 1) := by decide +kernel
theorem dL_law_975 : decode cL_law 975 = .ok (.iaload, 1) := by decide +kernel
theorem dL_law_976 : decode cL_law 976 = .ok (.aload_n 0, 1) := by decide +kernel
theorem dL_law_977 : decode cL_law 977 = .ok (.iload_n 3, 1) := by decide +kernel
theorem dL_law_978 : decode cL_law 978 = .ok (.iconst 3, 1) := by decide +kernel
theorem dL_law_979 : decode cL_law 979 = .ok (.iadd, 1) := by decide +kernel
theorem dL_law_980 : decode cL_law 980 = .ok (.iaload, 1) := by decide +kernel
theorem dL_law_981 : decode cL_law 981 = .ok (.invokevirtual 132, 3) := by decide +kernel
theorem dL_law_984 : decode cL_law 984 = .ok (.if_icmp .eq 97, 3) := by decide +kernel
theorem dL_law_987 : decode cL_law 987 = .ok (.iconst 0, 1) := by decide +kernel
theorem dL_law_988 : decode cL_law 988 = .ok (.ireturn, 1) := by decide +kernel
theorem dL_law_989 : decode cL_law 989 = .ok (.aload_n 1, 1) := by decide +kernel
theorem dL_law_990 : decode cL_law 990 = .ok (.aload_n 0, 1) := by decide +kernel
theorem dL_law_991 : decode cL_law 991 = .ok (.iload_n 3, 1) := by decide +kernel
theorem dL_law_992 : decode cL_law 992 = .ok (.iconst 1, 1) := by decide +kernel
theorem dL_law_993 : decode cL_law 993 = .ok (.iadd, 1) := by decide +kernel
theorem dL_law_994 : decode cL_law 994 = .ok (.iaload, 1) := by decide +kernel
theorem dL_law_995 : decode cL_law 995 = .ok (.invokevirtual 133, 3) := by decide +kernel
theorem dL_law_998 : decode cL_law 998 = .ok (.aload_n 2, 1) := by decide +kernel
theorem dL_law_999 : decode cL_law 999 = .ok (.aload_n 0, 1) := by decide +kernel
theorem dL_law_1000 : decode cL_law 1000 = .ok (.iload_n 3, 1) := by decide +kernel
theorem dL_law_1001 : decode cL_law 1001 = .ok (.iconst 1, 1) := by decide +kernel
theorem dL_law_1002 : decode cL_law 1002 = .ok (.iadd, 1) := by decide +kernel
theorem dL_law_1003 : decode cL_law 1003 = .ok (.iaload, 1) := by decide +kernel
theorem dL_law_1004 : decode cL_law 1004 = .ok (.invokevirtual 136, 3) := by decide +kernel
theorem dL_law_1007 : decode cL_law 1007 = .ok (.if_icmp .eq 74, 3) := by decide +kernel
theorem dL_law_1010 : decode cL_law 1010 = .ok (.iconst 0, 1) := by decide +kernel
theorem dL_law_1011 : decode cL_law 1011 = .ok (.ireturn, 1) := by decide +kernel
theorem dL_law_1012 : decode cL_law 1012 = .ok (.aload_n 1, 1) := by decide +kernel
theorem dL_law_1013 : decode cL_law 1013 = .ok (.aload_n 0, 1) := by decide +kernel
theorem dL_law_1014 : decode cL_law 1014 = .ok (.iload_n 3, 1) := by decide +kernel
theorem dL_law_1015 : decode cL_law 1015 = .ok (.iconst 1, 1) := by decide +kernel
theorem dL_law_1016 : decode cL_law 1016 = .ok (.iadd, 1) := by decide +kernel
theorem dL_law_1017 : decode cL_law 1017 = .ok (.iaload, 1) := by decide +kernel
theorem dL_law_1018 : decode cL_law 1018 = .ok (.invokevirtual 137, 3) := by decide +kernel
theorem dL_law_1021 : decode cL_law 1021 = .ok (.aload_n 2, 1) := by decide +kernel
theorem dL_law_1022 : decode cL_law 1022 = .ok (.aload_n 0, 1) := by decide +kernel
theorem dL_law_1023 : decode cL_law 1023 = .ok (.iload_n 3, 1) := by decide +kernel
theorem dL_law_1024 : decode cL_law 1024 = .ok (.iconst 1, 1) := by decide +kernel
theorem dL_law_1025 : decode cL_law 1025 = .ok (.iadd, 1) := by decide +kernel
theorem dL_law_1026 : decode cL_law 1026 = .ok (.iaload, 1) := by decide +kernel
theorem dL_law_1027 : decode cL_law 1027 = .ok (.invokevirtual 140, 3) := by decide +kernel
theorem dL_law_1030 : decode cL_law 1030 = .ok (.if_icmp .eq 51, 3) := by decide +kernel
theorem dL_law_1033 : decode cL_law 1033 = .ok (.iconst 0, 1) := by decide +kernel
theorem dL_law_1034 : decode cL_law 1034 = .ok (.ireturn, 1) := by decide +kernel
theorem dL_law_1035 : decode cL_law 1035 = .ok (.aload_n 1, 1) := by decide +kernel
theorem dL_law_1036 : decode cL_law 1036 = .ok (.aload_n 0, 1) := by decide +kernel
theorem dL_law_1037 : decode cL_law 1037 = .ok (.iload_n 3, 1) := by decide +kernel
theorem dL_law_1038 : decode cL_law 1038 = .ok (.iconst 1, 1) := by decide +kernel
theorem dL_law_1039 : decode cL_law 1039 = .ok (.iadd, 1) := by decide +kernel
theorem dL_law_1040 : decode cL_law 1040 = .ok (.iaload, 1) := by decide +kernel
theorem dL_law_1041 : decode cL_law 1041 = .ok (.invokevirtual 141, 3) := by decide +kernel
theorem dL_law_1044 : decode cL_law 1044 = .ok (.aload_n 2, 1) := by decide +kernel
theorem dL_law_1045 : decode cL_law 1045 = .ok (.aload_n 0, 1) := by decide +kernel
theorem dL_law_1046 : decode cL_law 1046 = .ok (.iload_n 3, 1) := by decide +kernel
theorem dL_law_1047 : decode cL_law 1047 = .ok (.iconst 1, 1) := by decide +kernel
theorem dL_law_1048 : decode cL_law 1048 = .ok (.iadd, 1) := by decide +kernel
theorem dL_law_1049 : decode cL_law 1049 = .ok (.iaload, 1) := by decide +kernel
theorem dL_law_1050 : decode cL_law 1050 = .ok (.invokevirtual 144, 3) := by decide +kernel
theorem dL_law_1053 : decode cL_law 1053 = .ok (.if_icmp .eq 28, 3) := by decide +kernel
theorem dL_law_1056 : decode cL_law 1056 = .ok (.iconst 0, 1) := by decide +kernel
theorem dL_law_1057 : decode cL_law 1057 = .ok (.ireturn, 1) := by decide +kernel
theorem dL_law_1058 : decode cL_law 1058 = .ok (.aload_n 1, 1) := by decide +kernel
theorem dL_law_1059 : decode cL_law 1059 = .ok (.aload_n 0, 1) := by decide +kernel
theorem dL_law_1060 : decode cL_law 1060 = .ok (.iload_n 3, 1) := by decide +kernel
theorem dL_law_1061 : decode cL_law 1061 = .ok (.iconst 1, 1) := by decide +kernel
theorem dL_law_1062 : decode cL_law 1062 = .ok (.iadd, 1) := by decide +kernel
theorem dL_law_1063 : decode cL_law 1063 = .ok (.iaload, 1) := by decide +kernel
theorem dL_law_1064 : decode cL_law 1064 = .ok (.invokevirtual 145, 3) := by decide +kernel
theorem dL_law_1067 : decode cL_law 1067 = .ok (.aload_n 2, 1) := by decide +kernel
theorem dL_law_1068 : decode cL_law 1068 = .ok (.aload_n 0, 1) := by decide +kernel
theorem dL_law_1069 : decode cL_law 1069 = .ok (.iload_n 3, 1) := by decide +kernel
theorem dL_law_1070 : decode cL_law 1070 = .ok (.iconst 1, 1) := by decide +kernel
theorem dL_law_1071 : decode cL_law 1071 = .ok (.iadd, 1) := by decide +kernel
theorem dL_law_1072 : decode cL_law 1072 = .ok (.iaload, 1) := by decide +kernel
theorem dL_law_1073 : decode cL_law 1073 = .ok (.invokevirtual 148, 3) := by decide +kernel
theorem dL_law_1076 : decode cL_law 1076 = .ok (.if_icmp .eq 5, 3) := by decide +kernel
theorem dL_law_1079 : decode cL_law 1079 = .ok (.iconst 0, 1) := by decide +kernel
theorem dL_law_1080 : decode cL_law 1080 = .ok (.ireturn, 1) := by decide +kernel
theorem dL_law_1081 : decode cL_law 1081 = .ok (.iinc 3 4, 3) := by decide +kernel
theorem dL_law_1084 : decode cL_law 1084 = .ok (.goto (-1066), 3) := by decide +kernel
theorem dL_law_1087 : decode cL_law 1087 = .ok (.iconst 1, 1) := by decide +kernel
theorem dL_law_1088 : decode cL_law 1088 = .ok (.ireturn, 1) := by decide +kernel
end
