-- ===== PART A: goes FIRST, ahead of the names: the tables' words, and 'selects' of the private methods out of them =====
/-- a private method of a class that the tables say can be made, by its rows of tables_1 -/
def lw_okq (q : MethodName × Nat) : Prop := (q.1.cls ≠ "java/lang/invoke/MethodHandle" ∧ q.1.cls ≠ "java/lang/invoke/VarHandle") ∧ Cond.instantiable q.1.cls q.2 ∈ tables_1 ∧ Cond.privateMethod q.1 ∈ tables_1 ∧ Cond.instanceMethod q.1 ∈ tables_1
theorem lw_p0 : lw_okq (⟨"MayNotPause", "scriptOf", "(I)LMayNotPause$Script;"⟩, 12) := ⟨⟨by decide +kernel, by decide +kernel⟩, List.mem_of_getElem? (i := 14) (by decide +kernel), List.mem_of_getElem? (i := 292) (by decide +kernel), List.mem_of_getElem? (i := 293) (by decide +kernel)⟩
theorem lw_p1 : lw_okq (⟨"MayNotPause$Script", "settle", "()V"⟩, 4) := ⟨⟨by decide +kernel, by decide +kernel⟩, List.mem_of_getElem? (i := 22) (by decide +kernel), List.mem_of_getElem? (i := 305) (by decide +kernel), List.mem_of_getElem? (i := 306) (by decide +kernel)⟩
theorem lw_p2 : lw_okq (⟨"MayNotPause$Script", "firstFlaw", "()I"⟩, 4) := ⟨⟨by decide +kernel, by decide +kernel⟩, List.mem_of_getElem? (i := 22) (by decide +kernel), List.mem_of_getElem? (i := 309) (by decide +kernel), List.mem_of_getElem? (i := 310) (by decide +kernel)⟩
theorem lw_p3 : lw_okq (⟨"MayNotPause", "tellAnew", "()V"⟩, 12) := ⟨⟨by decide +kernel, by decide +kernel⟩, List.mem_of_getElem? (i := 14) (by decide +kernel), List.mem_of_getElem? (i := 319) (by decide +kernel), List.mem_of_getElem? (i := 320) (by decide +kernel)⟩
theorem lw_p4 : lw_okq (⟨"MayNotPause$Turn", "comeToNothing", "()V"⟩, 15) := ⟨⟨by decide +kernel, by decide +kernel⟩, List.mem_of_getElem? (i := 54) (by decide +kernel), List.mem_of_getElem? (i := 331) (by decide +kernel), List.mem_of_getElem? (i := 332) (by decide +kernel)⟩
theorem lw_p5 : lw_okq (⟨"MayNotPause$Telling", "howManyOf", "(I)I"⟩, 4) := ⟨⟨by decide +kernel, by decide +kernel⟩, List.mem_of_getElem? (i := 48) (by decide +kernel), List.mem_of_getElem? (i := 351) (by decide +kernel), List.mem_of_getElem? (i := 352) (by decide +kernel)⟩
theorem lw_p6 : lw_okq (⟨"MayNotPause", "isVerse", "(I)Z"⟩, 12) := ⟨⟨by decide +kernel, by decide +kernel⟩, List.mem_of_getElem? (i := 14) (by decide +kernel), List.mem_of_getElem? (i := 412) (by decide +kernel), List.mem_of_getElem? (i := 413) (by decide +kernel)⟩
theorem lw_p7 : lw_okq (⟨"MayNotPause$PutSearch", "attempt", "(IIIII)V"⟩, 5) := ⟨⟨by decide +kernel, by decide +kernel⟩, List.mem_of_getElem? (i := 146) (by decide +kernel), List.mem_of_getElem? (i := 471) (by decide +kernel), List.mem_of_getElem? (i := 472) (by decide +kernel)⟩
theorem lw_p8 : lw_okq (⟨"MayNotPause$PutSearch", "seekOne", "()V"⟩, 5) := ⟨⟨by decide +kernel, by decide +kernel⟩, List.mem_of_getElem? (i := 146) (by decide +kernel), List.mem_of_getElem? (i := 482) (by decide +kernel), List.mem_of_getElem? (i := 483) (by decide +kernel)⟩
theorem lw_p9 : lw_okq (⟨"MayNotPause$PutSearch", "seekTwo", "()V"⟩, 5) := ⟨⟨by decide +kernel, by decide +kernel⟩, List.mem_of_getElem? (i := 146) (by decide +kernel), List.mem_of_getElem? (i := 486) (by decide +kernel), List.mem_of_getElem? (i := 487) (by decide +kernel)⟩
theorem lw_p10 : lw_okq (⟨"MayNotPause$OrderSearch", "keep", "()V"⟩, 9) := ⟨⟨by decide +kernel, by decide +kernel⟩, List.mem_of_getElem? (i := 169) (by decide +kernel), List.mem_of_getElem? (i := 510) (by decide +kernel), List.mem_of_getElem? (i := 511) (by decide +kernel)⟩
theorem lw_p11 : lw_okq (⟨"MayNotPause$OrderSearch", "mayBeBest", "()Z"⟩, 9) := ⟨⟨by decide +kernel, by decide +kernel⟩, List.mem_of_getElem? (i := 169) (by decide +kernel), List.mem_of_getElem? (i := 516) (by decide +kernel), List.mem_of_getElem? (i := 517) (by decide +kernel)⟩
theorem lw_p12 : lw_okq (⟨"MayNotPause", "sixteenths", "(I)I"⟩, 12) := ⟨⟨by decide +kernel, by decide +kernel⟩, List.mem_of_getElem? (i := 14) (by decide +kernel), List.mem_of_getElem? (i := 538) (by decide +kernel), List.mem_of_getElem? (i := 539) (by decide +kernel)⟩
theorem lw_p13 : lw_okq (⟨"MayNotPause", "errorsBy", "(II)I"⟩, 12) := ⟨⟨by decide +kernel, by decide +kernel⟩, List.mem_of_getElem? (i := 14) (by decide +kernel), List.mem_of_getElem? (i := 554) (by decide +kernel), List.mem_of_getElem? (i := 555) (by decide +kernel)⟩
theorem lw_p14 : lw_okq (⟨"MayNotPause", "bestLine", "()I"⟩, 12) := ⟨⟨by decide +kernel, by decide +kernel⟩, List.mem_of_getElem? (i := 14) (by decide +kernel), List.mem_of_getElem? (i := 558) (by decide +kernel), List.mem_of_getElem? (i := 559) (by decide +kernel)⟩
theorem lw_p15 : lw_okq (⟨"MayNotPause", "found", "(I)I"⟩, 12) := ⟨⟨by decide +kernel, by decide +kernel⟩, List.mem_of_getElem? (i := 14) (by decide +kernel), List.mem_of_getElem? (i := 598) (by decide +kernel), List.mem_of_getElem? (i := 599) (by decide +kernel)⟩
def lw_privs_1 : List (MethodName × Nat) := [(⟨"MayNotPause", "scriptOf", "(I)LMayNotPause$Script;"⟩, 12), (⟨"MayNotPause$Script", "settle", "()V"⟩, 4), (⟨"MayNotPause$Script", "firstFlaw", "()I"⟩, 4), (⟨"MayNotPause", "tellAnew", "()V"⟩, 12), (⟨"MayNotPause$Turn", "comeToNothing", "()V"⟩, 15), (⟨"MayNotPause$Telling", "howManyOf", "(I)I"⟩, 4), (⟨"MayNotPause", "isVerse", "(I)Z"⟩, 12), (⟨"MayNotPause$PutSearch", "attempt", "(IIIII)V"⟩, 5), (⟨"MayNotPause$PutSearch", "seekOne", "()V"⟩, 5), (⟨"MayNotPause$PutSearch", "seekTwo", "()V"⟩, 5), (⟨"MayNotPause$OrderSearch", "keep", "()V"⟩, 9), (⟨"MayNotPause$OrderSearch", "mayBeBest", "()Z"⟩, 9), (⟨"MayNotPause", "sixteenths", "(I)I"⟩, 12), (⟨"MayNotPause", "errorsBy", "(II)I"⟩, 12), (⟨"MayNotPause", "bestLine", "()I"⟩, 12), (⟨"MayNotPause", "found", "(I)I"⟩, 12)]
theorem lw_r1 : ∀ q ∈ lw_privs_1, lw_okq q := List.forall_mem_cons.mpr ⟨lw_p0, List.forall_mem_cons.mpr ⟨lw_p1, List.forall_mem_cons.mpr ⟨lw_p2, List.forall_mem_cons.mpr ⟨lw_p3, List.forall_mem_cons.mpr ⟨lw_p4, List.forall_mem_cons.mpr ⟨lw_p5, List.forall_mem_cons.mpr ⟨lw_p6, List.forall_mem_cons.mpr ⟨lw_p7, List.forall_mem_cons.mpr ⟨lw_p8, List.forall_mem_cons.mpr ⟨lw_p9, List.forall_mem_cons.mpr ⟨lw_p10, List.forall_mem_cons.mpr ⟨lw_p11, List.forall_mem_cons.mpr ⟨lw_p12, List.forall_mem_cons.mpr ⟨lw_p13, List.forall_mem_cons.mpr ⟨lw_p14, List.forall_mem_cons.mpr ⟨lw_p15, fun _ h => absurd h List.not_mem_nil⟩⟩⟩⟩⟩⟩⟩⟩⟩⟩⟩⟩⟩⟩⟩⟩
theorem lw_p16 : lw_okq (⟨"MayNotPause", "digestOfVerse", "(JI)J"⟩, 12) := ⟨⟨by decide +kernel, by decide +kernel⟩, List.mem_of_getElem? (i := 14) (by decide +kernel), List.mem_of_getElem? (i := 676) (by decide +kernel), List.mem_of_getElem? (i := 677) (by decide +kernel)⟩
theorem lw_p17 : lw_okq (⟨"MayNotPause", "digestOfBreaths", "(J)J"⟩, 12) := ⟨⟨by decide +kernel, by decide +kernel⟩, List.mem_of_getElem? (i := 14) (by decide +kernel), List.mem_of_getElem? (i := 683) (by decide +kernel), List.mem_of_getElem? (i := 684) (by decide +kernel)⟩
theorem lw_p18 : lw_okq (⟨"MayNotPauseModel", "met", "(I)I"⟩, 30) := ⟨⟨by decide +kernel, by decide +kernel⟩, List.mem_of_getElem? (i := 697) (by decide +kernel), List.mem_of_getElem? (i := 806) (by decide +kernel), List.mem_of_getElem? (i := 807) (by decide +kernel)⟩
theorem lw_p19 : lw_okq (⟨"MayNotPauseModel", "lacks", "(III)I"⟩, 30) := ⟨⟨by decide +kernel, by decide +kernel⟩, List.mem_of_getElem? (i := 697) (by decide +kernel), List.mem_of_getElem? (i := 818) (by decide +kernel), List.mem_of_getElem? (i := 819) (by decide +kernel)⟩
theorem lw_p20 : lw_okq (⟨"MayNotPauseModel", "readsText", "(I)I"⟩, 30) := ⟨⟨by decide +kernel, by decide +kernel⟩, List.mem_of_getElem? (i := 697) (by decide +kernel), List.mem_of_getElem? (i := 850) (by decide +kernel), List.mem_of_getElem? (i := 851) (by decide +kernel)⟩
theorem lw_p21 : lw_okq (⟨"MayNotPauseModel", "readsVerse", "(I)Z"⟩, 30) := ⟨⟨by decide +kernel, by decide +kernel⟩, List.mem_of_getElem? (i := 697) (by decide +kernel), List.mem_of_getElem? (i := 854) (by decide +kernel), List.mem_of_getElem? (i := 855) (by decide +kernel)⟩
theorem lw_p22 : lw_okq (⟨"MayNotPauseModel", "here", "(I)I"⟩, 30) := ⟨⟨by decide +kernel, by decide +kernel⟩, List.mem_of_getElem? (i := 697) (by decide +kernel), List.mem_of_getElem? (i := 858) (by decide +kernel), List.mem_of_getElem? (i := 859) (by decide +kernel)⟩
theorem lw_p23 : lw_okq (⟨"MayNotPauseModel", "find", "()V"⟩, 30) := ⟨⟨by decide +kernel, by decide +kernel⟩, List.mem_of_getElem? (i := 697) (by decide +kernel), List.mem_of_getElem? (i := 882) (by decide +kernel), List.mem_of_getElem? (i := 883) (by decide +kernel)⟩
theorem lw_p24 : lw_okq (⟨"MayNotPauseModel", "plain", "()V"⟩, 30) := ⟨⟨by decide +kernel, by decide +kernel⟩, List.mem_of_getElem? (i := 697) (by decide +kernel), List.mem_of_getElem? (i := 886) (by decide +kernel), List.mem_of_getElem? (i := 887) (by decide +kernel)⟩
theorem lw_p25 : lw_okq (⟨"MayNotPauseModel", "says", "(III)V"⟩, 30) := ⟨⟨by decide +kernel, by decide +kernel⟩, List.mem_of_getElem? (i := 697) (by decide +kernel), List.mem_of_getElem? (i := 890) (by decide +kernel), List.mem_of_getElem? (i := 891) (by decide +kernel)⟩
theorem lw_p26 : lw_okq (⟨"MayNotPauseModel", "counts", "()V"⟩, 30) := ⟨⟨by decide +kernel, by decide +kernel⟩, List.mem_of_getElem? (i := 697) (by decide +kernel), List.mem_of_getElem? (i := 894) (by decide +kernel), List.mem_of_getElem? (i := 895) (by decide +kernel)⟩
theorem lw_p27 : lw_okq (⟨"MayNotPauseModel", "kindAt", "(I)I"⟩, 30) := ⟨⟨by decide +kernel, by decide +kernel⟩, List.mem_of_getElem? (i := 697) (by decide +kernel), List.mem_of_getElem? (i := 898) (by decide +kernel), List.mem_of_getElem? (i := 899) (by decide +kernel)⟩
theorem lw_p28 : lw_okq (⟨"MayNotPauseModel", "sayAt", "(I)I"⟩, 30) := ⟨⟨by decide +kernel, by decide +kernel⟩, List.mem_of_getElem? (i := 697) (by decide +kernel), List.mem_of_getElem? (i := 905) (by decide +kernel), List.mem_of_getElem? (i := 906) (by decide +kernel)⟩
theorem lw_p29 : lw_okq (⟨"MayNotPauseModel", "isVerse", "(I)Z"⟩, 30) := ⟨⟨by decide +kernel, by decide +kernel⟩, List.mem_of_getElem? (i := 697) (by decide +kernel), List.mem_of_getElem? (i := 909) (by decide +kernel), List.mem_of_getElem? (i := 910) (by decide +kernel)⟩
theorem lw_p30 : lw_okq (⟨"MayNotPauseModel", "verseOf", "(II)I"⟩, 30) := ⟨⟨by decide +kernel, by decide +kernel⟩, List.mem_of_getElem? (i := 697) (by decide +kernel), List.mem_of_getElem? (i := 913) (by decide +kernel), List.mem_of_getElem? (i := 914) (by decide +kernel)⟩
theorem lw_p31 : lw_okq (⟨"MayNotPauseModel", "whenOf", "(II)I"⟩, 30) := ⟨⟨by decide +kernel, by decide +kernel⟩, List.mem_of_getElem? (i := 697) (by decide +kernel), List.mem_of_getElem? (i := 922) (by decide +kernel), List.mem_of_getElem? (i := 923) (by decide +kernel)⟩
def lw_privs_2 : List (MethodName × Nat) := [(⟨"MayNotPause", "digestOfVerse", "(JI)J"⟩, 12), (⟨"MayNotPause", "digestOfBreaths", "(J)J"⟩, 12), (⟨"MayNotPauseModel", "met", "(I)I"⟩, 30), (⟨"MayNotPauseModel", "lacks", "(III)I"⟩, 30), (⟨"MayNotPauseModel", "readsText", "(I)I"⟩, 30), (⟨"MayNotPauseModel", "readsVerse", "(I)Z"⟩, 30), (⟨"MayNotPauseModel", "here", "(I)I"⟩, 30), (⟨"MayNotPauseModel", "find", "()V"⟩, 30), (⟨"MayNotPauseModel", "plain", "()V"⟩, 30), (⟨"MayNotPauseModel", "says", "(III)V"⟩, 30), (⟨"MayNotPauseModel", "counts", "()V"⟩, 30), (⟨"MayNotPauseModel", "kindAt", "(I)I"⟩, 30), (⟨"MayNotPauseModel", "sayAt", "(I)I"⟩, 30), (⟨"MayNotPauseModel", "isVerse", "(I)Z"⟩, 30), (⟨"MayNotPauseModel", "verseOf", "(II)I"⟩, 30), (⟨"MayNotPauseModel", "whenOf", "(II)I"⟩, 30)]
theorem lw_r2 : ∀ q ∈ lw_privs_2, lw_okq q := List.forall_mem_cons.mpr ⟨lw_p16, List.forall_mem_cons.mpr ⟨lw_p17, List.forall_mem_cons.mpr ⟨lw_p18, List.forall_mem_cons.mpr ⟨lw_p19, List.forall_mem_cons.mpr ⟨lw_p20, List.forall_mem_cons.mpr ⟨lw_p21, List.forall_mem_cons.mpr ⟨lw_p22, List.forall_mem_cons.mpr ⟨lw_p23, List.forall_mem_cons.mpr ⟨lw_p24, List.forall_mem_cons.mpr ⟨lw_p25, List.forall_mem_cons.mpr ⟨lw_p26, List.forall_mem_cons.mpr ⟨lw_p27, List.forall_mem_cons.mpr ⟨lw_p28, List.forall_mem_cons.mpr ⟨lw_p29, List.forall_mem_cons.mpr ⟨lw_p30, List.forall_mem_cons.mpr ⟨lw_p31, fun _ h => absurd h List.not_mem_nil⟩⟩⟩⟩⟩⟩⟩⟩⟩⟩⟩⟩⟩⟩⟩⟩
theorem lw_p32 : lw_okq (⟨"MayNotPauseModel", "poemOf", "(I)I"⟩, 30) := ⟨⟨by decide +kernel, by decide +kernel⟩, List.mem_of_getElem? (i := 697) (by decide +kernel), List.mem_of_getElem? (i := 930) (by decide +kernel), List.mem_of_getElem? (i := 931) (by decide +kernel)⟩
theorem lw_p33 : lw_okq (⟨"MayNotPauseModel", "judgedNow", "()I"⟩, 30) := ⟨⟨by decide +kernel, by decide +kernel⟩, List.mem_of_getElem? (i := 697) (by decide +kernel), List.mem_of_getElem? (i := 938) (by decide +kernel), List.mem_of_getElem? (i := 939) (by decide +kernel)⟩
theorem lw_p34 : lw_okq (⟨"MayNotPauseModel", "restOf", "(I)I"⟩, 30) := ⟨⟨by decide +kernel, by decide +kernel⟩, List.mem_of_getElem? (i := 697) (by decide +kernel), List.mem_of_getElem? (i := 946) (by decide +kernel), List.mem_of_getElem? (i := 947) (by decide +kernel)⟩
theorem lw_p35 : lw_okq (⟨"MayNotPauseModel", "freeAhead", "(II)I"⟩, 30) := ⟨⟨by decide +kernel, by decide +kernel⟩, List.mem_of_getElem? (i := 697) (by decide +kernel), List.mem_of_getElem? (i := 950) (by decide +kernel), List.mem_of_getElem? (i := 951) (by decide +kernel)⟩
theorem lw_p36 : lw_okq (⟨"MayNotPauseModel", "isFree", "(I)Z"⟩, 30) := ⟨⟨by decide +kernel, by decide +kernel⟩, List.mem_of_getElem? (i := 697) (by decide +kernel), List.mem_of_getElem? (i := 954) (by decide +kernel), List.mem_of_getElem? (i := 955) (by decide +kernel)⟩
theorem lw_p37 : lw_okq (⟨"MayNotPauseModel", "doingOf", "(II)I"⟩, 30) := ⟨⟨by decide +kernel, by decide +kernel⟩, List.mem_of_getElem? (i := 697) (by decide +kernel), List.mem_of_getElem? (i := 963) (by decide +kernel), List.mem_of_getElem? (i := 964) (by decide +kernel)⟩
theorem lw_p38 : lw_okq (⟨"MayNotPauseModel", "saysIn", "(I)I"⟩, 30) := ⟨⟨by decide +kernel, by decide +kernel⟩, List.mem_of_getElem? (i := 697) (by decide +kernel), List.mem_of_getElem? (i := 967) (by decide +kernel), List.mem_of_getElem? (i := 968) (by decide +kernel)⟩
theorem lw_p39 : lw_okq (⟨"MayNotPauseModel", "makesIn", "(II)I"⟩, 30) := ⟨⟨by decide +kernel, by decide +kernel⟩, List.mem_of_getElem? (i := 697) (by decide +kernel), List.mem_of_getElem? (i := 971) (by decide +kernel), List.mem_of_getElem? (i := 972) (by decide +kernel)⟩
theorem lw_p40 : lw_okq (⟨"MayNotPauseModel", "hasIn", "(I)I"⟩, 30) := ⟨⟨by decide +kernel, by decide +kernel⟩, List.mem_of_getElem? (i := 697) (by decide +kernel), List.mem_of_getElem? (i := 975) (by decide +kernel), List.mem_of_getElem? (i := 976) (by decide +kernel)⟩
theorem lw_p41 : lw_okq (⟨"MayNotPauseModel", "findPut", "()V"⟩, 30) := ⟨⟨by decide +kernel, by decide +kernel⟩, List.mem_of_getElem? (i := 697) (by decide +kernel), List.mem_of_getElem? (i := 983) (by decide +kernel), List.mem_of_getElem? (i := 984) (by decide +kernel)⟩
theorem lw_p42 : lw_okq (⟨"MayNotPauseModel", "looks", "(IIIII)V"⟩, 30) := ⟨⟨by decide +kernel, by decide +kernel⟩, List.mem_of_getElem? (i := 697) (by decide +kernel), List.mem_of_getElem? (i := 987) (by decide +kernel), List.mem_of_getElem? (i := 988) (by decide +kernel)⟩
theorem lw_p43 : lw_okq (⟨"MayNotPauseModel", "lays", "(IIII)V"⟩, 30) := ⟨⟨by decide +kernel, by decide +kernel⟩, List.mem_of_getElem? (i := 697) (by decide +kernel), List.mem_of_getElem? (i := 991) (by decide +kernel), List.mem_of_getElem? (i := 992) (by decide +kernel)⟩
theorem lw_p44 : lw_okq (⟨"MayNotPauseModel", "findOrder", "()V"⟩, 30) := ⟨⟨by decide +kernel, by decide +kernel⟩, List.mem_of_getElem? (i := 697) (by decide +kernel), List.mem_of_getElem? (i := 1001) (by decide +kernel), List.mem_of_getElem? (i := 1002) (by decide +kernel)⟩
theorem lw_p45 : lw_okq (⟨"MayNotPauseModel", "unfolds", "(II)V"⟩, 30) := ⟨⟨by decide +kernel, by decide +kernel⟩, List.mem_of_getElem? (i := 697) (by decide +kernel), List.mem_of_getElem? (i := 1008) (by decide +kernel), List.mem_of_getElem? (i := 1009) (by decide +kernel)⟩
theorem lw_p46 : lw_okq (⟨"MayNotPauseModel", "tellsOrder", "(I)I"⟩, 30) := ⟨⟨by decide +kernel, by decide +kernel⟩, List.mem_of_getElem? (i := 697) (by decide +kernel), List.mem_of_getElem? (i := 1012) (by decide +kernel), List.mem_of_getElem? (i := 1013) (by decide +kernel)⟩
theorem lw_p47 : lw_okq (⟨"MayNotPauseModel", "leadNow", "()I"⟩, 30) := ⟨⟨by decide +kernel, by decide +kernel⟩, List.mem_of_getElem? (i := 697) (by decide +kernel), List.mem_of_getElem? (i := 1020) (by decide +kernel), List.mem_of_getElem? (i := 1021) (by decide +kernel)⟩
def lw_privs_3 : List (MethodName × Nat) := [(⟨"MayNotPauseModel", "poemOf", "(I)I"⟩, 30), (⟨"MayNotPauseModel", "judgedNow", "()I"⟩, 30), (⟨"MayNotPauseModel", "restOf", "(I)I"⟩, 30), (⟨"MayNotPauseModel", "freeAhead", "(II)I"⟩, 30), (⟨"MayNotPauseModel", "isFree", "(I)Z"⟩, 30), (⟨"MayNotPauseModel", "doingOf", "(II)I"⟩, 30), (⟨"MayNotPauseModel", "saysIn", "(I)I"⟩, 30), (⟨"MayNotPauseModel", "makesIn", "(II)I"⟩, 30), (⟨"MayNotPauseModel", "hasIn", "(I)I"⟩, 30), (⟨"MayNotPauseModel", "findPut", "()V"⟩, 30), (⟨"MayNotPauseModel", "looks", "(IIIII)V"⟩, 30), (⟨"MayNotPauseModel", "lays", "(IIII)V"⟩, 30), (⟨"MayNotPauseModel", "findOrder", "()V"⟩, 30), (⟨"MayNotPauseModel", "unfolds", "(II)V"⟩, 30), (⟨"MayNotPauseModel", "tellsOrder", "(I)I"⟩, 30), (⟨"MayNotPauseModel", "leadNow", "()I"⟩, 30)]
theorem lw_r3 : ∀ q ∈ lw_privs_3, lw_okq q := List.forall_mem_cons.mpr ⟨lw_p32, List.forall_mem_cons.mpr ⟨lw_p33, List.forall_mem_cons.mpr ⟨lw_p34, List.forall_mem_cons.mpr ⟨lw_p35, List.forall_mem_cons.mpr ⟨lw_p36, List.forall_mem_cons.mpr ⟨lw_p37, List.forall_mem_cons.mpr ⟨lw_p38, List.forall_mem_cons.mpr ⟨lw_p39, List.forall_mem_cons.mpr ⟨lw_p40, List.forall_mem_cons.mpr ⟨lw_p41, List.forall_mem_cons.mpr ⟨lw_p42, List.forall_mem_cons.mpr ⟨lw_p43, List.forall_mem_cons.mpr ⟨lw_p44, List.forall_mem_cons.mpr ⟨lw_p45, List.forall_mem_cons.mpr ⟨lw_p46, List.forall_mem_cons.mpr ⟨lw_p47, fun _ h => absurd h List.not_mem_nil⟩⟩⟩⟩⟩⟩⟩⟩⟩⟩⟩⟩⟩⟩⟩⟩
theorem lw_p48 : lw_okq (⟨"MayNotPauseModel", "oddsOf", "(I)J"⟩, 30) := ⟨⟨by decide +kernel, by decide +kernel⟩, List.mem_of_getElem? (i := 697) (by decide +kernel), List.mem_of_getElem? (i := 1028) (by decide +kernel), List.mem_of_getElem? (i := 1029) (by decide +kernel)⟩
theorem lw_p49 : lw_okq (⟨"MayNotPauseModel", "drawnOf", "(I)I"⟩, 30) := ⟨⟨by decide +kernel, by decide +kernel⟩, List.mem_of_getElem? (i := 697) (by decide +kernel), List.mem_of_getElem? (i := 1044) (by decide +kernel), List.mem_of_getElem? (i := 1045) (by decide +kernel)⟩
theorem lw_p50 : lw_okq (⟨"MayNotPauseModel", "lineOf", "(II)I"⟩, 30) := ⟨⟨by decide +kernel, by decide +kernel⟩, List.mem_of_getElem? (i := 697) (by decide +kernel), List.mem_of_getElem? (i := 1055) (by decide +kernel), List.mem_of_getElem? (i := 1056) (by decide +kernel)⟩
theorem lw_p51 : lw_okq (⟨"MayNotPauseModel", "errors", "(II)I"⟩, 30) := ⟨⟨by decide +kernel, by decide +kernel⟩, List.mem_of_getElem? (i := 697) (by decide +kernel), List.mem_of_getElem? (i := 1059) (by decide +kernel), List.mem_of_getElem? (i := 1060) (by decide +kernel)⟩
theorem lw_p52 : lw_okq (⟨"MayNotPauseModel", "leadsNow", "()I"⟩, 30) := ⟨⟨by decide +kernel, by decide +kernel⟩, List.mem_of_getElem? (i := 697) (by decide +kernel), List.mem_of_getElem? (i := 1084) (by decide +kernel), List.mem_of_getElem? (i := 1085) (by decide +kernel)⟩
def lw_privs_4 : List (MethodName × Nat) := [(⟨"MayNotPauseModel", "oddsOf", "(I)J"⟩, 30), (⟨"MayNotPauseModel", "drawnOf", "(I)I"⟩, 30), (⟨"MayNotPauseModel", "lineOf", "(II)I"⟩, 30), (⟨"MayNotPauseModel", "errors", "(II)I"⟩, 30), (⟨"MayNotPauseModel", "leadsNow", "()I"⟩, 30)]
theorem lw_r4 : ∀ q ∈ lw_privs_4, lw_okq q := List.forall_mem_cons.mpr ⟨lw_p48, List.forall_mem_cons.mpr ⟨lw_p49, List.forall_mem_cons.mpr ⟨lw_p50, List.forall_mem_cons.mpr ⟨lw_p51, List.forall_mem_cons.mpr ⟨lw_p52, fun _ h => absurd h List.not_mem_nil⟩⟩⟩⟩⟩
def lw_privs : List (MethodName × Nat) := lw_privs_1 ++ (lw_privs_2 ++ (lw_privs_3 ++ (lw_privs_4)))
def lw_tbl : List Cond := k2_sels lw_privs ++ tables_1
theorem lw_privs_ok : ∀ q ∈ lw_privs, lw_okq q := by
  show ∀ q ∈ lw_privs_1 ++ (lw_privs_2 ++ (lw_privs_3 ++ (lw_privs_4))), lw_okq q
  exact List.forall_mem_append.mpr ⟨lw_r1, List.forall_mem_append.mpr ⟨lw_r2, List.forall_mem_append.mpr ⟨lw_r3, lw_r4⟩⟩⟩

def RX0 : String := "MayNotPause$OrderSearch"
def TX0 : u_T := fun k => match k with
  | 0 => ("MayNotPause$OrderSearch", "trial", "LMayNotPause$Telling;", true)
  | 1 => ("MayNotPause$OrderSearch", "verses", "LMayNotPause$Script;", true)
  | 2 => ("MayNotPause$OrderSearch", "settings", "[I", true)
  | 3 => ("MayNotPause$OrderSearch", "row", "[I", true)
  | 4 => ("MayNotPause$OrderSearch", "best", "[I", true)
  | 5 => ("MayNotPause$OrderSearch", "taken", "[Z", true)
  | 6 => ("MayNotPause$OrderSearch", "size", "I", false)
  | 7 => ("MayNotPause$OrderSearch", "leastPauses", "I", false)
  | _ => ("MayNotPause$OrderSearch", "leastLong", "I", false)
def tyX0 : Nat → FieldType := fun k => match k with
  | 0 => .object "MayNotPause$Telling"
  | 1 => .object "MayNotPause$Script"
  | 2 => .array .int
  | 3 => .array .int
  | 4 => .array .int
  | 5 => .array .boolean
  | 6 => .int
  | 7 => .int
  | _ => .int
abbrev wsX00 : List Cond := u_ws RX0 TX0 9
theorem nmX0 : ∀ a, a < 9 → ∀ b, b < 9 → a ≠ b → (TX0 a).2.1 ≠ (TX0 b).2.1 := by decide +kernel
theorem tyX0_ok : ∀ k, k < 9 → parseFieldDescriptor (TX0 k).2.2.1 = some (tyX0 k) := by decide +kernel
abbrev cX0_init : ByteArray := prog_2_method_1_code
def yX0_init : MethodName := ⟨RX0, "<init>", "(LMayNotPause$Telling;LMayNotPause$Script;[I)V"⟩
abbrev cX0_seek : ByteArray := prog_2_method_2_code
def yX0_seek : MethodName := ⟨RX0, "seek", "()V"⟩
abbrev cX0_placeFrom : ByteArray := prog_2_method_3_code
def yX0_placeFrom : MethodName := ⟨RX0, "placeFrom", "(LMayNotPause$OrderSearch;I)V"⟩
abbrev cX0_mayBeBest : ByteArray := prog_2_method_4_code
def yX0_mayBeBest : MethodName := ⟨RX0, "mayBeBest", "()Z"⟩
abbrev cX0_keep : ByteArray := prog_2_method_5_code
def yX0_keep : MethodName := ⟨RX0, "keep", "()V"⟩
def RX1 : String := "MayNotPause$PutSearch"
def TX1 : u_T := fun k => match k with
  | 0 => ("MayNotPause$PutSearch", "trial", "LMayNotPause$Telling;", true)
  | 1 => ("MayNotPause$PutSearch", "verses", "LMayNotPause$Script;", true)
  | 2 => ("MayNotPause$PutSearch", "hards", "LMayNotPause$Script;", true)
  | 3 => ("MayNotPause$PutSearch", "settings", "[I", true)
  | _ => ("MayNotPause$PutSearch", "best", "[I", true)
def tyX1 : Nat → FieldType := fun k => match k with
  | 0 => .object "MayNotPause$Telling"
  | 1 => .object "MayNotPause$Script"
  | 2 => .object "MayNotPause$Script"
  | 3 => .array .int
  | _ => .array .int
abbrev wsX10 : List Cond := u_ws RX1 TX1 5
theorem nmX1 : ∀ a, a < 5 → ∀ b, b < 5 → a ≠ b → (TX1 a).2.1 ≠ (TX1 b).2.1 := by decide +kernel
theorem tyX1_ok : ∀ k, k < 5 → parseFieldDescriptor (TX1 k).2.2.1 = some (tyX1 k) := by decide +kernel
abbrev cX1_init : ByteArray := prog_3_method_1_code
def yX1_init : MethodName := ⟨RX1, "<init>", "(LMayNotPause$Telling;LMayNotPause$Script;LMayNotPause$Script;[I)V"⟩
abbrev cX1_seek : ByteArray := prog_3_method_2_code
def yX1_seek : MethodName := ⟨RX1, "seek", "()V"⟩
abbrev cX1_seekOne : ByteArray := prog_3_method_3_code
def yX1_seekOne : MethodName := ⟨RX1, "seekOne", "()V"⟩
abbrev cX1_seekTwo : ByteArray := prog_3_method_4_code
def yX1_seekTwo : MethodName := ⟨RX1, "seekTwo", "()V"⟩
abbrev cX1_attempt : ByteArray := prog_3_method_5_code
def yX1_attempt : MethodName := ⟨RX1, "attempt", "(IIIII)V"⟩
def RX2 : String := "MayNotPause$Script"
def TX2 : u_T := fun k => match k with
  | 0 => ("MayNotPause$Script", "bytes", "[I", true)
  | 1 => ("MayNotPause$Script", "length", "I", false)
  | 2 => ("MayNotPause$Script", "flaw", "I", false)
  | _ => ("MayNotPause$Script", "size", "I", false)
def tyX2 : Nat → FieldType := fun k => match k with
  | 0 => .array .int
  | 1 => .int
  | 2 => .int
  | _ => .int
abbrev wsX20 : List Cond := u_ws RX2 TX2 4
theorem nmX2 : ∀ a, a < 4 → ∀ b, b < 4 → a ≠ b → (TX2 a).2.1 ≠ (TX2 b).2.1 := by decide +kernel
theorem tyX2_ok : ∀ k, k < 4 → parseFieldDescriptor (TX2 k).2.2.1 = some (tyX2 k) := by decide +kernel
abbrev cX2_init : ByteArray := prog_4_method_1_code
def yX2_init : MethodName := ⟨RX2, "<init>", "(I)V"⟩
abbrev cX2_isFull : ByteArray := prog_4_method_2_code
def yX2_isFull : MethodName := ⟨RX2, "isFull", "()Z"⟩
abbrev cX2_append : ByteArray := prog_4_method_3_code
def yX2_append : MethodName := ⟨RX2, "append", "(I)V"⟩
abbrev cX2_shorten : ByteArray := prog_4_method_4_code
def yX2_shorten : MethodName := ⟨RX2, "shorten", "(I)V"⟩
abbrev cX2_dropLastVerse : ByteArray := prog_4_method_5_code
def yX2_dropLastVerse : MethodName := ⟨RX2, "dropLastVerse", "()V"⟩
abbrev cX2_settle : ByteArray := prog_4_method_6_code
def yX2_settle : MethodName := ⟨RX2, "settle", "()V"⟩
abbrev cX2_firstFlaw : ByteArray := prog_4_method_7_code
def yX2_firstFlaw : MethodName := ⟨RX2, "firstFlaw", "()I"⟩
abbrev cX2_fits : ByteArray := prog_4_method_8_code
def yX2_fits : MethodName := ⟨RX2, "fits", "(II)Z"⟩
abbrev cX2_kindBy : ByteArray := prog_4_method_9_code
def yX2_kindBy : MethodName := ⟨RX2, "kindBy", "(I)I"⟩
abbrev cX2_kindOf : ByteArray := prog_4_method_10_code
def yX2_kindOf : MethodName := ⟨RX2, "kindOf", "(I)I"⟩
abbrev cX2_figure : ByteArray := prog_4_method_11_code
def yX2_figure : MethodName := ⟨RX2, "figure", "(II)I"⟩
def RX3 : String := "MayNotPause$Sheet"
def TX3 : u_T := fun k => match k with
  | 0 => ("MayNotPause$Sheet", "items", "[I", true)
  | 1 => ("MayNotPause$Sheet", "lost", "Z", false)
  | 2 => ("MayNotPause$Sheet", "form", "I", false)
  | _ => ("MayNotPause$Sheet", "size", "I", false)
def tyX3 : Nat → FieldType := fun k => match k with
  | 0 => .array .int
  | 1 => .boolean
  | 2 => .int
  | _ => .int
abbrev wsX30 : List Cond := u_ws RX3 TX3 4
theorem nmX3 : ∀ a, a < 4 → ∀ b, b < 4 → a ≠ b → (TX3 a).2.1 ≠ (TX3 b).2.1 := by decide +kernel
theorem tyX3_ok : ∀ k, k < 4 → parseFieldDescriptor (TX3 k).2.2.1 = some (tyX3 k) := by decide +kernel
abbrev cX3_init : ByteArray := prog_5_method_1_code
def yX3_init : MethodName := ⟨RX3, "<init>", "()V"⟩
abbrev cX3_renew : ByteArray := prog_5_method_2_code
def yX3_renew : MethodName := ⟨RX3, "renew", "(II)V"⟩
abbrev cX3_hasItem : ByteArray := prog_5_method_3_code
def yX3_hasItem : MethodName := ⟨RX3, "hasItem", "(I)Z"⟩
abbrev cX3_hasSpan : ByteArray := prog_5_method_4_code
def yX3_hasSpan : MethodName := ⟨RX3, "hasSpan", "(II)Z"⟩
abbrev cX3_item : ByteArray := prog_5_method_5_code
def yX3_item : MethodName := ⟨RX3, "item", "(I)I"⟩
abbrev cX3_store : ByteArray := prog_5_method_6_code
def yX3_store : MethodName := ⟨RX3, "store", "(II)V"⟩
def RX4 : String := "MayNotPause$Sightings"
def TX4 : u_T := fun k => match k with
  | 0 => ("MayNotPause$Sightings", "breaths", "[I", true)
  | 1 => ("MayNotPause$Sightings", "made", "[I", true)
  | _ => ("MayNotPause$Sightings", "size", "I", false)
def tyX4 : Nat → FieldType := fun k => match k with
  | 0 => .array .int
  | 1 => .array .int
  | _ => .int
abbrev wsX40 : List Cond := u_ws RX4 TX4 3
theorem nmX4 : ∀ a, a < 3 → ∀ b, b < 3 → a ≠ b → (TX4 a).2.1 ≠ (TX4 b).2.1 := by decide +kernel
theorem tyX4_ok : ∀ k, k < 3 → parseFieldDescriptor (TX4 k).2.2.1 = some (tyX4 k) := by decide +kernel
abbrev cX4_init : ByteArray := prog_6_method_1_code
def yX4_init : MethodName := ⟨RX4, "<init>", "()V"⟩
abbrev cX4_mayBe : ByteArray := prog_6_method_2_code
def yX4_mayBe : MethodName := ⟨RX4, "mayBe", "(II)Z"⟩
abbrev cX4_isFull : ByteArray := prog_6_method_3_code
def yX4_isFull : MethodName := ⟨RX4, "isFull", "()Z"⟩
abbrev cX4_add : ByteArray := prog_6_method_4_code
def yX4_add : MethodName := ⟨RX4, "add", "(II)V"⟩
abbrev cX4_fit : ByteArray := prog_6_method_5_code
def yX4_fit : MethodName := ⟨RX4, "fit", "(LMayNotPause$Telling;)Z"⟩
def RX5 : String := "MayNotPause$Telling"
def TX5 : u_T := fun k => match k with
  | 0 => ("MayNotPause$Telling", "rules", "[I", true)
  | 1 => ("MayNotPause$Telling", "start", "LMayNotPause$Turn;", true)
  | 2 => ("MayNotPause$Telling", "turns", "[LMayNotPause$Turn;", true)
  | _ => ("MayNotPause$Telling", "size", "I", false)
def tyX5 : Nat → FieldType := fun k => match k with
  | 0 => .array .int
  | 1 => .object "MayNotPause$Turn"
  | 2 => .array (.object "MayNotPause$Turn")
  | _ => .int
abbrev wsX50 : List Cond := u_ws RX5 TX5 4
theorem nmX5 : ∀ a, a < 4 → ∀ b, b < 4 → a ≠ b → (TX5 a).2.1 ≠ (TX5 b).2.1 := by decide +kernel
theorem tyX5_ok : ∀ k, k < 4 → parseFieldDescriptor (TX5 k).2.2.1 = some (tyX5 k) := by decide +kernel
abbrev cX5_init : ByteArray := prog_7_method_1_code
def yX5_init : MethodName := ⟨RX5, "<init>", "(I)V"⟩
abbrev cX5_open : ByteArray := prog_7_method_2_code
def yX5_open : MethodName := ⟨RX5, "open", "([I)V"⟩
abbrev cX5_changeLead : ByteArray := prog_7_method_3_code
def yX5_changeLead : MethodName := ⟨RX5, "changeLead", "(I)V"⟩
abbrev cX5_letHimPause : ByteArray := prog_7_method_4_code
def yX5_letHimPause : MethodName := ⟨RX5, "letHimPause", "()V"⟩
abbrev cX5_addAll : ByteArray := prog_7_method_5_code
def yX5_addAll : MethodName := ⟨RX5, "addAll", "(LMayNotPause$Script;)V"⟩
abbrev cX5_add : ByteArray := prog_7_method_6_code
def yX5_add : MethodName := ⟨RX5, "add", "(LMayNotPause$Script;I)V"⟩
abbrev cX5_dropLast : ByteArray := prog_7_method_7_code
def yX5_dropLast : MethodName := ⟨RX5, "dropLast", "()V"⟩
abbrev cX5_howManyOf : ByteArray := prog_7_method_8_code
def yX5_howManyOf : MethodName := ⟨RX5, "howManyOf", "(I)I"⟩
abbrev cX5_turnAt : ByteArray := prog_7_method_9_code
def yX5_turnAt : MethodName := ⟨RX5, "turnAt", "(I)LMayNotPause$Turn;"⟩
abbrev cX5_last : ByteArray := prog_7_method_10_code
def yX5_last : MethodName := ⟨RX5, "last", "()LMayNotPause$Turn;"⟩
abbrev cX5_isWholeWithoutPause : ByteArray := prog_7_method_11_code
def yX5_isWholeWithoutPause : MethodName := ⟨RX5, "isWholeWithoutPause", "()Z"⟩
abbrev cX5_howManyWritten : ByteArray := prog_7_method_12_code
def yX5_howManyWritten : MethodName := ⟨RX5, "howManyWritten", "()I"⟩
abbrev cX5_lastWritten : ByteArray := prog_7_method_13_code
def yX5_lastWritten : MethodName := ⟨RX5, "lastWritten", "()I"⟩
abbrev cX5_saidIn : ByteArray := prog_7_method_14_code
def yX5_saidIn : MethodName := ⟨RX5, "saidIn", "(I)I"⟩
abbrev cX5_isSaidIn : ByteArray := prog_7_method_15_code
def yX5_isSaidIn : MethodName := ⟨RX5, "isSaidIn", "(LMayNotPause$Turn;I)Z"⟩
abbrev cX5_madeIn : ByteArray := prog_7_method_16_code
def yX5_madeIn : MethodName := ⟨RX5, "madeIn", "(I)I"⟩
abbrev cX5_inHandIn : ByteArray := prog_7_method_17_code
def yX5_inHandIn : MethodName := ⟨RX5, "inHandIn", "(I)I"⟩
def RX6 : String := "MayNotPause$Turn"
def TX6 : u_T := fun k => match k with
  | 0 => ("MayNotPause$Turn", "kind", "I", false)
  | 1 => ("MayNotPause$Turn", "make", "I", false)
  | 2 => ("MayNotPause$Turn", "say", "I", false)
  | 3 => ("MayNotPause$Turn", "knot", "I", false)
  | 4 => ("MayNotPause$Turn", "begins", "I", false)
  | 5 => ("MayNotPause$Turn", "said", "I", false)
  | 6 => ("MayNotPause$Turn", "understood", "I", false)
  | 7 => ("MayNotPause$Turn", "written", "I", false)
  | 8 => ("MayNotPause$Turn", "pause", "I", false)
  | 9 => ("MayNotPause$Turn", "needed", "I", false)
  | 10 => ("MayNotPause$Turn", "allPauses", "I", false)
  | 11 => ("MayNotPause$Turn", "penUsed", "I", false)
  | 12 => ("MayNotPause$Turn", "pensTaken", "I", false)
  | 13 => ("MayNotPause$Turn", "could", "I", false)
  | _ => ("MayNotPause$Turn", "spare", "I", false)
def tyX6 : Nat → FieldType := fun k => match k with
  | 0 => .int
  | 1 => .int
  | 2 => .int
  | 3 => .int
  | 4 => .int
  | 5 => .int
  | 6 => .int
  | 7 => .int
  | 8 => .int
  | 9 => .int
  | 10 => .int
  | 11 => .int
  | 12 => .int
  | 13 => .int
  | _ => .int
abbrev wsX60 : List Cond := u_ws RX6 TX6 15
theorem nmX6 : ∀ a, a < 15 → ∀ b, b < 15 → a ≠ b → (TX6 a).2.1 ≠ (TX6 b).2.1 := by decide +kernel
theorem tyX6_ok : ∀ k, k < 15 → parseFieldDescriptor (TX6 k).2.2.1 = some (tyX6 k) := by decide +kernel
abbrev cX6_init : ByteArray := prog_8_method_1_code
def yX6_init : MethodName := ⟨RX6, "<init>", "()V"⟩
abbrev cX6_beStart : ByteArray := prog_8_method_2_code
def yX6_beStart : MethodName := ⟨RX6, "beStart", "(I)V"⟩
abbrev cX6_follow : ByteArray := prog_8_method_3_code
def yX6_follow : MethodName := ⟨RX6, "follow", "(LMayNotPause$Turn;)V"⟩
abbrev cX6_comeToNothing : ByteArray := prog_8_method_4_code
def yX6_comeToNothing : MethodName := ⟨RX6, "comeToNothing", "()V"⟩
abbrev cX6_beSaid : ByteArray := prog_8_method_5_code
def yX6_beSaid : MethodName := ⟨RX6, "beSaid", "(I)V"⟩
abbrev cX6_beWritten : ByteArray := prog_8_method_6_code
def yX6_beWritten : MethodName := ⟨RX6, "beWritten", "(III)V"⟩
def RX7 : String := "MayNotPause"
def TX7 : u_T := fun k => match k with
  | 0 => ("MayNotPause", "settings", "[I", true)
  | 1 => ("MayNotPause", "verses", "LMayNotPause$Script;", true)
  | 2 => ("MayNotPause", "hards", "LMayNotPause$Script;", true)
  | 3 => ("MayNotPause", "told", "LMayNotPause$Telling;", true)
  | 4 => ("MayNotPause", "trial", "LMayNotPause$Telling;", true)
  | 5 => ("MayNotPause", "putSearch", "LMayNotPause$PutSearch;", true)
  | 6 => ("MayNotPause", "orderSearch", "LMayNotPause$OrderSearch;", true)
  | 7 => ("MayNotPause", "sightings", "LMayNotPause$Sightings;", true)
  | 8 => ("MayNotPause", "sheets", "[LMayNotPause$Sheet;", true)
  | 9 => ("MayNotPause", "putIsFound", "Z", false)
  | 10 => ("MayNotPause", "orderIsFound", "Z", false)
  | _ => ("MayNotPause", "latestFinding", "I", false)
def tyX7 : Nat → FieldType := fun k => match k with
  | 0 => .array .int
  | 1 => .object "MayNotPause$Script"
  | 2 => .object "MayNotPause$Script"
  | 3 => .object "MayNotPause$Telling"
  | 4 => .object "MayNotPause$Telling"
  | 5 => .object "MayNotPause$PutSearch"
  | 6 => .object "MayNotPause$OrderSearch"
  | 7 => .object "MayNotPause$Sightings"
  | 8 => .array (.object "MayNotPause$Sheet")
  | 9 => .boolean
  | 10 => .boolean
  | _ => .int
abbrev wsX70 : List Cond := u_ws RX7 TX7 12
theorem nmX7 : ∀ a, a < 12 → ∀ b, b < 12 → a ≠ b → (TX7 a).2.1 ≠ (TX7 b).2.1 := by decide +kernel
theorem tyX7_ok : ∀ k, k < 12 → parseFieldDescriptor (TX7 k).2.2.1 = some (tyX7 k) := by decide +kernel
abbrev cX7_init : ByteArray := prog_1_method_1_code
def yX7_init : MethodName := ⟨RX7, "<init>", "()V"⟩
abbrev cX7_type : ByteArray := prog_1_method_2_code
def yX7_type : MethodName := ⟨RX7, "type", "(II)I"⟩
abbrev cX7_wipe : ByteArray := prog_1_method_3_code
def yX7_wipe : MethodName := ⟨RX7, "wipe", "(I)I"⟩
abbrev cX7_undo : ByteArray := prog_1_method_4_code
def yX7_undo : MethodName := ⟨RX7, "undo", "(I)I"⟩
abbrev cX7_fault : ByteArray := prog_1_method_5_code
def yX7_fault : MethodName := ⟨RX7, "fault", "(I)I"⟩
abbrev cX7_set : ByteArray := prog_1_method_6_code
def yX7_set : MethodName := ⟨RX7, "set", "(II)I"⟩
abbrev cX7_verse : ByteArray := prog_1_method_7_code
def yX7_verse : MethodName := ⟨RX7, "verse", "(II)I"⟩
abbrev cX7_when : ByteArray := prog_1_method_8_code
def yX7_when : MethodName := ⟨RX7, "when", "(II)I"⟩
abbrev cX7_poem : ByteArray := prog_1_method_9_code
def yX7_poem : MethodName := ⟨RX7, "poem", "(I)I"⟩
abbrev cX7_judged : ByteArray := prog_1_method_10_code
def yX7_judged : MethodName := ⟨RX7, "judged", "()I"⟩
abbrev cX7_rest : ByteArray := prog_1_method_11_code
def yX7_rest : MethodName := ⟨RX7, "rest", "(I)I"⟩
abbrev cX7_doing : ByteArray := prog_1_method_12_code
def yX7_doing : MethodName := ⟨RX7, "doing", "(II)I"⟩
abbrev cX7_put : ByteArray := prog_1_method_13_code
def yX7_put : MethodName := ⟨RX7, "put", "(I)I"⟩
abbrev cX7_order : ByteArray := prog_1_method_14_code
def yX7_order : MethodName := ⟨RX7, "order", "(I)I"⟩
abbrev cX7_lead : ByteArray := prog_1_method_15_code
def yX7_lead : MethodName := ⟨RX7, "lead", "()I"⟩
abbrev cX7_odds : ByteArray := prog_1_method_16_code
def yX7_odds : MethodName := ⟨RX7, "odds", "(I)J"⟩
abbrev cX7_drawn : ByteArray := prog_1_method_17_code
def yX7_drawn : MethodName := ⟨RX7, "drawn", "(I)I"⟩
abbrev cX7_line : ByteArray := prog_1_method_18_code
def yX7_line : MethodName := ⟨RX7, "line", "(II)I"⟩
abbrev cX7_seen : ByteArray := prog_1_method_19_code
def yX7_seen : MethodName := ⟨RX7, "seen", "(II)I"⟩
abbrev cX7_forget : ByteArray := prog_1_method_20_code
def yX7_forget : MethodName := ⟨RX7, "forget", "()I"⟩
abbrev cX7_leads : ByteArray := prog_1_method_21_code
def yX7_leads : MethodName := ⟨RX7, "leads", "()I"⟩
abbrev cX7_read : ByteArray := prog_1_method_22_code
def yX7_read : MethodName := ⟨RX7, "read", "(I)I"⟩
abbrev cX7_sheet : ByteArray := prog_1_method_23_code
def yX7_sheet : MethodName := ⟨RX7, "sheet", "(III)I"⟩
abbrev cX7_lose : ByteArray := prog_1_method_24_code
def yX7_lose : MethodName := ⟨RX7, "lose", "(I)I"⟩
abbrev cX7_lay : ByteArray := prog_1_method_25_code
def yX7_lay : MethodName := ⟨RX7, "lay", "(IIII)I"⟩
abbrev cX7_get : ByteArray := prog_1_method_26_code
def yX7_get : MethodName := ⟨RX7, "get", "(III)I"⟩
abbrev cX7_copy : ByteArray := prog_1_method_27_code
def yX7_copy : MethodName := ⟨RX7, "copy", "(IIIII)I"⟩
abbrev cX7_write : ByteArray := prog_1_method_28_code
def yX7_write : MethodName := ⟨RX7, "write", "(I)I"⟩
abbrev cX7_count : ByteArray := prog_1_method_29_code
def yX7_count : MethodName := ⟨RX7, "count", "(I)I"⟩
abbrev cX7_digest : ByteArray := prog_1_method_30_code
def yX7_digest : MethodName := ⟨RX7, "digest", "()J"⟩
abbrev cX7_digestOfVerse : ByteArray := prog_1_method_31_code
def yX7_digestOfVerse : MethodName := ⟨RX7, "digestOfVerse", "(JI)J"⟩
abbrev cX7_digestOfBreaths : ByteArray := prog_1_method_32_code
def yX7_digestOfBreaths : MethodName := ⟨RX7, "digestOfBreaths", "(J)J"⟩
abbrev cX7_isText : ByteArray := prog_1_method_33_code
def yX7_isText : MethodName := ⟨RX7, "isText", "(I)Z"⟩
abbrev cX7_scriptOf : ByteArray := prog_1_method_34_code
def yX7_scriptOf : MethodName := ⟨RX7, "scriptOf", "(I)LMayNotPause$Script;"⟩
abbrev cX7_isVerse : ByteArray := prog_1_method_35_code
def yX7_isVerse : MethodName := ⟨RX7, "isVerse", "(I)Z"⟩
abbrev cX7_isSheet : ByteArray := prog_1_method_36_code
def yX7_isSheet : MethodName := ⟨RX7, "isSheet", "(I)Z"⟩
abbrev cX7_isForm : ByteArray := prog_1_method_37_code
def yX7_isForm : MethodName := ⟨RX7, "isForm", "(I)Z"⟩
abbrev cX7_tellAnew : ByteArray := prog_1_method_38_code
def yX7_tellAnew : MethodName := ⟨RX7, "tellAnew", "()V"⟩
abbrev cX7_sixteenths : ByteArray := prog_1_method_39_code
def yX7_sixteenths : MethodName := ⟨RX7, "sixteenths", "(I)I"⟩
abbrev cX7_errorsBy : ByteArray := prog_1_method_40_code
def yX7_errorsBy : MethodName := ⟨RX7, "errorsBy", "(II)I"⟩
abbrev cX7_bestLine : ByteArray := prog_1_method_41_code
def yX7_bestLine : MethodName := ⟨RX7, "bestLine", "()I"⟩
abbrev cX7_found : ByteArray := prog_1_method_42_code
def yX7_found : MethodName := ⟨RX7, "found", "(I)I"⟩
abbrev cX7_findingAt : ByteArray := prog_1_method_43_code
def yX7_findingAt : MethodName := ⟨RX7, "findingAt", "(LMayNotPause$Sheet;II)I"⟩
def RX8 : String := "MayNotPauseModel"
def TX8 : u_T := fun k => match k with
  | 0 => ("MayNotPauseModel", "forms", "[I", true)
  | 1 => ("MayNotPauseModel", "sizes", "[I", true)
  | 2 => ("MayNotPauseModel", "items", "[I", true)
  | 3 => ("MayNotPauseModel", "moved", "[I", true)
  | 4 => ("MayNotPauseModel", "latest", "I", false)
  | 5 => ("MayNotPauseModel", "bytes", "[I", true)
  | 6 => ("MayNotPauseModel", "typed", "[I", true)
  | 7 => ("MayNotPauseModel", "at", "I", false)
  | 8 => ("MayNotPauseModel", "many", "[I", true)
  | 9 => ("MayNotPauseModel", "told", "[I", true)
  | 10 => ("MayNotPauseModel", "settings", "[I", true)
  | 11 => ("MayNotPauseModel", "length", "I", false)
  | 12 => ("MayNotPauseModel", "row", "[I", true)
  | 13 => ("MayNotPauseModel", "makes", "[I", true)
  | 14 => ("MayNotPauseModel", "knots", "[I", true)
  | 15 => ("MayNotPauseModel", "begins", "[I", true)
  | 16 => ("MayNotPauseModel", "said", "[I", true)
  | 17 => ("MayNotPauseModel", "understood", "[I", true)
  | 18 => ("MayNotPauseModel", "written", "[I", true)
  | 19 => ("MayNotPauseModel", "pauses", "[I", true)
  | 20 => ("MayNotPauseModel", "end", "I", false)
  | 21 => ("MayNotPauseModel", "allPauses", "I", false)
  | 22 => ("MayNotPauseModel", "writtenMany", "I", false)
  | 23 => ("MayNotPauseModel", "newPens", "I", false)
  | 24 => ("MayNotPauseModel", "best", "[I", true)
  | 25 => ("MayNotPauseModel", "bestRow", "[I", true)
  | 26 => ("MayNotPauseModel", "leastPauses", "I", false)
  | 27 => ("MayNotPauseModel", "leastLong", "I", false)
  | 28 => ("MayNotPauseModel", "sights", "I", false)
  | _ => ("MayNotPauseModel", "seen", "[I", true)
def tyX8 : Nat → FieldType := fun k => match k with
  | 0 => .array .int
  | 1 => .array .int
  | 2 => .array .int
  | 3 => .array .int
  | 4 => .int
  | 5 => .array .int
  | 6 => .array .int
  | 7 => .int
  | 8 => .array .int
  | 9 => .array .int
  | 10 => .array .int
  | 11 => .int
  | 12 => .array .int
  | 13 => .array .int
  | 14 => .array .int
  | 15 => .array .int
  | 16 => .array .int
  | 17 => .array .int
  | 18 => .array .int
  | 19 => .array .int
  | 20 => .int
  | 21 => .int
  | 22 => .int
  | 23 => .int
  | 24 => .array .int
  | 25 => .array .int
  | 26 => .int
  | 27 => .int
  | 28 => .int
  | _ => .array .int
abbrev wsX80 : List Cond := u_ws RX8 TX8 30
theorem nmX8 : ∀ a, a < 30 → ∀ b, b < 30 → a ≠ b → (TX8 a).2.1 ≠ (TX8 b).2.1 := by decide +kernel
theorem tyX8_ok : ∀ k, k < 30 → parseFieldDescriptor (TX8 k).2.2.1 = some (tyX8 k) := by decide +kernel
abbrev cX8_init : ByteArray := prog_10_method_1_code
def yX8_init : MethodName := ⟨RX8, "<init>", "()V"⟩
abbrev cX8_in : ByteArray := prog_10_method_3_code
def yX8_in : MethodName := ⟨RX8, "in", "(JJJ)Z"⟩
abbrev cX8_no : ByteArray := prog_10_method_4_code
def yX8_no : MethodName := ⟨RX8, "no", "(I)J"⟩
abbrev cX8_isTwo : ByteArray := prog_10_method_5_code
def yX8_isTwo : MethodName := ⟨RX8, "isTwo", "(I)Z"⟩
abbrev cX8_isIn : ByteArray := prog_10_method_6_code
def yX8_isIn : MethodName := ⟨RX8, "isIn", "(II)Z"⟩
abbrev cX8_greater : ByteArray := prog_10_method_7_code
def yX8_greater : MethodName := ⟨RX8, "greater", "(II)I"⟩
abbrev cX8_lesser : ByteArray := prog_10_method_8_code
def yX8_lesser : MethodName := ⟨RX8, "lesser", "(II)I"⟩
abbrev cX8_met : ByteArray := prog_10_method_9_code
def yX8_met : MethodName := ⟨RX8, "met", "(I)I"⟩
abbrev cX8_isSheet : ByteArray := prog_10_method_10_code
def yX8_isSheet : MethodName := ⟨RX8, "isSheet", "(I)Z"⟩
abbrev cX8_sheet : ByteArray := prog_10_method_11_code
def yX8_sheet : MethodName := ⟨RX8, "sheet", "(III)I"⟩
abbrev cX8_lose : ByteArray := prog_10_method_12_code
def yX8_lose : MethodName := ⟨RX8, "lose", "(I)I"⟩
abbrev cX8_lacks : ByteArray := prog_10_method_13_code
def yX8_lacks : MethodName := ⟨RX8, "lacks", "(III)I"⟩
abbrev cX8_cut : ByteArray := prog_10_method_14_code
def yX8_cut : MethodName := ⟨RX8, "cut", "(II)I"⟩
abbrev cX8_lay : ByteArray := prog_10_method_15_code
def yX8_lay : MethodName := ⟨RX8, "lay", "(IIII)I"⟩
abbrev cX8_get : ByteArray := prog_10_method_16_code
def yX8_get : MethodName := ⟨RX8, "get", "(III)I"⟩
abbrev cX8_copy : ByteArray := prog_10_method_17_code
def yX8_copy : MethodName := ⟨RX8, "copy", "(IIIII)I"⟩
abbrev cX8_type : ByteArray := prog_10_method_18_code
def yX8_type : MethodName := ⟨RX8, "type", "(II)I"⟩
abbrev cX8_wipe : ByteArray := prog_10_method_19_code
def yX8_wipe : MethodName := ⟨RX8, "wipe", "(I)I"⟩
abbrev cX8_here : ByteArray := prog_10_method_20_code
def yX8_here : MethodName := ⟨RX8, "here", "(I)I"⟩
abbrev cX8_kindOf : ByteArray := prog_10_method_21_code
def yX8_kindOf : MethodName := ⟨RX8, "kindOf", "(I)I"⟩
abbrev cX8_readsVerse : ByteArray := prog_10_method_22_code
def yX8_readsVerse : MethodName := ⟨RX8, "readsVerse", "(I)Z"⟩
abbrev cX8_readsText : ByteArray := prog_10_method_23_code
def yX8_readsText : MethodName := ⟨RX8, "readsText", "(I)I"⟩
abbrev cX8_fault : ByteArray := prog_10_method_24_code
def yX8_fault : MethodName := ⟨RX8, "fault", "(I)I"⟩
abbrev cX8_undo : ByteArray := prog_10_method_25_code
def yX8_undo : MethodName := ⟨RX8, "undo", "(I)I"⟩
abbrev cX8_most : ByteArray := prog_10_method_26_code
def yX8_most : MethodName := ⟨RX8, "most", "(I)I"⟩
abbrev cX8_set : ByteArray := prog_10_method_27_code
def yX8_set : MethodName := ⟨RX8, "set", "(II)I"⟩
abbrev cX8_kindAt : ByteArray := prog_10_method_28_code
def yX8_kindAt : MethodName := ⟨RX8, "kindAt", "(I)I"⟩
abbrev cX8_sayAt : ByteArray := prog_10_method_29_code
def yX8_sayAt : MethodName := ⟨RX8, "sayAt", "(I)I"⟩
abbrev cX8_plain : ByteArray := prog_10_method_30_code
def yX8_plain : MethodName := ⟨RX8, "plain", "()V"⟩
abbrev cX8_counts : ByteArray := prog_10_method_31_code
def yX8_counts : MethodName := ⟨RX8, "counts", "()V"⟩
abbrev cX8_says : ByteArray := prog_10_method_32_code
def yX8_says : MethodName := ⟨RX8, "says", "(III)V"⟩
abbrev cX8_find : ByteArray := prog_10_method_33_code
def yX8_find : MethodName := ⟨RX8, "find", "()V"⟩
abbrev cX8_verseOf : ByteArray := prog_10_method_34_code
def yX8_verseOf : MethodName := ⟨RX8, "verseOf", "(II)I"⟩
abbrev cX8_isVerse : ByteArray := prog_10_method_35_code
def yX8_isVerse : MethodName := ⟨RX8, "isVerse", "(I)Z"⟩
abbrev cX8_verse : ByteArray := prog_10_method_36_code
def yX8_verse : MethodName := ⟨RX8, "verse", "(II)I"⟩
abbrev cX8_whenOf : ByteArray := prog_10_method_37_code
def yX8_whenOf : MethodName := ⟨RX8, "whenOf", "(II)I"⟩
abbrev cX8_when : ByteArray := prog_10_method_38_code
def yX8_when : MethodName := ⟨RX8, "when", "(II)I"⟩
abbrev cX8_poemOf : ByteArray := prog_10_method_39_code
def yX8_poemOf : MethodName := ⟨RX8, "poemOf", "(I)I"⟩
abbrev cX8_poem : ByteArray := prog_10_method_40_code
def yX8_poem : MethodName := ⟨RX8, "poem", "(I)I"⟩
abbrev cX8_judgedNow : ByteArray := prog_10_method_41_code
def yX8_judgedNow : MethodName := ⟨RX8, "judgedNow", "()I"⟩
abbrev cX8_judged : ByteArray := prog_10_method_42_code
def yX8_judged : MethodName := ⟨RX8, "judged", "()I"⟩
abbrev cX8_isFree : ByteArray := prog_10_method_43_code
def yX8_isFree : MethodName := ⟨RX8, "isFree", "(I)Z"⟩
abbrev cX8_freeAhead : ByteArray := prog_10_method_44_code
def yX8_freeAhead : MethodName := ⟨RX8, "freeAhead", "(II)I"⟩
abbrev cX8_restOf : ByteArray := prog_10_method_45_code
def yX8_restOf : MethodName := ⟨RX8, "restOf", "(I)I"⟩
abbrev cX8_rest : ByteArray := prog_10_method_46_code
def yX8_rest : MethodName := ⟨RX8, "rest", "(I)I"⟩
abbrev cX8_makesIn : ByteArray := prog_10_method_47_code
def yX8_makesIn : MethodName := ⟨RX8, "makesIn", "(II)I"⟩
abbrev cX8_saysIn : ByteArray := prog_10_method_48_code
def yX8_saysIn : MethodName := ⟨RX8, "saysIn", "(I)I"⟩
abbrev cX8_hasIn : ByteArray := prog_10_method_49_code
def yX8_hasIn : MethodName := ⟨RX8, "hasIn", "(I)I"⟩
abbrev cX8_doingOf : ByteArray := prog_10_method_50_code
def yX8_doingOf : MethodName := ⟨RX8, "doingOf", "(II)I"⟩
abbrev cX8_doing : ByteArray := prog_10_method_51_code
def yX8_doing : MethodName := ⟨RX8, "doing", "(II)I"⟩
abbrev cX8_lays : ByteArray := prog_10_method_52_code
def yX8_lays : MethodName := ⟨RX8, "lays", "(IIII)V"⟩
abbrev cX8_looks : ByteArray := prog_10_method_53_code
def yX8_looks : MethodName := ⟨RX8, "looks", "(IIIII)V"⟩
abbrev cX8_findPut : ByteArray := prog_10_method_54_code
def yX8_findPut : MethodName := ⟨RX8, "findPut", "()V"⟩
abbrev cX8_put : ByteArray := prog_10_method_55_code
def yX8_put : MethodName := ⟨RX8, "put", "(I)I"⟩
abbrev cX8_unfolds : ByteArray := prog_10_method_56_code
def yX8_unfolds : MethodName := ⟨RX8, "unfolds", "(II)V"⟩
abbrev cX8_findOrder : ByteArray := prog_10_method_57_code
def yX8_findOrder : MethodName := ⟨RX8, "findOrder", "()V"⟩
abbrev cX8_tellsOrder : ByteArray := prog_10_method_58_code
def yX8_tellsOrder : MethodName := ⟨RX8, "tellsOrder", "(I)I"⟩
abbrev cX8_order : ByteArray := prog_10_method_59_code
def yX8_order : MethodName := ⟨RX8, "order", "(I)I"⟩
abbrev cX8_leadNow : ByteArray := prog_10_method_60_code
def yX8_leadNow : MethodName := ⟨RX8, "leadNow", "()I"⟩
abbrev cX8_lead : ByteArray := prog_10_method_61_code
def yX8_lead : MethodName := ⟨RX8, "lead", "()I"⟩
abbrev cX8_part : ByteArray := prog_10_method_62_code
def yX8_part : MethodName := ⟨RX8, "part", "(JJI)J"⟩
abbrev cX8_oddsOf : ByteArray := prog_10_method_63_code
def yX8_oddsOf : MethodName := ⟨RX8, "oddsOf", "(I)J"⟩
abbrev cX8_odds : ByteArray := prog_10_method_64_code
def yX8_odds : MethodName := ⟨RX8, "odds", "(I)J"⟩
abbrev cX8_drawnOf : ByteArray := prog_10_method_65_code
def yX8_drawnOf : MethodName := ⟨RX8, "drawnOf", "(I)I"⟩
abbrev cX8_drawn : ByteArray := prog_10_method_66_code
def yX8_drawn : MethodName := ⟨RX8, "drawn", "(I)I"⟩
abbrev cX8_errors : ByteArray := prog_10_method_67_code
def yX8_errors : MethodName := ⟨RX8, "errors", "(II)I"⟩
abbrev cX8_lineOf : ByteArray := prog_10_method_68_code
def yX8_lineOf : MethodName := ⟨RX8, "lineOf", "(II)I"⟩
abbrev cX8_line : ByteArray := prog_10_method_69_code
def yX8_line : MethodName := ⟨RX8, "line", "(II)I"⟩
abbrev cX8_seen : ByteArray := prog_10_method_70_code
def yX8_seen : MethodName := ⟨RX8, "seen", "(II)I"⟩
abbrev cX8_forget : ByteArray := prog_10_method_71_code
def yX8_forget : MethodName := ⟨RX8, "forget", "()I"⟩
abbrev cX8_read : ByteArray := prog_10_method_72_code
def yX8_read : MethodName := ⟨RX8, "read", "(I)I"⟩
abbrev cX8_leadsNow : ByteArray := prog_10_method_73_code
def yX8_leadsNow : MethodName := ⟨RX8, "leadsNow", "()I"⟩
abbrev cX8_leads : ByteArray := prog_10_method_74_code
def yX8_leads : MethodName := ⟨RX8, "leads", "()I"⟩
abbrev cX8_write : ByteArray := prog_10_method_75_code
def yX8_write : MethodName := ⟨RX8, "write", "(I)I"⟩
abbrev cX8_count : ByteArray := prog_10_method_76_code
def yX8_count : MethodName := ⟨RX8, "count", "(I)I"⟩
abbrev cX8_digest : ByteArray := prog_10_method_77_code
def yX8_digest : MethodName := ⟨RX8, "digest", "()J"⟩
def RJ6 : String := "java/lang/Integer"
def TJ6 : u_T := fun k => match k with
  | _ => ("", "", "", false)
def tyJ6 : Nat → FieldType := fun k => match k with
  | _ => .int
abbrev wsJ60 : List Cond := u_ws RJ6 TJ6 0
theorem nmJ6 : ∀ a, a < 0 → ∀ b, b < 0 → a ≠ b → (TJ6 a).2.1 ≠ (TJ6 b).2.1 := by decide +kernel
theorem tyJ6_ok : ∀ k, k < 0 → parseFieldDescriptor (TJ6 k).2.2.1 = some (tyJ6 k) := by decide +kernel
abbrev cJ6_bitCount_0f7a4 : ByteArray := prog_11_method_49_code
def yJ6_bitCount_0f7a4 : MethodName := ⟨RJ6, "bitCount", "(I)I"⟩
def RJ9 : String := "java/lang/Math"
def TJ9 : u_T := fun k => match k with
  | _ => ("", "", "", false)
def tyJ9 : Nat → FieldType := fun k => match k with
  | _ => .int
abbrev wsJ90 : List Cond := u_ws RJ9 TJ9 0
theorem nmJ9 : ∀ a, a < 0 → ∀ b, b < 0 → a ≠ b → (TJ9 a).2.1 ≠ (TJ9 b).2.1 := by decide +kernel
theorem tyJ9_ok : ∀ k, k < 0 → parseFieldDescriptor (TJ9 k).2.2.1 = some (tyJ9 k) := by decide +kernel
abbrev cJ9_max_7cf53 : ByteArray := prog_12_method_65_code
def yJ9_max_7cf53 : MethodName := ⟨RJ9, "max", "(II)I"⟩
abbrev cJ9_min_7cf53 : ByteArray := prog_12_method_69_code
def yJ9_min_7cf53 : MethodName := ⟨RJ9, "min", "(II)I"⟩
def RJ10 : String := "java/lang/System"
def TJ10 : u_T := fun k => match k with
  | _ => ("", "", "", false)
def tyJ10 : Nat → FieldType := fun k => match k with
  | _ => .int
abbrev wsJ100 : List Cond := u_ws RJ10 TJ10 0
theorem nmJ10 : ∀ a, a < 0 → ∀ b, b < 0 → a ≠ b → (TJ10 a).2.1 ≠ (TJ10 b).2.1 := by decide +kernel
theorem tyJ10_ok : ∀ k, k < 0 → parseFieldDescriptor (TJ10 k).2.2.1 = some (tyJ10 k) := by decide +kernel
def RL : String := "MayNotPauseLaw"
abbrev cL_law : ByteArray := code
def yL_law : MethodName := ⟨RL, "law", "([I)Z"⟩
abbrev vwCl : List vw_C := [(RX0, TX0, 9), (RX1, TX1, 5), (RX2, TX2, 4), (RX3, TX3, 4), (RX4, TX4, 3), (RX5, TX5, 4), (RX6, TX6, 15), (RX7, TX7, 12), (RX8, TX8, 30)]
theorem inX0 : ∀ w ∈ wsX00, w ∈ lw_tbl := by decide +kernel
theorem inX1 : ∀ w ∈ wsX10, w ∈ lw_tbl := by decide +kernel
theorem inX2 : ∀ w ∈ wsX20, w ∈ lw_tbl := by decide +kernel
theorem inX3 : ∀ w ∈ wsX30, w ∈ lw_tbl := by decide +kernel
theorem inX4 : ∀ w ∈ wsX40, w ∈ lw_tbl := by decide +kernel
theorem inX5 : ∀ w ∈ wsX50, w ∈ lw_tbl := by decide +kernel
theorem inX6 : ∀ w ∈ wsX60, w ∈ lw_tbl := by decide +kernel
theorem inX7 : ∀ w ∈ wsX70, w ∈ lw_tbl := by decide +kernel
theorem inX8 : ∀ w ∈ wsX80, w ∈ lw_tbl := by decide +kernel
